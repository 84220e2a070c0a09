theorem a_X10_takesWithout_0 : At m_X10_takesWithout 0 (.aload_n 0) 1 1 := at_i (by decide +kernel) rfl
theorem a_X10_takesWithout_1 : At m_X10_takesWithout 1 (.getfield 9) 3 4 := at_i (by decide +kernel) rfl
theorem a_X10_takesWithout_4 : At m_X10_takesWithout 4 (.bipush 6) 2 6 := at_i (by decide +kernel) rfl
theorem a_X10_takesWithout_6 : At m_X10_takesWithout 6 (.iaload) 1 7 := at_i (by decide +kernel) rfl
theorem a_X10_takesWithout_7 : At m_X10_takesWithout 7 (.istore_n 2) 1 8 := at_i (by decide +kernel) rfl
theorem a_X10_takesWithout_8 : At m_X10_takesWithout 8 (.aload_n 0) 1 9 := at_i (by decide +kernel) rfl
theorem a_X10_takesWithout_9 : At m_X10_takesWithout 9 (.getfield 9) 3 12 := at_i (by decide +kernel) rfl
theorem a_X10_takesWithout_12 : At m_X10_takesWithout 12 (.bipush 7) 2 14 := at_i (by decide +kernel) rfl
theorem a_X10_takesWithout_14 : At m_X10_takesWithout 14 (.iaload) 1 15 := at_i (by decide +kernel) rfl
theorem a_X10_takesWithout_15 : At m_X10_takesWithout 15 (.istore_n 3) 1 16 := at_i (by decide +kernel) rfl
theorem a_X10_takesWithout_16 : At m_X10_takesWithout 16 (.iconst 0) 1 17 := at_i (by decide +kernel) rfl
theorem a_X10_takesWithout_17 : At m_X10_takesWithout 17 (.istore 4) 2 19 := at_i (by decide +kernel) rfl
theorem a_X10_takesWithout_19 : At m_X10_takesWithout 19 (.aload_n 0) 1 20 := at_i (by decide +kernel) rfl
theorem a_X10_takesWithout_20 : At m_X10_takesWithout 20 (.iconst 0) 1 21 := at_i (by decide +kernel) rfl
theorem a_X10_takesWithout_21 : At m_X10_takesWithout 21 (.putfield 195) 3 24 := at_i (by decide +kernel) rfl
theorem a_X10_takesWithout_24 : At m_X10_takesWithout 24 (.aload_n 0) 1 25 := at_i (by decide +kernel) rfl
theorem a_X10_takesWithout_25 : At m_X10_takesWithout 25 (.getfield 9) 3 28 := at_i (by decide +kernel) rfl
theorem a_X10_takesWithout_28 : At m_X10_takesWithout 28 (.iconst 0) 1 29 := at_i (by decide +kernel) rfl
theorem a_X10_takesWithout_29 : At m_X10_takesWithout 29 (.iaload) 1 30 := at_i (by decide +kernel) rfl
theorem a_X10_takesWithout_30 : At m_X10_takesWithout 30 (.istore 5) 2 32 := at_i (by decide +kernel) rfl
theorem a_X10_takesWithout_32 : At m_X10_takesWithout 32 (.iload 5) 2 34 := at_i (by decide +kernel) rfl
theorem a_X10_takesWithout_34 : At m_X10_takesWithout 34 (.aload_n 0) 1 35 := at_i (by decide +kernel) rfl
theorem a_X10_takesWithout_35 : At m_X10_takesWithout 35 (.getfield 9) 3 38 := at_i (by decide +kernel) rfl
theorem a_X10_takesWithout_38 : At m_X10_takesWithout 38 (.iconst 4) 1 39 := at_i (by decide +kernel) rfl
theorem a_X10_takesWithout_39 : At m_X10_takesWithout 39 (.iaload) 1 40 := at_i (by decide +kernel) rfl
theorem a_X10_takesWithout_40 : AtJ m_X10_takesWithout 40 (.if_icmp .ge 56) (56) 96 43 := at_j (by decide +kernel) (by decide) rfl
theorem a_X10_takesWithout_43 : At m_X10_takesWithout 43 (.iload_n 1) 1 44 := at_i (by decide +kernel) rfl
theorem a_X10_takesWithout_44 : At m_X10_takesWithout 44 (.iload 5) 2 46 := at_i (by decide +kernel) rfl
theorem a_X10_takesWithout_46 : At m_X10_takesWithout 46 (.invokestatic 185) 3 49 := at_i (by decide +kernel) rfl
theorem a_X10_takesWithout_49 : AtJ m_X10_takesWithout 49 (.ifCond .ne 41) (41) 90 52 := at_j (by decide +kernel) (by decide) rfl
theorem a_X10_takesWithout_52 : At m_X10_takesWithout 52 (.iload 4) 2 54 := at_i (by decide +kernel) rfl
theorem a_X10_takesWithout_54 : At m_X10_takesWithout 54 (.aload_n 0) 1 55 := at_i (by decide +kernel) rfl
theorem a_X10_takesWithout_55 : At m_X10_takesWithout 55 (.iload 5) 2 57 := at_i (by decide +kernel) rfl
theorem a_X10_takesWithout_57 : At m_X10_takesWithout 57 (.invokevirtual 106) 3 60 := at_i (by decide +kernel) rfl
theorem a_X10_takesWithout_60 : At m_X10_takesWithout 60 (.iadd) 1 61 := at_i (by decide +kernel) rfl
theorem a_X10_takesWithout_61 : At m_X10_takesWithout 61 (.istore 4) 2 63 := at_i (by decide +kernel) rfl
theorem a_X10_takesWithout_63 : At m_X10_takesWithout 63 (.aload_n 0) 1 64 := at_i (by decide +kernel) rfl
theorem a_X10_takesWithout_64 : At m_X10_takesWithout 64 (.dup) 1 65 := at_i (by decide +kernel) rfl
theorem a_X10_takesWithout_65 : At m_X10_takesWithout 65 (.getfield 195) 3 68 := at_i (by decide +kernel) rfl
theorem a_X10_takesWithout_68 : At m_X10_takesWithout 68 (.aload_n 0) 1 69 := at_i (by decide +kernel) rfl
theorem a_X10_takesWithout_69 : At m_X10_takesWithout 69 (.iload 5) 2 71 := at_i (by decide +kernel) rfl
theorem a_X10_takesWithout_71 : At m_X10_takesWithout 71 (.iconst 1) 1 72 := at_i (by decide +kernel) rfl
theorem a_X10_takesWithout_72 : At m_X10_takesWithout 72 (.invokevirtual 95) 3 75 := at_i (by decide +kernel) rfl
theorem a_X10_takesWithout_75 : At m_X10_takesWithout 75 (.iadd) 1 76 := at_i (by decide +kernel) rfl
theorem a_X10_takesWithout_76 : At m_X10_takesWithout 76 (.putfield 195) 3 79 := at_i (by decide +kernel) rfl
theorem a_X10_takesWithout_79 : At m_X10_takesWithout 79 (.aload_n 0) 1 80 := at_i (by decide +kernel) rfl
theorem a_X10_takesWithout_80 : At m_X10_takesWithout 80 (.getfield 9) 3 83 := at_i (by decide +kernel) rfl
theorem a_X10_takesWithout_83 : At m_X10_takesWithout 83 (.bipush 6) 2 85 := at_i (by decide +kernel) rfl
theorem a_X10_takesWithout_85 : At m_X10_takesWithout 85 (.aload_n 0) 1 86 := at_i (by decide +kernel) rfl
theorem a_X10_takesWithout_86 : At m_X10_takesWithout 86 (.invokevirtual 134) 3 89 := at_i (by decide +kernel) rfl
theorem a_X10_takesWithout_89 : At m_X10_takesWithout 89 (.iastore) 1 90 := at_i (by decide +kernel) rfl
theorem a_X10_takesWithout_90 : At m_X10_takesWithout 90 (.iinc 5 1) 3 93 := at_i (by decide +kernel) rfl
theorem a_X10_takesWithout_93 : AtJ m_X10_takesWithout 93 (.goto (-61)) (-61) 32 96 := at_j (by decide +kernel) (by decide) rfl
theorem a_X10_takesWithout_96 : At m_X10_takesWithout 96 (.aload_n 0) 1 97 := at_i (by decide +kernel) rfl
theorem a_X10_takesWithout_97 : At m_X10_takesWithout 97 (.getfield 9) 3 100 := at_i (by decide +kernel) rfl
theorem a_X10_takesWithout_100 : At m_X10_takesWithout 100 (.bipush 6) 2 102 := at_i (by decide +kernel) rfl
theorem a_X10_takesWithout_102 : At m_X10_takesWithout 102 (.iload_n 2) 1 103 := at_i (by decide +kernel) rfl
theorem a_X10_takesWithout_103 : At m_X10_takesWithout 103 (.iastore) 1 104 := at_i (by decide +kernel) rfl
theorem a_X10_takesWithout_104 : At m_X10_takesWithout 104 (.aload_n 0) 1 105 := at_i (by decide +kernel) rfl
theorem a_X10_takesWithout_105 : At m_X10_takesWithout 105 (.getfield 9) 3 108 := at_i (by decide +kernel) rfl
theorem a_X10_takesWithout_108 : At m_X10_takesWithout 108 (.bipush 7) 2 110 := at_i (by decide +kernel) rfl
theorem a_X10_takesWithout_110 : At m_X10_takesWithout 110 (.iload_n 3) 1 111 := at_i (by decide +kernel) rfl
theorem a_X10_takesWithout_111 : At m_X10_takesWithout 111 (.iastore) 1 112 := at_i (by decide +kernel) rfl
theorem a_X10_takesWithout_112 : At m_X10_takesWithout 112 (.iload 4) 2 114 := at_i (by decide +kernel) rfl
theorem a_X10_takesWithout_114 : At m_X10_takesWithout 114 (.ireturn) 1 115 := at_i (by decide +kernel) rfl
def f_X10_takesWithout_b32 (a1 : Int32) (v_1 : Int32) (v_2 : Int32) (Q : Int32 → Mem → Prop)  (K32 : Int32 → Int32 → Mem → Prop) (v4 : Int32) (v5 : Int32) (h : Mem) : Prop :=
  if h 44 4 ≤ v5 then (
    ∀ h_6 : Mem, h_6 = gm_st h 44 6 v_1 →
    ∀ h_7 : Mem, h_7 = gm_st h_6 44 7 v_2 →
    Q v4 h_7)
  else (
    f_X10_has a1 v5 h fun r_9 h_8 =>
    if r_9 = 0 then (
      f_X10_takes v5 h_8 fun r_13 h_12 =>
      ∀ v_14 : Int32, v_14 = v4 + r_13 →
      f_X10_lineIs v5 (1 : Int32) h_12 fun r_16 h_15 =>
      ∀ h_17 : Mem, h_17 = gm_st h_15 43 8 ((h_12 43 8) + r_16) →
      f_X10_turns  h_17 fun r_19 h_18 =>
      ∀ h_20 : Mem, h_20 = gm_st h_18 44 6 r_19 →
      ∀ v_21 : Int32, v_21 = v5 + (1 : Int32) →
      K32 v_14 v_21 h_20)
    else (
      ∀ v_11 : Int32, v_11 = v5 + (1 : Int32) →
      K32 v4 v_11 h_8))
set_option maxRecDepth 20000 in
theorem t_X10_takesWithout_b32 (a1 : Int32) (v_1 : Int32) (v_2 : Int32)   (Q : Int32 → Mem → Prop)   : ∀ (n : Nat) (v4 : Int32) (v5 : Int32) (h : Mem), gm_it2 (f_X10_takesWithout_b32 a1 v_1 v_2 Q ) n v4 v5 h → EV m_X10_takesWithout (GI Q) 32 [(0, .ref 43), (1, .int a1), (2, .int v_1), (3, .int v_2), (4, .int v4), (5, .int v5)] [] h := by
  refine ge_loop2 (P := fun v4 v5 h => EV m_X10_takesWithout (GI Q) 32 [(0, .ref 43), (1, .int a1), (2, .int v_1), (3, .int v_2), (4, .int v4), (5, .int v5)] [] h) (fun K32 hK32 v4 v5 h hyp => ?_)
  unfold f_X10_takesWithout_b32 at hyp
  refine ge_iload a_X10_takesWithout_32 5 rfl ?_
  refine ge_aload_n a_X10_takesWithout_34 rfl 0 rfl ?_
  refine ge_getR (q := 44) a_X10_takesWithout_35 fd_X10_9 (rfl : gm_cls 43 = 9) rfl ?_
  refine ge_iconst (v := 4) a_X10_takesWithout_38 rfl ?_
  refine ge_iald (j := 4) a_X10_takesWithout_39 ga_44 li_4_62.1 li_4_62.2 ?_
  refine ge_icmp_ge a_X10_takesWithout_40 (fun c_5 => ?_) (fun c_5 => ?_)
  · have hyp := gm_ip hyp c_5
    refine ge_aload_n a_X10_takesWithout_96 rfl 0 rfl ?_
    refine ge_getR (q := 44) a_X10_takesWithout_97 fd_X10_9 (rfl : gm_cls 43 = 9) rfl ?_
    refine ge_bipush (v := 6) a_X10_takesWithout_100 rfl ?_
    refine ge_iload_n a_X10_takesWithout_102 rfl 2 rfl ?_
    refine ge_iast (j := 6) a_X10_takesWithout_103 ga_44 li_6_62.1 li_6_62.2 ?_
    refine ge_nm (fun h_6 eh_6 => ?_)
    have hyp := hyp h_6 eh_6
    refine ge_aload_n a_X10_takesWithout_104 rfl 0 rfl ?_
    refine ge_getR (q := 44) a_X10_takesWithout_105 fd_X10_9 (rfl : gm_cls 43 = 9) rfl ?_
    refine ge_bipush (v := 7) a_X10_takesWithout_108 rfl ?_
    refine ge_iload_n a_X10_takesWithout_110 rfl 3 rfl ?_
    refine ge_iast (j := 7) a_X10_takesWithout_111 ga_44 li_7_62.1 li_7_62.2 ?_
    refine ge_nm (fun h_7 eh_7 => ?_)
    have hyp := hyp h_7 eh_7
    refine ge_iload a_X10_takesWithout_112 4 rfl ?_
    exact ge_iret rfl a_X10_takesWithout_114 hyp
  · have hyp := gm_in hyp c_5
    refine ge_iload_n a_X10_takesWithout_43 rfl 1 rfl ?_
    refine ge_iload a_X10_takesWithout_44 5 rfl ?_
    refine ge_cSI [.int a1, .int v5] (rest := []) a_X10_takesWithout_46 ok_X10_has lk_X10_185 ⟨Nat.le_of_ble_eq_true rfl, Nat.le_of_ble_eq_true rfl⟩ rfl rfl (Nat.le_of_ble_eq_true rfl) (t_X10_has a1 v5  h _ hyp) (fun r_9 h_8 hyp => ?_)
    refine ge_if_ne a_X10_takesWithout_49 (fun c_10 => ?_) (fun c_10 => ?_)
    · have hyp := gm_in hyp c_10
      obtain ⟨v_11, ev_11⟩ : ∃ y : Int32, y = v5 + (1 : Int32) := ⟨_, rfl⟩
      have hyp := hyp v_11 ev_11
      refine ge_iinc (v := v_11) (lv' := [(5, .int v_11), (0, .ref 43), (1, .int a1), (2, .int v_1), (3, .int v_2), (4, .int v4)]) a_X10_takesWithout_90 5 rfl ev_11.symm (Nat.le_of_ble_eq_true rfl) rfl ?_
      refine ge_goto a_X10_takesWithout_93 ?_
      exact ge_sub [1, 2, 3, 4, 5, 0] rfl (hK32 v4 v_11 h_8 hyp)
    · have hyp := gm_ip hyp c_10
      refine ge_iload a_X10_takesWithout_52 4 rfl ?_
      refine ge_aload_n a_X10_takesWithout_54 rfl 0 rfl ?_
      refine ge_iload a_X10_takesWithout_55 5 rfl ?_
      refine ge_cVI [.int v5] (rest := [.int v4]) a_X10_takesWithout_57 ok_X10_takes lk_X10_106 ⟨Nat.le_of_ble_eq_true rfl, Nat.le_of_ble_eq_true rfl⟩ (rfl : gm_cls 43 = 9) vc_9 (by decide) rfl rfl (Nat.le_of_ble_eq_true rfl) (t_X10_takes v5  h_8 _ hyp) (fun r_13 h_12 hyp => ?_)
      refine ge_iadd a_X10_takesWithout_60 ?_
      refine ge_topi (fun v_14 ev_14 => ?_)
      have hyp := hyp v_14 ev_14
      refine ge_istore (lv' := [(4, .int v_14), (0, .ref 43), (1, .int a1), (2, .int v_1), (3, .int v_2), (5, .int v5)]) a_X10_takesWithout_61 (Nat.le_of_ble_eq_true rfl) rfl ?_
      refine ge_aload_n a_X10_takesWithout_63 rfl 1 rfl ?_
      refine ge_dup a_X10_takesWithout_64 rfl ?_
      refine ge_getI a_X10_takesWithout_65 fd_X10_195 (rfl : gm_cls 43 = 9) ?_
      refine ge_aload_n a_X10_takesWithout_68 rfl 1 rfl ?_
      refine ge_iload a_X10_takesWithout_69 5 rfl ?_
      refine ge_iconst (v := 1) a_X10_takesWithout_71 rfl ?_
      refine ge_cVI [.int v5, .int (1 : Int32)] (rest := [.int (h_12 43 8), .ref 43]) a_X10_takesWithout_72 ok_X10_lineIs lk_X10_95 ⟨Nat.le_of_ble_eq_true rfl, Nat.le_of_ble_eq_true rfl⟩ (rfl : gm_cls 43 = 9) vc_9 (by decide) rfl rfl (Nat.le_of_ble_eq_true rfl) (t_X10_lineIs v5 (1 : Int32)  h_12 _ hyp) (fun r_16 h_15 hyp => ?_)
      refine ge_iadd a_X10_takesWithout_75 ?_
      refine ge_putI a_X10_takesWithout_76 pd_X10_195 (rfl : gm_cls 43 = 9) ?_
      refine ge_nm (fun h_17 eh_17 => ?_)
      have hyp := hyp h_17 eh_17
      refine ge_aload_n a_X10_takesWithout_79 rfl 1 rfl ?_
      refine ge_getR (q := 44) a_X10_takesWithout_80 fd_X10_9 (rfl : gm_cls 43 = 9) rfl ?_
      refine ge_bipush (v := 6) a_X10_takesWithout_83 rfl ?_
      refine ge_aload_n a_X10_takesWithout_85 rfl 1 rfl ?_
      refine ge_cVI [] (rest := [.int (6 : Int32), .ref 44]) a_X10_takesWithout_86 ok_X10_turns lk_X10_134 ⟨Nat.le_of_ble_eq_true rfl, Nat.le_of_ble_eq_true rfl⟩ (rfl : gm_cls 43 = 9) vc_9 (by decide) rfl rfl (Nat.le_of_ble_eq_true rfl) (t_X10_turns   h_17 _ hyp) (fun r_19 h_18 hyp => ?_)
      refine ge_iast (j := 6) a_X10_takesWithout_89 ga_44 li_6_62.1 li_6_62.2 ?_
      refine ge_nm (fun h_20 eh_20 => ?_)
      have hyp := hyp h_20 eh_20
      obtain ⟨v_21, ev_21⟩ : ∃ y : Int32, y = v5 + (1 : Int32) := ⟨_, rfl⟩
      have hyp := hyp v_21 ev_21
      refine ge_iinc (v := v_21) (lv' := [(5, .int v_21), (4, .int v_14), (0, .ref 43), (1, .int a1), (2, .int v_1), (3, .int v_2)]) a_X10_takesWithout_90 5 rfl ev_21.symm (Nat.le_of_ble_eq_true rfl) rfl ?_
      refine ge_goto a_X10_takesWithout_93 ?_
      exact ge_sub [2, 3, 4, 5, 1, 0] rfl (hK32 v_14 v_21 h_20 hyp)
def f_X10_takesWithout (a1 : Int32) (h : Mem) (Q : Int32 → Mem → Prop) : Prop :=
  ∀ v_1 : Int32, v_1 = h 44 6 →
  ∀ v_2 : Int32, v_2 = h 44 7 →
  ∀ h_3 : Mem, h_3 = gm_st h 43 8 (0 : Int32) →
  ∀ v_4 : Int32, v_4 = h_3 44 0 →
  gm_it2 (f_X10_takesWithout_b32 a1 v_1 v_2 Q ) gm_F (0 : Int32) v_4 h_3
set_option maxRecDepth 20000 in
theorem t_X10_takesWithout (a1 : Int32)  (h : Mem) (Q : Int32 → Mem → Prop) (hyp : f_X10_takesWithout a1 h Q) : Cn m_X10_takesWithout [.ref 43, .int a1] h (GI Q) := by
  refine ge_entry (lv := [(0, .ref 43), (1, .int a1)]) pn_X10 (Nat.le_of_ble_eq_true rfl) rfl ?_
  unfold f_X10_takesWithout at hyp
  refine ge_aload_n a_X10_takesWithout_0 rfl 0 rfl ?_
  refine ge_getR (q := 44) a_X10_takesWithout_1 fd_X10_9 (rfl : gm_cls 43 = 9) rfl ?_
  refine ge_bipush (v := 6) a_X10_takesWithout_4 rfl ?_
  refine ge_iald (j := 6) a_X10_takesWithout_6 ga_44 li_6_62.1 li_6_62.2 ?_
  refine ge_topi (fun v_1 ev_1 => ?_)
  have hyp := hyp v_1 ev_1
  refine ge_istore_n (lv' := [(2, .int v_1), (0, .ref 43), (1, .int a1)]) a_X10_takesWithout_7 rfl (Nat.le_of_ble_eq_true rfl) rfl ?_
  refine ge_aload_n a_X10_takesWithout_8 rfl 1 rfl ?_
  refine ge_getR (q := 44) a_X10_takesWithout_9 fd_X10_9 (rfl : gm_cls 43 = 9) rfl ?_
  refine ge_bipush (v := 7) a_X10_takesWithout_12 rfl ?_
  refine ge_iald (j := 7) a_X10_takesWithout_14 ga_44 li_7_62.1 li_7_62.2 ?_
  refine ge_topi (fun v_2 ev_2 => ?_)
  have hyp := hyp v_2 ev_2
  refine ge_istore_n (lv' := [(3, .int v_2), (2, .int v_1), (0, .ref 43), (1, .int a1)]) a_X10_takesWithout_15 rfl (Nat.le_of_ble_eq_true rfl) rfl ?_
  refine ge_iconst (v := 0) a_X10_takesWithout_16 rfl ?_
  refine ge_istore (lv' := [(4, .int (0 : Int32)), (3, .int v_2), (2, .int v_1), (0, .ref 43), (1, .int a1)]) a_X10_takesWithout_17 (Nat.le_of_ble_eq_true rfl) rfl ?_
  refine ge_aload_n a_X10_takesWithout_19 rfl 3 rfl ?_
  refine ge_iconst (v := 0) a_X10_takesWithout_20 rfl ?_
  refine ge_putI a_X10_takesWithout_21 pd_X10_195 (rfl : gm_cls 43 = 9) ?_
  refine ge_nm (fun h_3 eh_3 => ?_)
  have hyp := hyp h_3 eh_3
  refine ge_aload_n a_X10_takesWithout_24 rfl 3 rfl ?_
  refine ge_getR (q := 44) a_X10_takesWithout_25 fd_X10_9 (rfl : gm_cls 43 = 9) rfl ?_
  refine ge_iconst (v := 0) a_X10_takesWithout_28 rfl ?_
  refine ge_iald (j := 0) a_X10_takesWithout_29 ga_44 li_0_62.1 li_0_62.2 ?_
  refine ge_topi (fun v_4 ev_4 => ?_)
  have hyp := hyp v_4 ev_4
  refine ge_istore (lv' := [(5, .int v_4), (4, .int (0 : Int32)), (3, .int v_2), (2, .int v_1), (0, .ref 43), (1, .int a1)]) a_X10_takesWithout_30 (Nat.le_of_ble_eq_true rfl) rfl ?_
  exact ge_sub [4, 5, 3, 2, 1, 0] rfl (t_X10_takesWithout_b32 a1 v_1 v_2   Q   gm_F (0 : Int32) v_4 h_3 hyp)

theorem a_X10_findFit_0 : At m_X10_findFit 0 (.iconst (-1)) 1 1 := at_i (by decide +kernel) rfl
theorem a_X10_findFit_1 : At m_X10_findFit 1 (.istore_n 1) 1 2 := at_i (by decide +kernel) rfl
theorem a_X10_findFit_2 : At m_X10_findFit 2 (.aload_n 0) 1 3 := at_i (by decide +kernel) rfl
theorem a_X10_findFit_3 : At m_X10_findFit 3 (.iconst (-1)) 1 4 := at_i (by decide +kernel) rfl
theorem a_X10_findFit_4 : At m_X10_findFit 4 (.putfield 198) 3 7 := at_i (by decide +kernel) rfl
theorem a_X10_findFit_7 : At m_X10_findFit 7 (.iconst 0) 1 8 := at_i (by decide +kernel) rfl
theorem a_X10_findFit_8 : At m_X10_findFit 8 (.istore_n 2) 1 9 := at_i (by decide +kernel) rfl
theorem a_X10_findFit_9 : At m_X10_findFit 9 (.iload_n 2) 1 10 := at_i (by decide +kernel) rfl
theorem a_X10_findFit_10 : At m_X10_findFit 10 (.iconst 1) 1 11 := at_i (by decide +kernel) rfl
theorem a_X10_findFit_11 : At m_X10_findFit 11 (.aload_n 0) 1 12 := at_i (by decide +kernel) rfl
theorem a_X10_findFit_12 : At m_X10_findFit 12 (.getfield 9) 3 15 := at_i (by decide +kernel) rfl
theorem a_X10_findFit_15 : At m_X10_findFit 15 (.iconst 4) 1 16 := at_i (by decide +kernel) rfl
theorem a_X10_findFit_16 : At m_X10_findFit 16 (.iaload) 1 17 := at_i (by decide +kernel) rfl
theorem a_X10_findFit_17 : At m_X10_findFit 17 (.ishl) 1 18 := at_i (by decide +kernel) rfl
theorem a_X10_findFit_18 : AtJ m_X10_findFit 18 (.if_icmp .ge 85) (85) 103 21 := at_j (by decide +kernel) (by decide) rfl
theorem a_X10_findFit_21 : At m_X10_findFit 21 (.aload_n 0) 1 22 := at_i (by decide +kernel) rfl
theorem a_X10_findFit_22 : At m_X10_findFit 22 (.iload_n 2) 1 23 := at_i (by decide +kernel) rfl
theorem a_X10_findFit_23 : At m_X10_findFit 23 (.invokevirtual 201) 3 26 := at_i (by decide +kernel) rfl
theorem a_X10_findFit_26 : At m_X10_findFit 26 (.aload_n 0) 1 27 := at_i (by decide +kernel) rfl
theorem a_X10_findFit_27 : At m_X10_findFit 27 (.getfield 9) 3 30 := at_i (by decide +kernel) rfl
theorem a_X10_findFit_30 : At m_X10_findFit 30 (.bipush 15) 2 32 := at_i (by decide +kernel) rfl
theorem a_X10_findFit_32 : At m_X10_findFit 32 (.iaload) 1 33 := at_i (by decide +kernel) rfl
theorem a_X10_findFit_33 : AtJ m_X10_findFit 33 (.if_icmp .gt 7) (7) 40 36 := at_j (by decide +kernel) (by decide) rfl
theorem a_X10_findFit_36 : At m_X10_findFit 36 (.iconst 1) 1 37 := at_i (by decide +kernel) rfl
theorem a_X10_findFit_37 : AtJ m_X10_findFit 37 (.goto 4) (4) 41 40 := at_j (by decide +kernel) (by decide) rfl
theorem a_X10_findFit_40 : At m_X10_findFit 40 (.iconst 0) 1 41 := at_i (by decide +kernel) rfl
theorem a_X10_findFit_41 : At m_X10_findFit 41 (.istore_n 3) 1 42 := at_i (by decide +kernel) rfl
theorem a_X10_findFit_42 : At m_X10_findFit 42 (.iload_n 3) 1 43 := at_i (by decide +kernel) rfl
theorem a_X10_findFit_43 : AtJ m_X10_findFit 43 (.ifCond .eq 18) (18) 61 46 := at_j (by decide +kernel) (by decide) rfl
theorem a_X10_findFit_46 : At m_X10_findFit 46 (.aload_n 0) 1 47 := at_i (by decide +kernel) rfl
theorem a_X10_findFit_47 : At m_X10_findFit 47 (.getfield 195) 3 50 := at_i (by decide +kernel) rfl
theorem a_X10_findFit_50 : At m_X10_findFit 50 (.aload_n 0) 1 51 := at_i (by decide +kernel) rfl
theorem a_X10_findFit_51 : At m_X10_findFit 51 (.getfield 198) 3 54 := at_i (by decide +kernel) rfl
theorem a_X10_findFit_54 : AtJ m_X10_findFit 54 (.if_icmp .le 7) (7) 61 57 := at_j (by decide +kernel) (by decide) rfl
theorem a_X10_findFit_57 : At m_X10_findFit 57 (.iload_n 2) 1 58 := at_i (by decide +kernel) rfl
theorem a_X10_findFit_58 : AtJ m_X10_findFit 58 (.goto 4) (4) 62 61 := at_j (by decide +kernel) (by decide) rfl
theorem a_X10_findFit_61 : At m_X10_findFit 61 (.iload_n 1) 1 62 := at_i (by decide +kernel) rfl
theorem a_X10_findFit_62 : At m_X10_findFit 62 (.istore_n 1) 1 63 := at_i (by decide +kernel) rfl
theorem a_X10_findFit_63 : At m_X10_findFit 63 (.aload_n 0) 1 64 := at_i (by decide +kernel) rfl
theorem a_X10_findFit_64 : At m_X10_findFit 64 (.iload_n 3) 1 65 := at_i (by decide +kernel) rfl
theorem a_X10_findFit_65 : AtJ m_X10_findFit 65 (.ifCond .eq 17) (17) 82 68 := at_j (by decide +kernel) (by decide) rfl
theorem a_X10_findFit_68 : At m_X10_findFit 68 (.aload_n 0) 1 69 := at_i (by decide +kernel) rfl
theorem a_X10_findFit_69 : At m_X10_findFit 69 (.getfield 198) 3 72 := at_i (by decide +kernel) rfl
theorem a_X10_findFit_72 : At m_X10_findFit 72 (.aload_n 0) 1 73 := at_i (by decide +kernel) rfl
theorem a_X10_findFit_73 : At m_X10_findFit 73 (.getfield 195) 3 76 := at_i (by decide +kernel) rfl
theorem a_X10_findFit_76 : At m_X10_findFit 76 (.invokestatic 98) 3 79 := at_i (by decide +kernel) rfl
theorem a_X10_findFit_79 : AtJ m_X10_findFit 79 (.goto 7) (7) 86 82 := at_j (by decide +kernel) (by decide) rfl
theorem a_X10_findFit_82 : At m_X10_findFit 82 (.aload_n 0) 1 83 := at_i (by decide +kernel) rfl
theorem a_X10_findFit_83 : At m_X10_findFit 83 (.getfield 198) 3 86 := at_i (by decide +kernel) rfl
theorem a_X10_findFit_86 : At m_X10_findFit 86 (.putfield 198) 3 89 := at_i (by decide +kernel) rfl
theorem a_X10_findFit_89 : At m_X10_findFit 89 (.iload_n 2) 1 90 := at_i (by decide +kernel) rfl
theorem a_X10_findFit_90 : At m_X10_findFit 90 (.iconst 1) 1 91 := at_i (by decide +kernel) rfl
theorem a_X10_findFit_91 : At m_X10_findFit 91 (.aload_n 0) 1 92 := at_i (by decide +kernel) rfl
theorem a_X10_findFit_92 : At m_X10_findFit 92 (.getfield 9) 3 95 := at_i (by decide +kernel) rfl
theorem a_X10_findFit_95 : At m_X10_findFit 95 (.iconst 0) 1 96 := at_i (by decide +kernel) rfl
theorem a_X10_findFit_96 : At m_X10_findFit 96 (.iaload) 1 97 := at_i (by decide +kernel) rfl
theorem a_X10_findFit_97 : At m_X10_findFit 97 (.ishl) 1 98 := at_i (by decide +kernel) rfl
theorem a_X10_findFit_98 : At m_X10_findFit 98 (.iadd) 1 99 := at_i (by decide +kernel) rfl
theorem a_X10_findFit_99 : At m_X10_findFit 99 (.istore_n 2) 1 100 := at_i (by decide +kernel) rfl
theorem a_X10_findFit_100 : AtJ m_X10_findFit 100 (.goto (-91)) (-91) 9 103 := at_j (by decide +kernel) (by decide) rfl
theorem a_X10_findFit_103 : At m_X10_findFit 103 (.iload_n 1) 1 104 := at_i (by decide +kernel) rfl
theorem a_X10_findFit_104 : At m_X10_findFit 104 (.ireturn) 1 105 := at_i (by decide +kernel) rfl
def f_X10_findFit_b86   (Q : Int32 → Mem → Prop) (K9 : Int32 → Int32 → Mem → Prop) (v1 : Int32) (v2 : Int32) (s0 : Int32) (h : Mem) : Prop :=
  ∀ h_8 : Mem, h_8 = gm_st h 43 9 s0 →
  ∀ v_9 : Int32, v_9 = v2 + ((1 : Int32) <<< ((h_8 44 0) &&& 31)) →
  K9 v1 v_9 h_8
set_option maxRecDepth 20000 in
theorem t_X10_findFit_b86     (Q : Int32 → Mem → Prop) (K9 : Int32 → Int32 → Mem → Prop) (hK9 : ∀ (v1 : Int32) (v2 : Int32) h, K9 v1 v2 h → EV m_X10_findFit (GI Q) 9 [(0, .ref 43), (1, .int v1), (2, .int v2)] [] h) (v1 : Int32) (v2 : Int32) (s0 : Int32) (h : Mem) (hyp : f_X10_findFit_b86   Q K9 v1 v2 s0 h) : EV m_X10_findFit (GI Q) 86 [(0, .ref 43), (1, .int v1), (2, .int v2)] [.int s0, .ref 43] h := by
  unfold f_X10_findFit_b86 at hyp
  refine ge_putI a_X10_findFit_86 pd_X10_198 (rfl : gm_cls 43 = 9) ?_
  refine ge_nm (fun h_8 eh_8 => ?_)
  have hyp := hyp h_8 eh_8
  refine ge_iload_n a_X10_findFit_89 rfl 2 rfl ?_
  refine ge_iconst (v := 1) a_X10_findFit_90 rfl ?_
  refine ge_aload_n a_X10_findFit_91 rfl 0 rfl ?_
  refine ge_getR (q := 44) a_X10_findFit_92 fd_X10_9 (rfl : gm_cls 43 = 9) rfl ?_
  refine ge_iconst (v := 0) a_X10_findFit_95 rfl ?_
  refine ge_iald (j := 0) a_X10_findFit_96 ga_44 li_0_62.1 li_0_62.2 ?_
  refine ge_ishl a_X10_findFit_97 ?_
  refine ge_iadd a_X10_findFit_98 ?_
  refine ge_topi (fun v_9 ev_9 => ?_)
  have hyp := hyp v_9 ev_9
  refine ge_istore_n (lv' := [(2, .int v_9), (0, .ref 43), (1, .int v1)]) a_X10_findFit_99 rfl (Nat.le_of_ble_eq_true rfl) rfl ?_
  refine ge_goto a_X10_findFit_100 ?_
  exact ge_sub [1, 2, 0] rfl (hK9 v1 v_9 h_8 hyp)
def f_X10_findFit_b62   (Q : Int32 → Mem → Prop) (K9 : Int32 → Int32 → Mem → Prop) (v2 : Int32) (v3 : Int32) (s0 : Int32) (h : Mem) : Prop :=
  if v3 = 0 then (
    f_X10_findFit_b86   Q K9 s0 v2 (h 43 9) h)
  else (
    ∀ v_10 : Int32, v_10 = (if h 43 9 < h 43 8 then h 43 8 else h 43 9) →
    f_X10_findFit_b86   Q K9 s0 v2 v_10 h)
set_option maxRecDepth 20000 in
theorem t_X10_findFit_b62     (Q : Int32 → Mem → Prop) (K9 : Int32 → Int32 → Mem → Prop) (hK9 : ∀ (v1 : Int32) (v2 : Int32) h, K9 v1 v2 h → EV m_X10_findFit (GI Q) 9 [(0, .ref 43), (1, .int v1), (2, .int v2)] [] h) (v2 : Int32) (v3 : Int32) (s0 : Int32) (h : Mem) (hyp : f_X10_findFit_b62   Q K9 v2 v3 s0 h) : EV m_X10_findFit (GI Q) 62 [(0, .ref 43), (2, .int v2), (3, .int v3)] [.int s0] h := by
  unfold f_X10_findFit_b62 at hyp
  refine ge_istore_n (lv' := [(1, .int s0), (0, .ref 43), (2, .int v2), (3, .int v3)]) a_X10_findFit_62 rfl (Nat.le_of_ble_eq_true rfl) rfl ?_
  refine ge_aload_n a_X10_findFit_63 rfl 1 rfl ?_
  refine ge_iload_n a_X10_findFit_64 rfl 3 rfl ?_
  refine ge_if_eq a_X10_findFit_65 (fun c_7 => ?_) (fun c_7 => ?_)
  · have hyp := gm_ip hyp c_7
    refine ge_aload_n a_X10_findFit_82 rfl 1 rfl ?_
    refine ge_getI a_X10_findFit_83 fd_X10_198 (rfl : gm_cls 43 = 9) ?_
    exact ge_sub [1, 0, 2] rfl (t_X10_findFit_b86     Q K9 hK9 s0 v2 (h 43 9) h hyp)
  · have hyp := gm_in hyp c_7
    refine ge_aload_n a_X10_findFit_68 rfl 1 rfl ?_
    refine ge_getI a_X10_findFit_69 fd_X10_198 (rfl : gm_cls 43 = 9) ?_
    refine ge_aload_n a_X10_findFit_72 rfl 1 rfl ?_
    refine ge_getI a_X10_findFit_73 fd_X10_195 (rfl : gm_cls 43 = 9) ?_
    refine ge_mmax (rest := [.ref 43]) a_X10_findFit_76 lk_X10_98 (Nat.le_of_ble_eq_true rfl) (Nat.le_of_ble_eq_true rfl) ?_
    refine ge_topi (fun v_10 ev_10 => ?_)
    have hyp := hyp v_10 ev_10
    refine ge_goto a_X10_findFit_79 ?_
    exact ge_sub [1, 0, 2] rfl (t_X10_findFit_b86     Q K9 hK9 s0 v2 v_10 h hyp)
def f_X10_findFit_b61   (Q : Int32 → Mem → Prop) (K9 : Int32 → Int32 → Mem → Prop) (v1 : Int32) (v2 : Int32) (v3 : Int32) (h : Mem) : Prop :=
  f_X10_findFit_b62   Q K9 v2 v3 v1 h
set_option maxRecDepth 20000 in
theorem t_X10_findFit_b61     (Q : Int32 → Mem → Prop) (K9 : Int32 → Int32 → Mem → Prop) (hK9 : ∀ (v1 : Int32) (v2 : Int32) h, K9 v1 v2 h → EV m_X10_findFit (GI Q) 9 [(0, .ref 43), (1, .int v1), (2, .int v2)] [] h) (v1 : Int32) (v2 : Int32) (v3 : Int32) (h : Mem) (hyp : f_X10_findFit_b61   Q K9 v1 v2 v3 h) : EV m_X10_findFit (GI Q) 61 [(0, .ref 43), (1, .int v1), (2, .int v2), (3, .int v3)] [] h := by
  unfold f_X10_findFit_b61 at hyp
  refine ge_iload_n a_X10_findFit_61 rfl 1 rfl ?_
  exact ge_sub [0, 2, 3] rfl (t_X10_findFit_b62     Q K9 hK9 v2 v3 v1 h hyp)
def f_X10_findFit_b41   (Q : Int32 → Mem → Prop) (K9 : Int32 → Int32 → Mem → Prop) (v1 : Int32) (v2 : Int32) (s0 : Int32) (h : Mem) : Prop :=
  if s0 = 0 then (
    f_X10_findFit_b61   Q K9 v1 v2 s0 h)
  else (
    if h 43 8 ≤ h 43 9 then (
      f_X10_findFit_b61   Q K9 v1 v2 s0 h)
    else (
      f_X10_findFit_b62   Q K9 v2 s0 v2 h))
set_option maxRecDepth 20000 in
theorem t_X10_findFit_b41     (Q : Int32 → Mem → Prop) (K9 : Int32 → Int32 → Mem → Prop) (hK9 : ∀ (v1 : Int32) (v2 : Int32) h, K9 v1 v2 h → EV m_X10_findFit (GI Q) 9 [(0, .ref 43), (1, .int v1), (2, .int v2)] [] h) (v1 : Int32) (v2 : Int32) (s0 : Int32) (h : Mem) (hyp : f_X10_findFit_b41   Q K9 v1 v2 s0 h) : EV m_X10_findFit (GI Q) 41 [(0, .ref 43), (1, .int v1), (2, .int v2)] [.int s0] h := by
  unfold f_X10_findFit_b41 at hyp
  refine ge_istore_n (lv' := [(3, .int s0), (0, .ref 43), (1, .int v1), (2, .int v2)]) a_X10_findFit_41 rfl (Nat.le_of_ble_eq_true rfl) rfl ?_
  refine ge_iload_n a_X10_findFit_42 rfl 0 rfl ?_
  refine ge_if_eq a_X10_findFit_43 (fun c_6 => ?_) (fun c_6 => ?_)
  · have hyp := gm_ip hyp c_6
    exact ge_sub [1, 2, 3, 0] rfl (t_X10_findFit_b61     Q K9 hK9 v1 v2 s0 h hyp)
  · have hyp := gm_in hyp c_6
    refine ge_aload_n a_X10_findFit_46 rfl 1 rfl ?_
    refine ge_getI a_X10_findFit_47 fd_X10_195 (rfl : gm_cls 43 = 9) ?_
    refine ge_aload_n a_X10_findFit_50 rfl 1 rfl ?_
    refine ge_getI a_X10_findFit_51 fd_X10_198 (rfl : gm_cls 43 = 9) ?_
    refine ge_icmp_le a_X10_findFit_54 (fun c_11 => ?_) (fun c_11 => ?_)
    · have hyp := gm_ip hyp c_11
      exact ge_sub [1, 2, 3, 0] rfl (t_X10_findFit_b61     Q K9 hK9 v1 v2 s0 h hyp)
    · have hyp := gm_in hyp c_11
      refine ge_iload_n a_X10_findFit_57 rfl 3 rfl ?_
      refine ge_goto a_X10_findFit_58 ?_
      exact ge_sub [1, 3, 0] rfl (t_X10_findFit_b62     Q K9 hK9 v2 s0 v2 h hyp)
def f_X10_findFit_b9   (Q : Int32 → Mem → Prop)  (K9 : Int32 → Int32 → Mem → Prop) (v1 : Int32) (v2 : Int32) (h : Mem) : Prop :=
  if (1 : Int32) <<< ((h 44 4) &&& 31) ≤ v2 then (
    Q v1 h)
  else (
    f_X10_takesWithout v2 h fun r_4 h_3 =>
    if h_3 44 15 < r_4 then (
      f_X10_findFit_b41   Q K9 v1 v2 (0 : Int32) h_3)
    else (
      f_X10_findFit_b41   Q K9 v1 v2 (1 : Int32) h_3))
set_option maxRecDepth 20000 in
theorem t_X10_findFit_b9     (Q : Int32 → Mem → Prop)   : ∀ (n : Nat) (v1 : Int32) (v2 : Int32) (h : Mem), gm_it2 (f_X10_findFit_b9   Q ) n v1 v2 h → EV m_X10_findFit (GI Q) 9 [(0, .ref 43), (1, .int v1), (2, .int v2)] [] h := by
  refine ge_loop2 (P := fun v1 v2 h => EV m_X10_findFit (GI Q) 9 [(0, .ref 43), (1, .int v1), (2, .int v2)] [] h) (fun K9 hK9 v1 v2 h hyp => ?_)
  unfold f_X10_findFit_b9 at hyp
  refine ge_iload_n a_X10_findFit_9 rfl 2 rfl ?_
  refine ge_iconst (v := 1) a_X10_findFit_10 rfl ?_
  refine ge_aload_n a_X10_findFit_11 rfl 0 rfl ?_
  refine ge_getR (q := 44) a_X10_findFit_12 fd_X10_9 (rfl : gm_cls 43 = 9) rfl ?_
  refine ge_iconst (v := 4) a_X10_findFit_15 rfl ?_
  refine ge_iald (j := 4) a_X10_findFit_16 ga_44 li_4_62.1 li_4_62.2 ?_
  refine ge_ishl a_X10_findFit_17 ?_
  refine ge_icmp_ge a_X10_findFit_18 (fun c_2 => ?_) (fun c_2 => ?_)
  · have hyp := gm_ip hyp c_2
    refine ge_iload_n a_X10_findFit_103 rfl 1 rfl ?_
    exact ge_iret rfl a_X10_findFit_104 hyp
  · have hyp := gm_in hyp c_2
    refine ge_aload_n a_X10_findFit_21 rfl 0 rfl ?_
    refine ge_iload_n a_X10_findFit_22 rfl 2 rfl ?_
    refine ge_cVI [.int v2] (rest := []) a_X10_findFit_23 ok_X10_takesWithout lk_X10_201 ⟨Nat.le_of_ble_eq_true rfl, Nat.le_of_ble_eq_true rfl⟩ (rfl : gm_cls 43 = 9) vc_9 (by decide) rfl rfl (Nat.le_of_ble_eq_true rfl) (t_X10_takesWithout v2  h _ hyp) (fun r_4 h_3 hyp => ?_)
    refine ge_aload_n a_X10_findFit_26 rfl 0 rfl ?_
    refine ge_getR (q := 44) a_X10_findFit_27 fd_X10_9 (rfl : gm_cls 43 = 9) rfl ?_
    refine ge_bipush (v := 15) a_X10_findFit_30 rfl ?_
    refine ge_iald (j := 15) a_X10_findFit_32 ga_44 li_15_62.1 li_15_62.2 ?_
    refine ge_icmp_gt a_X10_findFit_33 (fun c_5 => ?_) (fun c_5 => ?_)
    · have hyp := gm_ip hyp c_5
      refine ge_iconst (v := 0) a_X10_findFit_40 rfl ?_
      exact ge_sub [0, 1, 2] rfl (t_X10_findFit_b41     Q K9 hK9 v1 v2 (0 : Int32) h_3 hyp)
    · have hyp := gm_in hyp c_5
      refine ge_iconst (v := 1) a_X10_findFit_36 rfl ?_
      refine ge_goto a_X10_findFit_37 ?_
      exact ge_sub [0, 1, 2] rfl (t_X10_findFit_b41     Q K9 hK9 v1 v2 (1 : Int32) h_3 hyp)
def f_X10_findFit  (h : Mem) (Q : Int32 → Mem → Prop) : Prop :=
  ∀ h_1 : Mem, h_1 = gm_st h 43 9 (-1 : Int32) →
  gm_it2 (f_X10_findFit_b9   Q ) gm_F (-1 : Int32) (0 : Int32) h_1
set_option maxRecDepth 20000 in
theorem t_X10_findFit   (h : Mem) (Q : Int32 → Mem → Prop) (hyp : f_X10_findFit  h Q) : Cn m_X10_findFit [.ref 43] h (GI Q) := by
  refine ge_entry (lv := [(0, .ref 43)]) pn_X10 (Nat.le_of_ble_eq_true rfl) rfl ?_
  unfold f_X10_findFit at hyp
  refine ge_iconst (v := -1) a_X10_findFit_0 rfl ?_
  refine ge_istore_n (lv' := [(1, .int (-1 : Int32)), (0, .ref 43)]) a_X10_findFit_1 rfl (Nat.le_of_ble_eq_true rfl) rfl ?_
  refine ge_aload_n a_X10_findFit_2 rfl 1 rfl ?_
  refine ge_iconst (v := -1) a_X10_findFit_3 rfl ?_
  refine ge_putI a_X10_findFit_4 pd_X10_198 (rfl : gm_cls 43 = 9) ?_
  refine ge_nm (fun h_1 eh_1 => ?_)
  have hyp := hyp h_1 eh_1
  refine ge_iconst (v := 0) a_X10_findFit_7 rfl ?_
  refine ge_istore_n (lv' := [(2, .int (0 : Int32)), (1, .int (-1 : Int32)), (0, .ref 43)]) a_X10_findFit_8 rfl (Nat.le_of_ble_eq_true rfl) rfl ?_
  exact ge_sub [2, 1, 0] rfl (t_X10_findFit_b9     Q   gm_F (-1 : Int32) (0 : Int32) h_1 hyp)

theorem a_X10_fit_0 : At m_X10_fit 0 (.aload_n 0) 1 1 := at_i (by decide +kernel) rfl
theorem a_X10_fit_1 : At m_X10_fit 1 (.invokevirtual 204) 3 4 := at_i (by decide +kernel) rfl
theorem a_X10_fit_4 : At m_X10_fit 4 (.ireturn) 1 5 := at_i (by decide +kernel) rfl
def f_X10_fit  (h : Mem) (Q : Int32 → Mem → Prop) : Prop :=
  f_X10_findFit  h fun r_2 h_1 =>
  Q r_2 h_1
set_option maxRecDepth 20000 in
theorem t_X10_fit   (h : Mem) (Q : Int32 → Mem → Prop) (hyp : f_X10_fit  h Q) : Cn m_X10_fit [.ref 43] h (GI Q) := by
  refine ge_entry (lv := [(0, .ref 43)]) pn_X10 (Nat.le_of_ble_eq_true rfl) rfl ?_
  unfold f_X10_fit at hyp
  refine ge_aload_n a_X10_fit_0 rfl 0 rfl ?_
  refine ge_cVI [] (rest := []) a_X10_fit_1 ok_X10_findFit lk_X10_204 ⟨Nat.le_of_ble_eq_true rfl, Nat.le_of_ble_eq_true rfl⟩ (rfl : gm_cls 43 = 9) vc_9 (by decide) rfl rfl (Nat.le_of_ble_eq_true rfl) (t_X10_findFit   h _ hyp) (fun r_2 h_1 hyp => ?_)
  exact ge_iret rfl a_X10_fit_4 hyp

theorem a_X10_kept_0 : At m_X10_kept 0 (.aload_n 0) 1 1 := at_i (by decide +kernel) rfl
theorem a_X10_kept_1 : At m_X10_kept 1 (.invokevirtual 204) 3 4 := at_i (by decide +kernel) rfl
theorem a_X10_kept_4 : At m_X10_kept 4 (.istore_n 1) 1 5 := at_i (by decide +kernel) rfl
theorem a_X10_kept_5 : At m_X10_kept 5 (.iload_n 1) 1 6 := at_i (by decide +kernel) rfl
theorem a_X10_kept_6 : AtJ m_X10_kept 6 (.ifCond .ge 7) (7) 13 9 := at_j (by decide +kernel) (by decide) rfl
theorem a_X10_kept_9 : At m_X10_kept 9 (.iconst 0) 1 10 := at_i (by decide +kernel) rfl
theorem a_X10_kept_10 : AtJ m_X10_kept 10 (.goto 7) (7) 17 13 := at_j (by decide +kernel) (by decide) rfl
theorem a_X10_kept_13 : At m_X10_kept 13 (.aload_n 0) 1 14 := at_i (by decide +kernel) rfl
theorem a_X10_kept_14 : At m_X10_kept 14 (.getfield 198) 3 17 := at_i (by decide +kernel) rfl
theorem a_X10_kept_17 : At m_X10_kept 17 (.ireturn) 1 18 := at_i (by decide +kernel) rfl
def f_X10_kept  (h : Mem) (Q : Int32 → Mem → Prop) : Prop :=
  f_X10_findFit  h fun r_2 h_1 =>
  if 0 ≤ r_2 then (
    Q (h_1 43 9) h_1)
  else (
    Q (0 : Int32) h_1)
set_option maxRecDepth 20000 in
theorem t_X10_kept   (h : Mem) (Q : Int32 → Mem → Prop) (hyp : f_X10_kept  h Q) : Cn m_X10_kept [.ref 43] h (GI Q) := by
  refine ge_entry (lv := [(0, .ref 43)]) pn_X10 (Nat.le_of_ble_eq_true rfl) rfl ?_
  unfold f_X10_kept at hyp
  refine ge_aload_n a_X10_kept_0 rfl 0 rfl ?_
  refine ge_cVI [] (rest := []) a_X10_kept_1 ok_X10_findFit lk_X10_204 ⟨Nat.le_of_ble_eq_true rfl, Nat.le_of_ble_eq_true rfl⟩ (rfl : gm_cls 43 = 9) vc_9 (by decide) rfl rfl (Nat.le_of_ble_eq_true rfl) (t_X10_findFit   h _ hyp) (fun r_2 h_1 hyp => ?_)
  refine ge_istore_n (lv' := [(1, .int r_2), (0, .ref 43)]) a_X10_kept_4 rfl (Nat.le_of_ble_eq_true rfl) rfl ?_
  refine ge_iload_n a_X10_kept_5 rfl 0 rfl ?_
  refine ge_if_ge a_X10_kept_6 (fun c_3 => ?_) (fun c_3 => ?_)
  · have hyp := gm_ip hyp c_3
    refine ge_aload_n a_X10_kept_13 rfl 1 rfl ?_
    refine ge_getI a_X10_kept_14 fd_X10_198 (rfl : gm_cls 43 = 9) ?_
    exact ge_iret rfl a_X10_kept_17 hyp
  · have hyp := gm_in hyp c_3
    refine ge_iconst (v := 0) a_X10_kept_9 rfl ?_
    refine ge_goto a_X10_kept_10 ?_
    exact ge_iret rfl a_X10_kept_17 hyp

theorem a_X10_jumpFrom_0 : At m_X10_jumpFrom 0 (.iload_n 1) 1 1 := at_i (by decide +kernel) rfl
theorem a_X10_jumpFrom_1 : At m_X10_jumpFrom 1 (.iconst 1) 1 2 := at_i (by decide +kernel) rfl
theorem a_X10_jumpFrom_2 : At m_X10_jumpFrom 2 (.iadd) 1 3 := at_i (by decide +kernel) rfl
theorem a_X10_jumpFrom_3 : At m_X10_jumpFrom 3 (.iload_n 2) 1 4 := at_i (by decide +kernel) rfl
theorem a_X10_jumpFrom_4 : At m_X10_jumpFrom 4 (.iadd) 1 5 := at_i (by decide +kernel) rfl
theorem a_X10_jumpFrom_5 : At m_X10_jumpFrom 5 (.iload_n 3) 1 6 := at_i (by decide +kernel) rfl
theorem a_X10_jumpFrom_6 : AtJ m_X10_jumpFrom 6 (.if_icmp .gt 27) (27) 33 9 := at_j (by decide +kernel) (by decide) rfl
theorem a_X10_jumpFrom_9 : At m_X10_jumpFrom 9 (.bipush 7) 2 11 := at_i (by decide +kernel) rfl
theorem a_X10_jumpFrom_11 : At m_X10_jumpFrom 11 (.iconst 3) 1 12 := at_i (by decide +kernel) rfl
theorem a_X10_jumpFrom_12 : At m_X10_jumpFrom 12 (.iload_n 2) 1 13 := at_i (by decide +kernel) rfl
theorem a_X10_jumpFrom_13 : At m_X10_jumpFrom 13 (.imul) 1 14 := at_i (by decide +kernel) rfl
theorem a_X10_jumpFrom_14 : At m_X10_jumpFrom 14 (.iadd) 1 15 := at_i (by decide +kernel) rfl
theorem a_X10_jumpFrom_15 : At m_X10_jumpFrom 15 (.aload_n 0) 1 16 := at_i (by decide +kernel) rfl
theorem a_X10_jumpFrom_16 : At m_X10_jumpFrom 16 (.getfield 25) 3 19 := at_i (by decide +kernel) rfl
theorem a_X10_jumpFrom_19 : At m_X10_jumpFrom 19 (.iconst 2) 1 20 := at_i (by decide +kernel) rfl
theorem a_X10_jumpFrom_20 : At m_X10_jumpFrom 20 (.iload_n 1) 1 21 := at_i (by decide +kernel) rfl
theorem a_X10_jumpFrom_21 : At m_X10_jumpFrom 21 (.iconst 1) 1 22 := at_i (by decide +kernel) rfl
theorem a_X10_jumpFrom_22 : At m_X10_jumpFrom 22 (.iadd) 1 23 := at_i (by decide +kernel) rfl
theorem a_X10_jumpFrom_23 : At m_X10_jumpFrom 23 (.iload_n 2) 1 24 := at_i (by decide +kernel) rfl
theorem a_X10_jumpFrom_24 : At m_X10_jumpFrom 24 (.iadd) 1 25 := at_i (by decide +kernel) rfl
theorem a_X10_jumpFrom_25 : At m_X10_jumpFrom 25 (.imul) 1 26 := at_i (by decide +kernel) rfl
theorem a_X10_jumpFrom_26 : At m_X10_jumpFrom 26 (.iconst 1) 1 27 := at_i (by decide +kernel) rfl
theorem a_X10_jumpFrom_27 : At m_X10_jumpFrom 27 (.iadd) 1 28 := at_i (by decide +kernel) rfl
theorem a_X10_jumpFrom_28 : At m_X10_jumpFrom 28 (.iaload) 1 29 := at_i (by decide +kernel) rfl
theorem a_X10_jumpFrom_29 : At m_X10_jumpFrom 29 (.iadd) 1 30 := at_i (by decide +kernel) rfl
theorem a_X10_jumpFrom_30 : AtJ m_X10_jumpFrom 30 (.goto 5) (5) 35 33 := at_j (by decide +kernel) (by decide) rfl
theorem a_X10_jumpFrom_33 : At m_X10_jumpFrom 33 (.ldc 170) 2 35 := at_i (by decide +kernel) rfl
theorem a_X10_jumpFrom_35 : At m_X10_jumpFrom 35 (.ireturn) 1 36 := at_i (by decide +kernel) rfl
def f_X10_jumpFrom (a1 : Int32) (a2 : Int32) (a3 : Int32) (h : Mem) (Q : Int32 → Mem → Prop) : Prop :=
  if a3 < (a1 + (1 : Int32)) + a2 then (
    Q (100000000 : Int32) h)
  else (
    vp_in (((2 : Int32) * ((a1 + (1 : Int32)) + a2)) + (1 : Int32)) 26 ∧
    Q (((7 : Int32) + ((3 : Int32) * a2)) + (h 49 ((((2 : Int32) * ((a1 + (1 : Int32)) + a2)) + (1 : Int32)).toNatClampNeg))) h)
set_option maxRecDepth 20000 in
theorem t_X10_jumpFrom (a1 : Int32) (a2 : Int32) (a3 : Int32)  (h : Mem) (Q : Int32 → Mem → Prop) (hyp : f_X10_jumpFrom a1 a2 a3 h Q) : Cn m_X10_jumpFrom [.ref 43, .int a1, .int a2, .int a3] h (GI Q) := by
  refine ge_entry (lv := [(0, .ref 43), (1, .int a1), (2, .int a2), (3, .int a3)]) pn_X10 (Nat.le_of_ble_eq_true rfl) rfl ?_
  unfold f_X10_jumpFrom at hyp
  refine ge_iload_n a_X10_jumpFrom_0 rfl 1 rfl ?_
  refine ge_iconst (v := 1) a_X10_jumpFrom_1 rfl ?_
  refine ge_iadd a_X10_jumpFrom_2 ?_
  refine ge_iload_n a_X10_jumpFrom_3 rfl 2 rfl ?_
  refine ge_iadd a_X10_jumpFrom_4 ?_
  refine ge_iload_n a_X10_jumpFrom_5 rfl 3 rfl ?_
  refine ge_icmp_gt a_X10_jumpFrom_6 (fun c_1 => ?_) (fun c_1 => ?_)
  · have hyp := gm_ip hyp c_1
    refine ge_ldc (v := 100000000) a_X10_jumpFrom_33 ct_X10_170 ?_
    exact ge_iret rfl a_X10_jumpFrom_35 hyp
  · have hyp := gm_in hyp c_1
    refine ge_bipush (v := 7) a_X10_jumpFrom_9 rfl ?_
    refine ge_iconst (v := 3) a_X10_jumpFrom_11 rfl ?_
    refine ge_iload_n a_X10_jumpFrom_12 rfl 2 rfl ?_
    refine ge_imul a_X10_jumpFrom_13 ?_
    refine ge_iadd a_X10_jumpFrom_14 ?_
    refine ge_aload_n a_X10_jumpFrom_15 rfl 0 rfl ?_
    refine ge_getR (q := 49) a_X10_jumpFrom_16 fd_X10_25 (rfl : gm_cls 43 = 9) rfl ?_
    refine ge_iconst (v := 2) a_X10_jumpFrom_19 rfl ?_
    refine ge_iload_n a_X10_jumpFrom_20 rfl 1 rfl ?_
    refine ge_iconst (v := 1) a_X10_jumpFrom_21 rfl ?_
    refine ge_iadd a_X10_jumpFrom_22 ?_
    refine ge_iload_n a_X10_jumpFrom_23 rfl 2 rfl ?_
    refine ge_iadd a_X10_jumpFrom_24 ?_
    refine ge_imul a_X10_jumpFrom_25 ?_
    refine ge_iconst (v := 1) a_X10_jumpFrom_26 rfl ?_
    refine ge_iadd a_X10_jumpFrom_27 ?_
    obtain ⟨b_2, hyp⟩ := hyp
    refine ge_iald (j := (((2 : Int32) * ((a1 + (1 : Int32)) + a2)) + (1 : Int32)).toNatClampNeg) a_X10_jumpFrom_28 ga_49 b_2 rfl ?_
    refine ge_iadd a_X10_jumpFrom_29 ?_
    refine ge_goto a_X10_jumpFrom_30 ?_
    exact ge_iret rfl a_X10_jumpFrom_35 hyp

theorem a_X10_findWays_0 : At m_X10_findWays 0 (.aload_n 0) 1 1 := at_i (by decide +kernel) rfl
theorem a_X10_findWays_1 : At m_X10_findWays 1 (.getfield 25) 3 4 := at_i (by decide +kernel) rfl
theorem a_X10_findWays_4 : At m_X10_findWays 4 (.iconst 2) 1 5 := at_i (by decide +kernel) rfl
theorem a_X10_findWays_5 : At m_X10_findWays 5 (.iload_n 2) 1 6 := at_i (by decide +kernel) rfl
theorem a_X10_findWays_6 : At m_X10_findWays 6 (.imul) 1 7 := at_i (by decide +kernel) rfl
theorem a_X10_findWays_7 : At m_X10_findWays 7 (.iconst 0) 1 8 := at_i (by decide +kernel) rfl
theorem a_X10_findWays_8 : At m_X10_findWays 8 (.iastore) 1 9 := at_i (by decide +kernel) rfl
theorem a_X10_findWays_9 : At m_X10_findWays 9 (.aload_n 0) 1 10 := at_i (by decide +kernel) rfl
theorem a_X10_findWays_10 : At m_X10_findWays 10 (.getfield 25) 3 13 := at_i (by decide +kernel) rfl
theorem a_X10_findWays_13 : At m_X10_findWays 13 (.iconst 2) 1 14 := at_i (by decide +kernel) rfl
theorem a_X10_findWays_14 : At m_X10_findWays 14 (.iload_n 2) 1 15 := at_i (by decide +kernel) rfl
theorem a_X10_findWays_15 : At m_X10_findWays 15 (.imul) 1 16 := at_i (by decide +kernel) rfl
theorem a_X10_findWays_16 : At m_X10_findWays 16 (.iconst 1) 1 17 := at_i (by decide +kernel) rfl
theorem a_X10_findWays_17 : At m_X10_findWays 17 (.iadd) 1 18 := at_i (by decide +kernel) rfl
theorem a_X10_findWays_18 : At m_X10_findWays 18 (.iconst 0) 1 19 := at_i (by decide +kernel) rfl
theorem a_X10_findWays_19 : At m_X10_findWays 19 (.iastore) 1 20 := at_i (by decide +kernel) rfl
theorem a_X10_findWays_20 : At m_X10_findWays 20 (.iload_n 2) 1 21 := at_i (by decide +kernel) rfl
theorem a_X10_findWays_21 : At m_X10_findWays 21 (.iconst 1) 1 22 := at_i (by decide +kernel) rfl
theorem a_X10_findWays_22 : At m_X10_findWays 22 (.isub) 1 23 := at_i (by decide +kernel) rfl
theorem a_X10_findWays_23 : At m_X10_findWays 23 (.istore_n 3) 1 24 := at_i (by decide +kernel) rfl
theorem a_X10_findWays_24 : At m_X10_findWays 24 (.iload_n 3) 1 25 := at_i (by decide +kernel) rfl
theorem a_X10_findWays_25 : At m_X10_findWays 25 (.iload_n 1) 1 26 := at_i (by decide +kernel) rfl
theorem a_X10_findWays_26 : AtJ m_X10_findWays 26 (.if_icmp .lt 79) (79) 105 29 := at_j (by decide +kernel) (by decide) rfl
theorem a_X10_findWays_29 : At m_X10_findWays 29 (.aload_n 0) 1 30 := at_i (by decide +kernel) rfl
theorem a_X10_findWays_30 : At m_X10_findWays 30 (.iload_n 3) 1 31 := at_i (by decide +kernel) rfl
theorem a_X10_findWays_31 : At m_X10_findWays 31 (.invokevirtual 106) 3 34 := at_i (by decide +kernel) rfl
theorem a_X10_findWays_34 : At m_X10_findWays 34 (.aload_n 0) 1 35 := at_i (by decide +kernel) rfl
theorem a_X10_findWays_35 : At m_X10_findWays 35 (.getfield 25) 3 38 := at_i (by decide +kernel) rfl
theorem a_X10_findWays_38 : At m_X10_findWays 38 (.iconst 2) 1 39 := at_i (by decide +kernel) rfl
theorem a_X10_findWays_39 : At m_X10_findWays 39 (.iload_n 3) 1 40 := at_i (by decide +kernel) rfl
theorem a_X10_findWays_40 : At m_X10_findWays 40 (.iconst 1) 1 41 := at_i (by decide +kernel) rfl
theorem a_X10_findWays_41 : At m_X10_findWays 41 (.iadd) 1 42 := at_i (by decide +kernel) rfl
theorem a_X10_findWays_42 : At m_X10_findWays 42 (.imul) 1 43 := at_i (by decide +kernel) rfl
theorem a_X10_findWays_43 : At m_X10_findWays 43 (.iaload) 1 44 := at_i (by decide +kernel) rfl
theorem a_X10_findWays_44 : At m_X10_findWays 44 (.iadd) 1 45 := at_i (by decide +kernel) rfl
theorem a_X10_findWays_45 : At m_X10_findWays 45 (.istore 4) 2 47 := at_i (by decide +kernel) rfl
theorem a_X10_findWays_47 : At m_X10_findWays 47 (.aload_n 0) 1 48 := at_i (by decide +kernel) rfl
theorem a_X10_findWays_48 : At m_X10_findWays 48 (.getfield 25) 3 51 := at_i (by decide +kernel) rfl
theorem a_X10_findWays_51 : At m_X10_findWays 51 (.iconst 2) 1 52 := at_i (by decide +kernel) rfl
theorem a_X10_findWays_52 : At m_X10_findWays 52 (.iload_n 3) 1 53 := at_i (by decide +kernel) rfl
theorem a_X10_findWays_53 : At m_X10_findWays 53 (.imul) 1 54 := at_i (by decide +kernel) rfl
theorem a_X10_findWays_54 : At m_X10_findWays 54 (.iconst 1) 1 55 := at_i (by decide +kernel) rfl
theorem a_X10_findWays_55 : At m_X10_findWays 55 (.iadd) 1 56 := at_i (by decide +kernel) rfl
theorem a_X10_findWays_56 : At m_X10_findWays 56 (.iload 4) 2 58 := at_i (by decide +kernel) rfl
theorem a_X10_findWays_58 : At m_X10_findWays 58 (.iastore) 1 59 := at_i (by decide +kernel) rfl
theorem a_X10_findWays_59 : At m_X10_findWays 59 (.iconst 1) 1 60 := at_i (by decide +kernel) rfl
theorem a_X10_findWays_60 : At m_X10_findWays 60 (.istore 5) 2 62 := at_i (by decide +kernel) rfl
theorem a_X10_findWays_62 : At m_X10_findWays 62 (.iload 5) 2 64 := at_i (by decide +kernel) rfl
theorem a_X10_findWays_64 : At m_X10_findWays 64 (.iconst 3) 1 65 := at_i (by decide +kernel) rfl
theorem a_X10_findWays_65 : AtJ m_X10_findWays 65 (.if_icmp .gt 24) (24) 89 68 := at_j (by decide +kernel) (by decide) rfl
theorem a_X10_findWays_68 : At m_X10_findWays 68 (.iload 4) 2 70 := at_i (by decide +kernel) rfl
theorem a_X10_findWays_70 : At m_X10_findWays 70 (.aload_n 0) 1 71 := at_i (by decide +kernel) rfl
theorem a_X10_findWays_71 : At m_X10_findWays 71 (.iload_n 3) 1 72 := at_i (by decide +kernel) rfl
theorem a_X10_findWays_72 : At m_X10_findWays 72 (.iload 5) 2 74 := at_i (by decide +kernel) rfl
theorem a_X10_findWays_74 : At m_X10_findWays 74 (.iload_n 2) 1 75 := at_i (by decide +kernel) rfl
theorem a_X10_findWays_75 : At m_X10_findWays 75 (.invokevirtual 207) 3 78 := at_i (by decide +kernel) rfl
theorem a_X10_findWays_78 : At m_X10_findWays 78 (.invokestatic 128) 3 81 := at_i (by decide +kernel) rfl
theorem a_X10_findWays_81 : At m_X10_findWays 81 (.istore 4) 2 83 := at_i (by decide +kernel) rfl
theorem a_X10_findWays_83 : At m_X10_findWays 83 (.iinc 5 1) 3 86 := at_i (by decide +kernel) rfl
theorem a_X10_findWays_86 : AtJ m_X10_findWays 86 (.goto (-24)) (-24) 62 89 := at_j (by decide +kernel) (by decide) rfl
theorem a_X10_findWays_89 : At m_X10_findWays 89 (.aload_n 0) 1 90 := at_i (by decide +kernel) rfl
theorem a_X10_findWays_90 : At m_X10_findWays 90 (.getfield 25) 3 93 := at_i (by decide +kernel) rfl
theorem a_X10_findWays_93 : At m_X10_findWays 93 (.iconst 2) 1 94 := at_i (by decide +kernel) rfl
theorem a_X10_findWays_94 : At m_X10_findWays 94 (.iload_n 3) 1 95 := at_i (by decide +kernel) rfl
theorem a_X10_findWays_95 : At m_X10_findWays 95 (.imul) 1 96 := at_i (by decide +kernel) rfl
theorem a_X10_findWays_96 : At m_X10_findWays 96 (.iload 4) 2 98 := at_i (by decide +kernel) rfl
theorem a_X10_findWays_98 : At m_X10_findWays 98 (.iastore) 1 99 := at_i (by decide +kernel) rfl
theorem a_X10_findWays_99 : At m_X10_findWays 99 (.iinc 3 (-1)) 3 102 := at_i (by decide +kernel) rfl
theorem a_X10_findWays_102 : AtJ m_X10_findWays 102 (.goto (-78)) (-78) 24 105 := at_j (by decide +kernel) (by decide) rfl
theorem a_X10_findWays_105 : At m_X10_findWays 105 (.aload_n 0) 1 106 := at_i (by decide +kernel) rfl
theorem a_X10_findWays_106 : At m_X10_findWays 106 (.getfield 25) 3 109 := at_i (by decide +kernel) rfl
theorem a_X10_findWays_109 : At m_X10_findWays 109 (.iconst 2) 1 110 := at_i (by decide +kernel) rfl
theorem a_X10_findWays_110 : At m_X10_findWays 110 (.iload_n 1) 1 111 := at_i (by decide +kernel) rfl
theorem a_X10_findWays_111 : At m_X10_findWays 111 (.imul) 1 112 := at_i (by decide +kernel) rfl
theorem a_X10_findWays_112 : At m_X10_findWays 112 (.iaload) 1 113 := at_i (by decide +kernel) rfl
theorem a_X10_findWays_113 : At m_X10_findWays 113 (.ireturn) 1 114 := at_i (by decide +kernel) rfl
def f_X10_findWays_b62 (a1 : Int32) (a2 : Int32) (v3 : Int32) (Q : Int32 → Mem → Prop) (K24 : Int32 → Mem → Prop) (K62 : Int32 → Int32 → Mem → Prop) (v4 : Int32) (v5 : Int32) (h : Mem) : Prop :=
  if (3 : Int32) < v5 then (
    vp_in ((2 : Int32) * v3) 26 ∧
    ∀ h_16 : Mem, h_16 = gm_st h 49 (((2 : Int32) * v3).toNatClampNeg) v4 →
    ∀ v_17 : Int32, v_17 = v3 + (-1 : Int32) →
    K24 v_17 h_16)
  else (
    f_X10_jumpFrom v3 v5 a2 h fun r_19 h_18 =>
    ∀ v_20 : Int32, v_20 = (if r_19 < v4 then r_19 else v4) →
    ∀ v_21 : Int32, v_21 = v5 + (1 : Int32) →
    K62 v_20 v_21 h_18)
set_option maxRecDepth 20000 in
theorem t_X10_findWays_b62 (a1 : Int32) (a2 : Int32) (v3 : Int32)   (Q : Int32 → Mem → Prop) (K24 : Int32 → Mem → Prop) (hK24 : ∀ (v3 : Int32) h, K24 v3 h → EV m_X10_findWays (GI Q) 24 [(0, .ref 43), (1, .int a1), (2, .int a2), (3, .int v3)] [] h) : ∀ (n : Nat) (v4 : Int32) (v5 : Int32) (h : Mem), gm_it2 (f_X10_findWays_b62 a1 a2 v3 Q K24) n v4 v5 h → EV m_X10_findWays (GI Q) 62 [(0, .ref 43), (1, .int a1), (2, .int a2), (3, .int v3), (4, .int v4), (5, .int v5)] [] h := by
  refine ge_loop2 (P := fun v4 v5 h => EV m_X10_findWays (GI Q) 62 [(0, .ref 43), (1, .int a1), (2, .int a2), (3, .int v3), (4, .int v4), (5, .int v5)] [] h) (fun K62 hK62 v4 v5 h hyp => ?_)
  unfold f_X10_findWays_b62 at hyp
  refine ge_iload a_X10_findWays_62 5 rfl ?_
  refine ge_iconst (v := 3) a_X10_findWays_64 rfl ?_
  refine ge_icmp_gt a_X10_findWays_65 (fun c_14 => ?_) (fun c_14 => ?_)
  · have hyp := gm_ip hyp c_14
    refine ge_aload_n a_X10_findWays_89 rfl 0 rfl ?_
    refine ge_getR (q := 49) a_X10_findWays_90 fd_X10_25 (rfl : gm_cls 43 = 9) rfl ?_
    refine ge_iconst (v := 2) a_X10_findWays_93 rfl ?_
    refine ge_iload_n a_X10_findWays_94 rfl 3 rfl ?_
    refine ge_imul a_X10_findWays_95 ?_
    refine ge_iload a_X10_findWays_96 4 rfl ?_
    obtain ⟨b_15, hyp⟩ := hyp
    refine ge_iast (j := ((2 : Int32) * v3).toNatClampNeg) a_X10_findWays_98 ga_49 b_15 rfl ?_
    refine ge_nm (fun h_16 eh_16 => ?_)
    have hyp := hyp h_16 eh_16
    obtain ⟨v_17, ev_17⟩ : ∃ y : Int32, y = v3 + (-1 : Int32) := ⟨_, rfl⟩
    have hyp := hyp v_17 ev_17
    refine ge_iinc (v := v_17) (lv' := [(3, .int v_17), (0, .ref 43), (1, .int a1), (2, .int a2), (4, .int v4), (5, .int v5)]) a_X10_findWays_99 3 rfl ev_17.symm (Nat.le_of_ble_eq_true rfl) rfl ?_
    refine ge_goto a_X10_findWays_102 ?_
    exact ge_sub [1, 2, 3, 0] rfl (hK24 v_17 h_16 hyp)
  · have hyp := gm_in hyp c_14
    refine ge_iload a_X10_findWays_68 4 rfl ?_
    refine ge_aload_n a_X10_findWays_70 rfl 0 rfl ?_
    refine ge_iload_n a_X10_findWays_71 rfl 3 rfl ?_
    refine ge_iload a_X10_findWays_72 5 rfl ?_
    refine ge_iload_n a_X10_findWays_74 rfl 2 rfl ?_
    refine ge_cVI [.int v3, .int v5, .int a2] (rest := [.int v4]) a_X10_findWays_75 ok_X10_jumpFrom lk_X10_207 ⟨Nat.le_of_ble_eq_true rfl, Nat.le_of_ble_eq_true rfl⟩ (rfl : gm_cls 43 = 9) vc_9 (by decide) rfl rfl (Nat.le_of_ble_eq_true rfl) (t_X10_jumpFrom v3 v5 a2  h _ hyp) (fun r_19 h_18 hyp => ?_)
    refine ge_mmin (rest := []) a_X10_findWays_78 lk_X10_128 (Nat.le_of_ble_eq_true rfl) (Nat.le_of_ble_eq_true rfl) ?_
    refine ge_topi (fun v_20 ev_20 => ?_)
    have hyp := hyp v_20 ev_20
    refine ge_istore (lv' := [(4, .int v_20), (0, .ref 43), (1, .int a1), (2, .int a2), (3, .int v3), (5, .int v5)]) a_X10_findWays_81 (Nat.le_of_ble_eq_true rfl) rfl ?_
    obtain ⟨v_21, ev_21⟩ : ∃ y : Int32, y = v5 + (1 : Int32) := ⟨_, rfl⟩
    have hyp := hyp v_21 ev_21
    refine ge_iinc (v := v_21) (lv' := [(5, .int v_21), (4, .int v_20), (0, .ref 43), (1, .int a1), (2, .int a2), (3, .int v3)]) a_X10_findWays_83 5 rfl ev_21.symm (Nat.le_of_ble_eq_true rfl) rfl ?_
    refine ge_goto a_X10_findWays_86 ?_
    exact ge_sub [2, 3, 4, 5, 1, 0] rfl (hK62 v_20 v_21 h_18 hyp)
def f_X10_findWays_b24 (a1 : Int32) (a2 : Int32)  (Q : Int32 → Mem → Prop)  (K24 : Int32 → Mem → Prop) (v3 : Int32) (h : Mem) : Prop :=
  if v3 < a1 then (
    vp_in ((2 : Int32) * a1) 26 ∧
    Q (h 49 (((2 : Int32) * a1).toNatClampNeg)) h)
  else (
    f_X10_takes v3 h fun r_9 h_8 =>
    vp_in ((2 : Int32) * (v3 + (1 : Int32))) 26 ∧
    ∀ v_11 : Int32, v_11 = r_9 + (h_8 49 (((2 : Int32) * (v3 + (1 : Int32))).toNatClampNeg)) →
    vp_in (((2 : Int32) * v3) + (1 : Int32)) 26 ∧
    ∀ h_13 : Mem, h_13 = gm_st h_8 49 ((((2 : Int32) * v3) + (1 : Int32)).toNatClampNeg) v_11 →
    gm_it2 (f_X10_findWays_b62 a1 a2 v3 Q K24) gm_F v_11 (1 : Int32) h_13)
set_option maxRecDepth 20000 in
theorem t_X10_findWays_b24 (a1 : Int32) (a2 : Int32)    (Q : Int32 → Mem → Prop)   : ∀ (n : Nat) (v3 : Int32) (h : Mem), gm_it1 (f_X10_findWays_b24 a1 a2  Q ) n v3 h → EV m_X10_findWays (GI Q) 24 [(0, .ref 43), (1, .int a1), (2, .int a2), (3, .int v3)] [] h := by
  refine ge_loop1 (P := fun v3 h => EV m_X10_findWays (GI Q) 24 [(0, .ref 43), (1, .int a1), (2, .int a2), (3, .int v3)] [] h) (fun K24 hK24 v3 h hyp => ?_)
  unfold f_X10_findWays_b24 at hyp
  refine ge_iload_n a_X10_findWays_24 rfl 3 rfl ?_
  refine ge_iload_n a_X10_findWays_25 rfl 1 rfl ?_
  refine ge_icmp_lt a_X10_findWays_26 (fun c_6 => ?_) (fun c_6 => ?_)
  · have hyp := gm_ip hyp c_6
    refine ge_aload_n a_X10_findWays_105 rfl 0 rfl ?_
    refine ge_getR (q := 49) a_X10_findWays_106 fd_X10_25 (rfl : gm_cls 43 = 9) rfl ?_
    refine ge_iconst (v := 2) a_X10_findWays_109 rfl ?_
    refine ge_iload_n a_X10_findWays_110 rfl 1 rfl ?_
    refine ge_imul a_X10_findWays_111 ?_
    obtain ⟨b_7, hyp⟩ := hyp
    refine ge_iald (j := ((2 : Int32) * a1).toNatClampNeg) a_X10_findWays_112 ga_49 b_7 rfl ?_
    exact ge_iret rfl a_X10_findWays_113 hyp
  · have hyp := gm_in hyp c_6
    refine ge_aload_n a_X10_findWays_29 rfl 0 rfl ?_
    refine ge_iload_n a_X10_findWays_30 rfl 3 rfl ?_
    refine ge_cVI [.int v3] (rest := []) a_X10_findWays_31 ok_X10_takes lk_X10_106 ⟨Nat.le_of_ble_eq_true rfl, Nat.le_of_ble_eq_true rfl⟩ (rfl : gm_cls 43 = 9) vc_9 (by decide) rfl rfl (Nat.le_of_ble_eq_true rfl) (t_X10_takes v3  h _ hyp) (fun r_9 h_8 hyp => ?_)
    refine ge_aload_n a_X10_findWays_34 rfl 0 rfl ?_
    refine ge_getR (q := 49) a_X10_findWays_35 fd_X10_25 (rfl : gm_cls 43 = 9) rfl ?_
    refine ge_iconst (v := 2) a_X10_findWays_38 rfl ?_
    refine ge_iload_n a_X10_findWays_39 rfl 3 rfl ?_
    refine ge_iconst (v := 1) a_X10_findWays_40 rfl ?_
    refine ge_iadd a_X10_findWays_41 ?_
    refine ge_imul a_X10_findWays_42 ?_
    obtain ⟨b_10, hyp⟩ := hyp
    refine ge_iald (j := ((2 : Int32) * (v3 + (1 : Int32))).toNatClampNeg) a_X10_findWays_43 ga_49 b_10 rfl ?_
    refine ge_iadd a_X10_findWays_44 ?_
    refine ge_topi (fun v_11 ev_11 => ?_)
    have hyp := hyp v_11 ev_11
    refine ge_istore (lv' := [(4, .int v_11), (0, .ref 43), (1, .int a1), (2, .int a2), (3, .int v3)]) a_X10_findWays_45 (Nat.le_of_ble_eq_true rfl) rfl ?_
    refine ge_aload_n a_X10_findWays_47 rfl 1 rfl ?_
    refine ge_getR (q := 49) a_X10_findWays_48 fd_X10_25 (rfl : gm_cls 43 = 9) rfl ?_
    refine ge_iconst (v := 2) a_X10_findWays_51 rfl ?_
    refine ge_iload_n a_X10_findWays_52 rfl 4 rfl ?_
    refine ge_imul a_X10_findWays_53 ?_
    refine ge_iconst (v := 1) a_X10_findWays_54 rfl ?_
    refine ge_iadd a_X10_findWays_55 ?_
    refine ge_iload a_X10_findWays_56 0 rfl ?_
    obtain ⟨b_12, hyp⟩ := hyp
    refine ge_iast (j := (((2 : Int32) * v3) + (1 : Int32)).toNatClampNeg) a_X10_findWays_58 ga_49 b_12 rfl ?_
    refine ge_nm (fun h_13 eh_13 => ?_)
    have hyp := hyp h_13 eh_13
    refine ge_iconst (v := 1) a_X10_findWays_59 rfl ?_
    refine ge_istore (lv' := [(5, .int (1 : Int32)), (4, .int v_11), (0, .ref 43), (1, .int a1), (2, .int a2), (3, .int v3)]) a_X10_findWays_60 (Nat.le_of_ble_eq_true rfl) rfl ?_
    exact ge_sub [2, 3, 4, 5, 1, 0] rfl (t_X10_findWays_b62 a1 a2 v3   Q K24 hK24 gm_F v_11 (1 : Int32) h_13 hyp)
def f_X10_findWays (a1 : Int32) (a2 : Int32) (h : Mem) (Q : Int32 → Mem → Prop) : Prop :=
  vp_in ((2 : Int32) * a2) 26 ∧
  ∀ h_2 : Mem, h_2 = gm_st h 49 (((2 : Int32) * a2).toNatClampNeg) (0 : Int32) →
  vp_in (((2 : Int32) * a2) + (1 : Int32)) 26 ∧
  ∀ h_4 : Mem, h_4 = gm_st h_2 49 ((((2 : Int32) * a2) + (1 : Int32)).toNatClampNeg) (0 : Int32) →
  ∀ v_5 : Int32, v_5 = a2 - (1 : Int32) →
  gm_it1 (f_X10_findWays_b24 a1 a2  Q ) gm_F v_5 h_4
set_option maxRecDepth 20000 in
theorem t_X10_findWays (a1 : Int32) (a2 : Int32)  (h : Mem) (Q : Int32 → Mem → Prop) (hyp : f_X10_findWays a1 a2 h Q) : Cn m_X10_findWays [.ref 43, .int a1, .int a2] h (GI Q) := by
  refine ge_entry (lv := [(0, .ref 43), (1, .int a1), (2, .int a2)]) pn_X10 (Nat.le_of_ble_eq_true rfl) rfl ?_
  unfold f_X10_findWays at hyp
  refine ge_aload_n a_X10_findWays_0 rfl 0 rfl ?_
  refine ge_getR (q := 49) a_X10_findWays_1 fd_X10_25 (rfl : gm_cls 43 = 9) rfl ?_
  refine ge_iconst (v := 2) a_X10_findWays_4 rfl ?_
  refine ge_iload_n a_X10_findWays_5 rfl 2 rfl ?_
  refine ge_imul a_X10_findWays_6 ?_
  refine ge_iconst (v := 0) a_X10_findWays_7 rfl ?_
  obtain ⟨b_1, hyp⟩ := hyp
  refine ge_iast (j := ((2 : Int32) * a2).toNatClampNeg) a_X10_findWays_8 ga_49 b_1 rfl ?_
  refine ge_nm (fun h_2 eh_2 => ?_)
  have hyp := hyp h_2 eh_2
  refine ge_aload_n a_X10_findWays_9 rfl 0 rfl ?_
  refine ge_getR (q := 49) a_X10_findWays_10 fd_X10_25 (rfl : gm_cls 43 = 9) rfl ?_
  refine ge_iconst (v := 2) a_X10_findWays_13 rfl ?_
  refine ge_iload_n a_X10_findWays_14 rfl 2 rfl ?_
  refine ge_imul a_X10_findWays_15 ?_
  refine ge_iconst (v := 1) a_X10_findWays_16 rfl ?_
  refine ge_iadd a_X10_findWays_17 ?_
  refine ge_iconst (v := 0) a_X10_findWays_18 rfl ?_
  obtain ⟨b_3, hyp⟩ := hyp
  refine ge_iast (j := (((2 : Int32) * a2) + (1 : Int32)).toNatClampNeg) a_X10_findWays_19 ga_49 b_3 rfl ?_
  refine ge_nm (fun h_4 eh_4 => ?_)
  have hyp := hyp h_4 eh_4
  refine ge_iload_n a_X10_findWays_20 rfl 2 rfl ?_
  refine ge_iconst (v := 1) a_X10_findWays_21 rfl ?_
  refine ge_isub a_X10_findWays_22 ?_
  refine ge_topi (fun v_5 ev_5 => ?_)
  have hyp := hyp v_5 ev_5
  refine ge_istore_n (lv' := [(3, .int v_5), (0, .ref 43), (1, .int a1), (2, .int a2)]) a_X10_findWays_23 rfl (Nat.le_of_ble_eq_true rfl) rfl ?_
  exact ge_sub [1, 2, 3, 0] rfl (t_X10_findWays_b24 a1 a2    Q   gm_F v_5 h_4 hyp)

theorem a_X10_isWay_0 : At m_X10_isWay 0 (.aload_n 0) 1 1 := at_i (by decide +kernel) rfl
theorem a_X10_isWay_1 : At m_X10_isWay 1 (.iload_n 1) 1 2 := at_i (by decide +kernel) rfl
theorem a_X10_isWay_2 : At m_X10_isWay 2 (.invokevirtual 103) 3 5 := at_i (by decide +kernel) rfl
theorem a_X10_isWay_5 : AtJ m_X10_isWay 5 (.ifCond .eq 23) (23) 28 8 := at_j (by decide +kernel) (by decide) rfl
theorem a_X10_isWay_8 : At m_X10_isWay 8 (.iload_n 2) 1 9 := at_i (by decide +kernel) rfl
theorem a_X10_isWay_9 : At m_X10_isWay 9 (.iload_n 1) 1 10 := at_i (by decide +kernel) rfl
theorem a_X10_isWay_10 : At m_X10_isWay 10 (.iconst 1) 1 11 := at_i (by decide +kernel) rfl
theorem a_X10_isWay_11 : At m_X10_isWay 11 (.iadd) 1 12 := at_i (by decide +kernel) rfl
theorem a_X10_isWay_12 : At m_X10_isWay 12 (.aload_n 0) 1 13 := at_i (by decide +kernel) rfl
theorem a_X10_isWay_13 : At m_X10_isWay 13 (.getfield 9) 3 16 := at_i (by decide +kernel) rfl
theorem a_X10_isWay_16 : At m_X10_isWay 16 (.iconst 4) 1 17 := at_i (by decide +kernel) rfl
theorem a_X10_isWay_17 : At m_X10_isWay 17 (.iaload) 1 18 := at_i (by decide +kernel) rfl
theorem a_X10_isWay_18 : At m_X10_isWay 18 (.invokestatic 71) 3 21 := at_i (by decide +kernel) rfl
theorem a_X10_isWay_21 : AtJ m_X10_isWay 21 (.ifCond .eq 7) (7) 28 24 := at_j (by decide +kernel) (by decide) rfl
theorem a_X10_isWay_24 : At m_X10_isWay 24 (.iconst 1) 1 25 := at_i (by decide +kernel) rfl
theorem a_X10_isWay_25 : AtJ m_X10_isWay 25 (.goto 4) (4) 29 28 := at_j (by decide +kernel) (by decide) rfl
theorem a_X10_isWay_28 : At m_X10_isWay 28 (.iconst 0) 1 29 := at_i (by decide +kernel) rfl
theorem a_X10_isWay_29 : At m_X10_isWay 29 (.ireturn) 1 30 := at_i (by decide +kernel) rfl
def f_X10_isWay (a1 : Int32) (a2 : Int32) (h : Mem) (Q : Int32 → Mem → Prop) : Prop :=
  f_X10_isLine a1 h fun r_2 h_1 =>
  if r_2 = 0 then (
    Q (0 : Int32) h_1)
  else (
    f_X10_within a2 (a1 + (1 : Int32)) (h_1 44 4) h_1 fun r_5 h_4 =>
    if r_5 = 0 then (
      Q (0 : Int32) h_4)
    else (
      Q (1 : Int32) h_4))
set_option maxRecDepth 20000 in
theorem t_X10_isWay (a1 : Int32) (a2 : Int32)  (h : Mem) (Q : Int32 → Mem → Prop) (hyp : f_X10_isWay a1 a2 h Q) : Cn m_X10_isWay [.ref 43, .int a1, .int a2] h (GI Q) := by
  refine ge_entry (lv := [(0, .ref 43), (1, .int a1), (2, .int a2)]) pn_X10 (Nat.le_of_ble_eq_true rfl) rfl ?_
  unfold f_X10_isWay at hyp
  refine ge_aload_n a_X10_isWay_0 rfl 0 rfl ?_
  refine ge_iload_n a_X10_isWay_1 rfl 1 rfl ?_
  refine ge_cVI [.int a1] (rest := []) a_X10_isWay_2 ok_X10_isLine lk_X10_103 ⟨Nat.le_of_ble_eq_true rfl, Nat.le_of_ble_eq_true rfl⟩ (rfl : gm_cls 43 = 9) vc_9 (by decide) rfl rfl (Nat.le_of_ble_eq_true rfl) (t_X10_isLine a1  h _ hyp) (fun r_2 h_1 hyp => ?_)
  refine ge_if_eq a_X10_isWay_5 (fun c_3 => ?_) (fun c_3 => ?_)
  · have hyp := gm_ip hyp c_3
    refine ge_iconst (v := 0) a_X10_isWay_28 rfl ?_
    exact ge_zret rfl rfl a_X10_isWay_29 hyp
  · have hyp := gm_in hyp c_3
    refine ge_iload_n a_X10_isWay_8 rfl 2 rfl ?_
    refine ge_iload_n a_X10_isWay_9 rfl 1 rfl ?_
    refine ge_iconst (v := 1) a_X10_isWay_10 rfl ?_
    refine ge_iadd a_X10_isWay_11 ?_
    refine ge_aload_n a_X10_isWay_12 rfl 0 rfl ?_
    refine ge_getR (q := 44) a_X10_isWay_13 fd_X10_9 (rfl : gm_cls 43 = 9) rfl ?_
    refine ge_iconst (v := 4) a_X10_isWay_16 rfl ?_
    refine ge_iald (j := 4) a_X10_isWay_17 ga_44 li_4_62.1 li_4_62.2 ?_
    refine ge_cSI [.int a2, .int (a1 + (1 : Int32)), .int (h_1 44 4)] (rest := []) a_X10_isWay_18 ok_X10_within lk_X10_71 ⟨Nat.le_of_ble_eq_true rfl, Nat.le_of_ble_eq_true rfl⟩ rfl rfl (Nat.le_of_ble_eq_true rfl) (t_X10_within a2 (a1 + (1 : Int32)) (h_1 44 4)  h_1 _ hyp) (fun r_5 h_4 hyp => ?_)
    refine ge_if_eq a_X10_isWay_21 (fun c_6 => ?_) (fun c_6 => ?_)
    · have hyp := gm_ip hyp c_6
      refine ge_iconst (v := 0) a_X10_isWay_28 rfl ?_
      exact ge_zret rfl rfl a_X10_isWay_29 hyp
    · have hyp := gm_in hyp c_6
      refine ge_iconst (v := 1) a_X10_isWay_24 rfl ?_
      refine ge_goto a_X10_isWay_25 ?_
      exact ge_zret rfl rfl a_X10_isWay_29 hyp

theorem a_X10_jump_0 : At m_X10_jump 0 (.aload_n 0) 1 1 := at_i (by decide +kernel) rfl
theorem a_X10_jump_1 : At m_X10_jump 1 (.iload_n 1) 1 2 := at_i (by decide +kernel) rfl
theorem a_X10_jump_2 : At m_X10_jump 2 (.iload_n 2) 1 3 := at_i (by decide +kernel) rfl
theorem a_X10_jump_3 : At m_X10_jump 3 (.invokevirtual 210) 3 6 := at_i (by decide +kernel) rfl
theorem a_X10_jump_6 : AtJ m_X10_jump 6 (.ifCond .eq 12) (12) 18 9 := at_j (by decide +kernel) (by decide) rfl
theorem a_X10_jump_9 : At m_X10_jump 9 (.aload_n 0) 1 10 := at_i (by decide +kernel) rfl
theorem a_X10_jump_10 : At m_X10_jump 10 (.iload_n 1) 1 11 := at_i (by decide +kernel) rfl
theorem a_X10_jump_11 : At m_X10_jump 11 (.iload_n 2) 1 12 := at_i (by decide +kernel) rfl
theorem a_X10_jump_12 : At m_X10_jump 12 (.invokevirtual 213) 3 15 := at_i (by decide +kernel) rfl
theorem a_X10_jump_15 : AtJ m_X10_jump 15 (.goto 9) (9) 24 18 := at_j (by decide +kernel) (by decide) rfl
theorem a_X10_jump_18 : At m_X10_jump 18 (.aload_n 0) 1 19 := at_i (by decide +kernel) rfl
theorem a_X10_jump_19 : At m_X10_jump 19 (.ldc 66) 2 21 := at_i (by decide +kernel) rfl
theorem a_X10_jump_21 : At m_X10_jump 21 (.invokevirtual 83) 3 24 := at_i (by decide +kernel) rfl
theorem a_X10_jump_24 : At m_X10_jump 24 (.ireturn) 1 25 := at_i (by decide +kernel) rfl
def f_X10_jump (a1 : Int32) (a2 : Int32) (h : Mem) (Q : Int32 → Mem → Prop) : Prop :=
  f_X10_isWay a1 a2 h fun r_2 h_1 =>
  if r_2 = 0 then (
    f_X10_finding (-1000001 : Int32) h_1 fun r_5 h_4 =>
    Q r_5 h_4)
  else (
    f_X10_findWays a1 a2 h_1 fun r_7 h_6 =>
    Q r_7 h_6)
set_option maxRecDepth 20000 in
theorem t_X10_jump (a1 : Int32) (a2 : Int32)  (h : Mem) (Q : Int32 → Mem → Prop) (hyp : f_X10_jump a1 a2 h Q) : Cn m_X10_jump [.ref 43, .int a1, .int a2] h (GI Q) := by
  refine ge_entry (lv := [(0, .ref 43), (1, .int a1), (2, .int a2)]) pn_X10 (Nat.le_of_ble_eq_true rfl) rfl ?_
  unfold f_X10_jump at hyp
  refine ge_aload_n a_X10_jump_0 rfl 0 rfl ?_
  refine ge_iload_n a_X10_jump_1 rfl 1 rfl ?_
  refine ge_iload_n a_X10_jump_2 rfl 2 rfl ?_
  refine ge_cVI [.int a1, .int a2] (rest := []) a_X10_jump_3 ok_X10_isWay lk_X10_210 ⟨Nat.le_of_ble_eq_true rfl, Nat.le_of_ble_eq_true rfl⟩ (rfl : gm_cls 43 = 9) vc_9 (by decide) rfl rfl (Nat.le_of_ble_eq_true rfl) (t_X10_isWay a1 a2  h _ hyp) (fun r_2 h_1 hyp => ?_)
  refine ge_if_eq a_X10_jump_6 (fun c_3 => ?_) (fun c_3 => ?_)
  · have hyp := gm_ip hyp c_3
    refine ge_aload_n a_X10_jump_18 rfl 0 rfl ?_
    refine ge_ldc (v := -1000001) a_X10_jump_19 ct_X10_66 ?_
    refine ge_cVI [.int (-1000001 : Int32)] (rest := []) a_X10_jump_21 ok_X10_finding lk_X10_83 ⟨Nat.le_of_ble_eq_true rfl, Nat.le_of_ble_eq_true rfl⟩ (rfl : gm_cls 43 = 9) vc_9 (by decide) rfl rfl (Nat.le_of_ble_eq_true rfl) (t_X10_finding (-1000001 : Int32)  h_1 _ hyp) (fun r_5 h_4 hyp => ?_)
    exact ge_iret rfl a_X10_jump_24 hyp
  · have hyp := gm_in hyp c_3
    refine ge_aload_n a_X10_jump_9 rfl 0 rfl ?_
    refine ge_iload_n a_X10_jump_10 rfl 1 rfl ?_
    refine ge_iload_n a_X10_jump_11 rfl 2 rfl ?_
    refine ge_cVI [.int a1, .int a2] (rest := []) a_X10_jump_12 ok_X10_findWays lk_X10_213 ⟨Nat.le_of_ble_eq_true rfl, Nat.le_of_ble_eq_true rfl⟩ (rfl : gm_cls 43 = 9) vc_9 (by decide) rfl rfl (Nat.le_of_ble_eq_true rfl) (t_X10_findWays a1 a2  h_1 _ hyp) (fun r_7 h_6 hyp => ?_)
    refine ge_goto a_X10_jump_15 ?_
    exact ge_iret rfl a_X10_jump_24 hyp

theorem a_X10_jumped_0 : At m_X10_jumped 0 (.aload_n 0) 1 1 := at_i (by decide +kernel) rfl
theorem a_X10_jumped_1 : At m_X10_jumped 1 (.iload_n 1) 1 2 := at_i (by decide +kernel) rfl
theorem a_X10_jumped_2 : At m_X10_jumped 2 (.iload_n 2) 1 3 := at_i (by decide +kernel) rfl
theorem a_X10_jumped_3 : At m_X10_jumped 3 (.invokevirtual 210) 3 6 := at_i (by decide +kernel) rfl
theorem a_X10_jumped_6 : AtJ m_X10_jumped 6 (.ifCond .ne 10) (10) 16 9 := at_j (by decide +kernel) (by decide) rfl
theorem a_X10_jumped_9 : At m_X10_jumped 9 (.aload_n 0) 1 10 := at_i (by decide +kernel) rfl
theorem a_X10_jumped_10 : At m_X10_jumped 10 (.ldc 66) 2 12 := at_i (by decide +kernel) rfl
theorem a_X10_jumped_12 : At m_X10_jumped 12 (.invokevirtual 83) 3 15 := at_i (by decide +kernel) rfl
theorem a_X10_jumped_15 : At m_X10_jumped 15 (.ireturn) 1 16 := at_i (by decide +kernel) rfl
theorem a_X10_jumped_16 : At m_X10_jumped 16 (.aload_n 0) 1 17 := at_i (by decide +kernel) rfl
theorem a_X10_jumped_17 : At m_X10_jumped 17 (.iload_n 1) 1 18 := at_i (by decide +kernel) rfl
theorem a_X10_jumped_18 : At m_X10_jumped 18 (.iload_n 2) 1 19 := at_i (by decide +kernel) rfl
theorem a_X10_jumped_19 : At m_X10_jumped 19 (.invokevirtual 213) 3 22 := at_i (by decide +kernel) rfl
theorem a_X10_jumped_22 : At m_X10_jumped 22 (.istore_n 3) 1 23 := at_i (by decide +kernel) rfl
theorem a_X10_jumped_23 : At m_X10_jumped 23 (.iconst 0) 1 24 := at_i (by decide +kernel) rfl
theorem a_X10_jumped_24 : At m_X10_jumped 24 (.istore 4) 2 26 := at_i (by decide +kernel) rfl
theorem a_X10_jumped_26 : At m_X10_jumped 26 (.iload_n 1) 1 27 := at_i (by decide +kernel) rfl
theorem a_X10_jumped_27 : At m_X10_jumped 27 (.istore 5) 2 29 := at_i (by decide +kernel) rfl
theorem a_X10_jumped_29 : At m_X10_jumped 29 (.iload 5) 2 31 := at_i (by decide +kernel) rfl
theorem a_X10_jumped_31 : At m_X10_jumped 31 (.iload_n 2) 1 32 := at_i (by decide +kernel) rfl
theorem a_X10_jumped_32 : AtJ m_X10_jumped 32 (.if_icmp .ge 104) (104) 136 35 := at_j (by decide +kernel) (by decide) rfl
theorem a_X10_jumped_35 : At m_X10_jumped 35 (.iconst 0) 1 36 := at_i (by decide +kernel) rfl
theorem a_X10_jumped_36 : At m_X10_jumped 36 (.istore 6) 2 38 := at_i (by decide +kernel) rfl
theorem a_X10_jumped_38 : At m_X10_jumped 38 (.iload_n 3) 1 39 := at_i (by decide +kernel) rfl
theorem a_X10_jumped_39 : At m_X10_jumped 39 (.aload_n 0) 1 40 := at_i (by decide +kernel) rfl
theorem a_X10_jumped_40 : At m_X10_jumped 40 (.iload 5) 2 42 := at_i (by decide +kernel) rfl
theorem a_X10_jumped_42 : At m_X10_jumped 42 (.invokevirtual 106) 3 45 := at_i (by decide +kernel) rfl
theorem a_X10_jumped_45 : At m_X10_jumped 45 (.aload_n 0) 1 46 := at_i (by decide +kernel) rfl
theorem a_X10_jumped_46 : At m_X10_jumped 46 (.getfield 25) 3 49 := at_i (by decide +kernel) rfl
theorem a_X10_jumped_49 : At m_X10_jumped 49 (.iconst 2) 1 50 := at_i (by decide +kernel) rfl
theorem a_X10_jumped_50 : At m_X10_jumped 50 (.iload 5) 2 52 := at_i (by decide +kernel) rfl
theorem a_X10_jumped_52 : At m_X10_jumped 52 (.iconst 1) 1 53 := at_i (by decide +kernel) rfl
theorem a_X10_jumped_53 : At m_X10_jumped 53 (.iadd) 1 54 := at_i (by decide +kernel) rfl
theorem a_X10_jumped_54 : At m_X10_jumped 54 (.imul) 1 55 := at_i (by decide +kernel) rfl
theorem a_X10_jumped_55 : At m_X10_jumped 55 (.iaload) 1 56 := at_i (by decide +kernel) rfl
theorem a_X10_jumped_56 : At m_X10_jumped 56 (.iadd) 1 57 := at_i (by decide +kernel) rfl
theorem a_X10_jumped_57 : AtJ m_X10_jumped 57 (.if_icmp .eq 25) (25) 82 60 := at_j (by decide +kernel) (by decide) rfl
theorem a_X10_jumped_60 : At m_X10_jumped 60 (.iconst 1) 1 61 := at_i (by decide +kernel) rfl
theorem a_X10_jumped_61 : At m_X10_jumped 61 (.istore 6) 2 63 := at_i (by decide +kernel) rfl
theorem a_X10_jumped_63 : At m_X10_jumped 63 (.aload_n 0) 1 64 := at_i (by decide +kernel) rfl
theorem a_X10_jumped_64 : At m_X10_jumped 64 (.iload 5) 2 66 := at_i (by decide +kernel) rfl
theorem a_X10_jumped_66 : At m_X10_jumped 66 (.iload 6) 2 68 := at_i (by decide +kernel) rfl
theorem a_X10_jumped_68 : At m_X10_jumped 68 (.iload_n 2) 1 69 := at_i (by decide +kernel) rfl
theorem a_X10_jumped_69 : At m_X10_jumped 69 (.invokevirtual 207) 3 72 := at_i (by decide +kernel) rfl
theorem a_X10_jumped_72 : At m_X10_jumped 72 (.iload_n 3) 1 73 := at_i (by decide +kernel) rfl
theorem a_X10_jumped_73 : AtJ m_X10_jumped 73 (.if_icmp .eq 9) (9) 82 76 := at_j (by decide +kernel) (by decide) rfl
theorem a_X10_jumped_76 : At m_X10_jumped 76 (.iinc 6 1) 3 79 := at_i (by decide +kernel) rfl
theorem a_X10_jumped_79 : AtJ m_X10_jumped 79 (.goto (-16)) (-16) 63 82 := at_j (by decide +kernel) (by decide) rfl
theorem a_X10_jumped_82 : At m_X10_jumped 82 (.iload 4) 2 84 := at_i (by decide +kernel) rfl
theorem a_X10_jumped_84 : At m_X10_jumped 84 (.iload 6) 2 86 := at_i (by decide +kernel) rfl
theorem a_X10_jumped_86 : AtJ m_X10_jumped 86 (.ifCond .ne 10) (10) 96 89 := at_j (by decide +kernel) (by decide) rfl
theorem a_X10_jumped_89 : At m_X10_jumped 89 (.iconst 1) 1 90 := at_i (by decide +kernel) rfl
theorem a_X10_jumped_90 : At m_X10_jumped 90 (.iload 5) 2 92 := at_i (by decide +kernel) rfl
theorem a_X10_jumped_92 : At m_X10_jumped 92 (.ishl) 1 93 := at_i (by decide +kernel) rfl
theorem a_X10_jumped_93 : AtJ m_X10_jumped 93 (.goto 4) (4) 97 96 := at_j (by decide +kernel) (by decide) rfl
theorem a_X10_jumped_96 : At m_X10_jumped 96 (.iconst 0) 1 97 := at_i (by decide +kernel) rfl
theorem a_X10_jumped_97 : At m_X10_jumped 97 (.ior) 1 98 := at_i (by decide +kernel) rfl
theorem a_X10_jumped_98 : At m_X10_jumped 98 (.istore 4) 2 100 := at_i (by decide +kernel) rfl
theorem a_X10_jumped_100 : At m_X10_jumped 100 (.iload_n 3) 1 101 := at_i (by decide +kernel) rfl
theorem a_X10_jumped_101 : At m_X10_jumped 101 (.iload 6) 2 103 := at_i (by decide +kernel) rfl
theorem a_X10_jumped_103 : AtJ m_X10_jumped 103 (.ifCond .ne 12) (12) 115 106 := at_j (by decide +kernel) (by decide) rfl
theorem a_X10_jumped_106 : At m_X10_jumped 106 (.aload_n 0) 1 107 := at_i (by decide +kernel) rfl
theorem a_X10_jumped_107 : At m_X10_jumped 107 (.iload 5) 2 109 := at_i (by decide +kernel) rfl
theorem a_X10_jumped_109 : At m_X10_jumped 109 (.invokevirtual 106) 3 112 := at_i (by decide +kernel) rfl
theorem a_X10_jumped_112 : AtJ m_X10_jumped 112 (.goto 10) (10) 122 115 := at_j (by decide +kernel) (by decide) rfl
theorem a_X10_jumped_115 : At m_X10_jumped 115 (.bipush 7) 2 117 := at_i (by decide +kernel) rfl
theorem a_X10_jumped_117 : At m_X10_jumped 117 (.iconst 3) 1 118 := at_i (by decide +kernel) rfl
theorem a_X10_jumped_118 : At m_X10_jumped 118 (.iload 6) 2 120 := at_i (by decide +kernel) rfl
theorem a_X10_jumped_120 : At m_X10_jumped 120 (.imul) 1 121 := at_i (by decide +kernel) rfl
theorem a_X10_jumped_121 : At m_X10_jumped 121 (.iadd) 1 122 := at_i (by decide +kernel) rfl
theorem a_X10_jumped_122 : At m_X10_jumped 122 (.isub) 1 123 := at_i (by decide +kernel) rfl
theorem a_X10_jumped_123 : At m_X10_jumped 123 (.istore_n 3) 1 124 := at_i (by decide +kernel) rfl
theorem a_X10_jumped_124 : At m_X10_jumped 124 (.iload 5) 2 126 := at_i (by decide +kernel) rfl
theorem a_X10_jumped_126 : At m_X10_jumped 126 (.iconst 1) 1 127 := at_i (by decide +kernel) rfl
theorem a_X10_jumped_127 : At m_X10_jumped 127 (.iload 6) 2 129 := at_i (by decide +kernel) rfl
theorem a_X10_jumped_129 : At m_X10_jumped 129 (.iadd) 1 130 := at_i (by decide +kernel) rfl
theorem a_X10_jumped_130 : At m_X10_jumped 130 (.iadd) 1 131 := at_i (by decide +kernel) rfl
theorem a_X10_jumped_131 : At m_X10_jumped 131 (.istore 5) 2 133 := at_i (by decide +kernel) rfl
theorem a_X10_jumped_133 : AtJ m_X10_jumped 133 (.goto (-104)) (-104) 29 136 := at_j (by decide +kernel) (by decide) rfl
theorem a_X10_jumped_136 : At m_X10_jumped 136 (.iload 4) 2 138 := at_i (by decide +kernel) rfl
theorem a_X10_jumped_138 : At m_X10_jumped 138 (.ireturn) 1 139 := at_i (by decide +kernel) rfl
def f_X10_jumped_b97 (a1 : Int32) (a2 : Int32)  (Q : Int32 → Mem → Prop) (K29 : Int32 → Int32 → Int32 → Mem → Prop) (v3 : Int32) (v5 : Int32) (v6 : Int32) (s0 : Int32) (s1 : Int32) (h : Mem) : Prop :=
  ∀ v_12 : Int32, v_12 = s1 ||| s0 →
  if v6 = 0 then (
    f_X10_takes v5 h fun r_17 h_16 =>
    ∀ v_18 : Int32, v_18 = v3 - r_17 →
    ∀ v_19 : Int32, v_19 = v5 + ((1 : Int32) + v6) →
    K29 v_18 v_12 v_19 h_16)
  else (
    ∀ v_14 : Int32, v_14 = v3 - ((7 : Int32) + ((3 : Int32) * v6)) →
    ∀ v_15 : Int32, v_15 = v5 + ((1 : Int32) + v6) →
    K29 v_14 v_12 v_15 h)
set_option maxRecDepth 20000 in
theorem t_X10_jumped_b97 (a1 : Int32) (a2 : Int32)    (Q : Int32 → Mem → Prop) (K29 : Int32 → Int32 → Int32 → Mem → Prop) (hK29 : ∀ (v3 : Int32) (v4 : Int32) (v5 : Int32) h, K29 v3 v4 v5 h → EV m_X10_jumped (GI Q) 29 [(0, .ref 43), (2, .int a2), (3, .int v3), (4, .int v4), (5, .int v5)] [] h) (v3 : Int32) (v5 : Int32) (v6 : Int32) (s0 : Int32) (s1 : Int32) (h : Mem) (hyp : f_X10_jumped_b97 a1 a2  Q K29 v3 v5 v6 s0 s1 h) : EV m_X10_jumped (GI Q) 97 [(0, .ref 43), (2, .int a2), (3, .int v3), (5, .int v5), (6, .int v6)] [.int s0, .int s1] h := by
  unfold f_X10_jumped_b97 at hyp
  refine ge_ior a_X10_jumped_97 ?_
  refine ge_topi (fun v_12 ev_12 => ?_)
  have hyp := hyp v_12 ev_12
  refine ge_istore (lv' := [(4, .int v_12), (0, .ref 43), (2, .int a2), (3, .int v3), (5, .int v5), (6, .int v6)]) a_X10_jumped_98 (Nat.le_of_ble_eq_true rfl) rfl ?_
  refine ge_iload_n a_X10_jumped_100 rfl 3 rfl ?_
  refine ge_iload a_X10_jumped_101 5 rfl ?_
  refine ge_if_ne a_X10_jumped_103 (fun c_13 => ?_) (fun c_13 => ?_)
  · have hyp := gm_in hyp c_13
    refine ge_bipush (v := 7) a_X10_jumped_115 rfl ?_
    refine ge_iconst (v := 3) a_X10_jumped_117 rfl ?_
    refine ge_iload a_X10_jumped_118 5 rfl ?_
    refine ge_imul a_X10_jumped_120 ?_
    refine ge_iadd a_X10_jumped_121 ?_
    refine ge_isub a_X10_jumped_122 ?_
    refine ge_topi (fun v_14 ev_14 => ?_)
    have hyp := hyp v_14 ev_14
    refine ge_istore_n (lv' := [(3, .int v_14), (4, .int v_12), (0, .ref 43), (2, .int a2), (5, .int v5), (6, .int v6)]) a_X10_jumped_123 rfl (Nat.le_of_ble_eq_true rfl) rfl ?_
    refine ge_iload a_X10_jumped_124 4 rfl ?_
    refine ge_iconst (v := 1) a_X10_jumped_126 rfl ?_
    refine ge_iload a_X10_jumped_127 5 rfl ?_
    refine ge_iadd a_X10_jumped_129 ?_
    refine ge_iadd a_X10_jumped_130 ?_
    refine ge_topi (fun v_15 ev_15 => ?_)
    have hyp := hyp v_15 ev_15
    refine ge_istore (lv' := [(5, .int v_15), (3, .int v_14), (4, .int v_12), (0, .ref 43), (2, .int a2), (6, .int v6)]) a_X10_jumped_131 (Nat.le_of_ble_eq_true rfl) rfl ?_
    refine ge_goto a_X10_jumped_133 ?_
    exact ge_sub [3, 4, 1, 2, 0] rfl (hK29 v_14 v_12 v_15 h hyp)
  · have hyp := gm_ip hyp c_13
    refine ge_aload_n a_X10_jumped_106 rfl 1 rfl ?_
    refine ge_iload a_X10_jumped_107 4 rfl ?_
    refine ge_cVI [.int v5] (rest := [.int v3]) a_X10_jumped_109 ok_X10_takes lk_X10_106 ⟨Nat.le_of_ble_eq_true rfl, Nat.le_of_ble_eq_true rfl⟩ (rfl : gm_cls 43 = 9) vc_9 (by decide) rfl rfl (Nat.le_of_ble_eq_true rfl) (t_X10_takes v5  h _ hyp) (fun r_17 h_16 hyp => ?_)
    refine ge_goto a_X10_jumped_112 ?_
    refine ge_isub a_X10_jumped_122 ?_
    refine ge_topi (fun v_18 ev_18 => ?_)
    have hyp := hyp v_18 ev_18
    refine ge_istore_n (lv' := [(3, .int v_18), (4, .int v_12), (0, .ref 43), (2, .int a2), (5, .int v5), (6, .int v6)]) a_X10_jumped_123 rfl (Nat.le_of_ble_eq_true rfl) rfl ?_
    refine ge_iload a_X10_jumped_124 4 rfl ?_
    refine ge_iconst (v := 1) a_X10_jumped_126 rfl ?_
    refine ge_iload a_X10_jumped_127 5 rfl ?_
    refine ge_iadd a_X10_jumped_129 ?_
    refine ge_iadd a_X10_jumped_130 ?_
    refine ge_topi (fun v_19 ev_19 => ?_)
    have hyp := hyp v_19 ev_19
    refine ge_istore (lv' := [(5, .int v_19), (3, .int v_18), (4, .int v_12), (0, .ref 43), (2, .int a2), (6, .int v6)]) a_X10_jumped_131 (Nat.le_of_ble_eq_true rfl) rfl ?_
    refine ge_goto a_X10_jumped_133 ?_
    exact ge_sub [3, 4, 1, 2, 0] rfl (hK29 v_18 v_12 v_19 h_16 hyp)
def f_X10_jumped_b82 (a1 : Int32) (a2 : Int32)  (Q : Int32 → Mem → Prop) (K29 : Int32 → Int32 → Int32 → Mem → Prop) (v3 : Int32) (v4 : Int32) (v5 : Int32) (v6 : Int32) (h : Mem) : Prop :=
  if v6 = 0 then (
    f_X10_jumped_b97 a1 a2  Q K29 v3 v5 v6 ((1 : Int32) <<< (v5 &&& 31)) v4 h)
  else (
    f_X10_jumped_b97 a1 a2  Q K29 v3 v5 v6 (0 : Int32) v4 h)
set_option maxRecDepth 20000 in
theorem t_X10_jumped_b82 (a1 : Int32) (a2 : Int32)    (Q : Int32 → Mem → Prop) (K29 : Int32 → Int32 → Int32 → Mem → Prop) (hK29 : ∀ (v3 : Int32) (v4 : Int32) (v5 : Int32) h, K29 v3 v4 v5 h → EV m_X10_jumped (GI Q) 29 [(0, .ref 43), (2, .int a2), (3, .int v3), (4, .int v4), (5, .int v5)] [] h) (v3 : Int32) (v4 : Int32) (v5 : Int32) (v6 : Int32) (h : Mem) (hyp : f_X10_jumped_b82 a1 a2  Q K29 v3 v4 v5 v6 h) : EV m_X10_jumped (GI Q) 82 [(0, .ref 43), (2, .int a2), (3, .int v3), (4, .int v4), (5, .int v5), (6, .int v6)] [] h := by
  unfold f_X10_jumped_b82 at hyp
  refine ge_iload a_X10_jumped_82 3 rfl ?_
  refine ge_iload a_X10_jumped_84 5 rfl ?_
  refine ge_if_ne a_X10_jumped_86 (fun c_11 => ?_) (fun c_11 => ?_)
  · have hyp := gm_in hyp c_11
    refine ge_iconst (v := 0) a_X10_jumped_96 rfl ?_
    exact ge_sub [0, 1, 2, 4, 5] rfl (t_X10_jumped_b97 a1 a2    Q K29 hK29 v3 v5 v6 (0 : Int32) v4 h hyp)
  · have hyp := gm_ip hyp c_11
    refine ge_iconst (v := 1) a_X10_jumped_89 rfl ?_
    refine ge_iload a_X10_jumped_90 4 rfl ?_
    refine ge_ishl a_X10_jumped_92 ?_
    refine ge_goto a_X10_jumped_93 ?_
    exact ge_sub [0, 1, 2, 4, 5] rfl (t_X10_jumped_b97 a1 a2    Q K29 hK29 v3 v5 v6 ((1 : Int32) <<< (v5 &&& 31)) v4 h hyp)
def f_X10_jumped_b63 (a1 : Int32) (a2 : Int32) (v3 : Int32) (v4 : Int32) (v5 : Int32) (Q : Int32 → Mem → Prop) (K29 : Int32 → Int32 → Int32 → Mem → Prop) (K63 : Int32 → Mem → Prop) (v6 : Int32) (h : Mem) : Prop :=
  f_X10_jumpFrom v5 v6 a2 h fun r_21 h_20 =>
  if r_21 = v3 then (
    f_X10_jumped_b82 a1 a2  Q K29 v3 v4 v5 v6 h_20)
  else (
    ∀ v_23 : Int32, v_23 = v6 + (1 : Int32) →
    K63 v_23 h_20)
set_option maxRecDepth 20000 in
theorem t_X10_jumped_b63 (a1 : Int32) (a2 : Int32) (v3 : Int32) (v4 : Int32) (v5 : Int32)   (Q : Int32 → Mem → Prop) (K29 : Int32 → Int32 → Int32 → Mem → Prop) (hK29 : ∀ (v3 : Int32) (v4 : Int32) (v5 : Int32) h, K29 v3 v4 v5 h → EV m_X10_jumped (GI Q) 29 [(0, .ref 43), (2, .int a2), (3, .int v3), (4, .int v4), (5, .int v5)] [] h) : ∀ (n : Nat) (v6 : Int32) (h : Mem), gm_it1 (f_X10_jumped_b63 a1 a2 v3 v4 v5 Q K29) n v6 h → EV m_X10_jumped (GI Q) 63 [(0, .ref 43), (2, .int a2), (3, .int v3), (4, .int v4), (5, .int v5), (6, .int v6)] [] h := by
  refine ge_loop1 (P := fun v6 h => EV m_X10_jumped (GI Q) 63 [(0, .ref 43), (2, .int a2), (3, .int v3), (4, .int v4), (5, .int v5), (6, .int v6)] [] h) (fun K63 hK63 v6 h hyp => ?_)
  unfold f_X10_jumped_b63 at hyp
  refine ge_aload_n a_X10_jumped_63 rfl 0 rfl ?_
  refine ge_iload a_X10_jumped_64 4 rfl ?_
  refine ge_iload a_X10_jumped_66 5 rfl ?_
  refine ge_iload_n a_X10_jumped_68 rfl 1 rfl ?_
  refine ge_cVI [.int v5, .int v6, .int a2] (rest := []) a_X10_jumped_69 ok_X10_jumpFrom lk_X10_207 ⟨Nat.le_of_ble_eq_true rfl, Nat.le_of_ble_eq_true rfl⟩ (rfl : gm_cls 43 = 9) vc_9 (by decide) rfl rfl (Nat.le_of_ble_eq_true rfl) (t_X10_jumpFrom v5 v6 a2  h _ hyp) (fun r_21 h_20 hyp => ?_)
  refine ge_iload_n a_X10_jumped_72 rfl 2 rfl ?_
  refine ge_icmp_eq a_X10_jumped_73 (fun c_22 => ?_) (fun c_22 => ?_)
  · have hyp := gm_ip hyp c_22
    exact ge_sub [0, 1, 2, 3, 4, 5] rfl (t_X10_jumped_b82 a1 a2    Q K29 hK29 v3 v4 v5 v6 h_20 hyp)
  · have hyp := gm_in hyp c_22
    obtain ⟨v_23, ev_23⟩ : ∃ y : Int32, y = v6 + (1 : Int32) := ⟨_, rfl⟩
    have hyp := hyp v_23 ev_23
    refine ge_iinc (v := v_23) (lv' := [(6, .int v_23), (0, .ref 43), (2, .int a2), (3, .int v3), (4, .int v4), (5, .int v5)]) a_X10_jumped_76 5 rfl ev_23.symm (Nat.le_of_ble_eq_true rfl) rfl ?_
    refine ge_goto a_X10_jumped_79 ?_
    exact ge_sub [1, 2, 3, 4, 5, 0] rfl (hK63 v_23 h_20 hyp)
def f_X10_jumped_b29 (a1 : Int32) (a2 : Int32)  (Q : Int32 → Mem → Prop)  (K29 : Int32 → Int32 → Int32 → Mem → Prop) (v3 : Int32) (v4 : Int32) (v5 : Int32) (h : Mem) : Prop :=
  if a2 ≤ v5 then (
    Q v4 h)
  else (
    f_X10_takes v5 h fun r_8 h_7 =>
    vp_in ((2 : Int32) * (v5 + (1 : Int32))) 26 ∧
    if v3 = r_8 + (h_7 49 (((2 : Int32) * (v5 + (1 : Int32))).toNatClampNeg)) then (
      f_X10_jumped_b82 a1 a2  Q K29 v3 v4 v5 (0 : Int32) h_7)
    else (
      gm_it1 (f_X10_jumped_b63 a1 a2 v3 v4 v5 Q K29) gm_F (1 : Int32) h_7))
set_option maxRecDepth 20000 in
theorem t_X10_jumped_b29 (a1 : Int32) (a2 : Int32)    (Q : Int32 → Mem → Prop)   : ∀ (n : Nat) (v3 : Int32) (v4 : Int32) (v5 : Int32) (h : Mem), gm_it3 (f_X10_jumped_b29 a1 a2  Q ) n v3 v4 v5 h → EV m_X10_jumped (GI Q) 29 [(0, .ref 43), (2, .int a2), (3, .int v3), (4, .int v4), (5, .int v5)] [] h := by
  refine ge_loop3 (P := fun v3 v4 v5 h => EV m_X10_jumped (GI Q) 29 [(0, .ref 43), (2, .int a2), (3, .int v3), (4, .int v4), (5, .int v5)] [] h) (fun K29 hK29 v3 v4 v5 h hyp => ?_)
  unfold f_X10_jumped_b29 at hyp
  refine ge_iload a_X10_jumped_29 4 rfl ?_
  refine ge_iload_n a_X10_jumped_31 rfl 1 rfl ?_
  refine ge_icmp_ge a_X10_jumped_32 (fun c_6 => ?_) (fun c_6 => ?_)
  · have hyp := gm_ip hyp c_6
    refine ge_iload a_X10_jumped_136 3 rfl ?_
    exact ge_iret rfl a_X10_jumped_138 hyp
  · have hyp := gm_in hyp c_6
    refine ge_iconst (v := 0) a_X10_jumped_35 rfl ?_
    refine ge_istore (lv' := [(6, .int (0 : Int32)), (0, .ref 43), (2, .int a2), (3, .int v3), (4, .int v4), (5, .int v5)]) a_X10_jumped_36 (Nat.le_of_ble_eq_true rfl) rfl ?_
    refine ge_iload_n a_X10_jumped_38 rfl 3 rfl ?_
    refine ge_aload_n a_X10_jumped_39 rfl 1 rfl ?_
    refine ge_iload a_X10_jumped_40 5 rfl ?_
    refine ge_cVI [.int v5] (rest := [.int v3]) a_X10_jumped_42 ok_X10_takes lk_X10_106 ⟨Nat.le_of_ble_eq_true rfl, Nat.le_of_ble_eq_true rfl⟩ (rfl : gm_cls 43 = 9) vc_9 (by decide) rfl rfl (Nat.le_of_ble_eq_true rfl) (t_X10_takes v5  h _ hyp) (fun r_8 h_7 hyp => ?_)
    refine ge_aload_n a_X10_jumped_45 rfl 1 rfl ?_
    refine ge_getR (q := 49) a_X10_jumped_46 fd_X10_25 (rfl : gm_cls 43 = 9) rfl ?_
    refine ge_iconst (v := 2) a_X10_jumped_49 rfl ?_
    refine ge_iload a_X10_jumped_50 5 rfl ?_
    refine ge_iconst (v := 1) a_X10_jumped_52 rfl ?_
    refine ge_iadd a_X10_jumped_53 ?_
    refine ge_imul a_X10_jumped_54 ?_
    obtain ⟨b_9, hyp⟩ := hyp
    refine ge_iald (j := ((2 : Int32) * (v5 + (1 : Int32))).toNatClampNeg) a_X10_jumped_55 ga_49 b_9 rfl ?_
    refine ge_iadd a_X10_jumped_56 ?_
    refine ge_icmp_eq a_X10_jumped_57 (fun c_10 => ?_) (fun c_10 => ?_)
    · have hyp := gm_ip hyp c_10
      exact ge_sub [1, 2, 3, 4, 5, 0] rfl (t_X10_jumped_b82 a1 a2    Q K29 hK29 v3 v4 v5 (0 : Int32) h_7 hyp)
    · have hyp := gm_in hyp c_10
      refine ge_iconst (v := 1) a_X10_jumped_60 rfl ?_
      refine ge_istore (lv' := [(6, .int (1 : Int32)), (0, .ref 43), (2, .int a2), (3, .int v3), (4, .int v4), (5, .int v5)]) a_X10_jumped_61 (Nat.le_of_ble_eq_true rfl) rfl ?_
      exact ge_sub [1, 2, 3, 4, 5, 0] rfl (t_X10_jumped_b63 a1 a2 v3 v4 v5   Q K29 hK29 gm_F (1 : Int32) h_7 hyp)
def f_X10_jumped (a1 : Int32) (a2 : Int32) (h : Mem) (Q : Int32 → Mem → Prop) : Prop :=
  f_X10_isWay a1 a2 h fun r_2 h_1 =>
  if r_2 = 0 then (
    f_X10_finding (-1000001 : Int32) h_1 fun r_25 h_24 =>
    Q r_25 h_24)
  else (
    f_X10_findWays a1 a2 h_1 fun r_5 h_4 =>
    gm_it3 (f_X10_jumped_b29 a1 a2  Q ) gm_F r_5 (0 : Int32) a1 h_4)
set_option maxRecDepth 20000 in
theorem t_X10_jumped (a1 : Int32) (a2 : Int32)  (h : Mem) (Q : Int32 → Mem → Prop) (hyp : f_X10_jumped a1 a2 h Q) : Cn m_X10_jumped [.ref 43, .int a1, .int a2] h (GI Q) := by
  refine ge_entry (lv := [(0, .ref 43), (1, .int a1), (2, .int a2)]) pn_X10 (Nat.le_of_ble_eq_true rfl) rfl ?_
  unfold f_X10_jumped at hyp
  refine ge_aload_n a_X10_jumped_0 rfl 0 rfl ?_
  refine ge_iload_n a_X10_jumped_1 rfl 1 rfl ?_
  refine ge_iload_n a_X10_jumped_2 rfl 2 rfl ?_
  refine ge_cVI [.int a1, .int a2] (rest := []) a_X10_jumped_3 ok_X10_isWay lk_X10_210 ⟨Nat.le_of_ble_eq_true rfl, Nat.le_of_ble_eq_true rfl⟩ (rfl : gm_cls 43 = 9) vc_9 (by decide) rfl rfl (Nat.le_of_ble_eq_true rfl) (t_X10_isWay a1 a2  h _ hyp) (fun r_2 h_1 hyp => ?_)
  refine ge_if_ne a_X10_jumped_6 (fun c_3 => ?_) (fun c_3 => ?_)
  · have hyp := gm_in hyp c_3
    refine ge_aload_n a_X10_jumped_16 rfl 0 rfl ?_
    refine ge_iload_n a_X10_jumped_17 rfl 1 rfl ?_
    refine ge_iload_n a_X10_jumped_18 rfl 2 rfl ?_
    refine ge_cVI [.int a1, .int a2] (rest := []) a_X10_jumped_19 ok_X10_findWays lk_X10_213 ⟨Nat.le_of_ble_eq_true rfl, Nat.le_of_ble_eq_true rfl⟩ (rfl : gm_cls 43 = 9) vc_9 (by decide) rfl rfl (Nat.le_of_ble_eq_true rfl) (t_X10_findWays a1 a2  h_1 _ hyp) (fun r_5 h_4 hyp => ?_)
    refine ge_istore_n (lv' := [(3, .int r_5), (0, .ref 43), (1, .int a1), (2, .int a2)]) a_X10_jumped_22 rfl (Nat.le_of_ble_eq_true rfl) rfl ?_
    refine ge_iconst (v := 0) a_X10_jumped_23 rfl ?_
    refine ge_istore (lv' := [(4, .int (0 : Int32)), (3, .int r_5), (0, .ref 43), (1, .int a1), (2, .int a2)]) a_X10_jumped_24 (Nat.le_of_ble_eq_true rfl) rfl ?_
    refine ge_iload_n a_X10_jumped_26 rfl 3 rfl ?_
    refine ge_istore (lv' := [(5, .int a1), (4, .int (0 : Int32)), (3, .int r_5), (0, .ref 43), (1, .int a1), (2, .int a2)]) a_X10_jumped_27 (Nat.le_of_ble_eq_true rfl) rfl ?_
    exact ge_sub [3, 5, 2, 1, 0] rfl (t_X10_jumped_b29 a1 a2    Q   gm_F r_5 (0 : Int32) a1 h_4 hyp)
  · have hyp := gm_ip hyp c_3
    refine ge_aload_n a_X10_jumped_9 rfl 0 rfl ?_
    refine ge_ldc (v := -1000001) a_X10_jumped_10 ct_X10_66 ?_
    refine ge_cVI [.int (-1000001 : Int32)] (rest := []) a_X10_jumped_12 ok_X10_finding lk_X10_83 ⟨Nat.le_of_ble_eq_true rfl, Nat.le_of_ble_eq_true rfl⟩ (rfl : gm_cls 43 = 9) vc_9 (by decide) rfl rfl (Nat.le_of_ble_eq_true rfl) (t_X10_finding (-1000001 : Int32)  h_1 _ hyp) (fun r_25 h_24 hyp => ?_)
    exact ge_iret rfl a_X10_jumped_15 hyp

theorem a_X10_findLed_0 : At m_X10_findLed 0 (.aload_n 0) 1 1 := at_i (by decide +kernel) rfl
theorem a_X10_findLed_1 : At m_X10_findLed 1 (.getfield 9) 3 4 := at_i (by decide +kernel) rfl
theorem a_X10_findLed_4 : At m_X10_findLed 4 (.aload_n 0) 1 5 := at_i (by decide +kernel) rfl
theorem a_X10_findLed_5 : At m_X10_findLed 5 (.getfield 16) 3 8 := at_i (by decide +kernel) rfl
theorem a_X10_findLed_8 : At m_X10_findLed 8 (.invokestatic 67) 3 11 := at_i (by decide +kernel) rfl
theorem a_X10_findLed_11 : At m_X10_findLed 11 (.aload_n 0) 1 12 := at_i (by decide +kernel) rfl
theorem a_X10_findLed_12 : At m_X10_findLed 12 (.invokevirtual 141) 3 15 := at_i (by decide +kernel) rfl
theorem a_X10_findLed_15 : At m_X10_findLed 15 (.aload_n 0) 1 16 := at_i (by decide +kernel) rfl
theorem a_X10_findLed_16 : At m_X10_findLed 16 (.getfield 57) 3 19 := at_i (by decide +kernel) rfl
theorem a_X10_findLed_19 : At m_X10_findLed 19 (.iload_n 1) 1 20 := at_i (by decide +kernel) rfl
theorem a_X10_findLed_20 : At m_X10_findLed 20 (.iaload) 1 21 := at_i (by decide +kernel) rfl
theorem a_X10_findLed_21 : At m_X10_findLed 21 (.invokestatic 128) 3 24 := at_i (by decide +kernel) rfl
theorem a_X10_findLed_24 : At m_X10_findLed 24 (.istore_n 2) 1 25 := at_i (by decide +kernel) rfl
theorem a_X10_findLed_25 : At m_X10_findLed 25 (.iconst 0) 1 26 := at_i (by decide +kernel) rfl
theorem a_X10_findLed_26 : At m_X10_findLed 26 (.istore_n 3) 1 27 := at_i (by decide +kernel) rfl
theorem a_X10_findLed_27 : At m_X10_findLed 27 (.aload_n 0) 1 28 := at_i (by decide +kernel) rfl
theorem a_X10_findLed_28 : At m_X10_findLed 28 (.iconst 0) 1 29 := at_i (by decide +kernel) rfl
theorem a_X10_findLed_29 : At m_X10_findLed 29 (.putfield 216) 3 32 := at_i (by decide +kernel) rfl
theorem a_X10_findLed_32 : At m_X10_findLed 32 (.aload_n 0) 1 33 := at_i (by decide +kernel) rfl
theorem a_X10_findLed_33 : At m_X10_findLed 33 (.iconst (-1)) 1 34 := at_i (by decide +kernel) rfl
theorem a_X10_findLed_34 : At m_X10_findLed 34 (.putfield 219) 3 37 := at_i (by decide +kernel) rfl
theorem a_X10_findLed_37 : At m_X10_findLed 37 (.iconst 0) 1 38 := at_i (by decide +kernel) rfl
theorem a_X10_findLed_38 : At m_X10_findLed 38 (.istore 4) 2 40 := at_i (by decide +kernel) rfl
theorem a_X10_findLed_40 : At m_X10_findLed 40 (.iload 4) 2 42 := at_i (by decide +kernel) rfl
theorem a_X10_findLed_42 : At m_X10_findLed 42 (.bipush 121) 2 44 := at_i (by decide +kernel) rfl
theorem a_X10_findLed_44 : AtJ m_X10_findLed 44 (.if_icmp .ge 163) (163) 207 47 := at_j (by decide +kernel) (by decide) rfl
theorem a_X10_findLed_47 : At m_X10_findLed 47 (.aload_n 0) 1 48 := at_i (by decide +kernel) rfl
theorem a_X10_findLed_48 : At m_X10_findLed 48 (.getfield 16) 3 51 := at_i (by decide +kernel) rfl
theorem a_X10_findLed_51 : At m_X10_findLed 51 (.aload_n 0) 1 52 := at_i (by decide +kernel) rfl
theorem a_X10_findLed_52 : At m_X10_findLed 52 (.getfield 9) 3 55 := at_i (by decide +kernel) rfl
theorem a_X10_findLed_55 : At m_X10_findLed 55 (.invokestatic 67) 3 58 := at_i (by decide +kernel) rfl
theorem a_X10_findLed_58 : At m_X10_findLed 58 (.aload_n 0) 1 59 := at_i (by decide +kernel) rfl
theorem a_X10_findLed_59 : At m_X10_findLed 59 (.getfield 9) 3 62 := at_i (by decide +kernel) rfl
theorem a_X10_findLed_62 : At m_X10_findLed 62 (.bipush 8) 2 64 := at_i (by decide +kernel) rfl
theorem a_X10_findLed_64 : At m_X10_findLed 64 (.iload 4) 2 66 := at_i (by decide +kernel) rfl
theorem a_X10_findLed_66 : At m_X10_findLed 66 (.bipush 11) 2 68 := at_i (by decide +kernel) rfl
theorem a_X10_findLed_68 : At m_X10_findLed 68 (.idiv) 1 69 := at_i (by decide +kernel) rfl
theorem a_X10_findLed_69 : At m_X10_findLed 69 (.iastore) 1 70 := at_i (by decide +kernel) rfl
theorem a_X10_findLed_70 : At m_X10_findLed 70 (.aload_n 0) 1 71 := at_i (by decide +kernel) rfl
theorem a_X10_findLed_71 : At m_X10_findLed 71 (.getfield 9) 3 74 := at_i (by decide +kernel) rfl
theorem a_X10_findLed_74 : At m_X10_findLed 74 (.bipush 9) 2 76 := at_i (by decide +kernel) rfl
theorem a_X10_findLed_76 : At m_X10_findLed 76 (.iload 4) 2 78 := at_i (by decide +kernel) rfl
theorem a_X10_findLed_78 : At m_X10_findLed 78 (.bipush 11) 2 80 := at_i (by decide +kernel) rfl
theorem a_X10_findLed_80 : At m_X10_findLed 80 (.irem) 1 81 := at_i (by decide +kernel) rfl
theorem a_X10_findLed_81 : At m_X10_findLed 81 (.iastore) 1 82 := at_i (by decide +kernel) rfl
theorem a_X10_findLed_82 : At m_X10_findLed 82 (.iconst 1) 1 83 := at_i (by decide +kernel) rfl
theorem a_X10_findLed_83 : At m_X10_findLed 83 (.istore 5) 2 85 := at_i (by decide +kernel) rfl
theorem a_X10_findLed_85 : At m_X10_findLed 85 (.iconst 0) 1 86 := at_i (by decide +kernel) rfl
theorem a_X10_findLed_86 : At m_X10_findLed 86 (.istore 6) 2 88 := at_i (by decide +kernel) rfl
theorem a_X10_findLed_88 : At m_X10_findLed 88 (.iload 6) 2 90 := at_i (by decide +kernel) rfl
theorem a_X10_findLed_90 : At m_X10_findLed 90 (.iload_n 2) 1 91 := at_i (by decide +kernel) rfl
theorem a_X10_findLed_91 : AtJ m_X10_findLed 91 (.if_icmp .ge 40) (40) 131 94 := at_j (by decide +kernel) (by decide) rfl
theorem a_X10_findLed_94 : At m_X10_findLed 94 (.iload 5) 2 96 := at_i (by decide +kernel) rfl
theorem a_X10_findLed_96 : AtJ m_X10_findLed 96 (.ifCond .eq 35) (35) 131 99 := at_j (by decide +kernel) (by decide) rfl
theorem a_X10_findLed_99 : At m_X10_findLed 99 (.aload_n 0) 1 100 := at_i (by decide +kernel) rfl
theorem a_X10_findLed_100 : At m_X10_findLed 100 (.invokevirtual 138) 3 103 := at_i (by decide +kernel) rfl
theorem a_X10_findLed_103 : At m_X10_findLed 103 (.aload_n 0) 1 104 := at_i (by decide +kernel) rfl
theorem a_X10_findLed_104 : At m_X10_findLed 104 (.getfield 60) 3 107 := at_i (by decide +kernel) rfl
theorem a_X10_findLed_107 : At m_X10_findLed 107 (.bipush 40) 2 109 := at_i (by decide +kernel) rfl
theorem a_X10_findLed_109 : At m_X10_findLed 109 (.iload_n 1) 1 110 := at_i (by decide +kernel) rfl
theorem a_X10_findLed_110 : At m_X10_findLed 110 (.imul) 1 111 := at_i (by decide +kernel) rfl
theorem a_X10_findLed_111 : At m_X10_findLed 111 (.iload 6) 2 113 := at_i (by decide +kernel) rfl
theorem a_X10_findLed_113 : At m_X10_findLed 113 (.iadd) 1 114 := at_i (by decide +kernel) rfl
theorem a_X10_findLed_114 : At m_X10_findLed 114 (.iaload) 1 115 := at_i (by decide +kernel) rfl
theorem a_X10_findLed_115 : AtJ m_X10_findLed 115 (.if_icmp .ne 7) (7) 122 118 := at_j (by decide +kernel) (by decide) rfl
theorem a_X10_findLed_118 : At m_X10_findLed 118 (.iconst 1) 1 119 := at_i (by decide +kernel) rfl
theorem a_X10_findLed_119 : AtJ m_X10_findLed 119 (.goto 4) (4) 123 122 := at_j (by decide +kernel) (by decide) rfl
theorem a_X10_findLed_122 : At m_X10_findLed 122 (.iconst 0) 1 123 := at_i (by decide +kernel) rfl
theorem a_X10_findLed_123 : At m_X10_findLed 123 (.istore 5) 2 125 := at_i (by decide +kernel) rfl
theorem a_X10_findLed_125 : At m_X10_findLed 125 (.iinc 6 1) 3 128 := at_i (by decide +kernel) rfl
theorem a_X10_findLed_128 : AtJ m_X10_findLed 128 (.goto (-40)) (-40) 88 131 := at_j (by decide +kernel) (by decide) rfl
theorem a_X10_findLed_131 : At m_X10_findLed 131 (.iload_n 3) 1 132 := at_i (by decide +kernel) rfl
theorem a_X10_findLed_132 : At m_X10_findLed 132 (.iload 5) 2 134 := at_i (by decide +kernel) rfl
theorem a_X10_findLed_134 : AtJ m_X10_findLed 134 (.ifCond .eq 7) (7) 141 137 := at_j (by decide +kernel) (by decide) rfl
theorem a_X10_findLed_137 : At m_X10_findLed 137 (.iconst 1) 1 138 := at_i (by decide +kernel) rfl
theorem a_X10_findLed_138 : AtJ m_X10_findLed 138 (.goto 4) (4) 142 141 := at_j (by decide +kernel) (by decide) rfl
theorem a_X10_findLed_141 : At m_X10_findLed 141 (.iconst 0) 1 142 := at_i (by decide +kernel) rfl
theorem a_X10_findLed_142 : At m_X10_findLed 142 (.iadd) 1 143 := at_i (by decide +kernel) rfl
theorem a_X10_findLed_143 : At m_X10_findLed 143 (.istore_n 3) 1 144 := at_i (by decide +kernel) rfl
theorem a_X10_findLed_144 : At m_X10_findLed 144 (.aload_n 0) 1 145 := at_i (by decide +kernel) rfl
theorem a_X10_findLed_145 : At m_X10_findLed 145 (.dup) 1 146 := at_i (by decide +kernel) rfl
theorem a_X10_findLed_146 : At m_X10_findLed 146 (.getfield 216) 3 149 := at_i (by decide +kernel) rfl
theorem a_X10_findLed_149 : At m_X10_findLed 149 (.iload 5) 2 151 := at_i (by decide +kernel) rfl
theorem a_X10_findLed_151 : AtJ m_X10_findLed 151 (.ifCond .eq 20) (20) 171 154 := at_j (by decide +kernel) (by decide) rfl
theorem a_X10_findLed_154 : At m_X10_findLed 154 (.iload 4) 2 156 := at_i (by decide +kernel) rfl
theorem a_X10_findLed_156 : At m_X10_findLed 156 (.bipush 11) 2 158 := at_i (by decide +kernel) rfl
theorem a_X10_findLed_158 : At m_X10_findLed 158 (.idiv) 1 159 := at_i (by decide +kernel) rfl
theorem a_X10_findLed_159 : At m_X10_findLed 159 (.iload 4) 2 161 := at_i (by decide +kernel) rfl
theorem a_X10_findLed_161 : At m_X10_findLed 161 (.bipush 11) 2 163 := at_i (by decide +kernel) rfl
theorem a_X10_findLed_163 : At m_X10_findLed 163 (.irem) 1 164 := at_i (by decide +kernel) rfl
theorem a_X10_findLed_164 : AtJ m_X10_findLed 164 (.if_icmp .ge 7) (7) 171 167 := at_j (by decide +kernel) (by decide) rfl
theorem a_X10_findLed_167 : At m_X10_findLed 167 (.iconst 1) 1 168 := at_i (by decide +kernel) rfl
theorem a_X10_findLed_168 : AtJ m_X10_findLed 168 (.goto 4) (4) 172 171 := at_j (by decide +kernel) (by decide) rfl
theorem a_X10_findLed_171 : At m_X10_findLed 171 (.iconst 0) 1 172 := at_i (by decide +kernel) rfl
theorem a_X10_findLed_172 : At m_X10_findLed 172 (.iadd) 1 173 := at_i (by decide +kernel) rfl
theorem a_X10_findLed_173 : At m_X10_findLed 173 (.putfield 216) 3 176 := at_i (by decide +kernel) rfl
theorem a_X10_findLed_176 : At m_X10_findLed 176 (.aload_n 0) 1 177 := at_i (by decide +kernel) rfl
theorem a_X10_findLed_177 : At m_X10_findLed 177 (.iload 5) 2 179 := at_i (by decide +kernel) rfl
theorem a_X10_findLed_179 : AtJ m_X10_findLed 179 (.ifCond .eq 15) (15) 194 182 := at_j (by decide +kernel) (by decide) rfl
theorem a_X10_findLed_182 : At m_X10_findLed 182 (.aload_n 0) 1 183 := at_i (by decide +kernel) rfl
theorem a_X10_findLed_183 : At m_X10_findLed 183 (.getfield 219) 3 186 := at_i (by decide +kernel) rfl
theorem a_X10_findLed_186 : AtJ m_X10_findLed 186 (.ifCond .ge 8) (8) 194 189 := at_j (by decide +kernel) (by decide) rfl
theorem a_X10_findLed_189 : At m_X10_findLed 189 (.iload 4) 2 191 := at_i (by decide +kernel) rfl
theorem a_X10_findLed_191 : AtJ m_X10_findLed 191 (.goto 7) (7) 198 194 := at_j (by decide +kernel) (by decide) rfl
theorem a_X10_findLed_194 : At m_X10_findLed 194 (.aload_n 0) 1 195 := at_i (by decide +kernel) rfl
theorem a_X10_findLed_195 : At m_X10_findLed 195 (.getfield 219) 3 198 := at_i (by decide +kernel) rfl
theorem a_X10_findLed_198 : At m_X10_findLed 198 (.putfield 219) 3 201 := at_i (by decide +kernel) rfl
theorem a_X10_findLed_201 : At m_X10_findLed 201 (.iinc 4 1) 3 204 := at_i (by decide +kernel) rfl
theorem a_X10_findLed_204 : AtJ m_X10_findLed 204 (.goto (-164)) (-164) 40 207 := at_j (by decide +kernel) (by decide) rfl
theorem a_X10_findLed_207 : At m_X10_findLed 207 (.aload_n 0) 1 208 := at_i (by decide +kernel) rfl
theorem a_X10_findLed_208 : At m_X10_findLed 208 (.iload_n 3) 1 209 := at_i (by decide +kernel) rfl
theorem a_X10_findLed_209 : At m_X10_findLed 209 (.invokevirtual 149) 3 212 := at_i (by decide +kernel) rfl
theorem a_X10_findLed_212 : At m_X10_findLed 212 (.ireturn) 1 213 := at_i (by decide +kernel) rfl
def f_X10_findLed_b172 (a1 : Int32) (v_5 : Int32) (Q : Int32 → Mem → Prop) (K40 : Int32 → Int32 → Mem → Prop) (v3 : Int32) (v4 : Int32) (v5 : Int32) (s0 : Int32) (s1 : Int32) (h : Mem) : Prop :=
  ∀ h_18 : Mem, h_18 = gm_st h 43 11 (s1 + s0) →
  if v5 = 0 then (
    ∀ h_20 : Mem, h_20 = gm_st h_18 43 12 (h_18 43 12) →
    ∀ v_21 : Int32, v_21 = v4 + (1 : Int32) →
    K40 v3 v_21 h_20)
  else (
    if 0 ≤ h_18 43 12 then (
      ∀ h_23 : Mem, h_23 = gm_st h_18 43 12 (h_18 43 12) →
      ∀ v_24 : Int32, v_24 = v4 + (1 : Int32) →
      K40 v3 v_24 h_23)
    else (
      ∀ h_25 : Mem, h_25 = gm_st h_18 43 12 v4 →
      ∀ v_26 : Int32, v_26 = v4 + (1 : Int32) →
      K40 v3 v_26 h_25))
set_option maxRecDepth 20000 in
theorem t_X10_findLed_b172 (a1 : Int32) (v_5 : Int32)   (Q : Int32 → Mem → Prop) (K40 : Int32 → Int32 → Mem → Prop) (hK40 : ∀ (v3 : Int32) (v4 : Int32) h, K40 v3 v4 h → EV m_X10_findLed (GI Q) 40 [(0, .ref 43), (1, .int a1), (2, .int v_5), (3, .int v3), (4, .int v4)] [] h) (v3 : Int32) (v4 : Int32) (v5 : Int32) (s0 : Int32) (s1 : Int32) (h : Mem) (hyp : f_X10_findLed_b172 a1 v_5 Q K40 v3 v4 v5 s0 s1 h) : EV m_X10_findLed (GI Q) 172 [(0, .ref 43), (1, .int a1), (2, .int v_5), (3, .int v3), (4, .int v4), (5, .int v5)] [.int s0, .int s1, .ref 43] h := by
  unfold f_X10_findLed_b172 at hyp
  refine ge_iadd a_X10_findLed_172 ?_
  refine ge_putI a_X10_findLed_173 pd_X10_216 (rfl : gm_cls 43 = 9) ?_
  refine ge_nm (fun h_18 eh_18 => ?_)
  have hyp := hyp h_18 eh_18
  refine ge_aload_n a_X10_findLed_176 rfl 0 rfl ?_
  refine ge_iload a_X10_findLed_177 5 rfl ?_
  refine ge_if_eq a_X10_findLed_179 (fun c_19 => ?_) (fun c_19 => ?_)
  · have hyp := gm_ip hyp c_19
    refine ge_aload_n a_X10_findLed_194 rfl 0 rfl ?_
    refine ge_getI a_X10_findLed_195 fd_X10_219 (rfl : gm_cls 43 = 9) ?_
    refine ge_putI a_X10_findLed_198 pd_X10_219 (rfl : gm_cls 43 = 9) ?_
    refine ge_nm (fun h_20 eh_20 => ?_)
    have hyp := hyp h_20 eh_20
    obtain ⟨v_21, ev_21⟩ : ∃ y : Int32, y = v4 + (1 : Int32) := ⟨_, rfl⟩
    have hyp := hyp v_21 ev_21
    refine ge_iinc (v := v_21) (lv' := [(4, .int v_21), (0, .ref 43), (1, .int a1), (2, .int v_5), (3, .int v3), (5, .int v5)]) a_X10_findLed_201 4 rfl ev_21.symm (Nat.le_of_ble_eq_true rfl) rfl ?_
    refine ge_goto a_X10_findLed_204 ?_
    exact ge_sub [1, 2, 3, 4, 0] rfl (hK40 v3 v_21 h_20 hyp)
  · have hyp := gm_in hyp c_19
    refine ge_aload_n a_X10_findLed_182 rfl 0 rfl ?_
    refine ge_getI a_X10_findLed_183 fd_X10_219 (rfl : gm_cls 43 = 9) ?_
    refine ge_if_ge a_X10_findLed_186 (fun c_22 => ?_) (fun c_22 => ?_)
    · have hyp := gm_ip hyp c_22
      refine ge_aload_n a_X10_findLed_194 rfl 0 rfl ?_
      refine ge_getI a_X10_findLed_195 fd_X10_219 (rfl : gm_cls 43 = 9) ?_
      refine ge_putI a_X10_findLed_198 pd_X10_219 (rfl : gm_cls 43 = 9) ?_
      refine ge_nm (fun h_23 eh_23 => ?_)
      have hyp := hyp h_23 eh_23
      obtain ⟨v_24, ev_24⟩ : ∃ y : Int32, y = v4 + (1 : Int32) := ⟨_, rfl⟩
      have hyp := hyp v_24 ev_24
      refine ge_iinc (v := v_24) (lv' := [(4, .int v_24), (0, .ref 43), (1, .int a1), (2, .int v_5), (3, .int v3), (5, .int v5)]) a_X10_findLed_201 4 rfl ev_24.symm (Nat.le_of_ble_eq_true rfl) rfl ?_
      refine ge_goto a_X10_findLed_204 ?_
      exact ge_sub [1, 2, 3, 4, 0] rfl (hK40 v3 v_24 h_23 hyp)
    · have hyp := gm_in hyp c_22
      refine ge_iload a_X10_findLed_189 4 rfl ?_
      refine ge_goto a_X10_findLed_191 ?_
      refine ge_putI a_X10_findLed_198 pd_X10_219 (rfl : gm_cls 43 = 9) ?_
      refine ge_nm (fun h_25 eh_25 => ?_)
      have hyp := hyp h_25 eh_25
      obtain ⟨v_26, ev_26⟩ : ∃ y : Int32, y = v4 + (1 : Int32) := ⟨_, rfl⟩
      have hyp := hyp v_26 ev_26
      refine ge_iinc (v := v_26) (lv' := [(4, .int v_26), (0, .ref 43), (1, .int a1), (2, .int v_5), (3, .int v3), (5, .int v5)]) a_X10_findLed_201 4 rfl ev_26.symm (Nat.le_of_ble_eq_true rfl) rfl ?_
      refine ge_goto a_X10_findLed_204 ?_
      exact ge_sub [1, 2, 3, 4, 0] rfl (hK40 v3 v_26 h_25 hyp)
def f_X10_findLed_b171 (a1 : Int32) (v_5 : Int32) (Q : Int32 → Mem → Prop) (K40 : Int32 → Int32 → Mem → Prop) (v3 : Int32) (v4 : Int32) (v5 : Int32) (s0 : Int32) (h : Mem) : Prop :=
  f_X10_findLed_b172 a1 v_5 Q K40 v3 v4 v5 (0 : Int32) s0 h
set_option maxRecDepth 20000 in
theorem t_X10_findLed_b171 (a1 : Int32) (v_5 : Int32)   (Q : Int32 → Mem → Prop) (K40 : Int32 → Int32 → Mem → Prop) (hK40 : ∀ (v3 : Int32) (v4 : Int32) h, K40 v3 v4 h → EV m_X10_findLed (GI Q) 40 [(0, .ref 43), (1, .int a1), (2, .int v_5), (3, .int v3), (4, .int v4)] [] h) (v3 : Int32) (v4 : Int32) (v5 : Int32) (s0 : Int32) (h : Mem) (hyp : f_X10_findLed_b171 a1 v_5 Q K40 v3 v4 v5 s0 h) : EV m_X10_findLed (GI Q) 171 [(0, .ref 43), (1, .int a1), (2, .int v_5), (3, .int v3), (4, .int v4), (5, .int v5)] [.int s0, .ref 43] h := by
  unfold f_X10_findLed_b171 at hyp
  refine ge_iconst (v := 0) a_X10_findLed_171 rfl ?_
  exact ge_sub [0, 1, 2, 3, 4, 5] rfl (t_X10_findLed_b172 a1 v_5   Q K40 hK40 v3 v4 v5 (0 : Int32) s0 h hyp)
def f_X10_findLed_b142 (a1 : Int32) (v_5 : Int32) (Q : Int32 → Mem → Prop) (K40 : Int32 → Int32 → Mem → Prop) (v4 : Int32) (v5 : Int32) (s0 : Int32) (s1 : Int32) (h : Mem) : Prop :=
  ∀ v_16 : Int32, v_16 = s1 + s0 →
  if v5 = 0 then (
    f_X10_findLed_b171 a1 v_5 Q K40 v_16 v4 v5 (h 43 11) h)
  else (
    if v4 - v4 / (11 : Int32) * (11 : Int32) ≤ v4 / (11 : Int32) then (
      f_X10_findLed_b171 a1 v_5 Q K40 v_16 v4 v5 (h 43 11) h)
    else (
      f_X10_findLed_b172 a1 v_5 Q K40 v_16 v4 v5 (1 : Int32) (h 43 11) h))
set_option maxRecDepth 20000 in
theorem t_X10_findLed_b142 (a1 : Int32) (v_5 : Int32)   (Q : Int32 → Mem → Prop) (K40 : Int32 → Int32 → Mem → Prop) (hK40 : ∀ (v3 : Int32) (v4 : Int32) h, K40 v3 v4 h → EV m_X10_findLed (GI Q) 40 [(0, .ref 43), (1, .int a1), (2, .int v_5), (3, .int v3), (4, .int v4)] [] h) (v4 : Int32) (v5 : Int32) (s0 : Int32) (s1 : Int32) (h : Mem) (hyp : f_X10_findLed_b142 a1 v_5 Q K40 v4 v5 s0 s1 h) : EV m_X10_findLed (GI Q) 142 [(0, .ref 43), (1, .int a1), (2, .int v_5), (4, .int v4), (5, .int v5)] [.int s0, .int s1] h := by
  unfold f_X10_findLed_b142 at hyp
  refine ge_iadd a_X10_findLed_142 ?_
  refine ge_topi (fun v_16 ev_16 => ?_)
  have hyp := hyp v_16 ev_16
  refine ge_istore_n (lv' := [(3, .int v_16), (0, .ref 43), (1, .int a1), (2, .int v_5), (4, .int v4), (5, .int v5)]) a_X10_findLed_143 rfl (Nat.le_of_ble_eq_true rfl) rfl ?_
  refine ge_aload_n a_X10_findLed_144 rfl 1 rfl ?_
  refine ge_dup a_X10_findLed_145 rfl ?_
  refine ge_getI a_X10_findLed_146 fd_X10_216 (rfl : gm_cls 43 = 9) ?_
  refine ge_iload a_X10_findLed_149 5 rfl ?_
  refine ge_if_eq a_X10_findLed_151 (fun c_17 => ?_) (fun c_17 => ?_)
  · have hyp := gm_ip hyp c_17
    exact ge_sub [1, 2, 3, 0, 4, 5] rfl (t_X10_findLed_b171 a1 v_5   Q K40 hK40 v_16 v4 v5 (h 43 11) h hyp)
  · have hyp := gm_in hyp c_17
    refine ge_iload a_X10_findLed_154 4 rfl ?_
    refine ge_bipush (v := 11) a_X10_findLed_156 rfl ?_
    refine ge_idiv a_X10_findLed_158 (by decide) ?_
    refine ge_iload a_X10_findLed_159 4 rfl ?_
    refine ge_bipush (v := 11) a_X10_findLed_161 rfl ?_
    refine ge_irem a_X10_findLed_163 (by decide) ?_
    refine ge_icmp_ge a_X10_findLed_164 (fun c_27 => ?_) (fun c_27 => ?_)
    · have hyp := gm_ip hyp c_27
      exact ge_sub [1, 2, 3, 0, 4, 5] rfl (t_X10_findLed_b171 a1 v_5   Q K40 hK40 v_16 v4 v5 (h 43 11) h hyp)
    · have hyp := gm_in hyp c_27
      refine ge_iconst (v := 1) a_X10_findLed_167 rfl ?_
      refine ge_goto a_X10_findLed_168 ?_
      exact ge_sub [1, 2, 3, 0, 4, 5] rfl (t_X10_findLed_b172 a1 v_5   Q K40 hK40 v_16 v4 v5 (1 : Int32) (h 43 11) h hyp)
def f_X10_findLed_b131 (a1 : Int32) (v_5 : Int32) (Q : Int32 → Mem → Prop) (K40 : Int32 → Int32 → Mem → Prop) (v3 : Int32) (v4 : Int32) (v5 : Int32) (h : Mem) : Prop :=
  if v5 = 0 then (
    f_X10_findLed_b142 a1 v_5 Q K40 v4 v5 (0 : Int32) v3 h)
  else (
    f_X10_findLed_b142 a1 v_5 Q K40 v4 v5 (1 : Int32) v3 h)
set_option maxRecDepth 20000 in
theorem t_X10_findLed_b131 (a1 : Int32) (v_5 : Int32)   (Q : Int32 → Mem → Prop) (K40 : Int32 → Int32 → Mem → Prop) (hK40 : ∀ (v3 : Int32) (v4 : Int32) h, K40 v3 v4 h → EV m_X10_findLed (GI Q) 40 [(0, .ref 43), (1, .int a1), (2, .int v_5), (3, .int v3), (4, .int v4)] [] h) (v3 : Int32) (v4 : Int32) (v5 : Int32) (h : Mem) (hyp : f_X10_findLed_b131 a1 v_5 Q K40 v3 v4 v5 h) : EV m_X10_findLed (GI Q) 131 [(0, .ref 43), (1, .int a1), (2, .int v_5), (3, .int v3), (4, .int v4), (5, .int v5)] [] h := by
  unfold f_X10_findLed_b131 at hyp
  refine ge_iload_n a_X10_findLed_131 rfl 3 rfl ?_
  refine ge_iload a_X10_findLed_132 5 rfl ?_
  refine ge_if_eq a_X10_findLed_134 (fun c_15 => ?_) (fun c_15 => ?_)
  · have hyp := gm_ip hyp c_15
    refine ge_iconst (v := 0) a_X10_findLed_141 rfl ?_
    exact ge_sub [0, 1, 2, 4, 5] rfl (t_X10_findLed_b142 a1 v_5   Q K40 hK40 v4 v5 (0 : Int32) v3 h hyp)
  · have hyp := gm_in hyp c_15
    refine ge_iconst (v := 1) a_X10_findLed_137 rfl ?_
    refine ge_goto a_X10_findLed_138 ?_
    exact ge_sub [0, 1, 2, 4, 5] rfl (t_X10_findLed_b142 a1 v_5   Q K40 hK40 v4 v5 (1 : Int32) v3 h hyp)
def f_X10_findLed_b88 (a1 : Int32) (v_5 : Int32) (v3 : Int32) (v4 : Int32) (Q : Int32 → Mem → Prop) (K40 : Int32 → Int32 → Mem → Prop) (K88 : Int32 → Int32 → Mem → Prop) (v5 : Int32) (v6 : Int32) (h : Mem) : Prop :=
  if v_5 ≤ v6 then (
    f_X10_findLed_b131 a1 v_5 Q K40 v3 v4 v5 h)
  else (
    if v5 = 0 then (
      f_X10_findLed_b131 a1 v_5 Q K40 v3 v4 v5 h)
    else (
      f_X10_reads  h fun r_30 h_29 =>
      vp_in (((40 : Int32) * a1) + v6) 160 ∧
      if r_30 = h_29 55 ((((40 : Int32) * a1) + v6).toNatClampNeg) then (
        ∀ v_34 : Int32, v_34 = v6 + (1 : Int32) →
        K88 (1 : Int32) v_34 h_29)
      else (
        ∀ v_33 : Int32, v_33 = v6 + (1 : Int32) →
        K88 (0 : Int32) v_33 h_29)))
set_option maxRecDepth 20000 in
theorem t_X10_findLed_b88 (a1 : Int32) (v_5 : Int32) (v3 : Int32) (v4 : Int32)   (Q : Int32 → Mem → Prop) (K40 : Int32 → Int32 → Mem → Prop) (hK40 : ∀ (v3 : Int32) (v4 : Int32) h, K40 v3 v4 h → EV m_X10_findLed (GI Q) 40 [(0, .ref 43), (1, .int a1), (2, .int v_5), (3, .int v3), (4, .int v4)] [] h) : ∀ (n : Nat) (v5 : Int32) (v6 : Int32) (h : Mem), gm_it2 (f_X10_findLed_b88 a1 v_5 v3 v4 Q K40) n v5 v6 h → EV m_X10_findLed (GI Q) 88 [(0, .ref 43), (1, .int a1), (2, .int v_5), (3, .int v3), (4, .int v4), (5, .int v5), (6, .int v6)] [] h := by
  refine ge_loop2 (P := fun v5 v6 h => EV m_X10_findLed (GI Q) 88 [(0, .ref 43), (1, .int a1), (2, .int v_5), (3, .int v3), (4, .int v4), (5, .int v5), (6, .int v6)] [] h) (fun K88 hK88 v5 v6 h hyp => ?_)
  unfold f_X10_findLed_b88 at hyp
  refine ge_iload a_X10_findLed_88 6 rfl ?_
  refine ge_iload_n a_X10_findLed_90 rfl 2 rfl ?_
  refine ge_icmp_ge a_X10_findLed_91 (fun c_14 => ?_) (fun c_14 => ?_)
  · have hyp := gm_ip hyp c_14
    exact ge_sub [0, 1, 2, 3, 4, 5] rfl (t_X10_findLed_b131 a1 v_5   Q K40 hK40 v3 v4 v5 h hyp)
  · have hyp := gm_in hyp c_14
    refine ge_iload a_X10_findLed_94 5 rfl ?_
    refine ge_if_eq a_X10_findLed_96 (fun c_28 => ?_) (fun c_28 => ?_)
    · have hyp := gm_ip hyp c_28
      exact ge_sub [0, 1, 2, 3, 4, 5] rfl (t_X10_findLed_b131 a1 v_5   Q K40 hK40 v3 v4 v5 h hyp)
    · have hyp := gm_in hyp c_28
      refine ge_aload_n a_X10_findLed_99 rfl 0 rfl ?_
      refine ge_cVI [] (rest := []) a_X10_findLed_100 ok_X10_reads lk_X10_138 ⟨Nat.le_of_ble_eq_true rfl, Nat.le_of_ble_eq_true rfl⟩ (rfl : gm_cls 43 = 9) vc_9 (by decide) rfl rfl (Nat.le_of_ble_eq_true rfl) (t_X10_reads   h _ hyp) (fun r_30 h_29 hyp => ?_)
      refine ge_aload_n a_X10_findLed_103 rfl 0 rfl ?_
      refine ge_getR (q := 55) a_X10_findLed_104 fd_X10_60 (rfl : gm_cls 43 = 9) rfl ?_
      refine ge_bipush (v := 40) a_X10_findLed_107 rfl ?_
      refine ge_iload_n a_X10_findLed_109 rfl 1 rfl ?_
      refine ge_imul a_X10_findLed_110 ?_
      refine ge_iload a_X10_findLed_111 6 rfl ?_
      refine ge_iadd a_X10_findLed_113 ?_
      obtain ⟨b_31, hyp⟩ := hyp
      refine ge_iald (j := (((40 : Int32) * a1) + v6).toNatClampNeg) a_X10_findLed_114 ga_55 b_31 rfl ?_
      refine ge_icmp_ne a_X10_findLed_115 (fun c_32 => ?_) (fun c_32 => ?_)
      · have hyp := gm_in hyp c_32
        refine ge_iconst (v := 0) a_X10_findLed_122 rfl ?_
        refine ge_istore (lv' := [(5, .int (0 : Int32)), (0, .ref 43), (1, .int a1), (2, .int v_5), (3, .int v3), (4, .int v4), (6, .int v6)]) a_X10_findLed_123 (Nat.le_of_ble_eq_true rfl) rfl ?_
        obtain ⟨v_33, ev_33⟩ : ∃ y : Int32, y = v6 + (1 : Int32) := ⟨_, rfl⟩
        have hyp := hyp v_33 ev_33
        refine ge_iinc (v := v_33) (lv' := [(6, .int v_33), (5, .int (0 : Int32)), (0, .ref 43), (1, .int a1), (2, .int v_5), (3, .int v3), (4, .int v4)]) a_X10_findLed_125 6 rfl ev_33.symm (Nat.le_of_ble_eq_true rfl) rfl ?_
        refine ge_goto a_X10_findLed_128 ?_
        exact ge_sub [2, 3, 4, 5, 6, 1, 0] rfl (hK88 (0 : Int32) v_33 h_29 hyp)
      · have hyp := gm_ip hyp c_32
        refine ge_iconst (v := 1) a_X10_findLed_118 rfl ?_
        refine ge_goto a_X10_findLed_119 ?_
        refine ge_istore (lv' := [(5, .int (1 : Int32)), (0, .ref 43), (1, .int a1), (2, .int v_5), (3, .int v3), (4, .int v4), (6, .int v6)]) a_X10_findLed_123 (Nat.le_of_ble_eq_true rfl) rfl ?_
        obtain ⟨v_34, ev_34⟩ : ∃ y : Int32, y = v6 + (1 : Int32) := ⟨_, rfl⟩
        have hyp := hyp v_34 ev_34
        refine ge_iinc (v := v_34) (lv' := [(6, .int v_34), (5, .int (1 : Int32)), (0, .ref 43), (1, .int a1), (2, .int v_5), (3, .int v3), (4, .int v4)]) a_X10_findLed_125 6 rfl ev_34.symm (Nat.le_of_ble_eq_true rfl) rfl ?_
        refine ge_goto a_X10_findLed_128 ?_
        exact ge_sub [2, 3, 4, 5, 6, 1, 0] rfl (hK88 (1 : Int32) v_34 h_29 hyp)
def f_X10_findLed_b40 (a1 : Int32) (v_5 : Int32) (Q : Int32 → Mem → Prop)  (K40 : Int32 → Int32 → Mem → Prop) (v3 : Int32) (v4 : Int32) (h : Mem) : Prop :=
  if (121 : Int32) ≤ v4 then (
    f_X10_putBack v3 h fun r_10 h_9 =>
    Q r_10 h_9)
  else (
    f_X10_copyRow 46 62 44 62 h fun h_11 =>
    ∀ h_12 : Mem, h_12 = gm_st h_11 44 8 (v4 / (11 : Int32)) →
    ∀ h_13 : Mem, h_13 = gm_st h_12 44 9 (v4 - v4 / (11 : Int32) * (11 : Int32)) →
    gm_it2 (f_X10_findLed_b88 a1 v_5 v3 v4 Q K40) gm_F (1 : Int32) (0 : Int32) h_13)
set_option maxRecDepth 20000 in
theorem t_X10_findLed_b40 (a1 : Int32) (v_5 : Int32)   (Q : Int32 → Mem → Prop)   : ∀ (n : Nat) (v3 : Int32) (v4 : Int32) (h : Mem), gm_it2 (f_X10_findLed_b40 a1 v_5 Q ) n v3 v4 h → EV m_X10_findLed (GI Q) 40 [(0, .ref 43), (1, .int a1), (2, .int v_5), (3, .int v3), (4, .int v4)] [] h := by
  refine ge_loop2 (P := fun v3 v4 h => EV m_X10_findLed (GI Q) 40 [(0, .ref 43), (1, .int a1), (2, .int v_5), (3, .int v3), (4, .int v4)] [] h) (fun K40 hK40 v3 v4 h hyp => ?_)
  unfold f_X10_findLed_b40 at hyp
  refine ge_iload a_X10_findLed_40 4 rfl ?_
  refine ge_bipush (v := 121) a_X10_findLed_42 rfl ?_
  refine ge_icmp_ge a_X10_findLed_44 (fun c_8 => ?_) (fun c_8 => ?_)
  · have hyp := gm_ip hyp c_8
    refine ge_aload_n a_X10_findLed_207 rfl 0 rfl ?_
    refine ge_iload_n a_X10_findLed_208 rfl 3 rfl ?_
    refine ge_cVI [.int v3] (rest := []) a_X10_findLed_209 ok_X10_putBack lk_X10_149 ⟨Nat.le_of_ble_eq_true rfl, Nat.le_of_ble_eq_true rfl⟩ (rfl : gm_cls 43 = 9) vc_9 (by decide) rfl rfl (Nat.le_of_ble_eq_true rfl) (t_X10_putBack v3  h _ hyp) (fun r_10 h_9 hyp => ?_)
    exact ge_iret rfl a_X10_findLed_212 hyp
  · have hyp := gm_in hyp c_8
    refine ge_aload_n a_X10_findLed_47 rfl 0 rfl ?_
    refine ge_getR (q := 46) a_X10_findLed_48 fd_X10_16 (rfl : gm_cls 43 = 9) rfl ?_
    refine ge_aload_n a_X10_findLed_51 rfl 0 rfl ?_
    refine ge_getR (q := 44) a_X10_findLed_52 fd_X10_9 (rfl : gm_cls 43 = 9) rfl ?_
    refine ge_cSV [.ref 46, .ref 44] (rest := []) a_X10_findLed_55 ok_X10_copyRow lk_X10_67 ⟨Nat.le_of_ble_eq_true rfl, Nat.le_of_ble_eq_true rfl⟩ rfl rfl (Nat.le_of_ble_eq_true rfl) (t_X10_copyRow 46 62 44 62 ga_46 ga_44 h _ hyp) (fun h_11 hyp => ?_)
    refine ge_aload_n a_X10_findLed_58 rfl 0 rfl ?_
    refine ge_getR (q := 44) a_X10_findLed_59 fd_X10_9 (rfl : gm_cls 43 = 9) rfl ?_
    refine ge_bipush (v := 8) a_X10_findLed_62 rfl ?_
    refine ge_iload a_X10_findLed_64 4 rfl ?_
    refine ge_bipush (v := 11) a_X10_findLed_66 rfl ?_
    refine ge_idiv a_X10_findLed_68 (by decide) ?_
    refine ge_iast (j := 8) a_X10_findLed_69 ga_44 li_8_62.1 li_8_62.2 ?_
    refine ge_nm (fun h_12 eh_12 => ?_)
    have hyp := hyp h_12 eh_12
    refine ge_aload_n a_X10_findLed_70 rfl 0 rfl ?_
    refine ge_getR (q := 44) a_X10_findLed_71 fd_X10_9 (rfl : gm_cls 43 = 9) rfl ?_
    refine ge_bipush (v := 9) a_X10_findLed_74 rfl ?_
    refine ge_iload a_X10_findLed_76 4 rfl ?_
    refine ge_bipush (v := 11) a_X10_findLed_78 rfl ?_
    refine ge_irem a_X10_findLed_80 (by decide) ?_
    refine ge_iast (j := 9) a_X10_findLed_81 ga_44 li_9_62.1 li_9_62.2 ?_
    refine ge_nm (fun h_13 eh_13 => ?_)
    have hyp := hyp h_13 eh_13
    refine ge_iconst (v := 1) a_X10_findLed_82 rfl ?_
    refine ge_istore (lv' := [(5, .int (1 : Int32)), (0, .ref 43), (1, .int a1), (2, .int v_5), (3, .int v3), (4, .int v4)]) a_X10_findLed_83 (Nat.le_of_ble_eq_true rfl) rfl ?_
    refine ge_iconst (v := 0) a_X10_findLed_85 rfl ?_
    refine ge_istore (lv' := [(6, .int (0 : Int32)), (5, .int (1 : Int32)), (0, .ref 43), (1, .int a1), (2, .int v_5), (3, .int v3), (4, .int v4)]) a_X10_findLed_86 (Nat.le_of_ble_eq_true rfl) rfl ?_
    exact ge_sub [2, 3, 4, 5, 6, 1, 0] rfl (t_X10_findLed_b88 a1 v_5 v3 v4   Q K40 hK40 gm_F (1 : Int32) (0 : Int32) h_13 hyp)
def f_X10_findLed (a1 : Int32) (h : Mem) (Q : Int32 → Mem → Prop) : Prop :=
  f_X10_copyRow 44 62 46 62 h fun h_1 =>
  f_X10_left  h_1 fun r_3 h_2 =>
  vp_in a1 4 ∧
  ∀ v_5 : Int32, v_5 = (if h_2 54 a1.toNatClampNeg < r_3 then h_2 54 a1.toNatClampNeg else r_3) →
  ∀ h_6 : Mem, h_6 = gm_st h_2 43 11 (0 : Int32) →
  ∀ h_7 : Mem, h_7 = gm_st h_6 43 12 (-1 : Int32) →
  gm_it2 (f_X10_findLed_b40 a1 v_5 Q ) gm_F (0 : Int32) (0 : Int32) h_7
set_option maxRecDepth 20000 in
theorem t_X10_findLed (a1 : Int32)  (h : Mem) (Q : Int32 → Mem → Prop) (hyp : f_X10_findLed a1 h Q) : Cn m_X10_findLed [.ref 43, .int a1] h (GI Q) := by
  refine ge_entry (lv := [(0, .ref 43), (1, .int a1)]) pn_X10 (Nat.le_of_ble_eq_true rfl) rfl ?_
  unfold f_X10_findLed at hyp
  refine ge_aload_n a_X10_findLed_0 rfl 0 rfl ?_
  refine ge_getR (q := 44) a_X10_findLed_1 fd_X10_9 (rfl : gm_cls 43 = 9) rfl ?_
  refine ge_aload_n a_X10_findLed_4 rfl 0 rfl ?_
  refine ge_getR (q := 46) a_X10_findLed_5 fd_X10_16 (rfl : gm_cls 43 = 9) rfl ?_
  refine ge_cSV [.ref 44, .ref 46] (rest := []) a_X10_findLed_8 ok_X10_copyRow lk_X10_67 ⟨Nat.le_of_ble_eq_true rfl, Nat.le_of_ble_eq_true rfl⟩ rfl rfl (Nat.le_of_ble_eq_true rfl) (t_X10_copyRow 44 62 46 62 ga_44 ga_46 h _ hyp) (fun h_1 hyp => ?_)
  refine ge_aload_n a_X10_findLed_11 rfl 0 rfl ?_
  refine ge_cVI [] (rest := []) a_X10_findLed_12 ok_X10_left lk_X10_141 ⟨Nat.le_of_ble_eq_true rfl, Nat.le_of_ble_eq_true rfl⟩ (rfl : gm_cls 43 = 9) vc_9 (by decide) rfl rfl (Nat.le_of_ble_eq_true rfl) (t_X10_left   h_1 _ hyp) (fun r_3 h_2 hyp => ?_)
  refine ge_aload_n a_X10_findLed_15 rfl 0 rfl ?_
  refine ge_getR (q := 54) a_X10_findLed_16 fd_X10_57 (rfl : gm_cls 43 = 9) rfl ?_
  refine ge_iload_n a_X10_findLed_19 rfl 1 rfl ?_
  obtain ⟨b_4, hyp⟩ := hyp
  refine ge_iald (j := a1.toNatClampNeg) a_X10_findLed_20 ga_54 b_4 rfl ?_
  refine ge_mmin (rest := []) a_X10_findLed_21 lk_X10_128 (Nat.le_of_ble_eq_true rfl) (Nat.le_of_ble_eq_true rfl) ?_
  refine ge_topi (fun v_5 ev_5 => ?_)
  have hyp := hyp v_5 ev_5
  refine ge_istore_n (lv' := [(2, .int v_5), (0, .ref 43), (1, .int a1)]) a_X10_findLed_24 rfl (Nat.le_of_ble_eq_true rfl) rfl ?_
  refine ge_iconst (v := 0) a_X10_findLed_25 rfl ?_
  refine ge_istore_n (lv' := [(3, .int (0 : Int32)), (2, .int v_5), (0, .ref 43), (1, .int a1)]) a_X10_findLed_26 rfl (Nat.le_of_ble_eq_true rfl) rfl ?_
  refine ge_aload_n a_X10_findLed_27 rfl 2 rfl ?_
  refine ge_iconst (v := 0) a_X10_findLed_28 rfl ?_
  refine ge_putI a_X10_findLed_29 pd_X10_216 (rfl : gm_cls 43 = 9) ?_
  refine ge_nm (fun h_6 eh_6 => ?_)
  have hyp := hyp h_6 eh_6
  refine ge_aload_n a_X10_findLed_32 rfl 2 rfl ?_
  refine ge_iconst (v := -1) a_X10_findLed_33 rfl ?_
  refine ge_putI a_X10_findLed_34 pd_X10_219 (rfl : gm_cls 43 = 9) ?_
  refine ge_nm (fun h_7 eh_7 => ?_)
  have hyp := hyp h_7 eh_7
  refine ge_iconst (v := 0) a_X10_findLed_37 rfl ?_
  refine ge_istore (lv' := [(4, .int (0 : Int32)), (3, .int (0 : Int32)), (2, .int v_5), (0, .ref 43), (1, .int a1)]) a_X10_findLed_38 (Nat.le_of_ble_eq_true rfl) rfl ?_
  exact ge_sub [3, 4, 2, 1, 0] rfl (t_X10_findLed_b40 a1 v_5   Q   gm_F (0 : Int32) (0 : Int32) h_7 hyp)

theorem a_X10_isSheet_0 : At m_X10_isSheet 0 (.iload_n 0) 1 1 := at_i (by decide +kernel) rfl
theorem a_X10_isSheet_1 : At m_X10_isSheet 1 (.iconst 0) 1 2 := at_i (by decide +kernel) rfl
theorem a_X10_isSheet_2 : At m_X10_isSheet 2 (.iconst 3) 1 3 := at_i (by decide +kernel) rfl
theorem a_X10_isSheet_3 : At m_X10_isSheet 3 (.invokestatic 71) 3 6 := at_i (by decide +kernel) rfl
theorem a_X10_isSheet_6 : At m_X10_isSheet 6 (.ireturn) 1 7 := at_i (by decide +kernel) rfl
def f_X10_isSheet (a0 : Int32) (h : Mem) (Q : Int32 → Mem → Prop) : Prop :=
  f_X10_within a0 (0 : Int32) (3 : Int32) h fun r_2 h_1 =>
  gm_b r_2 ∧ Q r_2 h_1
set_option maxRecDepth 20000 in
theorem t_X10_isSheet (a0 : Int32)  (h : Mem) (Q : Int32 → Mem → Prop) (hyp : f_X10_isSheet a0 h Q) : Cn m_X10_isSheet [.int a0] h (GI Q) := by
  refine ge_entry (lv := [(0, .int a0)]) pn_X10 (Nat.le_of_ble_eq_true rfl) rfl ?_
  unfold f_X10_isSheet at hyp
  refine ge_iload_n a_X10_isSheet_0 rfl 0 rfl ?_
  refine ge_iconst (v := 0) a_X10_isSheet_1 rfl ?_
  refine ge_iconst (v := 3) a_X10_isSheet_2 rfl ?_
  refine ge_cSI [.int a0, .int (0 : Int32), .int (3 : Int32)] (rest := []) a_X10_isSheet_3 ok_X10_within lk_X10_71 ⟨Nat.le_of_ble_eq_true rfl, Nat.le_of_ble_eq_true rfl⟩ rfl rfl (Nat.le_of_ble_eq_true rfl) (t_X10_within a0 (0 : Int32) (3 : Int32)  h _ hyp) (fun r_2 h_1 hyp => ?_)
  exact ge_zret rfl (gm_b_nar hyp.1) a_X10_isSheet_6 hyp.2

theorem a_X10_fits_0 : At m_X10_fits 0 (.iload_n 1) 1 1 := at_i (by decide +kernel) rfl
theorem a_X10_fits_1 : At m_X10_fits 1 (.invokestatic 222) 3 4 := at_i (by decide +kernel) rfl
theorem a_X10_fits_4 : AtJ m_X10_fits 4 (.ifCond .ne 10) (10) 14 7 := at_j (by decide +kernel) (by decide) rfl
theorem a_X10_fits_7 : At m_X10_fits 7 (.aload_n 0) 1 8 := at_i (by decide +kernel) rfl
theorem a_X10_fits_8 : At m_X10_fits 8 (.ldc 66) 2 10 := at_i (by decide +kernel) rfl
theorem a_X10_fits_10 : At m_X10_fits 10 (.invokevirtual 83) 3 13 := at_i (by decide +kernel) rfl
theorem a_X10_fits_13 : At m_X10_fits 13 (.ireturn) 1 14 := at_i (by decide +kernel) rfl
theorem a_X10_fits_14 : At m_X10_fits 14 (.aload_n 0) 1 15 := at_i (by decide +kernel) rfl
theorem a_X10_fits_15 : At m_X10_fits 15 (.getfield 54) 3 18 := at_i (by decide +kernel) rfl
theorem a_X10_fits_18 : At m_X10_fits 18 (.iload_n 1) 1 19 := at_i (by decide +kernel) rfl
theorem a_X10_fits_19 : At m_X10_fits 19 (.iaload) 1 20 := at_i (by decide +kernel) rfl
theorem a_X10_fits_20 : AtJ m_X10_fits 20 (.ifCond .ne 12) (12) 32 23 := at_j (by decide +kernel) (by decide) rfl
theorem a_X10_fits_23 : At m_X10_fits 23 (.aload_n 0) 1 24 := at_i (by decide +kernel) rfl
theorem a_X10_fits_24 : At m_X10_fits 24 (.ldc 225) 2 26 := at_i (by decide +kernel) rfl
theorem a_X10_fits_26 : At m_X10_fits 26 (.invokevirtual 83) 3 29 := at_i (by decide +kernel) rfl
theorem a_X10_fits_29 : AtJ m_X10_fits 29 (.goto 8) (8) 37 32 := at_j (by decide +kernel) (by decide) rfl
theorem a_X10_fits_32 : At m_X10_fits 32 (.aload_n 0) 1 33 := at_i (by decide +kernel) rfl
theorem a_X10_fits_33 : At m_X10_fits 33 (.iload_n 1) 1 34 := at_i (by decide +kernel) rfl
theorem a_X10_fits_34 : At m_X10_fits 34 (.invokevirtual 226) 3 37 := at_i (by decide +kernel) rfl
theorem a_X10_fits_37 : At m_X10_fits 37 (.ireturn) 1 38 := at_i (by decide +kernel) rfl
def f_X10_fits (a1 : Int32) (h : Mem) (Q : Int32 → Mem → Prop) : Prop :=
  f_X10_isSheet a1 h fun r_2 h_1 =>
  if r_2 = 0 then (
    f_X10_finding (-1000001 : Int32) h_1 fun r_11 h_10 =>
    Q r_11 h_10)
  else (
    vp_in a1 4 ∧
    if h_1 53 a1.toNatClampNeg = 0 then (
      f_X10_finding (-1000006 : Int32) h_1 fun r_9 h_8 =>
      Q r_9 h_8)
    else (
      f_X10_findLed a1 h_1 fun r_7 h_6 =>
      Q r_7 h_6))
set_option maxRecDepth 20000 in
theorem t_X10_fits (a1 : Int32)  (h : Mem) (Q : Int32 → Mem → Prop) (hyp : f_X10_fits a1 h Q) : Cn m_X10_fits [.ref 43, .int a1] h (GI Q) := by
  refine ge_entry (lv := [(0, .ref 43), (1, .int a1)]) pn_X10 (Nat.le_of_ble_eq_true rfl) rfl ?_
  unfold f_X10_fits at hyp
  refine ge_iload_n a_X10_fits_0 rfl 1 rfl ?_
  refine ge_cSI [.int a1] (rest := []) a_X10_fits_1 ok_X10_isSheet lk_X10_222 ⟨Nat.le_of_ble_eq_true rfl, Nat.le_of_ble_eq_true rfl⟩ rfl rfl (Nat.le_of_ble_eq_true rfl) (t_X10_isSheet a1  h _ hyp) (fun r_2 h_1 hyp => ?_)
  refine ge_if_ne a_X10_fits_4 (fun c_3 => ?_) (fun c_3 => ?_)
  · have hyp := gm_in hyp c_3
    refine ge_aload_n a_X10_fits_14 rfl 0 rfl ?_
    refine ge_getR (q := 53) a_X10_fits_15 fd_X10_54 (rfl : gm_cls 43 = 9) rfl ?_
    refine ge_iload_n a_X10_fits_18 rfl 1 rfl ?_
    obtain ⟨b_4, hyp⟩ := hyp
    refine ge_iald (j := a1.toNatClampNeg) a_X10_fits_19 ga_53 b_4 rfl ?_
    refine ge_if_ne a_X10_fits_20 (fun c_5 => ?_) (fun c_5 => ?_)
    · have hyp := gm_in hyp c_5
      refine ge_aload_n a_X10_fits_32 rfl 0 rfl ?_
      refine ge_iload_n a_X10_fits_33 rfl 1 rfl ?_
      refine ge_cVI [.int a1] (rest := []) a_X10_fits_34 ok_X10_findLed lk_X10_226 ⟨Nat.le_of_ble_eq_true rfl, Nat.le_of_ble_eq_true rfl⟩ (rfl : gm_cls 43 = 9) vc_9 (by decide) rfl rfl (Nat.le_of_ble_eq_true rfl) (t_X10_findLed a1  h_1 _ hyp) (fun r_7 h_6 hyp => ?_)
      exact ge_iret rfl a_X10_fits_37 hyp
    · have hyp := gm_ip hyp c_5
      refine ge_aload_n a_X10_fits_23 rfl 0 rfl ?_
      refine ge_ldc (v := -1000006) a_X10_fits_24 ct_X10_225 ?_
      refine ge_cVI [.int (-1000006 : Int32)] (rest := []) a_X10_fits_26 ok_X10_finding lk_X10_83 ⟨Nat.le_of_ble_eq_true rfl, Nat.le_of_ble_eq_true rfl⟩ (rfl : gm_cls 43 = 9) vc_9 (by decide) rfl rfl (Nat.le_of_ble_eq_true rfl) (t_X10_finding (-1000006 : Int32)  h_1 _ hyp) (fun r_9 h_8 hyp => ?_)
      refine ge_goto a_X10_fits_29 ?_
      exact ge_iret rfl a_X10_fits_37 hyp
  · have hyp := gm_ip hyp c_3
    refine ge_aload_n a_X10_fits_7 rfl 0 rfl ?_
    refine ge_ldc (v := -1000001) a_X10_fits_8 ct_X10_66 ?_
    refine ge_cVI [.int (-1000001 : Int32)] (rest := []) a_X10_fits_10 ok_X10_finding lk_X10_83 ⟨Nat.le_of_ble_eq_true rfl, Nat.le_of_ble_eq_true rfl⟩ (rfl : gm_cls 43 = 9) vc_9 (by decide) rfl rfl (Nat.le_of_ble_eq_true rfl) (t_X10_finding (-1000001 : Int32)  h_1 _ hyp) (fun r_11 h_10 hyp => ?_)
    exact ge_iret rfl a_X10_fits_13 hyp

theorem a_X10_led_0 : At m_X10_led 0 (.iload_n 1) 1 1 := at_i (by decide +kernel) rfl
theorem a_X10_led_1 : At m_X10_led 1 (.invokestatic 222) 3 4 := at_i (by decide +kernel) rfl
theorem a_X10_led_4 : AtJ m_X10_led 4 (.ifCond .ne 10) (10) 14 7 := at_j (by decide +kernel) (by decide) rfl
theorem a_X10_led_7 : At m_X10_led 7 (.aload_n 0) 1 8 := at_i (by decide +kernel) rfl
theorem a_X10_led_8 : At m_X10_led 8 (.ldc 66) 2 10 := at_i (by decide +kernel) rfl
theorem a_X10_led_10 : At m_X10_led 10 (.invokevirtual 83) 3 13 := at_i (by decide +kernel) rfl
theorem a_X10_led_13 : At m_X10_led 13 (.ireturn) 1 14 := at_i (by decide +kernel) rfl
theorem a_X10_led_14 : At m_X10_led 14 (.aload_n 0) 1 15 := at_i (by decide +kernel) rfl
theorem a_X10_led_15 : At m_X10_led 15 (.getfield 54) 3 18 := at_i (by decide +kernel) rfl
theorem a_X10_led_18 : At m_X10_led 18 (.iload_n 1) 1 19 := at_i (by decide +kernel) rfl
theorem a_X10_led_19 : At m_X10_led 19 (.iaload) 1 20 := at_i (by decide +kernel) rfl
theorem a_X10_led_20 : AtJ m_X10_led 20 (.ifCond .ne 10) (10) 30 23 := at_j (by decide +kernel) (by decide) rfl
theorem a_X10_led_23 : At m_X10_led 23 (.aload_n 0) 1 24 := at_i (by decide +kernel) rfl
theorem a_X10_led_24 : At m_X10_led 24 (.ldc 225) 2 26 := at_i (by decide +kernel) rfl
theorem a_X10_led_26 : At m_X10_led 26 (.invokevirtual 83) 3 29 := at_i (by decide +kernel) rfl
theorem a_X10_led_29 : At m_X10_led 29 (.ireturn) 1 30 := at_i (by decide +kernel) rfl
theorem a_X10_led_30 : At m_X10_led 30 (.aload_n 0) 1 31 := at_i (by decide +kernel) rfl
theorem a_X10_led_31 : At m_X10_led 31 (.iload_n 1) 1 32 := at_i (by decide +kernel) rfl
theorem a_X10_led_32 : At m_X10_led 32 (.invokevirtual 226) 3 35 := at_i (by decide +kernel) rfl
theorem a_X10_led_35 : AtJ m_X10_led 35 (.ifCond .ne 12) (12) 47 38 := at_j (by decide +kernel) (by decide) rfl
theorem a_X10_led_38 : At m_X10_led 38 (.aload_n 0) 1 39 := at_i (by decide +kernel) rfl
theorem a_X10_led_39 : At m_X10_led 39 (.ldc 184) 2 41 := at_i (by decide +kernel) rfl
theorem a_X10_led_41 : At m_X10_led 41 (.invokevirtual 83) 3 44 := at_i (by decide +kernel) rfl
theorem a_X10_led_44 : AtJ m_X10_led 44 (.goto 7) (7) 51 47 := at_j (by decide +kernel) (by decide) rfl
theorem a_X10_led_47 : At m_X10_led 47 (.aload_n 0) 1 48 := at_i (by decide +kernel) rfl
theorem a_X10_led_48 : At m_X10_led 48 (.getfield 219) 3 51 := at_i (by decide +kernel) rfl
theorem a_X10_led_51 : At m_X10_led 51 (.ireturn) 1 52 := at_i (by decide +kernel) rfl
def f_X10_led (a1 : Int32) (h : Mem) (Q : Int32 → Mem → Prop) : Prop :=
  f_X10_isSheet a1 h fun r_2 h_1 =>
  if r_2 = 0 then (
    f_X10_finding (-1000001 : Int32) h_1 fun r_14 h_13 =>
    Q r_14 h_13)
  else (
    vp_in a1 4 ∧
    if h_1 53 a1.toNatClampNeg = 0 then (
      f_X10_finding (-1000006 : Int32) h_1 fun r_12 h_11 =>
      Q r_12 h_11)
    else (
      f_X10_findLed a1 h_1 fun r_7 h_6 =>
      if r_7 = 0 then (
        f_X10_finding (-1000004 : Int32) h_6 fun r_10 h_9 =>
        Q r_10 h_9)
      else (
        Q (h_6 43 12) h_6)))
set_option maxRecDepth 20000 in
theorem t_X10_led (a1 : Int32)  (h : Mem) (Q : Int32 → Mem → Prop) (hyp : f_X10_led a1 h Q) : Cn m_X10_led [.ref 43, .int a1] h (GI Q) := by
  refine ge_entry (lv := [(0, .ref 43), (1, .int a1)]) pn_X10 (Nat.le_of_ble_eq_true rfl) rfl ?_
  unfold f_X10_led at hyp
  refine ge_iload_n a_X10_led_0 rfl 1 rfl ?_
  refine ge_cSI [.int a1] (rest := []) a_X10_led_1 ok_X10_isSheet lk_X10_222 ⟨Nat.le_of_ble_eq_true rfl, Nat.le_of_ble_eq_true rfl⟩ rfl rfl (Nat.le_of_ble_eq_true rfl) (t_X10_isSheet a1  h _ hyp) (fun r_2 h_1 hyp => ?_)
  refine ge_if_ne a_X10_led_4 (fun c_3 => ?_) (fun c_3 => ?_)
  · have hyp := gm_in hyp c_3
    refine ge_aload_n a_X10_led_14 rfl 0 rfl ?_
    refine ge_getR (q := 53) a_X10_led_15 fd_X10_54 (rfl : gm_cls 43 = 9) rfl ?_
    refine ge_iload_n a_X10_led_18 rfl 1 rfl ?_
    obtain ⟨b_4, hyp⟩ := hyp
    refine ge_iald (j := a1.toNatClampNeg) a_X10_led_19 ga_53 b_4 rfl ?_
    refine ge_if_ne a_X10_led_20 (fun c_5 => ?_) (fun c_5 => ?_)
    · have hyp := gm_in hyp c_5
      refine ge_aload_n a_X10_led_30 rfl 0 rfl ?_
      refine ge_iload_n a_X10_led_31 rfl 1 rfl ?_
      refine ge_cVI [.int a1] (rest := []) a_X10_led_32 ok_X10_findLed lk_X10_226 ⟨Nat.le_of_ble_eq_true rfl, Nat.le_of_ble_eq_true rfl⟩ (rfl : gm_cls 43 = 9) vc_9 (by decide) rfl rfl (Nat.le_of_ble_eq_true rfl) (t_X10_findLed a1  h_1 _ hyp) (fun r_7 h_6 hyp => ?_)
      refine ge_if_ne a_X10_led_35 (fun c_8 => ?_) (fun c_8 => ?_)
      · have hyp := gm_in hyp c_8
        refine ge_aload_n a_X10_led_47 rfl 0 rfl ?_
        refine ge_getI a_X10_led_48 fd_X10_219 (rfl : gm_cls 43 = 9) ?_
        exact ge_iret rfl a_X10_led_51 hyp
      · have hyp := gm_ip hyp c_8
        refine ge_aload_n a_X10_led_38 rfl 0 rfl ?_
        refine ge_ldc (v := -1000004) a_X10_led_39 ct_X10_184 ?_
        refine ge_cVI [.int (-1000004 : Int32)] (rest := []) a_X10_led_41 ok_X10_finding lk_X10_83 ⟨Nat.le_of_ble_eq_true rfl, Nat.le_of_ble_eq_true rfl⟩ (rfl : gm_cls 43 = 9) vc_9 (by decide) rfl rfl (Nat.le_of_ble_eq_true rfl) (t_X10_finding (-1000004 : Int32)  h_6 _ hyp) (fun r_10 h_9 hyp => ?_)
        refine ge_goto a_X10_led_44 ?_
        exact ge_iret rfl a_X10_led_51 hyp
    · have hyp := gm_ip hyp c_5
      refine ge_aload_n a_X10_led_23 rfl 0 rfl ?_
      refine ge_ldc (v := -1000006) a_X10_led_24 ct_X10_225 ?_
      refine ge_cVI [.int (-1000006 : Int32)] (rest := []) a_X10_led_26 ok_X10_finding lk_X10_83 ⟨Nat.le_of_ble_eq_true rfl, Nat.le_of_ble_eq_true rfl⟩ (rfl : gm_cls 43 = 9) vc_9 (by decide) rfl rfl (Nat.le_of_ble_eq_true rfl) (t_X10_finding (-1000006 : Int32)  h_1 _ hyp) (fun r_12 h_11 hyp => ?_)
      exact ge_iret rfl a_X10_led_29 hyp
  · have hyp := gm_ip hyp c_3
    refine ge_aload_n a_X10_led_7 rfl 0 rfl ?_
    refine ge_ldc (v := -1000001) a_X10_led_8 ct_X10_66 ?_
    refine ge_cVI [.int (-1000001 : Int32)] (rest := []) a_X10_led_10 ok_X10_finding lk_X10_83 ⟨Nat.le_of_ble_eq_true rfl, Nat.le_of_ble_eq_true rfl⟩ (rfl : gm_cls 43 = 9) vc_9 (by decide) rfl rfl (Nat.le_of_ble_eq_true rfl) (t_X10_finding (-1000001 : Int32)  h_1 _ hyp) (fun r_14 h_13 hyp => ?_)
    exact ge_iret rfl a_X10_led_13 hyp

theorem a_X10_common_0 : At m_X10_common 0 (.iload_n 0) 1 1 := at_i (by decide +kernel) rfl
theorem a_X10_common_1 : At m_X10_common 1 (.istore_n 2) 1 2 := at_i (by decide +kernel) rfl
theorem a_X10_common_2 : At m_X10_common 2 (.iload_n 1) 1 3 := at_i (by decide +kernel) rfl
theorem a_X10_common_3 : At m_X10_common 3 (.istore_n 3) 1 4 := at_i (by decide +kernel) rfl
theorem a_X10_common_4 : At m_X10_common 4 (.iload_n 3) 1 5 := at_i (by decide +kernel) rfl
theorem a_X10_common_5 : AtJ m_X10_common 5 (.ifCond .eq 16) (16) 21 8 := at_j (by decide +kernel) (by decide) rfl
theorem a_X10_common_8 : At m_X10_common 8 (.iload_n 2) 1 9 := at_i (by decide +kernel) rfl
theorem a_X10_common_9 : At m_X10_common 9 (.iload_n 3) 1 10 := at_i (by decide +kernel) rfl
theorem a_X10_common_10 : At m_X10_common 10 (.irem) 1 11 := at_i (by decide +kernel) rfl
theorem a_X10_common_11 : At m_X10_common 11 (.istore 4) 2 13 := at_i (by decide +kernel) rfl
theorem a_X10_common_13 : At m_X10_common 13 (.iload_n 3) 1 14 := at_i (by decide +kernel) rfl
theorem a_X10_common_14 : At m_X10_common 14 (.istore_n 2) 1 15 := at_i (by decide +kernel) rfl
theorem a_X10_common_15 : At m_X10_common 15 (.iload 4) 2 17 := at_i (by decide +kernel) rfl
theorem a_X10_common_17 : At m_X10_common 17 (.istore_n 3) 1 18 := at_i (by decide +kernel) rfl
theorem a_X10_common_18 : AtJ m_X10_common 18 (.goto (-14)) (-14) 4 21 := at_j (by decide +kernel) (by decide) rfl
theorem a_X10_common_21 : At m_X10_common 21 (.iload_n 2) 1 22 := at_i (by decide +kernel) rfl
theorem a_X10_common_22 : At m_X10_common 22 (.ireturn) 1 23 := at_i (by decide +kernel) rfl
def f_X10_common_b4 (a0 : Int32) (a1 : Int32)  (Q : Int32 → Mem → Prop)  (K4 : Int32 → Int32 → Mem → Prop) (v2 : Int32) (v3 : Int32) (h : Mem) : Prop :=
  if v3 = 0 then (
    Q v2 h)
  else (
    ¬ v3 = 0 ∧
    ∀ v_3 : Int32, v_3 = v2 - v2 / v3 * v3 →
    K4 v3 v_3 h)
set_option maxRecDepth 20000 in
theorem t_X10_common_b4 (a0 : Int32) (a1 : Int32)    (Q : Int32 → Mem → Prop)   : ∀ (n : Nat) (v2 : Int32) (v3 : Int32) (h : Mem), gm_it2 (f_X10_common_b4 a0 a1  Q ) n v2 v3 h → EV m_X10_common (GI Q) 4 [(2, .int v2), (3, .int v3)] [] h := by
  refine ge_loop2 (P := fun v2 v3 h => EV m_X10_common (GI Q) 4 [(2, .int v2), (3, .int v3)] [] h) (fun K4 hK4 v2 v3 h hyp => ?_)
  unfold f_X10_common_b4 at hyp
  refine ge_iload_n a_X10_common_4 rfl 1 rfl ?_
  refine ge_if_eq a_X10_common_5 (fun c_1 => ?_) (fun c_1 => ?_)
  · have hyp := gm_ip hyp c_1
    refine ge_iload_n a_X10_common_21 rfl 0 rfl ?_
    exact ge_iret rfl a_X10_common_22 hyp
  · have hyp := gm_in hyp c_1
    refine ge_iload_n a_X10_common_8 rfl 0 rfl ?_
    refine ge_iload_n a_X10_common_9 rfl 1 rfl ?_
    obtain ⟨z_2, hyp⟩ := hyp
    refine ge_irem a_X10_common_10 z_2 ?_
    refine ge_topi (fun v_3 ev_3 => ?_)
    have hyp := hyp v_3 ev_3
    refine ge_istore (lv' := [(4, .int v_3), (2, .int v2), (3, .int v3)]) a_X10_common_11 (Nat.le_of_ble_eq_true rfl) rfl ?_
    refine ge_iload_n a_X10_common_13 rfl 2 rfl ?_
    refine ge_istore_n (lv' := [(2, .int v3), (4, .int v_3), (3, .int v3)]) a_X10_common_14 rfl (Nat.le_of_ble_eq_true rfl) rfl ?_
    refine ge_iload a_X10_common_15 1 rfl ?_
    refine ge_istore_n (lv' := [(3, .int v_3), (2, .int v3), (4, .int v_3)]) a_X10_common_17 rfl (Nat.le_of_ble_eq_true rfl) rfl ?_
    refine ge_goto a_X10_common_18 ?_
    exact ge_sub [1, 0] rfl (hK4 v3 v_3 h hyp)
def f_X10_common (a0 : Int32) (a1 : Int32) (h : Mem) (Q : Int32 → Mem → Prop) : Prop :=
  gm_it2 (f_X10_common_b4 a0 a1  Q ) gm_F a0 a1 h
set_option maxRecDepth 20000 in
theorem t_X10_common (a0 : Int32) (a1 : Int32)  (h : Mem) (Q : Int32 → Mem → Prop) (hyp : f_X10_common a0 a1 h Q) : Cn m_X10_common [.int a0, .int a1] h (GI Q) := by
  refine ge_entry (lv := [(0, .int a0), (1, .int a1)]) pn_X10 (Nat.le_of_ble_eq_true rfl) rfl ?_
  unfold f_X10_common at hyp
  refine ge_iload_n a_X10_common_0 rfl 0 rfl ?_
  refine ge_istore_n (lv' := [(2, .int a0), (0, .int a0), (1, .int a1)]) a_X10_common_1 rfl (Nat.le_of_ble_eq_true rfl) rfl ?_
  refine ge_iload_n a_X10_common_2 rfl 2 rfl ?_
  refine ge_istore_n (lv' := [(3, .int a1), (2, .int a0), (0, .int a0), (1, .int a1)]) a_X10_common_3 rfl (Nat.le_of_ble_eq_true rfl) rfl ?_
  exact ge_sub [1, 0] rfl (t_X10_common_b4 a0 a1    Q   gm_F a0 a1 h hyp)

theorem a_X10_part_0 : At m_X10_part 0 (.iload_n 1) 1 1 := at_i (by decide +kernel) rfl
theorem a_X10_part_1 : At m_X10_part 1 (.invokestatic 222) 3 4 := at_i (by decide +kernel) rfl
theorem a_X10_part_4 : AtJ m_X10_part 4 (.ifCond .ne 10) (10) 14 7 := at_j (by decide +kernel) (by decide) rfl
theorem a_X10_part_7 : At m_X10_part 7 (.aload_n 0) 1 8 := at_i (by decide +kernel) rfl
theorem a_X10_part_8 : At m_X10_part 8 (.ldc 66) 2 10 := at_i (by decide +kernel) rfl
theorem a_X10_part_10 : At m_X10_part 10 (.invokevirtual 83) 3 13 := at_i (by decide +kernel) rfl
theorem a_X10_part_13 : At m_X10_part 13 (.ireturn) 1 14 := at_i (by decide +kernel) rfl
theorem a_X10_part_14 : At m_X10_part 14 (.aload_n 0) 1 15 := at_i (by decide +kernel) rfl
theorem a_X10_part_15 : At m_X10_part 15 (.getfield 54) 3 18 := at_i (by decide +kernel) rfl
theorem a_X10_part_18 : At m_X10_part 18 (.iload_n 1) 1 19 := at_i (by decide +kernel) rfl
theorem a_X10_part_19 : At m_X10_part 19 (.iaload) 1 20 := at_i (by decide +kernel) rfl
theorem a_X10_part_20 : AtJ m_X10_part 20 (.ifCond .ne 10) (10) 30 23 := at_j (by decide +kernel) (by decide) rfl
theorem a_X10_part_23 : At m_X10_part 23 (.aload_n 0) 1 24 := at_i (by decide +kernel) rfl
theorem a_X10_part_24 : At m_X10_part 24 (.ldc 225) 2 26 := at_i (by decide +kernel) rfl
theorem a_X10_part_26 : At m_X10_part 26 (.invokevirtual 83) 3 29 := at_i (by decide +kernel) rfl
theorem a_X10_part_29 : At m_X10_part 29 (.ireturn) 1 30 := at_i (by decide +kernel) rfl
theorem a_X10_part_30 : At m_X10_part 30 (.iload_n 2) 1 31 := at_i (by decide +kernel) rfl
theorem a_X10_part_31 : At m_X10_part 31 (.iconst 0) 1 32 := at_i (by decide +kernel) rfl
theorem a_X10_part_32 : At m_X10_part 32 (.iconst 1) 1 33 := at_i (by decide +kernel) rfl
theorem a_X10_part_33 : At m_X10_part 33 (.invokestatic 71) 3 36 := at_i (by decide +kernel) rfl
theorem a_X10_part_36 : AtJ m_X10_part 36 (.ifCond .ne 10) (10) 46 39 := at_j (by decide +kernel) (by decide) rfl
theorem a_X10_part_39 : At m_X10_part 39 (.aload_n 0) 1 40 := at_i (by decide +kernel) rfl
theorem a_X10_part_40 : At m_X10_part 40 (.ldc 66) 2 42 := at_i (by decide +kernel) rfl
theorem a_X10_part_42 : At m_X10_part 42 (.invokevirtual 83) 3 45 := at_i (by decide +kernel) rfl
theorem a_X10_part_45 : At m_X10_part 45 (.ireturn) 1 46 := at_i (by decide +kernel) rfl
theorem a_X10_part_46 : At m_X10_part 46 (.aload_n 0) 1 47 := at_i (by decide +kernel) rfl
theorem a_X10_part_47 : At m_X10_part 47 (.iload_n 1) 1 48 := at_i (by decide +kernel) rfl
theorem a_X10_part_48 : At m_X10_part 48 (.invokevirtual 226) 3 51 := at_i (by decide +kernel) rfl
theorem a_X10_part_51 : At m_X10_part 51 (.istore_n 3) 1 52 := at_i (by decide +kernel) rfl
theorem a_X10_part_52 : At m_X10_part 52 (.iload_n 3) 1 53 := at_i (by decide +kernel) rfl
theorem a_X10_part_53 : AtJ m_X10_part 53 (.ifCond .ne 10) (10) 63 56 := at_j (by decide +kernel) (by decide) rfl
theorem a_X10_part_56 : At m_X10_part 56 (.aload_n 0) 1 57 := at_i (by decide +kernel) rfl
theorem a_X10_part_57 : At m_X10_part 57 (.ldc 184) 2 59 := at_i (by decide +kernel) rfl
theorem a_X10_part_59 : At m_X10_part 59 (.invokevirtual 83) 3 62 := at_i (by decide +kernel) rfl
theorem a_X10_part_62 : At m_X10_part 62 (.ireturn) 1 63 := at_i (by decide +kernel) rfl
theorem a_X10_part_63 : At m_X10_part 63 (.aload_n 0) 1 64 := at_i (by decide +kernel) rfl
theorem a_X10_part_64 : At m_X10_part 64 (.getfield 216) 3 67 := at_i (by decide +kernel) rfl
theorem a_X10_part_67 : At m_X10_part 67 (.iload_n 3) 1 68 := at_i (by decide +kernel) rfl
theorem a_X10_part_68 : At m_X10_part 68 (.invokestatic 229) 3 71 := at_i (by decide +kernel) rfl
theorem a_X10_part_71 : At m_X10_part 71 (.istore 4) 2 73 := at_i (by decide +kernel) rfl
theorem a_X10_part_73 : At m_X10_part 73 (.iload_n 2) 1 74 := at_i (by decide +kernel) rfl
theorem a_X10_part_74 : AtJ m_X10_part 74 (.ifCond .ne 13) (13) 87 77 := at_j (by decide +kernel) (by decide) rfl
theorem a_X10_part_77 : At m_X10_part 77 (.aload_n 0) 1 78 := at_i (by decide +kernel) rfl
theorem a_X10_part_78 : At m_X10_part 78 (.getfield 216) 3 81 := at_i (by decide +kernel) rfl
theorem a_X10_part_81 : At m_X10_part 81 (.iload 4) 2 83 := at_i (by decide +kernel) rfl
theorem a_X10_part_83 : At m_X10_part 83 (.idiv) 1 84 := at_i (by decide +kernel) rfl
theorem a_X10_part_84 : AtJ m_X10_part 84 (.goto 7) (7) 91 87 := at_j (by decide +kernel) (by decide) rfl
theorem a_X10_part_87 : At m_X10_part 87 (.iload_n 3) 1 88 := at_i (by decide +kernel) rfl
theorem a_X10_part_88 : At m_X10_part 88 (.iload 4) 2 90 := at_i (by decide +kernel) rfl
theorem a_X10_part_90 : At m_X10_part 90 (.idiv) 1 91 := at_i (by decide +kernel) rfl
theorem a_X10_part_91 : At m_X10_part 91 (.ireturn) 1 92 := at_i (by decide +kernel) rfl
def f_X10_part (a1 : Int32) (a2 : Int32) (h : Mem) (Q : Int32 → Mem → Prop) : Prop :=
  f_X10_isSheet a1 h fun r_2 h_1 =>
  if r_2 = 0 then (
    f_X10_finding (-1000001 : Int32) h_1 fun r_24 h_23 =>
    Q r_24 h_23)
  else (
    vp_in a1 4 ∧
    if h_1 53 a1.toNatClampNeg = 0 then (
      f_X10_finding (-1000006 : Int32) h_1 fun r_22 h_21 =>
      Q r_22 h_21)
    else (
      f_X10_within a2 (0 : Int32) (1 : Int32) h_1 fun r_7 h_6 =>
      if r_7 = 0 then (
        f_X10_finding (-1000001 : Int32) h_6 fun r_20 h_19 =>
        Q r_20 h_19)
      else (
        f_X10_findLed a1 h_6 fun r_10 h_9 =>
        if r_10 = 0 then (
          f_X10_finding (-1000004 : Int32) h_9 fun r_18 h_17 =>
          Q r_18 h_17)
        else (
          f_X10_common (h_9 43 11) r_10 h_9 fun r_13 h_12 =>
          if a2 = 0 then (
            ¬ r_13 = 0 ∧
            Q ((h_12 43 11) / r_13) h_12)
          else (
            ¬ r_13 = 0 ∧
            Q (r_10 / r_13) h_12)))))
set_option maxRecDepth 20000 in
theorem t_X10_part (a1 : Int32) (a2 : Int32)  (h : Mem) (Q : Int32 → Mem → Prop) (hyp : f_X10_part a1 a2 h Q) : Cn m_X10_part [.ref 43, .int a1, .int a2] h (GI Q) := by
  refine ge_entry (lv := [(0, .ref 43), (1, .int a1), (2, .int a2)]) pn_X10 (Nat.le_of_ble_eq_true rfl) rfl ?_
  unfold f_X10_part at hyp
  refine ge_iload_n a_X10_part_0 rfl 1 rfl ?_
  refine ge_cSI [.int a1] (rest := []) a_X10_part_1 ok_X10_isSheet lk_X10_222 ⟨Nat.le_of_ble_eq_true rfl, Nat.le_of_ble_eq_true rfl⟩ rfl rfl (Nat.le_of_ble_eq_true rfl) (t_X10_isSheet a1  h _ hyp) (fun r_2 h_1 hyp => ?_)
  refine ge_if_ne a_X10_part_4 (fun c_3 => ?_) (fun c_3 => ?_)
  · have hyp := gm_in hyp c_3
    refine ge_aload_n a_X10_part_14 rfl 0 rfl ?_
    refine ge_getR (q := 53) a_X10_part_15 fd_X10_54 (rfl : gm_cls 43 = 9) rfl ?_
    refine ge_iload_n a_X10_part_18 rfl 1 rfl ?_
    obtain ⟨b_4, hyp⟩ := hyp
    refine ge_iald (j := a1.toNatClampNeg) a_X10_part_19 ga_53 b_4 rfl ?_
    refine ge_if_ne a_X10_part_20 (fun c_5 => ?_) (fun c_5 => ?_)
    · have hyp := gm_in hyp c_5
      refine ge_iload_n a_X10_part_30 rfl 2 rfl ?_
      refine ge_iconst (v := 0) a_X10_part_31 rfl ?_
      refine ge_iconst (v := 1) a_X10_part_32 rfl ?_
      refine ge_cSI [.int a2, .int (0 : Int32), .int (1 : Int32)] (rest := []) a_X10_part_33 ok_X10_within lk_X10_71 ⟨Nat.le_of_ble_eq_true rfl, Nat.le_of_ble_eq_true rfl⟩ rfl rfl (Nat.le_of_ble_eq_true rfl) (t_X10_within a2 (0 : Int32) (1 : Int32)  h_1 _ hyp) (fun r_7 h_6 hyp => ?_)
      refine ge_if_ne a_X10_part_36 (fun c_8 => ?_) (fun c_8 => ?_)
      · have hyp := gm_in hyp c_8
        refine ge_aload_n a_X10_part_46 rfl 0 rfl ?_
        refine ge_iload_n a_X10_part_47 rfl 1 rfl ?_
        refine ge_cVI [.int a1] (rest := []) a_X10_part_48 ok_X10_findLed lk_X10_226 ⟨Nat.le_of_ble_eq_true rfl, Nat.le_of_ble_eq_true rfl⟩ (rfl : gm_cls 43 = 9) vc_9 (by decide) rfl rfl (Nat.le_of_ble_eq_true rfl) (t_X10_findLed a1  h_6 _ hyp) (fun r_10 h_9 hyp => ?_)
        refine ge_istore_n (lv' := [(3, .int r_10), (0, .ref 43), (1, .int a1), (2, .int a2)]) a_X10_part_51 rfl (Nat.le_of_ble_eq_true rfl) rfl ?_
        refine ge_iload_n a_X10_part_52 rfl 0 rfl ?_
        refine ge_if_ne a_X10_part_53 (fun c_11 => ?_) (fun c_11 => ?_)
        · have hyp := gm_in hyp c_11
          refine ge_aload_n a_X10_part_63 rfl 1 rfl ?_
          refine ge_getI a_X10_part_64 fd_X10_216 (rfl : gm_cls 43 = 9) ?_
          refine ge_iload_n a_X10_part_67 rfl 0 rfl ?_
          refine ge_cSI [.int (h_9 43 11), .int r_10] (rest := []) a_X10_part_68 ok_X10_common lk_X10_229 ⟨Nat.le_of_ble_eq_true rfl, Nat.le_of_ble_eq_true rfl⟩ rfl rfl (Nat.le_of_ble_eq_true rfl) (t_X10_common (h_9 43 11) r_10  h_9 _ hyp) (fun r_13 h_12 hyp => ?_)
          refine ge_istore (lv' := [(4, .int r_13), (3, .int r_10), (0, .ref 43), (1, .int a1), (2, .int a2)]) a_X10_part_71 (Nat.le_of_ble_eq_true rfl) rfl ?_
          refine ge_iload_n a_X10_part_73 rfl 4 rfl ?_
          refine ge_if_ne a_X10_part_74 (fun c_14 => ?_) (fun c_14 => ?_)
          · have hyp := gm_in hyp c_14
            refine ge_iload_n a_X10_part_87 rfl 1 rfl ?_
            refine ge_iload a_X10_part_88 0 rfl ?_
            obtain ⟨z_15, hyp⟩ := hyp
            refine ge_idiv a_X10_part_90 z_15 ?_
            exact ge_iret rfl a_X10_part_91 hyp
          · have hyp := gm_ip hyp c_14
            refine ge_aload_n a_X10_part_77 rfl 2 rfl ?_
            refine ge_getI a_X10_part_78 fd_X10_216 (rfl : gm_cls 43 = 9) ?_
            refine ge_iload a_X10_part_81 0 rfl ?_
            obtain ⟨z_16, hyp⟩ := hyp
            refine ge_idiv a_X10_part_83 z_16 ?_
            refine ge_goto a_X10_part_84 ?_
            exact ge_iret rfl a_X10_part_91 hyp
        · have hyp := gm_ip hyp c_11
          refine ge_aload_n a_X10_part_56 rfl 1 rfl ?_
          refine ge_ldc (v := -1000004) a_X10_part_57 ct_X10_184 ?_
          refine ge_cVI [.int (-1000004 : Int32)] (rest := []) a_X10_part_59 ok_X10_finding lk_X10_83 ⟨Nat.le_of_ble_eq_true rfl, Nat.le_of_ble_eq_true rfl⟩ (rfl : gm_cls 43 = 9) vc_9 (by decide) rfl rfl (Nat.le_of_ble_eq_true rfl) (t_X10_finding (-1000004 : Int32)  h_9 _ hyp) (fun r_18 h_17 hyp => ?_)
          exact ge_iret rfl a_X10_part_62 hyp
      · have hyp := gm_ip hyp c_8
        refine ge_aload_n a_X10_part_39 rfl 0 rfl ?_
        refine ge_ldc (v := -1000001) a_X10_part_40 ct_X10_66 ?_
        refine ge_cVI [.int (-1000001 : Int32)] (rest := []) a_X10_part_42 ok_X10_finding lk_X10_83 ⟨Nat.le_of_ble_eq_true rfl, Nat.le_of_ble_eq_true rfl⟩ (rfl : gm_cls 43 = 9) vc_9 (by decide) rfl rfl (Nat.le_of_ble_eq_true rfl) (t_X10_finding (-1000001 : Int32)  h_6 _ hyp) (fun r_20 h_19 hyp => ?_)
        exact ge_iret rfl a_X10_part_45 hyp
    · have hyp := gm_ip hyp c_5
      refine ge_aload_n a_X10_part_23 rfl 0 rfl ?_
      refine ge_ldc (v := -1000006) a_X10_part_24 ct_X10_225 ?_
      refine ge_cVI [.int (-1000006 : Int32)] (rest := []) a_X10_part_26 ok_X10_finding lk_X10_83 ⟨Nat.le_of_ble_eq_true rfl, Nat.le_of_ble_eq_true rfl⟩ (rfl : gm_cls 43 = 9) vc_9 (by decide) rfl rfl (Nat.le_of_ble_eq_true rfl) (t_X10_finding (-1000006 : Int32)  h_1 _ hyp) (fun r_22 h_21 hyp => ?_)
      exact ge_iret rfl a_X10_part_29 hyp
  · have hyp := gm_ip hyp c_3
    refine ge_aload_n a_X10_part_7 rfl 0 rfl ?_
    refine ge_ldc (v := -1000001) a_X10_part_8 ct_X10_66 ?_
    refine ge_cVI [.int (-1000001 : Int32)] (rest := []) a_X10_part_10 ok_X10_finding lk_X10_83 ⟨Nat.le_of_ble_eq_true rfl, Nat.le_of_ble_eq_true rfl⟩ (rfl : gm_cls 43 = 9) vc_9 (by decide) rfl rfl (Nat.le_of_ble_eq_true rfl) (t_X10_finding (-1000001 : Int32)  h_1 _ hyp) (fun r_24 h_23 hyp => ?_)
    exact ge_iret rfl a_X10_part_13 hyp

theorem a_X10_stays_0 : At m_X10_stays 0 (.iload_n 1) 1 1 := at_i (by decide +kernel) rfl
theorem a_X10_stays_1 : At m_X10_stays 1 (.iconst 0) 1 2 := at_i (by decide +kernel) rfl
theorem a_X10_stays_2 : At m_X10_stays 2 (.bipush 15) 2 4 := at_i (by decide +kernel) rfl
theorem a_X10_stays_4 : At m_X10_stays 4 (.invokestatic 71) 3 7 := at_i (by decide +kernel) rfl
theorem a_X10_stays_7 : AtJ m_X10_stays 7 (.ifCond .eq 12) (12) 19 10 := at_j (by decide +kernel) (by decide) rfl
theorem a_X10_stays_10 : At m_X10_stays 10 (.iload_n 2) 1 11 := at_i (by decide +kernel) rfl
theorem a_X10_stays_11 : At m_X10_stays 11 (.iconst 0) 1 12 := at_i (by decide +kernel) rfl
theorem a_X10_stays_12 : At m_X10_stays 12 (.iconst 1) 1 13 := at_i (by decide +kernel) rfl
theorem a_X10_stays_13 : At m_X10_stays 13 (.invokestatic 71) 3 16 := at_i (by decide +kernel) rfl
theorem a_X10_stays_16 : AtJ m_X10_stays 16 (.ifCond .ne 11) (11) 27 19 := at_j (by decide +kernel) (by decide) rfl
theorem a_X10_stays_19 : At m_X10_stays 19 (.aload_n 0) 1 20 := at_i (by decide +kernel) rfl
theorem a_X10_stays_20 : At m_X10_stays 20 (.ldc 66) 2 22 := at_i (by decide +kernel) rfl
theorem a_X10_stays_22 : At m_X10_stays 22 (.invokevirtual 83) 3 25 := at_i (by decide +kernel) rfl
theorem a_X10_stays_25 : At m_X10_stays 25 (.i2l) 1 26 := at_i (by decide +kernel) rfl
theorem a_X10_stays_26 : At m_X10_stays 26 (.lreturn) 1 27 := at_i (by decide +kernel) rfl
theorem a_X10_stays_27 : At m_X10_stays 27 (.bipush 10) 2 29 := at_i (by decide +kernel) rfl
theorem a_X10_stays_29 : At m_X10_stays 29 (.aload_n 0) 1 30 := at_i (by decide +kernel) rfl
theorem a_X10_stays_30 : At m_X10_stays 30 (.getfield 9) 3 33 := at_i (by decide +kernel) rfl
theorem a_X10_stays_33 : At m_X10_stays 33 (.bipush 14) 2 35 := at_i (by decide +kernel) rfl
theorem a_X10_stays_35 : At m_X10_stays 35 (.iaload) 1 36 := at_i (by decide +kernel) rfl
theorem a_X10_stays_36 : At m_X10_stays 36 (.isub) 1 37 := at_i (by decide +kernel) rfl
theorem a_X10_stays_37 : At m_X10_stays 37 (.bipush 10) 2 39 := at_i (by decide +kernel) rfl
theorem a_X10_stays_39 : At m_X10_stays 39 (.invokestatic 229) 3 42 := at_i (by decide +kernel) rfl
theorem a_X10_stays_42 : At m_X10_stays 42 (.istore_n 3) 1 43 := at_i (by decide +kernel) rfl
theorem a_X10_stays_43 : At m_X10_stays 43 (.lconst 1) 1 44 := at_i (by decide +kernel) rfl
theorem a_X10_stays_44 : At m_X10_stays 44 (.lstore 4) 2 46 := at_i (by decide +kernel) rfl
theorem a_X10_stays_46 : At m_X10_stays 46 (.lconst 1) 1 47 := at_i (by decide +kernel) rfl
theorem a_X10_stays_47 : At m_X10_stays 47 (.lstore 6) 2 49 := at_i (by decide +kernel) rfl
theorem a_X10_stays_49 : At m_X10_stays 49 (.iconst 0) 1 50 := at_i (by decide +kernel) rfl
theorem a_X10_stays_50 : At m_X10_stays 50 (.istore 8) 2 52 := at_i (by decide +kernel) rfl
theorem a_X10_stays_52 : At m_X10_stays 52 (.iload 8) 2 54 := at_i (by decide +kernel) rfl
theorem a_X10_stays_54 : At m_X10_stays 54 (.iload_n 1) 1 55 := at_i (by decide +kernel) rfl
theorem a_X10_stays_55 : AtJ m_X10_stays 55 (.if_icmp .ge 37) (37) 92 58 := at_j (by decide +kernel) (by decide) rfl
theorem a_X10_stays_58 : At m_X10_stays 58 (.lload 4) 2 60 := at_i (by decide +kernel) rfl
theorem a_X10_stays_60 : At m_X10_stays 60 (.bipush 10) 2 62 := at_i (by decide +kernel) rfl
theorem a_X10_stays_62 : At m_X10_stays 62 (.aload_n 0) 1 63 := at_i (by decide +kernel) rfl
theorem a_X10_stays_63 : At m_X10_stays 63 (.getfield 9) 3 66 := at_i (by decide +kernel) rfl
theorem a_X10_stays_66 : At m_X10_stays 66 (.bipush 14) 2 68 := at_i (by decide +kernel) rfl
theorem a_X10_stays_68 : At m_X10_stays 68 (.iaload) 1 69 := at_i (by decide +kernel) rfl
theorem a_X10_stays_69 : At m_X10_stays 69 (.isub) 1 70 := at_i (by decide +kernel) rfl
theorem a_X10_stays_70 : At m_X10_stays 70 (.iload_n 3) 1 71 := at_i (by decide +kernel) rfl
theorem a_X10_stays_71 : At m_X10_stays 71 (.idiv) 1 72 := at_i (by decide +kernel) rfl
theorem a_X10_stays_72 : At m_X10_stays 72 (.i2l) 1 73 := at_i (by decide +kernel) rfl
theorem a_X10_stays_73 : At m_X10_stays 73 (.lmul) 1 74 := at_i (by decide +kernel) rfl
theorem a_X10_stays_74 : At m_X10_stays 74 (.lstore 4) 2 76 := at_i (by decide +kernel) rfl
theorem a_X10_stays_76 : At m_X10_stays 76 (.lload 6) 2 78 := at_i (by decide +kernel) rfl
theorem a_X10_stays_78 : At m_X10_stays 78 (.bipush 10) 2 80 := at_i (by decide +kernel) rfl
theorem a_X10_stays_80 : At m_X10_stays 80 (.iload_n 3) 1 81 := at_i (by decide +kernel) rfl
theorem a_X10_stays_81 : At m_X10_stays 81 (.idiv) 1 82 := at_i (by decide +kernel) rfl
theorem a_X10_stays_82 : At m_X10_stays 82 (.i2l) 1 83 := at_i (by decide +kernel) rfl
theorem a_X10_stays_83 : At m_X10_stays 83 (.lmul) 1 84 := at_i (by decide +kernel) rfl
theorem a_X10_stays_84 : At m_X10_stays 84 (.lstore 6) 2 86 := at_i (by decide +kernel) rfl
theorem a_X10_stays_86 : At m_X10_stays 86 (.iinc 8 1) 3 89 := at_i (by decide +kernel) rfl
theorem a_X10_stays_89 : AtJ m_X10_stays 89 (.goto (-37)) (-37) 52 92 := at_j (by decide +kernel) (by decide) rfl
theorem a_X10_stays_92 : At m_X10_stays 92 (.iload_n 2) 1 93 := at_i (by decide +kernel) rfl
theorem a_X10_stays_93 : AtJ m_X10_stays 93 (.ifCond .ne 8) (8) 101 96 := at_j (by decide +kernel) (by decide) rfl
theorem a_X10_stays_96 : At m_X10_stays 96 (.lload 4) 2 98 := at_i (by decide +kernel) rfl
theorem a_X10_stays_98 : AtJ m_X10_stays 98 (.goto 5) (5) 103 101 := at_j (by decide +kernel) (by decide) rfl
theorem a_X10_stays_101 : At m_X10_stays 101 (.lload 6) 2 103 := at_i (by decide +kernel) rfl
theorem a_X10_stays_103 : At m_X10_stays 103 (.lreturn) 1 104 := at_i (by decide +kernel) rfl
def f_X10_stays_b52 (a1 : Int32) (a2 : Int32) (r_10 : Int32) (Q : Int64 → Mem → Prop)  (K52 : Int64 → Int64 → Int32 → Mem → Prop) (v4 : Int64) (v6 : Int64) (v8 : Int32) (h : Mem) : Prop :=
  if a1 ≤ v8 then (
    if a2 = 0 then (
      Q v4 h)
    else (
      Q v6 h))
  else (
    ¬ r_10 = 0 ∧
    ∀ v_14 : Int64, v_14 = v4 * ((((10 : Int32) - (h 44 14)) / r_10).toInt64) →
    ¬ r_10 = 0 ∧
    ∀ v_16 : Int64, v_16 = v6 * (((10 : Int32) / r_10).toInt64) →
    ∀ v_17 : Int32, v_17 = v8 + (1 : Int32) →
    K52 v_14 v_16 v_17 h)
set_option maxRecDepth 20000 in
theorem t_X10_stays_b52 (a1 : Int32) (a2 : Int32) (r_10 : Int32)   (Q : Int64 → Mem → Prop)   : ∀ (n : Nat) (v4 : Int64) (v6 : Int64) (v8 : Int32) (h : Mem), gm_it3 (f_X10_stays_b52 a1 a2 r_10 Q ) n v4 v6 v8 h → EV m_X10_stays (GL Q) 52 [(0, .ref 43), (1, .int a1), (2, .int a2), (3, .int r_10), (4, .long v4), (6, .long v6), (8, .int v8)] [] h := by
  refine ge_loop3 (P := fun v4 v6 v8 h => EV m_X10_stays (GL Q) 52 [(0, .ref 43), (1, .int a1), (2, .int a2), (3, .int r_10), (4, .long v4), (6, .long v6), (8, .int v8)] [] h) (fun K52 hK52 v4 v6 v8 h hyp => ?_)
  unfold f_X10_stays_b52 at hyp
  refine ge_iload a_X10_stays_52 6 rfl ?_
  refine ge_iload_n a_X10_stays_54 rfl 1 rfl ?_
  refine ge_icmp_ge a_X10_stays_55 (fun c_11 => ?_) (fun c_11 => ?_)
  · have hyp := gm_ip hyp c_11
    refine ge_iload_n a_X10_stays_92 rfl 2 rfl ?_
    refine ge_if_ne a_X10_stays_93 (fun c_12 => ?_) (fun c_12 => ?_)
    · have hyp := gm_in hyp c_12
      refine ge_lload a_X10_stays_101 5 rfl ?_
      exact ge_lret rfl a_X10_stays_103 hyp
    · have hyp := gm_ip hyp c_12
      refine ge_lload a_X10_stays_96 4 rfl ?_
      refine ge_goto a_X10_stays_98 ?_
      exact ge_lret rfl a_X10_stays_103 hyp
  · have hyp := gm_in hyp c_11
    refine ge_lload a_X10_stays_58 4 rfl ?_
    refine ge_bipush (v := 10) a_X10_stays_60 rfl ?_
    refine ge_aload_n a_X10_stays_62 rfl 0 rfl ?_
    refine ge_getR (q := 44) a_X10_stays_63 fd_X10_9 (rfl : gm_cls 43 = 9) rfl ?_
    refine ge_bipush (v := 14) a_X10_stays_66 rfl ?_
    refine ge_iald (j := 14) a_X10_stays_68 ga_44 li_14_62.1 li_14_62.2 ?_
    refine ge_isub a_X10_stays_69 ?_
    refine ge_iload_n a_X10_stays_70 rfl 3 rfl ?_
    obtain ⟨z_13, hyp⟩ := hyp
    refine ge_idiv a_X10_stays_71 z_13 ?_
    refine ge_i2l a_X10_stays_72 ?_
    refine ge_lmul a_X10_stays_73 ?_
    refine ge_topl (fun v_14 ev_14 => ?_)
    have hyp := hyp v_14 ev_14
    refine ge_lstore (lv' := [(4, .long v_14), (0, .ref 43), (1, .int a1), (2, .int a2), (3, .int r_10), (6, .long v6), (8, .int v8)]) a_X10_stays_74 (Nat.le_of_ble_eq_true rfl) rfl ?_
    refine ge_lload a_X10_stays_76 5 rfl ?_
    refine ge_bipush (v := 10) a_X10_stays_78 rfl ?_
    refine ge_iload_n a_X10_stays_80 rfl 4 rfl ?_
    obtain ⟨z_15, hyp⟩ := hyp
    refine ge_idiv a_X10_stays_81 z_15 ?_
    refine ge_i2l a_X10_stays_82 ?_
    refine ge_lmul a_X10_stays_83 ?_
    refine ge_topl (fun v_16 ev_16 => ?_)
    have hyp := hyp v_16 ev_16
    refine ge_lstore (lv' := [(6, .long v_16), (4, .long v_14), (0, .ref 43), (1, .int a1), (2, .int a2), (3, .int r_10), (8, .int v8)]) a_X10_stays_84 (Nat.le_of_ble_eq_true rfl) rfl ?_
    obtain ⟨v_17, ev_17⟩ : ∃ y : Int32, y = v8 + (1 : Int32) := ⟨_, rfl⟩
    have hyp := hyp v_17 ev_17
    refine ge_iinc (v := v_17) (lv' := [(8, .int v_17), (6, .long v_16), (4, .long v_14), (0, .ref 43), (1, .int a1), (2, .int a2), (3, .int r_10)]) a_X10_stays_86 6 rfl ev_17.symm (Nat.le_of_ble_eq_true rfl) rfl ?_
    refine ge_goto a_X10_stays_89 ?_
    exact ge_sub [3, 4, 5, 6, 2, 1, 0] rfl (hK52 v_14 v_16 v_17 h hyp)
def f_X10_stays (a1 : Int32) (a2 : Int32) (h : Mem) (Q : Int64 → Mem → Prop) : Prop :=
  f_X10_within a1 (0 : Int32) (15 : Int32) h fun r_2 h_1 =>
  if r_2 = 0 then (
    f_X10_finding (-1000001 : Int32) h_1 fun r_5 h_4 =>
    Q r_5.toInt64 h_4)
  else (
    f_X10_within a2 (0 : Int32) (1 : Int32) h_1 fun r_7 h_6 =>
    if r_7 = 0 then (
      f_X10_finding (-1000001 : Int32) h_6 fun r_19 h_18 =>
      Q r_19.toInt64 h_18)
    else (
      f_X10_common ((10 : Int32) - (h_6 44 14)) (10 : Int32) h_6 fun r_10 h_9 =>
      gm_it3 (f_X10_stays_b52 a1 a2 r_10 Q ) gm_F (1 : Int64) (1 : Int64) (0 : Int32) h_9))
set_option maxRecDepth 20000 in
theorem t_X10_stays (a1 : Int32) (a2 : Int32)  (h : Mem) (Q : Int64 → Mem → Prop) (hyp : f_X10_stays a1 a2 h Q) : Cn m_X10_stays [.ref 43, .int a1, .int a2] h (GL Q) := by
  refine ge_entry (lv := [(0, .ref 43), (1, .int a1), (2, .int a2)]) pn_X10 (Nat.le_of_ble_eq_true rfl) rfl ?_
  unfold f_X10_stays at hyp
  refine ge_iload_n a_X10_stays_0 rfl 1 rfl ?_
  refine ge_iconst (v := 0) a_X10_stays_1 rfl ?_
  refine ge_bipush (v := 15) a_X10_stays_2 rfl ?_
  refine ge_cSI [.int a1, .int (0 : Int32), .int (15 : Int32)] (rest := []) a_X10_stays_4 ok_X10_within lk_X10_71 ⟨Nat.le_of_ble_eq_true rfl, Nat.le_of_ble_eq_true rfl⟩ rfl rfl (Nat.le_of_ble_eq_true rfl) (t_X10_within a1 (0 : Int32) (15 : Int32)  h _ hyp) (fun r_2 h_1 hyp => ?_)
  refine ge_if_eq a_X10_stays_7 (fun c_3 => ?_) (fun c_3 => ?_)
  · have hyp := gm_ip hyp c_3
    refine ge_aload_n a_X10_stays_19 rfl 0 rfl ?_
    refine ge_ldc (v := -1000001) a_X10_stays_20 ct_X10_66 ?_
    refine ge_cVI [.int (-1000001 : Int32)] (rest := []) a_X10_stays_22 ok_X10_finding lk_X10_83 ⟨Nat.le_of_ble_eq_true rfl, Nat.le_of_ble_eq_true rfl⟩ (rfl : gm_cls 43 = 9) vc_9 (by decide) rfl rfl (Nat.le_of_ble_eq_true rfl) (t_X10_finding (-1000001 : Int32)  h_1 _ hyp) (fun r_5 h_4 hyp => ?_)
    refine ge_i2l a_X10_stays_25 ?_
    exact ge_lret rfl a_X10_stays_26 hyp
  · have hyp := gm_in hyp c_3
    refine ge_iload_n a_X10_stays_10 rfl 2 rfl ?_
    refine ge_iconst (v := 0) a_X10_stays_11 rfl ?_
    refine ge_iconst (v := 1) a_X10_stays_12 rfl ?_
    refine ge_cSI [.int a2, .int (0 : Int32), .int (1 : Int32)] (rest := []) a_X10_stays_13 ok_X10_within lk_X10_71 ⟨Nat.le_of_ble_eq_true rfl, Nat.le_of_ble_eq_true rfl⟩ rfl rfl (Nat.le_of_ble_eq_true rfl) (t_X10_within a2 (0 : Int32) (1 : Int32)  h_1 _ hyp) (fun r_7 h_6 hyp => ?_)
    refine ge_if_ne a_X10_stays_16 (fun c_8 => ?_) (fun c_8 => ?_)
    · have hyp := gm_in hyp c_8
      refine ge_bipush (v := 10) a_X10_stays_27 rfl ?_
      refine ge_aload_n a_X10_stays_29 rfl 0 rfl ?_
      refine ge_getR (q := 44) a_X10_stays_30 fd_X10_9 (rfl : gm_cls 43 = 9) rfl ?_
      refine ge_bipush (v := 14) a_X10_stays_33 rfl ?_
      refine ge_iald (j := 14) a_X10_stays_35 ga_44 li_14_62.1 li_14_62.2 ?_
      refine ge_isub a_X10_stays_36 ?_
      refine ge_bipush (v := 10) a_X10_stays_37 rfl ?_
      refine ge_cSI [.int ((10 : Int32) - (h_6 44 14)), .int (10 : Int32)] (rest := []) a_X10_stays_39 ok_X10_common lk_X10_229 ⟨Nat.le_of_ble_eq_true rfl, Nat.le_of_ble_eq_true rfl⟩ rfl rfl (Nat.le_of_ble_eq_true rfl) (t_X10_common ((10 : Int32) - (h_6 44 14)) (10 : Int32)  h_6 _ hyp) (fun r_10 h_9 hyp => ?_)
      refine ge_istore_n (lv' := [(3, .int r_10), (0, .ref 43), (1, .int a1), (2, .int a2)]) a_X10_stays_42 rfl (Nat.le_of_ble_eq_true rfl) rfl ?_
      refine ge_lconst (v := 1) a_X10_stays_43 rfl ?_
      refine ge_lstore (lv' := [(4, .long (1 : Int64)), (3, .int r_10), (0, .ref 43), (1, .int a1), (2, .int a2)]) a_X10_stays_44 (Nat.le_of_ble_eq_true rfl) rfl ?_
      refine ge_lconst (v := 1) a_X10_stays_46 rfl ?_
      refine ge_lstore (lv' := [(6, .long (1 : Int64)), (4, .long (1 : Int64)), (3, .int r_10), (0, .ref 43), (1, .int a1), (2, .int a2)]) a_X10_stays_47 (Nat.le_of_ble_eq_true rfl) rfl ?_
      refine ge_iconst (v := 0) a_X10_stays_49 rfl ?_
      refine ge_istore (lv' := [(8, .int (0 : Int32)), (6, .long (1 : Int64)), (4, .long (1 : Int64)), (3, .int r_10), (0, .ref 43), (1, .int a1), (2, .int a2)]) a_X10_stays_50 (Nat.le_of_ble_eq_true rfl) rfl ?_
      exact ge_sub [4, 5, 6, 3, 2, 1, 0] rfl (t_X10_stays_b52 a1 a2 r_10   Q   gm_F (1 : Int64) (1 : Int64) (0 : Int32) h_9 hyp)
    · have hyp := gm_ip hyp c_8
      refine ge_aload_n a_X10_stays_19 rfl 0 rfl ?_
      refine ge_ldc (v := -1000001) a_X10_stays_20 ct_X10_66 ?_
      refine ge_cVI [.int (-1000001 : Int32)] (rest := []) a_X10_stays_22 ok_X10_finding lk_X10_83 ⟨Nat.le_of_ble_eq_true rfl, Nat.le_of_ble_eq_true rfl⟩ (rfl : gm_cls 43 = 9) vc_9 (by decide) rfl rfl (Nat.le_of_ble_eq_true rfl) (t_X10_finding (-1000001 : Int32)  h_6 _ hyp) (fun r_19 h_18 hyp => ?_)
      refine ge_i2l a_X10_stays_25 ?_
      exact ge_lret rfl a_X10_stays_26 hyp

theorem a_X10_drawn_0 : At m_X10_drawn 0 (.aload_n 0) 1 1 := at_i (by decide +kernel) rfl
theorem a_X10_drawn_1 : At m_X10_drawn 1 (.getfield 9) 3 4 := at_i (by decide +kernel) rfl
theorem a_X10_drawn_4 : At m_X10_drawn 4 (.iconst 5) 1 5 := at_i (by decide +kernel) rfl
theorem a_X10_drawn_5 : At m_X10_drawn 5 (.aload_n 0) 1 6 := at_i (by decide +kernel) rfl
theorem a_X10_drawn_6 : At m_X10_drawn 6 (.getfield 9) 3 9 := at_i (by decide +kernel) rfl
theorem a_X10_drawn_9 : At m_X10_drawn 9 (.iconst 5) 1 10 := at_i (by decide +kernel) rfl
theorem a_X10_drawn_10 : At m_X10_drawn 10 (.iaload) 1 11 := at_i (by decide +kernel) rfl
theorem a_X10_drawn_11 : At m_X10_drawn 11 (.ldc 232) 2 13 := at_i (by decide +kernel) rfl
theorem a_X10_drawn_13 : At m_X10_drawn 13 (.imul) 1 14 := at_i (by decide +kernel) rfl
theorem a_X10_drawn_14 : At m_X10_drawn 14 (.sipush 12345) 3 17 := at_i (by decide +kernel) rfl
theorem a_X10_drawn_17 : At m_X10_drawn 17 (.iadd) 1 18 := at_i (by decide +kernel) rfl
theorem a_X10_drawn_18 : At m_X10_drawn 18 (.iastore) 1 19 := at_i (by decide +kernel) rfl
theorem a_X10_drawn_19 : At m_X10_drawn 19 (.aload_n 0) 1 20 := at_i (by decide +kernel) rfl
theorem a_X10_drawn_20 : At m_X10_drawn 20 (.getfield 9) 3 23 := at_i (by decide +kernel) rfl
theorem a_X10_drawn_23 : At m_X10_drawn 23 (.iconst 5) 1 24 := at_i (by decide +kernel) rfl
theorem a_X10_drawn_24 : At m_X10_drawn 24 (.iaload) 1 25 := at_i (by decide +kernel) rfl
theorem a_X10_drawn_25 : At m_X10_drawn 25 (.bipush 8) 2 27 := at_i (by decide +kernel) rfl
theorem a_X10_drawn_27 : At m_X10_drawn 27 (.iushr) 1 28 := at_i (by decide +kernel) rfl
theorem a_X10_drawn_28 : At m_X10_drawn 28 (.iload_n 1) 1 29 := at_i (by decide +kernel) rfl
theorem a_X10_drawn_29 : At m_X10_drawn 29 (.irem) 1 30 := at_i (by decide +kernel) rfl
theorem a_X10_drawn_30 : At m_X10_drawn 30 (.ireturn) 1 31 := at_i (by decide +kernel) rfl
def f_X10_drawn (a1 : Int32) (h : Mem) (Q : Int32 → Mem → Prop) : Prop :=
  ∀ h_1 : Mem, h_1 = gm_st h 44 5 (((h 44 5) * (1103515245 : Int32)) + (12345 : Int32)) →
  ¬ a1 = 0 ∧
  Q ((((h_1 44 5).toUInt32 >>> ((8 : Int32).toUInt32 &&& Int32.toUInt32 31)).toInt32) - (((h_1 44 5).toUInt32 >>> ((8 : Int32).toUInt32 &&& Int32.toUInt32 31)).toInt32) / a1 * a1) h_1
set_option maxRecDepth 20000 in
theorem t_X10_drawn (a1 : Int32)  (h : Mem) (Q : Int32 → Mem → Prop) (hyp : f_X10_drawn a1 h Q) : Cn m_X10_drawn [.ref 43, .int a1] h (GI Q) := by
  refine ge_entry (lv := [(0, .ref 43), (1, .int a1)]) pn_X10 (Nat.le_of_ble_eq_true rfl) rfl ?_
  unfold f_X10_drawn at hyp
  refine ge_aload_n a_X10_drawn_0 rfl 0 rfl ?_
  refine ge_getR (q := 44) a_X10_drawn_1 fd_X10_9 (rfl : gm_cls 43 = 9) rfl ?_
  refine ge_iconst (v := 5) a_X10_drawn_4 rfl ?_
  refine ge_aload_n a_X10_drawn_5 rfl 0 rfl ?_
  refine ge_getR (q := 44) a_X10_drawn_6 fd_X10_9 (rfl : gm_cls 43 = 9) rfl ?_
  refine ge_iconst (v := 5) a_X10_drawn_9 rfl ?_
  refine ge_iald (j := 5) a_X10_drawn_10 ga_44 li_5_62.1 li_5_62.2 ?_
  refine ge_ldc (v := 1103515245) a_X10_drawn_11 ct_X10_232 ?_
  refine ge_imul a_X10_drawn_13 ?_
  refine ge_sipush (v := 12345) a_X10_drawn_14 rfl ?_
  refine ge_iadd a_X10_drawn_17 ?_
  refine ge_iast (j := 5) a_X10_drawn_18 ga_44 li_5_62.1 li_5_62.2 ?_
  refine ge_nm (fun h_1 eh_1 => ?_)
  have hyp := hyp h_1 eh_1
  refine ge_aload_n a_X10_drawn_19 rfl 0 rfl ?_
  refine ge_getR (q := 44) a_X10_drawn_20 fd_X10_9 (rfl : gm_cls 43 = 9) rfl ?_
  refine ge_iconst (v := 5) a_X10_drawn_23 rfl ?_
  refine ge_iald (j := 5) a_X10_drawn_24 ga_44 li_5_62.1 li_5_62.2 ?_
  refine ge_bipush (v := 8) a_X10_drawn_25 rfl ?_
  refine ge_iushr a_X10_drawn_27 ?_
  refine ge_iload_n a_X10_drawn_28 rfl 1 rfl ?_
  obtain ⟨z_2, hyp⟩ := hyp
  refine ge_irem a_X10_drawn_29 z_2 ?_
  exact ge_iret rfl a_X10_drawn_30 hyp

theorem a_X10_leavesIn_0 : At m_X10_leavesIn 0 (.iconst 0) 1 1 := at_i (by decide +kernel) rfl
theorem a_X10_leavesIn_1 : At m_X10_leavesIn 1 (.istore_n 2) 1 2 := at_i (by decide +kernel) rfl
theorem a_X10_leavesIn_2 : At m_X10_leavesIn 2 (.iconst 0) 1 3 := at_i (by decide +kernel) rfl
theorem a_X10_leavesIn_3 : At m_X10_leavesIn 3 (.istore_n 3) 1 4 := at_i (by decide +kernel) rfl
theorem a_X10_leavesIn_4 : At m_X10_leavesIn 4 (.iload_n 3) 1 5 := at_i (by decide +kernel) rfl
theorem a_X10_leavesIn_5 : At m_X10_leavesIn 5 (.iload_n 1) 1 6 := at_i (by decide +kernel) rfl
theorem a_X10_leavesIn_6 : AtJ m_X10_leavesIn 6 (.if_icmp .ge 103) (103) 109 9 := at_j (by decide +kernel) (by decide) rfl
theorem a_X10_leavesIn_9 : At m_X10_leavesIn 9 (.aload_n 0) 1 10 := at_i (by decide +kernel) rfl
theorem a_X10_leavesIn_10 : At m_X10_leavesIn 10 (.invokevirtual 141) 3 13 := at_i (by decide +kernel) rfl
theorem a_X10_leavesIn_13 : AtJ m_X10_leavesIn 13 (.ifCond .le 96) (96) 109 16 := at_j (by decide +kernel) (by decide) rfl
theorem a_X10_leavesIn_16 : At m_X10_leavesIn 16 (.aload_n 0) 1 17 := at_i (by decide +kernel) rfl
theorem a_X10_leavesIn_17 : At m_X10_leavesIn 17 (.invokevirtual 138) 3 20 := at_i (by decide +kernel) rfl
theorem a_X10_leavesIn_20 : At m_X10_leavesIn 20 (.istore 4) 2 22 := at_i (by decide +kernel) rfl
theorem a_X10_leavesIn_22 : At m_X10_leavesIn 22 (.aload_n 0) 1 23 := at_i (by decide +kernel) rfl
theorem a_X10_leavesIn_23 : At m_X10_leavesIn 23 (.bipush 10) 2 25 := at_i (by decide +kernel) rfl
theorem a_X10_leavesIn_25 : At m_X10_leavesIn 25 (.invokevirtual 233) 3 28 := at_i (by decide +kernel) rfl
theorem a_X10_leavesIn_28 : At m_X10_leavesIn 28 (.aload_n 0) 1 29 := at_i (by decide +kernel) rfl
theorem a_X10_leavesIn_29 : At m_X10_leavesIn 29 (.getfield 9) 3 32 := at_i (by decide +kernel) rfl
theorem a_X10_leavesIn_32 : At m_X10_leavesIn 32 (.bipush 14) 2 34 := at_i (by decide +kernel) rfl
theorem a_X10_leavesIn_34 : At m_X10_leavesIn 34 (.iaload) 1 35 := at_i (by decide +kernel) rfl
theorem a_X10_leavesIn_35 : AtJ m_X10_leavesIn 35 (.if_icmp .ge 68) (68) 103 38 := at_j (by decide +kernel) (by decide) rfl
theorem a_X10_leavesIn_38 : At m_X10_leavesIn 38 (.iload_n 2) 1 39 := at_i (by decide +kernel) rfl
theorem a_X10_leavesIn_39 : At m_X10_leavesIn 39 (.iload 4) 2 41 := at_i (by decide +kernel) rfl
theorem a_X10_leavesIn_41 : AtJ m_X10_leavesIn 41 (.ifCond .ge 7) (7) 48 44 := at_j (by decide +kernel) (by decide) rfl
theorem a_X10_leavesIn_44 : At m_X10_leavesIn 44 (.iconst 0) 1 45 := at_i (by decide +kernel) rfl
theorem a_X10_leavesIn_45 : AtJ m_X10_leavesIn 45 (.goto 4) (4) 49 48 := at_j (by decide +kernel) (by decide) rfl
theorem a_X10_leavesIn_48 : At m_X10_leavesIn 48 (.iconst 1) 1 49 := at_i (by decide +kernel) rfl
theorem a_X10_leavesIn_49 : At m_X10_leavesIn 49 (.iadd) 1 50 := at_i (by decide +kernel) rfl
theorem a_X10_leavesIn_50 : At m_X10_leavesIn 50 (.istore_n 2) 1 51 := at_i (by decide +kernel) rfl
theorem a_X10_leavesIn_51 : At m_X10_leavesIn 51 (.aload_n 0) 1 52 := at_i (by decide +kernel) rfl
theorem a_X10_leavesIn_52 : At m_X10_leavesIn 52 (.getfield 9) 3 55 := at_i (by decide +kernel) rfl
theorem a_X10_leavesIn_55 : At m_X10_leavesIn 55 (.iconst 1) 1 56 := at_i (by decide +kernel) rfl
theorem a_X10_leavesIn_56 : At m_X10_leavesIn 56 (.dup2) 1 57 := at_i (by decide +kernel) rfl
theorem a_X10_leavesIn_57 : At m_X10_leavesIn 57 (.iaload) 1 58 := at_i (by decide +kernel) rfl
theorem a_X10_leavesIn_58 : At m_X10_leavesIn 58 (.aload_n 0) 1 59 := at_i (by decide +kernel) rfl
theorem a_X10_leavesIn_59 : At m_X10_leavesIn 59 (.getfield 9) 3 62 := at_i (by decide +kernel) rfl
theorem a_X10_leavesIn_62 : At m_X10_leavesIn 62 (.bipush 6) 2 64 := at_i (by decide +kernel) rfl
theorem a_X10_leavesIn_64 : At m_X10_leavesIn 64 (.iaload) 1 65 := at_i (by decide +kernel) rfl
theorem a_X10_leavesIn_65 : At m_X10_leavesIn 65 (.iconst 1) 1 66 := at_i (by decide +kernel) rfl
theorem a_X10_leavesIn_66 : At m_X10_leavesIn 66 (.aload_n 0) 1 67 := at_i (by decide +kernel) rfl
theorem a_X10_leavesIn_67 : At m_X10_leavesIn 67 (.bipush 8) 2 69 := at_i (by decide +kernel) rfl
theorem a_X10_leavesIn_69 : At m_X10_leavesIn 69 (.invokevirtual 233) 3 72 := at_i (by decide +kernel) rfl
theorem a_X10_leavesIn_72 : At m_X10_leavesIn 72 (.iadd) 1 73 := at_i (by decide +kernel) rfl
theorem a_X10_leavesIn_73 : At m_X10_leavesIn 73 (.imul) 1 74 := at_i (by decide +kernel) rfl
theorem a_X10_leavesIn_74 : At m_X10_leavesIn 74 (.iadd) 1 75 := at_i (by decide +kernel) rfl
theorem a_X10_leavesIn_75 : At m_X10_leavesIn 75 (.iastore) 1 76 := at_i (by decide +kernel) rfl
theorem a_X10_leavesIn_76 : At m_X10_leavesIn 76 (.aload_n 0) 1 77 := at_i (by decide +kernel) rfl
theorem a_X10_leavesIn_77 : At m_X10_leavesIn 77 (.getfield 9) 3 80 := at_i (by decide +kernel) rfl
theorem a_X10_leavesIn_80 : At m_X10_leavesIn 80 (.iconst 0) 1 81 := at_i (by decide +kernel) rfl
theorem a_X10_leavesIn_81 : At m_X10_leavesIn 81 (.aload_n 0) 1 82 := at_i (by decide +kernel) rfl
theorem a_X10_leavesIn_82 : At m_X10_leavesIn 82 (.getfield 9) 3 85 := at_i (by decide +kernel) rfl
theorem a_X10_leavesIn_85 : At m_X10_leavesIn 85 (.iconst 4) 1 86 := at_i (by decide +kernel) rfl
theorem a_X10_leavesIn_86 : At m_X10_leavesIn 86 (.iaload) 1 87 := at_i (by decide +kernel) rfl
theorem a_X10_leavesIn_87 : At m_X10_leavesIn 87 (.aload_n 0) 1 88 := at_i (by decide +kernel) rfl
theorem a_X10_leavesIn_88 : At m_X10_leavesIn 88 (.getfield 9) 3 91 := at_i (by decide +kernel) rfl
theorem a_X10_leavesIn_91 : At m_X10_leavesIn 91 (.iconst 0) 1 92 := at_i (by decide +kernel) rfl
theorem a_X10_leavesIn_92 : At m_X10_leavesIn 92 (.iaload) 1 93 := at_i (by decide +kernel) rfl
theorem a_X10_leavesIn_93 : At m_X10_leavesIn 93 (.aload_n 0) 1 94 := at_i (by decide +kernel) rfl
theorem a_X10_leavesIn_94 : At m_X10_leavesIn 94 (.iconst 3) 1 95 := at_i (by decide +kernel) rfl
theorem a_X10_leavesIn_95 : At m_X10_leavesIn 95 (.invokevirtual 233) 3 98 := at_i (by decide +kernel) rfl
theorem a_X10_leavesIn_98 : At m_X10_leavesIn 98 (.iadd) 1 99 := at_i (by decide +kernel) rfl
theorem a_X10_leavesIn_99 : At m_X10_leavesIn 99 (.invokestatic 128) 3 102 := at_i (by decide +kernel) rfl
theorem a_X10_leavesIn_102 : At m_X10_leavesIn 102 (.iastore) 1 103 := at_i (by decide +kernel) rfl
theorem a_X10_leavesIn_103 : At m_X10_leavesIn 103 (.iinc 3 1) 3 106 := at_i (by decide +kernel) rfl
theorem a_X10_leavesIn_106 : AtJ m_X10_leavesIn 106 (.goto (-102)) (-102) 4 109 := at_j (by decide +kernel) (by decide) rfl
theorem a_X10_leavesIn_109 : At m_X10_leavesIn 109 (.iload_n 2) 1 110 := at_i (by decide +kernel) rfl
theorem a_X10_leavesIn_110 : At m_X10_leavesIn 110 (.ireturn) 1 111 := at_i (by decide +kernel) rfl
def f_X10_leavesIn_b49 (a1 : Int32)  (Q : Int32 → Mem → Prop) (K4 : Int32 → Int32 → Mem → Prop) (v3 : Int32) (s0 : Int32) (s1 : Int32) (h : Mem) : Prop :=
  ∀ v_12 : Int32, v_12 = s1 + s0 →
  f_X10_drawn (8 : Int32) h fun r_14 h_13 =>
  ∀ h_15 : Mem, h_15 = gm_st h_13 44 1 ((h 44 1) + ((h 44 6) * ((1 : Int32) + r_14))) →
  f_X10_drawn (3 : Int32) h_15 fun r_17 h_16 =>
  ∀ v_18 : Int32, v_18 = (if (h_15 44 0) + r_17 < h_15 44 4 then (h_15 44 0) + r_17 else h_15 44 4) →
  ∀ h_19 : Mem, h_19 = gm_st h_16 44 0 v_18 →
  ∀ v_20 : Int32, v_20 = v3 + (1 : Int32) →
  K4 v_12 v_20 h_19
set_option maxRecDepth 20000 in
theorem t_X10_leavesIn_b49 (a1 : Int32)    (Q : Int32 → Mem → Prop) (K4 : Int32 → Int32 → Mem → Prop) (hK4 : ∀ (v2 : Int32) (v3 : Int32) h, K4 v2 v3 h → EV m_X10_leavesIn (GI Q) 4 [(0, .ref 43), (1, .int a1), (2, .int v2), (3, .int v3)] [] h) (v3 : Int32) (s0 : Int32) (s1 : Int32) (h : Mem) (hyp : f_X10_leavesIn_b49 a1  Q K4 v3 s0 s1 h) : EV m_X10_leavesIn (GI Q) 49 [(0, .ref 43), (1, .int a1), (3, .int v3)] [.int s0, .int s1] h := by
  unfold f_X10_leavesIn_b49 at hyp
  refine ge_iadd a_X10_leavesIn_49 ?_
  refine ge_topi (fun v_12 ev_12 => ?_)
  have hyp := hyp v_12 ev_12
  refine ge_istore_n (lv' := [(2, .int v_12), (0, .ref 43), (1, .int a1), (3, .int v3)]) a_X10_leavesIn_50 rfl (Nat.le_of_ble_eq_true rfl) rfl ?_
  refine ge_aload_n a_X10_leavesIn_51 rfl 1 rfl ?_
  refine ge_getR (q := 44) a_X10_leavesIn_52 fd_X10_9 (rfl : gm_cls 43 = 9) rfl ?_
  refine ge_iconst (v := 1) a_X10_leavesIn_55 rfl ?_
  refine ge_dup2 a_X10_leavesIn_56 rfl rfl ?_
  refine ge_iald (j := 1) a_X10_leavesIn_57 ga_44 li_1_62.1 li_1_62.2 ?_
  refine ge_aload_n a_X10_leavesIn_58 rfl 1 rfl ?_
  refine ge_getR (q := 44) a_X10_leavesIn_59 fd_X10_9 (rfl : gm_cls 43 = 9) rfl ?_
  refine ge_bipush (v := 6) a_X10_leavesIn_62 rfl ?_
  refine ge_iald (j := 6) a_X10_leavesIn_64 ga_44 li_6_62.1 li_6_62.2 ?_
  refine ge_iconst (v := 1) a_X10_leavesIn_65 rfl ?_
  refine ge_aload_n a_X10_leavesIn_66 rfl 1 rfl ?_
  refine ge_bipush (v := 8) a_X10_leavesIn_67 rfl ?_
  refine ge_cVI [.int (8 : Int32)] (rest := [.int (1 : Int32), .int (h 44 6), .int (h 44 1), .int (1 : Int32), .ref 44]) a_X10_leavesIn_69 ok_X10_drawn lk_X10_233 ⟨Nat.le_of_ble_eq_true rfl, Nat.le_of_ble_eq_true rfl⟩ (rfl : gm_cls 43 = 9) vc_9 (by decide) rfl rfl (Nat.le_of_ble_eq_true rfl) (t_X10_drawn (8 : Int32)  h _ hyp) (fun r_14 h_13 hyp => ?_)
  refine ge_iadd a_X10_leavesIn_72 ?_
  refine ge_imul a_X10_leavesIn_73 ?_
  refine ge_iadd a_X10_leavesIn_74 ?_
  refine ge_iast (j := 1) a_X10_leavesIn_75 ga_44 li_1_62.1 li_1_62.2 ?_
  refine ge_nm (fun h_15 eh_15 => ?_)
  have hyp := hyp h_15 eh_15
  refine ge_aload_n a_X10_leavesIn_76 rfl 1 rfl ?_
  refine ge_getR (q := 44) a_X10_leavesIn_77 fd_X10_9 (rfl : gm_cls 43 = 9) rfl ?_
  refine ge_iconst (v := 0) a_X10_leavesIn_80 rfl ?_
  refine ge_aload_n a_X10_leavesIn_81 rfl 1 rfl ?_
  refine ge_getR (q := 44) a_X10_leavesIn_82 fd_X10_9 (rfl : gm_cls 43 = 9) rfl ?_
  refine ge_iconst (v := 4) a_X10_leavesIn_85 rfl ?_
  refine ge_iald (j := 4) a_X10_leavesIn_86 ga_44 li_4_62.1 li_4_62.2 ?_
  refine ge_aload_n a_X10_leavesIn_87 rfl 1 rfl ?_
  refine ge_getR (q := 44) a_X10_leavesIn_88 fd_X10_9 (rfl : gm_cls 43 = 9) rfl ?_
  refine ge_iconst (v := 0) a_X10_leavesIn_91 rfl ?_
  refine ge_iald (j := 0) a_X10_leavesIn_92 ga_44 li_0_62.1 li_0_62.2 ?_
  refine ge_aload_n a_X10_leavesIn_93 rfl 1 rfl ?_
  refine ge_iconst (v := 3) a_X10_leavesIn_94 rfl ?_
  refine ge_cVI [.int (3 : Int32)] (rest := [.int (h_15 44 0), .int (h_15 44 4), .int (0 : Int32), .ref 44]) a_X10_leavesIn_95 ok_X10_drawn lk_X10_233 ⟨Nat.le_of_ble_eq_true rfl, Nat.le_of_ble_eq_true rfl⟩ (rfl : gm_cls 43 = 9) vc_9 (by decide) rfl rfl (Nat.le_of_ble_eq_true rfl) (t_X10_drawn (3 : Int32)  h_15 _ hyp) (fun r_17 h_16 hyp => ?_)
  refine ge_iadd a_X10_leavesIn_98 ?_
  refine ge_mmin (rest := [.int (0 : Int32), .ref 44]) a_X10_leavesIn_99 lk_X10_128 (Nat.le_of_ble_eq_true rfl) (Nat.le_of_ble_eq_true rfl) ?_
  refine ge_topi (fun v_18 ev_18 => ?_)
  have hyp := hyp v_18 ev_18
  refine ge_iast (j := 0) a_X10_leavesIn_102 ga_44 li_0_62.1 li_0_62.2 ?_
  refine ge_nm (fun h_19 eh_19 => ?_)
  have hyp := hyp h_19 eh_19
  obtain ⟨v_20, ev_20⟩ : ∃ y : Int32, y = v3 + (1 : Int32) := ⟨_, rfl⟩
  have hyp := hyp v_20 ev_20
  refine ge_iinc (v := v_20) (lv' := [(3, .int v_20), (2, .int v_12), (0, .ref 43), (1, .int a1)]) a_X10_leavesIn_103 3 rfl ev_20.symm (Nat.le_of_ble_eq_true rfl) rfl ?_
  refine ge_goto a_X10_leavesIn_106 ?_
  exact ge_sub [2, 3, 1, 0] rfl (hK4 v_12 v_20 h_19 hyp)
def f_X10_leavesIn_b4 (a1 : Int32)  (Q : Int32 → Mem → Prop)  (K4 : Int32 → Int32 → Mem → Prop) (v2 : Int32) (v3 : Int32) (h : Mem) : Prop :=
  if a1 ≤ v3 then (
    Q v2 h)
  else (
    f_X10_left  h fun r_3 h_2 =>
    if r_3 ≤ 0 then (
      Q v2 h_2)
    else (
      f_X10_reads  h_2 fun r_6 h_5 =>
      f_X10_drawn (10 : Int32) h_5 fun r_8 h_7 =>
      if h_7 44 14 ≤ r_8 then (
        ∀ v_10 : Int32, v_10 = v3 + (1 : Int32) →
        K4 v2 v_10 h_7)
      else (
        if 0 ≤ r_6 then (
          f_X10_leavesIn_b49 a1  Q K4 v3 (1 : Int32) v2 h_7)
        else (
          f_X10_leavesIn_b49 a1  Q K4 v3 (0 : Int32) v2 h_7))))
set_option maxRecDepth 20000 in
theorem t_X10_leavesIn_b4 (a1 : Int32)    (Q : Int32 → Mem → Prop)   : ∀ (n : Nat) (v2 : Int32) (v3 : Int32) (h : Mem), gm_it2 (f_X10_leavesIn_b4 a1  Q ) n v2 v3 h → EV m_X10_leavesIn (GI Q) 4 [(0, .ref 43), (1, .int a1), (2, .int v2), (3, .int v3)] [] h := by
  refine ge_loop2 (P := fun v2 v3 h => EV m_X10_leavesIn (GI Q) 4 [(0, .ref 43), (1, .int a1), (2, .int v2), (3, .int v3)] [] h) (fun K4 hK4 v2 v3 h hyp => ?_)
  unfold f_X10_leavesIn_b4 at hyp
  refine ge_iload_n a_X10_leavesIn_4 rfl 3 rfl ?_
  refine ge_iload_n a_X10_leavesIn_5 rfl 1 rfl ?_
  refine ge_icmp_ge a_X10_leavesIn_6 (fun c_1 => ?_) (fun c_1 => ?_)
  · have hyp := gm_ip hyp c_1
    refine ge_iload_n a_X10_leavesIn_109 rfl 2 rfl ?_
    exact ge_iret rfl a_X10_leavesIn_110 hyp
  · have hyp := gm_in hyp c_1
    refine ge_aload_n a_X10_leavesIn_9 rfl 0 rfl ?_
    refine ge_cVI [] (rest := []) a_X10_leavesIn_10 ok_X10_left lk_X10_141 ⟨Nat.le_of_ble_eq_true rfl, Nat.le_of_ble_eq_true rfl⟩ (rfl : gm_cls 43 = 9) vc_9 (by decide) rfl rfl (Nat.le_of_ble_eq_true rfl) (t_X10_left   h _ hyp) (fun r_3 h_2 hyp => ?_)
    refine ge_if_le a_X10_leavesIn_13 (fun c_4 => ?_) (fun c_4 => ?_)
    · have hyp := gm_ip hyp c_4
      refine ge_iload_n a_X10_leavesIn_109 rfl 2 rfl ?_
      exact ge_iret rfl a_X10_leavesIn_110 hyp
    · have hyp := gm_in hyp c_4
      refine ge_aload_n a_X10_leavesIn_16 rfl 0 rfl ?_
      refine ge_cVI [] (rest := []) a_X10_leavesIn_17 ok_X10_reads lk_X10_138 ⟨Nat.le_of_ble_eq_true rfl, Nat.le_of_ble_eq_true rfl⟩ (rfl : gm_cls 43 = 9) vc_9 (by decide) rfl rfl (Nat.le_of_ble_eq_true rfl) (t_X10_reads   h_2 _ hyp) (fun r_6 h_5 hyp => ?_)
      refine ge_istore (lv' := [(4, .int r_6), (0, .ref 43), (1, .int a1), (2, .int v2), (3, .int v3)]) a_X10_leavesIn_20 (Nat.le_of_ble_eq_true rfl) rfl ?_
      refine ge_aload_n a_X10_leavesIn_22 rfl 1 rfl ?_
      refine ge_bipush (v := 10) a_X10_leavesIn_23 rfl ?_
      refine ge_cVI [.int (10 : Int32)] (rest := []) a_X10_leavesIn_25 ok_X10_drawn lk_X10_233 ⟨Nat.le_of_ble_eq_true rfl, Nat.le_of_ble_eq_true rfl⟩ (rfl : gm_cls 43 = 9) vc_9 (by decide) rfl rfl (Nat.le_of_ble_eq_true rfl) (t_X10_drawn (10 : Int32)  h_5 _ hyp) (fun r_8 h_7 hyp => ?_)
      refine ge_aload_n a_X10_leavesIn_28 rfl 1 rfl ?_
      refine ge_getR (q := 44) a_X10_leavesIn_29 fd_X10_9 (rfl : gm_cls 43 = 9) rfl ?_
      refine ge_bipush (v := 14) a_X10_leavesIn_32 rfl ?_
      refine ge_iald (j := 14) a_X10_leavesIn_34 ga_44 li_14_62.1 li_14_62.2 ?_
      refine ge_icmp_ge a_X10_leavesIn_35 (fun c_9 => ?_) (fun c_9 => ?_)
      · have hyp := gm_ip hyp c_9
        obtain ⟨v_10, ev_10⟩ : ∃ y : Int32, y = v3 + (1 : Int32) := ⟨_, rfl⟩
        have hyp := hyp v_10 ev_10
        refine ge_iinc (v := v_10) (lv' := [(3, .int v_10), (4, .int r_6), (0, .ref 43), (1, .int a1), (2, .int v2)]) a_X10_leavesIn_103 4 rfl ev_10.symm (Nat.le_of_ble_eq_true rfl) rfl ?_
        refine ge_goto a_X10_leavesIn_106 ?_
        exact ge_sub [2, 3, 4, 0] rfl (hK4 v2 v_10 h_7 hyp)
      · have hyp := gm_in hyp c_9
        refine ge_iload_n a_X10_leavesIn_38 rfl 3 rfl ?_
        refine ge_iload a_X10_leavesIn_39 0 rfl ?_
        refine ge_if_ge a_X10_leavesIn_41 (fun c_11 => ?_) (fun c_11 => ?_)
        · have hyp := gm_ip hyp c_11
          refine ge_iconst (v := 1) a_X10_leavesIn_48 rfl ?_
          exact ge_sub [1, 2, 4] rfl (t_X10_leavesIn_b49 a1    Q K4 hK4 v3 (1 : Int32) v2 h_7 hyp)
        · have hyp := gm_in hyp c_11
          refine ge_iconst (v := 0) a_X10_leavesIn_44 rfl ?_
          refine ge_goto a_X10_leavesIn_45 ?_
          exact ge_sub [1, 2, 4] rfl (t_X10_leavesIn_b49 a1    Q K4 hK4 v3 (0 : Int32) v2 h_7 hyp)
def f_X10_leavesIn (a1 : Int32) (h : Mem) (Q : Int32 → Mem → Prop) : Prop :=
  gm_it2 (f_X10_leavesIn_b4 a1  Q ) gm_F (0 : Int32) (0 : Int32) h
set_option maxRecDepth 20000 in
theorem t_X10_leavesIn (a1 : Int32)  (h : Mem) (Q : Int32 → Mem → Prop) (hyp : f_X10_leavesIn a1 h Q) : Cn m_X10_leavesIn [.ref 43, .int a1] h (GI Q) := by
  refine ge_entry (lv := [(0, .ref 43), (1, .int a1)]) pn_X10 (Nat.le_of_ble_eq_true rfl) rfl ?_
  unfold f_X10_leavesIn at hyp
  refine ge_iconst (v := 0) a_X10_leavesIn_0 rfl ?_
  refine ge_istore_n (lv' := [(2, .int (0 : Int32)), (0, .ref 43), (1, .int a1)]) a_X10_leavesIn_1 rfl (Nat.le_of_ble_eq_true rfl) rfl ?_
  refine ge_iconst (v := 0) a_X10_leavesIn_2 rfl ?_
  refine ge_istore_n (lv' := [(3, .int (0 : Int32)), (2, .int (0 : Int32)), (0, .ref 43), (1, .int a1)]) a_X10_leavesIn_3 rfl (Nat.le_of_ble_eq_true rfl) rfl ?_
  exact ge_sub [2, 3, 1, 0] rfl (t_X10_leavesIn_b4 a1    Q   gm_F (0 : Int32) (0 : Int32) h hyp)

theorem a_X10_evening_0 : At m_X10_evening 0 (.iload_n 1) 1 1 := at_i (by decide +kernel) rfl
theorem a_X10_evening_1 : At m_X10_evening 1 (.iconst 1) 1 2 := at_i (by decide +kernel) rfl
theorem a_X10_evening_2 : At m_X10_evening 2 (.bipush 12) 2 4 := at_i (by decide +kernel) rfl
theorem a_X10_evening_4 : At m_X10_evening 4 (.invokestatic 71) 3 7 := at_i (by decide +kernel) rfl
theorem a_X10_evening_7 : AtJ m_X10_evening 7 (.ifCond .ne 10) (10) 17 10 := at_j (by decide +kernel) (by decide) rfl
theorem a_X10_evening_10 : At m_X10_evening 10 (.aload_n 0) 1 11 := at_i (by decide +kernel) rfl
theorem a_X10_evening_11 : At m_X10_evening 11 (.ldc 66) 2 13 := at_i (by decide +kernel) rfl
theorem a_X10_evening_13 : At m_X10_evening 13 (.invokevirtual 83) 3 16 := at_i (by decide +kernel) rfl
theorem a_X10_evening_16 : At m_X10_evening 16 (.ireturn) 1 17 := at_i (by decide +kernel) rfl
theorem a_X10_evening_17 : At m_X10_evening 17 (.aload_n 0) 1 18 := at_i (by decide +kernel) rfl
theorem a_X10_evening_18 : At m_X10_evening 18 (.invokevirtual 141) 3 21 := at_i (by decide +kernel) rfl
theorem a_X10_evening_21 : AtJ m_X10_evening 21 (.ifCond .eq 14) (14) 35 24 := at_j (by decide +kernel) (by decide) rfl
theorem a_X10_evening_24 : At m_X10_evening 24 (.aload_n 0) 1 25 := at_i (by decide +kernel) rfl
theorem a_X10_evening_25 : At m_X10_evening 25 (.getfield 9) 3 28 := at_i (by decide +kernel) rfl
theorem a_X10_evening_28 : At m_X10_evening 28 (.iconst 1) 1 29 := at_i (by decide +kernel) rfl
theorem a_X10_evening_29 : At m_X10_evening 29 (.iaload) 1 30 := at_i (by decide +kernel) rfl
theorem a_X10_evening_30 : At m_X10_evening 30 (.ldc 236) 2 32 := at_i (by decide +kernel) rfl
theorem a_X10_evening_32 : AtJ m_X10_evening 32 (.if_icmp .le 12) (12) 44 35 := at_j (by decide +kernel) (by decide) rfl
theorem a_X10_evening_35 : At m_X10_evening 35 (.aload_n 0) 1 36 := at_i (by decide +kernel) rfl
theorem a_X10_evening_36 : At m_X10_evening 36 (.ldc 144) 2 38 := at_i (by decide +kernel) rfl
theorem a_X10_evening_38 : At m_X10_evening 38 (.invokevirtual 83) 3 41 := at_i (by decide +kernel) rfl
theorem a_X10_evening_41 : AtJ m_X10_evening 41 (.goto 8) (8) 49 44 := at_j (by decide +kernel) (by decide) rfl
theorem a_X10_evening_44 : At m_X10_evening 44 (.aload_n 0) 1 45 := at_i (by decide +kernel) rfl
theorem a_X10_evening_45 : At m_X10_evening 45 (.iload_n 1) 1 46 := at_i (by decide +kernel) rfl
theorem a_X10_evening_46 : At m_X10_evening 46 (.invokevirtual 237) 3 49 := at_i (by decide +kernel) rfl
theorem a_X10_evening_49 : At m_X10_evening 49 (.ireturn) 1 50 := at_i (by decide +kernel) rfl
def f_X10_evening (a1 : Int32) (h : Mem) (Q : Int32 → Mem → Prop) : Prop :=
  f_X10_within a1 (1 : Int32) (12 : Int32) h fun r_2 h_1 =>
  if r_2 = 0 then (
    f_X10_finding (-1000001 : Int32) h_1 fun r_16 h_15 =>
    Q r_16 h_15)
  else (
    f_X10_left  h_1 fun r_5 h_4 =>
    if r_5 = 0 then (
      f_X10_finding (-1000005 : Int32) h_4 fun r_8 h_7 =>
      Q r_8 h_7)
    else (
      ∀ v_9 : Int32, v_9 = (9900000 : Int32) →
      if h_4 44 1 ≤ v_9 then (
        f_X10_leavesIn a1 h_4 fun r_12 h_11 =>
        Q r_12 h_11)
      else (
        f_X10_finding (-1000005 : Int32) h_4 fun r_14 h_13 =>
        Q r_14 h_13)))
set_option maxRecDepth 20000 in
theorem t_X10_evening (a1 : Int32)  (h : Mem) (Q : Int32 → Mem → Prop) (hyp : f_X10_evening a1 h Q) : Cn m_X10_evening [.ref 43, .int a1] h (GI Q) := by
  refine ge_entry (lv := [(0, .ref 43), (1, .int a1)]) pn_X10 (Nat.le_of_ble_eq_true rfl) rfl ?_
  unfold f_X10_evening at hyp
  refine ge_iload_n a_X10_evening_0 rfl 1 rfl ?_
  refine ge_iconst (v := 1) a_X10_evening_1 rfl ?_
  refine ge_bipush (v := 12) a_X10_evening_2 rfl ?_
  refine ge_cSI [.int a1, .int (1 : Int32), .int (12 : Int32)] (rest := []) a_X10_evening_4 ok_X10_within lk_X10_71 ⟨Nat.le_of_ble_eq_true rfl, Nat.le_of_ble_eq_true rfl⟩ rfl rfl (Nat.le_of_ble_eq_true rfl) (t_X10_within a1 (1 : Int32) (12 : Int32)  h _ hyp) (fun r_2 h_1 hyp => ?_)
  refine ge_if_ne a_X10_evening_7 (fun c_3 => ?_) (fun c_3 => ?_)
  · have hyp := gm_in hyp c_3
    refine ge_aload_n a_X10_evening_17 rfl 0 rfl ?_
    refine ge_cVI [] (rest := []) a_X10_evening_18 ok_X10_left lk_X10_141 ⟨Nat.le_of_ble_eq_true rfl, Nat.le_of_ble_eq_true rfl⟩ (rfl : gm_cls 43 = 9) vc_9 (by decide) rfl rfl (Nat.le_of_ble_eq_true rfl) (t_X10_left   h_1 _ hyp) (fun r_5 h_4 hyp => ?_)
    refine ge_if_eq a_X10_evening_21 (fun c_6 => ?_) (fun c_6 => ?_)
    · have hyp := gm_ip hyp c_6
      refine ge_aload_n a_X10_evening_35 rfl 0 rfl ?_
      refine ge_ldc (v := -1000005) a_X10_evening_36 ct_X10_144 ?_
      refine ge_cVI [.int (-1000005 : Int32)] (rest := []) a_X10_evening_38 ok_X10_finding lk_X10_83 ⟨Nat.le_of_ble_eq_true rfl, Nat.le_of_ble_eq_true rfl⟩ (rfl : gm_cls 43 = 9) vc_9 (by decide) rfl rfl (Nat.le_of_ble_eq_true rfl) (t_X10_finding (-1000005 : Int32)  h_4 _ hyp) (fun r_8 h_7 hyp => ?_)
      refine ge_goto a_X10_evening_41 ?_
      exact ge_iret rfl a_X10_evening_49 hyp
    · have hyp := gm_in hyp c_6
      refine ge_aload_n a_X10_evening_24 rfl 0 rfl ?_
      refine ge_getR (q := 44) a_X10_evening_25 fd_X10_9 (rfl : gm_cls 43 = 9) rfl ?_
      refine ge_iconst (v := 1) a_X10_evening_28 rfl ?_
      refine ge_iald (j := 1) a_X10_evening_29 ga_44 li_1_62.1 li_1_62.2 ?_
      refine ge_ldc (v := 9900000) a_X10_evening_30 ct_X10_236 ?_
      refine ge_topi (fun v_9 ev_9 => ?_)
      have hyp := hyp v_9 ev_9
      refine ge_icmp_le a_X10_evening_32 (fun c_10 => ?_) (fun c_10 => ?_)
      · have hyp := gm_ip hyp c_10
        refine ge_aload_n a_X10_evening_44 rfl 0 rfl ?_
        refine ge_iload_n a_X10_evening_45 rfl 1 rfl ?_
        refine ge_cVI [.int a1] (rest := []) a_X10_evening_46 ok_X10_leavesIn lk_X10_237 ⟨Nat.le_of_ble_eq_true rfl, Nat.le_of_ble_eq_true rfl⟩ (rfl : gm_cls 43 = 9) vc_9 (by decide) rfl rfl (Nat.le_of_ble_eq_true rfl) (t_X10_leavesIn a1  h_4 _ hyp) (fun r_12 h_11 hyp => ?_)
        exact ge_iret rfl a_X10_evening_49 hyp
      · have hyp := gm_in hyp c_10
        refine ge_aload_n a_X10_evening_35 rfl 0 rfl ?_
        refine ge_ldc (v := -1000005) a_X10_evening_36 ct_X10_144 ?_
        refine ge_cVI [.int (-1000005 : Int32)] (rest := []) a_X10_evening_38 ok_X10_finding lk_X10_83 ⟨Nat.le_of_ble_eq_true rfl, Nat.le_of_ble_eq_true rfl⟩ (rfl : gm_cls 43 = 9) vc_9 (by decide) rfl rfl (Nat.le_of_ble_eq_true rfl) (t_X10_finding (-1000005 : Int32)  h_4 _ hyp) (fun r_14 h_13 hyp => ?_)
        refine ge_goto a_X10_evening_41 ?_
        exact ge_iret rfl a_X10_evening_49 hyp
  · have hyp := gm_ip hyp c_3
    refine ge_aload_n a_X10_evening_10 rfl 0 rfl ?_
    refine ge_ldc (v := -1000001) a_X10_evening_11 ct_X10_66 ?_
    refine ge_cVI [.int (-1000001 : Int32)] (rest := []) a_X10_evening_13 ok_X10_finding lk_X10_83 ⟨Nat.le_of_ble_eq_true rfl, Nat.le_of_ble_eq_true rfl⟩ (rfl : gm_cls 43 = 9) vc_9 (by decide) rfl rfl (Nat.le_of_ble_eq_true rfl) (t_X10_finding (-1000001 : Int32)  h_1 _ hyp) (fun r_16 h_15 hyp => ?_)
    exact ge_iret rfl a_X10_evening_16 hyp

theorem a_X10_ahead_0 : At m_X10_ahead 0 (.iload_n 1) 1 1 := at_i (by decide +kernel) rfl
theorem a_X10_ahead_1 : At m_X10_ahead 1 (.iconst 0) 1 2 := at_i (by decide +kernel) rfl
theorem a_X10_ahead_2 : At m_X10_ahead 2 (.bipush 20) 2 4 := at_i (by decide +kernel) rfl
theorem a_X10_ahead_4 : At m_X10_ahead 4 (.invokestatic 71) 3 7 := at_i (by decide +kernel) rfl
theorem a_X10_ahead_7 : AtJ m_X10_ahead 7 (.ifCond .ne 10) (10) 17 10 := at_j (by decide +kernel) (by decide) rfl
theorem a_X10_ahead_10 : At m_X10_ahead 10 (.aload_n 0) 1 11 := at_i (by decide +kernel) rfl
theorem a_X10_ahead_11 : At m_X10_ahead 11 (.ldc 66) 2 13 := at_i (by decide +kernel) rfl
theorem a_X10_ahead_13 : At m_X10_ahead 13 (.invokevirtual 83) 3 16 := at_i (by decide +kernel) rfl
theorem a_X10_ahead_16 : At m_X10_ahead 16 (.ireturn) 1 17 := at_i (by decide +kernel) rfl
theorem a_X10_ahead_17 : At m_X10_ahead 17 (.aload_n 0) 1 18 := at_i (by decide +kernel) rfl
theorem a_X10_ahead_18 : At m_X10_ahead 18 (.getfield 9) 3 21 := at_i (by decide +kernel) rfl
theorem a_X10_ahead_21 : At m_X10_ahead 21 (.aload_n 0) 1 22 := at_i (by decide +kernel) rfl
theorem a_X10_ahead_22 : At m_X10_ahead 22 (.getfield 16) 3 25 := at_i (by decide +kernel) rfl
theorem a_X10_ahead_25 : At m_X10_ahead 25 (.invokestatic 67) 3 28 := at_i (by decide +kernel) rfl
theorem a_X10_ahead_28 : At m_X10_ahead 28 (.iconst 0) 1 29 := at_i (by decide +kernel) rfl
theorem a_X10_ahead_29 : At m_X10_ahead 29 (.istore_n 2) 1 30 := at_i (by decide +kernel) rfl
theorem a_X10_ahead_30 : At m_X10_ahead 30 (.iconst 0) 1 31 := at_i (by decide +kernel) rfl
theorem a_X10_ahead_31 : At m_X10_ahead 31 (.istore_n 3) 1 32 := at_i (by decide +kernel) rfl
theorem a_X10_ahead_32 : At m_X10_ahead 32 (.iload_n 3) 1 33 := at_i (by decide +kernel) rfl
theorem a_X10_ahead_33 : At m_X10_ahead 33 (.iload_n 1) 1 34 := at_i (by decide +kernel) rfl
theorem a_X10_ahead_34 : AtJ m_X10_ahead 34 (.if_icmp .ge 45) (45) 79 37 := at_j (by decide +kernel) (by decide) rfl
theorem a_X10_ahead_37 : At m_X10_ahead 37 (.iload_n 2) 1 38 := at_i (by decide +kernel) rfl
theorem a_X10_ahead_38 : At m_X10_ahead 38 (.aload_n 0) 1 39 := at_i (by decide +kernel) rfl
theorem a_X10_ahead_39 : At m_X10_ahead 39 (.bipush 12) 2 41 := at_i (by decide +kernel) rfl
theorem a_X10_ahead_41 : At m_X10_ahead 41 (.invokevirtual 237) 3 44 := at_i (by decide +kernel) rfl
theorem a_X10_ahead_44 : At m_X10_ahead 44 (.iadd) 1 45 := at_i (by decide +kernel) rfl
theorem a_X10_ahead_45 : At m_X10_ahead 45 (.istore_n 2) 1 46 := at_i (by decide +kernel) rfl
theorem a_X10_ahead_46 : At m_X10_ahead 46 (.aload_n 0) 1 47 := at_i (by decide +kernel) rfl
theorem a_X10_ahead_47 : At m_X10_ahead 47 (.getfield 9) 3 50 := at_i (by decide +kernel) rfl
theorem a_X10_ahead_50 : At m_X10_ahead 50 (.iconst 5) 1 51 := at_i (by decide +kernel) rfl
theorem a_X10_ahead_51 : At m_X10_ahead 51 (.iaload) 1 52 := at_i (by decide +kernel) rfl
theorem a_X10_ahead_52 : At m_X10_ahead 52 (.istore 4) 2 54 := at_i (by decide +kernel) rfl
theorem a_X10_ahead_54 : At m_X10_ahead 54 (.aload_n 0) 1 55 := at_i (by decide +kernel) rfl
theorem a_X10_ahead_55 : At m_X10_ahead 55 (.getfield 16) 3 58 := at_i (by decide +kernel) rfl
theorem a_X10_ahead_58 : At m_X10_ahead 58 (.aload_n 0) 1 59 := at_i (by decide +kernel) rfl
theorem a_X10_ahead_59 : At m_X10_ahead 59 (.getfield 9) 3 62 := at_i (by decide +kernel) rfl
theorem a_X10_ahead_62 : At m_X10_ahead 62 (.invokestatic 67) 3 65 := at_i (by decide +kernel) rfl
theorem a_X10_ahead_65 : At m_X10_ahead 65 (.aload_n 0) 1 66 := at_i (by decide +kernel) rfl
theorem a_X10_ahead_66 : At m_X10_ahead 66 (.getfield 9) 3 69 := at_i (by decide +kernel) rfl
theorem a_X10_ahead_69 : At m_X10_ahead 69 (.iconst 5) 1 70 := at_i (by decide +kernel) rfl
theorem a_X10_ahead_70 : At m_X10_ahead 70 (.iload 4) 2 72 := at_i (by decide +kernel) rfl
theorem a_X10_ahead_72 : At m_X10_ahead 72 (.iastore) 1 73 := at_i (by decide +kernel) rfl
theorem a_X10_ahead_73 : At m_X10_ahead 73 (.iinc 3 1) 3 76 := at_i (by decide +kernel) rfl
theorem a_X10_ahead_76 : AtJ m_X10_ahead 76 (.goto (-44)) (-44) 32 79 := at_j (by decide +kernel) (by decide) rfl
theorem a_X10_ahead_79 : At m_X10_ahead 79 (.aload_n 0) 1 80 := at_i (by decide +kernel) rfl
theorem a_X10_ahead_80 : At m_X10_ahead 80 (.iload_n 2) 1 81 := at_i (by decide +kernel) rfl
theorem a_X10_ahead_81 : At m_X10_ahead 81 (.invokevirtual 149) 3 84 := at_i (by decide +kernel) rfl
theorem a_X10_ahead_84 : At m_X10_ahead 84 (.ireturn) 1 85 := at_i (by decide +kernel) rfl
def f_X10_ahead_b32 (a1 : Int32)  (Q : Int32 → Mem → Prop)  (K32 : Int32 → Int32 → Mem → Prop) (v2 : Int32) (v3 : Int32) (h : Mem) : Prop :=
  if a1 ≤ v3 then (
    f_X10_putBack v2 h fun r_7 h_6 =>
    Q r_7 h_6)
  else (
    f_X10_leavesIn (12 : Int32) h fun r_9 h_8 =>
    ∀ v_10 : Int32, v_10 = v2 + r_9 →
    ∀ v_11 : Int32, v_11 = h_8 44 5 →
    f_X10_copyRow 46 62 44 62 h_8 fun h_12 =>
    ∀ h_13 : Mem, h_13 = gm_st h_12 44 5 v_11 →
    ∀ v_14 : Int32, v_14 = v3 + (1 : Int32) →
    K32 v_10 v_14 h_13)
set_option maxRecDepth 20000 in
theorem t_X10_ahead_b32 (a1 : Int32)    (Q : Int32 → Mem → Prop)   : ∀ (n : Nat) (v2 : Int32) (v3 : Int32) (h : Mem), gm_it2 (f_X10_ahead_b32 a1  Q ) n v2 v3 h → EV m_X10_ahead (GI Q) 32 [(0, .ref 43), (1, .int a1), (2, .int v2), (3, .int v3)] [] h := by
  refine ge_loop2 (P := fun v2 v3 h => EV m_X10_ahead (GI Q) 32 [(0, .ref 43), (1, .int a1), (2, .int v2), (3, .int v3)] [] h) (fun K32 hK32 v2 v3 h hyp => ?_)
  unfold f_X10_ahead_b32 at hyp
  refine ge_iload_n a_X10_ahead_32 rfl 3 rfl ?_
  refine ge_iload_n a_X10_ahead_33 rfl 1 rfl ?_
  refine ge_icmp_ge a_X10_ahead_34 (fun c_5 => ?_) (fun c_5 => ?_)
  · have hyp := gm_ip hyp c_5
    refine ge_aload_n a_X10_ahead_79 rfl 0 rfl ?_
    refine ge_iload_n a_X10_ahead_80 rfl 2 rfl ?_
    refine ge_cVI [.int v2] (rest := []) a_X10_ahead_81 ok_X10_putBack lk_X10_149 ⟨Nat.le_of_ble_eq_true rfl, Nat.le_of_ble_eq_true rfl⟩ (rfl : gm_cls 43 = 9) vc_9 (by decide) rfl rfl (Nat.le_of_ble_eq_true rfl) (t_X10_putBack v2  h _ hyp) (fun r_7 h_6 hyp => ?_)
    exact ge_iret rfl a_X10_ahead_84 hyp
  · have hyp := gm_in hyp c_5
    refine ge_iload_n a_X10_ahead_37 rfl 2 rfl ?_
    refine ge_aload_n a_X10_ahead_38 rfl 0 rfl ?_
    refine ge_bipush (v := 12) a_X10_ahead_39 rfl ?_
    refine ge_cVI [.int (12 : Int32)] (rest := [.int v2]) a_X10_ahead_41 ok_X10_leavesIn lk_X10_237 ⟨Nat.le_of_ble_eq_true rfl, Nat.le_of_ble_eq_true rfl⟩ (rfl : gm_cls 43 = 9) vc_9 (by decide) rfl rfl (Nat.le_of_ble_eq_true rfl) (t_X10_leavesIn (12 : Int32)  h _ hyp) (fun r_9 h_8 hyp => ?_)
    refine ge_iadd a_X10_ahead_44 ?_
    refine ge_topi (fun v_10 ev_10 => ?_)
    have hyp := hyp v_10 ev_10
    refine ge_istore_n (lv' := [(2, .int v_10), (0, .ref 43), (1, .int a1), (3, .int v3)]) a_X10_ahead_45 rfl (Nat.le_of_ble_eq_true rfl) rfl ?_
    refine ge_aload_n a_X10_ahead_46 rfl 1 rfl ?_
    refine ge_getR (q := 44) a_X10_ahead_47 fd_X10_9 (rfl : gm_cls 43 = 9) rfl ?_
    refine ge_iconst (v := 5) a_X10_ahead_50 rfl ?_
    refine ge_iald (j := 5) a_X10_ahead_51 ga_44 li_5_62.1 li_5_62.2 ?_
    refine ge_topi (fun v_11 ev_11 => ?_)
    have hyp := hyp v_11 ev_11
    refine ge_istore (lv' := [(4, .int v_11), (2, .int v_10), (0, .ref 43), (1, .int a1), (3, .int v3)]) a_X10_ahead_52 (Nat.le_of_ble_eq_true rfl) rfl ?_
    refine ge_aload_n a_X10_ahead_54 rfl 2 rfl ?_
    refine ge_getR (q := 46) a_X10_ahead_55 fd_X10_16 (rfl : gm_cls 43 = 9) rfl ?_
    refine ge_aload_n a_X10_ahead_58 rfl 2 rfl ?_
    refine ge_getR (q := 44) a_X10_ahead_59 fd_X10_9 (rfl : gm_cls 43 = 9) rfl ?_
    refine ge_cSV [.ref 46, .ref 44] (rest := []) a_X10_ahead_62 ok_X10_copyRow lk_X10_67 ⟨Nat.le_of_ble_eq_true rfl, Nat.le_of_ble_eq_true rfl⟩ rfl rfl (Nat.le_of_ble_eq_true rfl) (t_X10_copyRow 46 62 44 62 ga_46 ga_44 h_8 _ hyp) (fun h_12 hyp => ?_)
    refine ge_aload_n a_X10_ahead_65 rfl 2 rfl ?_
    refine ge_getR (q := 44) a_X10_ahead_66 fd_X10_9 (rfl : gm_cls 43 = 9) rfl ?_
    refine ge_iconst (v := 5) a_X10_ahead_69 rfl ?_
    refine ge_iload a_X10_ahead_70 0 rfl ?_
    refine ge_iast (j := 5) a_X10_ahead_72 ga_44 li_5_62.1 li_5_62.2 ?_
    refine ge_nm (fun h_13 eh_13 => ?_)
    have hyp := hyp h_13 eh_13
    obtain ⟨v_14, ev_14⟩ : ∃ y : Int32, y = v3 + (1 : Int32) := ⟨_, rfl⟩
    have hyp := hyp v_14 ev_14
    refine ge_iinc (v := v_14) (lv' := [(3, .int v_14), (4, .int v_11), (2, .int v_10), (0, .ref 43), (1, .int a1)]) a_X10_ahead_73 4 rfl ev_14.symm (Nat.le_of_ble_eq_true rfl) rfl ?_
    refine ge_goto a_X10_ahead_76 ?_
    exact ge_sub [3, 4, 2, 0] rfl (hK32 v_10 v_14 h_13 hyp)
def f_X10_ahead (a1 : Int32) (h : Mem) (Q : Int32 → Mem → Prop) : Prop :=
  f_X10_within a1 (0 : Int32) (20 : Int32) h fun r_2 h_1 =>
  if r_2 = 0 then (
    f_X10_finding (-1000001 : Int32) h_1 fun r_16 h_15 =>
    Q r_16 h_15)
  else (
    f_X10_copyRow 44 62 46 62 h_1 fun h_4 =>
    gm_it2 (f_X10_ahead_b32 a1  Q ) gm_F (0 : Int32) (0 : Int32) h_4)
set_option maxRecDepth 20000 in
theorem t_X10_ahead (a1 : Int32)  (h : Mem) (Q : Int32 → Mem → Prop) (hyp : f_X10_ahead a1 h Q) : Cn m_X10_ahead [.ref 43, .int a1] h (GI Q) := by
  refine ge_entry (lv := [(0, .ref 43), (1, .int a1)]) pn_X10 (Nat.le_of_ble_eq_true rfl) rfl ?_
  unfold f_X10_ahead at hyp
  refine ge_iload_n a_X10_ahead_0 rfl 1 rfl ?_
  refine ge_iconst (v := 0) a_X10_ahead_1 rfl ?_
  refine ge_bipush (v := 20) a_X10_ahead_2 rfl ?_
  refine ge_cSI [.int a1, .int (0 : Int32), .int (20 : Int32)] (rest := []) a_X10_ahead_4 ok_X10_within lk_X10_71 ⟨Nat.le_of_ble_eq_true rfl, Nat.le_of_ble_eq_true rfl⟩ rfl rfl (Nat.le_of_ble_eq_true rfl) (t_X10_within a1 (0 : Int32) (20 : Int32)  h _ hyp) (fun r_2 h_1 hyp => ?_)
  refine ge_if_ne a_X10_ahead_7 (fun c_3 => ?_) (fun c_3 => ?_)
  · have hyp := gm_in hyp c_3
    refine ge_aload_n a_X10_ahead_17 rfl 0 rfl ?_
    refine ge_getR (q := 44) a_X10_ahead_18 fd_X10_9 (rfl : gm_cls 43 = 9) rfl ?_
    refine ge_aload_n a_X10_ahead_21 rfl 0 rfl ?_
    refine ge_getR (q := 46) a_X10_ahead_22 fd_X10_16 (rfl : gm_cls 43 = 9) rfl ?_
    refine ge_cSV [.ref 44, .ref 46] (rest := []) a_X10_ahead_25 ok_X10_copyRow lk_X10_67 ⟨Nat.le_of_ble_eq_true rfl, Nat.le_of_ble_eq_true rfl⟩ rfl rfl (Nat.le_of_ble_eq_true rfl) (t_X10_copyRow 44 62 46 62 ga_44 ga_46 h_1 _ hyp) (fun h_4 hyp => ?_)
    refine ge_iconst (v := 0) a_X10_ahead_28 rfl ?_
    refine ge_istore_n (lv' := [(2, .int (0 : Int32)), (0, .ref 43), (1, .int a1)]) a_X10_ahead_29 rfl (Nat.le_of_ble_eq_true rfl) rfl ?_
    refine ge_iconst (v := 0) a_X10_ahead_30 rfl ?_
    refine ge_istore_n (lv' := [(3, .int (0 : Int32)), (2, .int (0 : Int32)), (0, .ref 43), (1, .int a1)]) a_X10_ahead_31 rfl (Nat.le_of_ble_eq_true rfl) rfl ?_
    exact ge_sub [2, 3, 1, 0] rfl (t_X10_ahead_b32 a1    Q   gm_F (0 : Int32) (0 : Int32) h_4 hyp)
  · have hyp := gm_ip hyp c_3
    refine ge_aload_n a_X10_ahead_10 rfl 0 rfl ?_
    refine ge_ldc (v := -1000001) a_X10_ahead_11 ct_X10_66 ?_
    refine ge_cVI [.int (-1000001 : Int32)] (rest := []) a_X10_ahead_13 ok_X10_finding lk_X10_83 ⟨Nat.le_of_ble_eq_true rfl, Nat.le_of_ble_eq_true rfl⟩ (rfl : gm_cls 43 = 9) vc_9 (by decide) rfl rfl (Nat.le_of_ble_eq_true rfl) (t_X10_finding (-1000001 : Int32)  h_1 _ hyp) (fun r_16 h_15 hyp => ?_)
    exact ge_iret rfl a_X10_ahead_16 hyp

theorem a_X10_seed_0 : At m_X10_seed 0 (.aload_n 0) 1 1 := at_i (by decide +kernel) rfl
theorem a_X10_seed_1 : At m_X10_seed 1 (.iconst 5) 1 2 := at_i (by decide +kernel) rfl
theorem a_X10_seed_2 : At m_X10_seed 2 (.iload_n 1) 1 3 := at_i (by decide +kernel) rfl
theorem a_X10_seed_3 : At m_X10_seed 3 (.invokevirtual 115) 3 6 := at_i (by decide +kernel) rfl
theorem a_X10_seed_6 : At m_X10_seed 6 (.ireturn) 1 7 := at_i (by decide +kernel) rfl
def f_X10_seed (a1 : Int32) (h : Mem) (Q : Int32 → Mem → Prop) : Prop :=
  f_X10_become (5 : Int32) a1 h fun r_2 h_1 =>
  Q r_2 h_1
set_option maxRecDepth 20000 in
theorem t_X10_seed (a1 : Int32)  (h : Mem) (Q : Int32 → Mem → Prop) (hyp : f_X10_seed a1 h Q) : Cn m_X10_seed [.ref 43, .int a1] h (GI Q) := by
  refine ge_entry (lv := [(0, .ref 43), (1, .int a1)]) pn_X10 (Nat.le_of_ble_eq_true rfl) rfl ?_
  unfold f_X10_seed at hyp
  refine ge_aload_n a_X10_seed_0 rfl 0 rfl ?_
  refine ge_iconst (v := 5) a_X10_seed_1 rfl ?_
  refine ge_iload_n a_X10_seed_2 rfl 1 rfl ?_
  refine ge_cVI [.int (5 : Int32), .int a1] (rest := []) a_X10_seed_3 ok_X10_become lk_X10_115 ⟨Nat.le_of_ble_eq_true rfl, Nat.le_of_ble_eq_true rfl⟩ (rfl : gm_cls 43 = 9) vc_9 (by decide) rfl rfl (Nat.le_of_ble_eq_true rfl) (t_X10_become (5 : Int32) a1  h _ hyp) (fun r_2 h_1 hyp => ?_)
  exact ge_iret rfl a_X10_seed_6 hyp

theorem a_X10_feed_0 : At m_X10_feed 0 (.iload_n 2) 1 1 := at_i (by decide +kernel) rfl
theorem a_X10_feed_1 : At m_X10_feed 1 (.iconst 1) 1 2 := at_i (by decide +kernel) rfl
theorem a_X10_feed_2 : At m_X10_feed 2 (.iconst 4) 1 3 := at_i (by decide +kernel) rfl
theorem a_X10_feed_3 : At m_X10_feed 3 (.invokestatic 71) 3 6 := at_i (by decide +kernel) rfl
theorem a_X10_feed_6 : AtJ m_X10_feed 6 (.ifCond .ne 10) (10) 16 9 := at_j (by decide +kernel) (by decide) rfl
theorem a_X10_feed_9 : At m_X10_feed 9 (.aload_n 0) 1 10 := at_i (by decide +kernel) rfl
theorem a_X10_feed_10 : At m_X10_feed 10 (.ldc 66) 2 12 := at_i (by decide +kernel) rfl
theorem a_X10_feed_12 : At m_X10_feed 12 (.invokevirtual 83) 3 15 := at_i (by decide +kernel) rfl
theorem a_X10_feed_15 : At m_X10_feed 15 (.ireturn) 1 16 := at_i (by decide +kernel) rfl
theorem a_X10_feed_16 : At m_X10_feed 16 (.aload_n 0) 1 17 := at_i (by decide +kernel) rfl
theorem a_X10_feed_17 : At m_X10_feed 17 (.getfield 240) 3 20 := at_i (by decide +kernel) rfl
theorem a_X10_feed_20 : At m_X10_feed 20 (.iload_n 2) 1 21 := at_i (by decide +kernel) rfl
theorem a_X10_feed_21 : At m_X10_feed 21 (.iadd) 1 22 := at_i (by decide +kernel) rfl
theorem a_X10_feed_22 : At m_X10_feed 22 (.bipush 120) 2 24 := at_i (by decide +kernel) rfl
theorem a_X10_feed_24 : AtJ m_X10_feed 24 (.if_icmp .le 10) (10) 34 27 := at_j (by decide +kernel) (by decide) rfl
theorem a_X10_feed_27 : At m_X10_feed 27 (.aload_n 0) 1 28 := at_i (by decide +kernel) rfl
theorem a_X10_feed_28 : At m_X10_feed 28 (.ldc 87) 2 30 := at_i (by decide +kernel) rfl
theorem a_X10_feed_30 : At m_X10_feed 30 (.invokevirtual 83) 3 33 := at_i (by decide +kernel) rfl
theorem a_X10_feed_33 : At m_X10_feed 33 (.ireturn) 1 34 := at_i (by decide +kernel) rfl
theorem a_X10_feed_34 : At m_X10_feed 34 (.iload_n 2) 1 35 := at_i (by decide +kernel) rfl
theorem a_X10_feed_35 : At m_X10_feed 35 (.iconst 1) 1 36 := at_i (by decide +kernel) rfl
theorem a_X10_feed_36 : At m_X10_feed 36 (.isub) 1 37 := at_i (by decide +kernel) rfl
theorem a_X10_feed_37 : At m_X10_feed 37 (.istore_n 3) 1 38 := at_i (by decide +kernel) rfl
theorem a_X10_feed_38 : At m_X10_feed 38 (.iload_n 3) 1 39 := at_i (by decide +kernel) rfl
theorem a_X10_feed_39 : AtJ m_X10_feed 39 (.ifCond .lt 38) (38) 77 42 := at_j (by decide +kernel) (by decide) rfl
theorem a_X10_feed_42 : At m_X10_feed 42 (.aload_n 0) 1 43 := at_i (by decide +kernel) rfl
theorem a_X10_feed_43 : At m_X10_feed 43 (.getfield 28) 3 46 := at_i (by decide +kernel) rfl
theorem a_X10_feed_46 : At m_X10_feed 46 (.aload_n 0) 1 47 := at_i (by decide +kernel) rfl
theorem a_X10_feed_47 : At m_X10_feed 47 (.getfield 240) 3 50 := at_i (by decide +kernel) rfl
theorem a_X10_feed_50 : At m_X10_feed 50 (.iload_n 1) 1 51 := at_i (by decide +kernel) rfl
theorem a_X10_feed_51 : At m_X10_feed 51 (.bipush 8) 2 53 := at_i (by decide +kernel) rfl
theorem a_X10_feed_53 : At m_X10_feed 53 (.iload_n 3) 1 54 := at_i (by decide +kernel) rfl
theorem a_X10_feed_54 : At m_X10_feed 54 (.imul) 1 55 := at_i (by decide +kernel) rfl
theorem a_X10_feed_55 : At m_X10_feed 55 (.ishr) 1 56 := at_i (by decide +kernel) rfl
theorem a_X10_feed_56 : At m_X10_feed 56 (.sipush 255) 3 59 := at_i (by decide +kernel) rfl
theorem a_X10_feed_59 : At m_X10_feed 59 (.iand) 1 60 := at_i (by decide +kernel) rfl
theorem a_X10_feed_60 : At m_X10_feed 60 (.iastore) 1 61 := at_i (by decide +kernel) rfl
theorem a_X10_feed_61 : At m_X10_feed 61 (.aload_n 0) 1 62 := at_i (by decide +kernel) rfl
theorem a_X10_feed_62 : At m_X10_feed 62 (.dup) 1 63 := at_i (by decide +kernel) rfl
theorem a_X10_feed_63 : At m_X10_feed 63 (.getfield 240) 3 66 := at_i (by decide +kernel) rfl
theorem a_X10_feed_66 : At m_X10_feed 66 (.iconst 1) 1 67 := at_i (by decide +kernel) rfl
theorem a_X10_feed_67 : At m_X10_feed 67 (.iadd) 1 68 := at_i (by decide +kernel) rfl
theorem a_X10_feed_68 : At m_X10_feed 68 (.putfield 240) 3 71 := at_i (by decide +kernel) rfl
theorem a_X10_feed_71 : At m_X10_feed 71 (.iinc 3 (-1)) 3 74 := at_i (by decide +kernel) rfl
theorem a_X10_feed_74 : AtJ m_X10_feed 74 (.goto (-36)) (-36) 38 77 := at_j (by decide +kernel) (by decide) rfl
theorem a_X10_feed_77 : At m_X10_feed 77 (.aload_n 0) 1 78 := at_i (by decide +kernel) rfl
theorem a_X10_feed_78 : At m_X10_feed 78 (.getfield 240) 3 81 := at_i (by decide +kernel) rfl
theorem a_X10_feed_81 : At m_X10_feed 81 (.ireturn) 1 82 := at_i (by decide +kernel) rfl
def f_X10_feed_b38 (a1 : Int32) (a2 : Int32)  (Q : Int32 → Mem → Prop)  (K38 : Int32 → Mem → Prop) (v3 : Int32) (h : Mem) : Prop :=
  if v3 < 0 then (
    Q (h 43 14) h)
  else (
    vp_in (h 43 14) 120 ∧
    ∀ h_8 : Mem, h_8 = gm_st h 50 ((h 43 14).toNatClampNeg) ((a1 >>> (((8 : Int32) * v3) &&& 31)) &&& (255 : Int32)) →
    ∀ h_9 : Mem, h_9 = gm_st h_8 43 14 ((h_8 43 14) + (1 : Int32)) →
    ∀ v_10 : Int32, v_10 = v3 + (-1 : Int32) →
    K38 v_10 h_9)
set_option maxRecDepth 20000 in
theorem t_X10_feed_b38 (a1 : Int32) (a2 : Int32)    (Q : Int32 → Mem → Prop)   : ∀ (n : Nat) (v3 : Int32) (h : Mem), gm_it1 (f_X10_feed_b38 a1 a2  Q ) n v3 h → EV m_X10_feed (GI Q) 38 [(0, .ref 43), (1, .int a1), (3, .int v3)] [] h := by
  refine ge_loop1 (P := fun v3 h => EV m_X10_feed (GI Q) 38 [(0, .ref 43), (1, .int a1), (3, .int v3)] [] h) (fun K38 hK38 v3 h hyp => ?_)
  unfold f_X10_feed_b38 at hyp
  refine ge_iload_n a_X10_feed_38 rfl 2 rfl ?_
  refine ge_if_lt a_X10_feed_39 (fun c_6 => ?_) (fun c_6 => ?_)
  · have hyp := gm_ip hyp c_6
    refine ge_aload_n a_X10_feed_77 rfl 0 rfl ?_
    refine ge_getI a_X10_feed_78 fd_X10_240 (rfl : gm_cls 43 = 9) ?_
    exact ge_iret rfl a_X10_feed_81 hyp
  · have hyp := gm_in hyp c_6
    refine ge_aload_n a_X10_feed_42 rfl 0 rfl ?_
    refine ge_getR (q := 50) a_X10_feed_43 fd_X10_28 (rfl : gm_cls 43 = 9) rfl ?_
    refine ge_aload_n a_X10_feed_46 rfl 0 rfl ?_
    refine ge_getI a_X10_feed_47 fd_X10_240 (rfl : gm_cls 43 = 9) ?_
    refine ge_iload_n a_X10_feed_50 rfl 1 rfl ?_
    refine ge_bipush (v := 8) a_X10_feed_51 rfl ?_
    refine ge_iload_n a_X10_feed_53 rfl 2 rfl ?_
    refine ge_imul a_X10_feed_54 ?_
    refine ge_ishr a_X10_feed_55 ?_
    refine ge_sipush (v := 255) a_X10_feed_56 rfl ?_
    refine ge_iand a_X10_feed_59 ?_
    obtain ⟨b_7, hyp⟩ := hyp
    refine ge_iast (j := (h 43 14).toNatClampNeg) a_X10_feed_60 ga_50 b_7 rfl ?_
    refine ge_nm (fun h_8 eh_8 => ?_)
    have hyp := hyp h_8 eh_8
    refine ge_aload_n a_X10_feed_61 rfl 0 rfl ?_
    refine ge_dup a_X10_feed_62 rfl ?_
    refine ge_getI a_X10_feed_63 fd_X10_240 (rfl : gm_cls 43 = 9) ?_
    refine ge_iconst (v := 1) a_X10_feed_66 rfl ?_
    refine ge_iadd a_X10_feed_67 ?_
    refine ge_putI a_X10_feed_68 pd_X10_240 (rfl : gm_cls 43 = 9) ?_
    refine ge_nm (fun h_9 eh_9 => ?_)
    have hyp := hyp h_9 eh_9
    obtain ⟨v_10, ev_10⟩ : ∃ y : Int32, y = v3 + (-1 : Int32) := ⟨_, rfl⟩
    have hyp := hyp v_10 ev_10
    refine ge_iinc (v := v_10) (lv' := [(3, .int v_10), (0, .ref 43), (1, .int a1)]) a_X10_feed_71 2 rfl ev_10.symm (Nat.le_of_ble_eq_true rfl) rfl ?_
    refine ge_goto a_X10_feed_74 ?_
    exact ge_sub [1, 2, 0] rfl (hK38 v_10 h_9 hyp)
def f_X10_feed (a1 : Int32) (a2 : Int32) (h : Mem) (Q : Int32 → Mem → Prop) : Prop :=
  f_X10_within a2 (1 : Int32) (4 : Int32) h fun r_2 h_1 =>
  if r_2 = 0 then (
    f_X10_finding (-1000001 : Int32) h_1 fun r_14 h_13 =>
    Q r_14 h_13)
  else (
    if (h_1 43 14) + a2 ≤ (120 : Int32) then (
      ∀ v_5 : Int32, v_5 = a2 - (1 : Int32) →
      gm_it1 (f_X10_feed_b38 a1 a2  Q ) gm_F v_5 h_1)
    else (
      f_X10_finding (-1000002 : Int32) h_1 fun r_12 h_11 =>
      Q r_12 h_11))
set_option maxRecDepth 20000 in
theorem t_X10_feed (a1 : Int32) (a2 : Int32)  (h : Mem) (Q : Int32 → Mem → Prop) (hyp : f_X10_feed a1 a2 h Q) : Cn m_X10_feed [.ref 43, .int a1, .int a2] h (GI Q) := by
  refine ge_entry (lv := [(0, .ref 43), (1, .int a1), (2, .int a2)]) pn_X10 (Nat.le_of_ble_eq_true rfl) rfl ?_
  unfold f_X10_feed at hyp
  refine ge_iload_n a_X10_feed_0 rfl 2 rfl ?_
  refine ge_iconst (v := 1) a_X10_feed_1 rfl ?_
  refine ge_iconst (v := 4) a_X10_feed_2 rfl ?_
  refine ge_cSI [.int a2, .int (1 : Int32), .int (4 : Int32)] (rest := []) a_X10_feed_3 ok_X10_within lk_X10_71 ⟨Nat.le_of_ble_eq_true rfl, Nat.le_of_ble_eq_true rfl⟩ rfl rfl (Nat.le_of_ble_eq_true rfl) (t_X10_within a2 (1 : Int32) (4 : Int32)  h _ hyp) (fun r_2 h_1 hyp => ?_)
  refine ge_if_ne a_X10_feed_6 (fun c_3 => ?_) (fun c_3 => ?_)
  · have hyp := gm_in hyp c_3
    refine ge_aload_n a_X10_feed_16 rfl 0 rfl ?_
    refine ge_getI a_X10_feed_17 fd_X10_240 (rfl : gm_cls 43 = 9) ?_
    refine ge_iload_n a_X10_feed_20 rfl 2 rfl ?_
    refine ge_iadd a_X10_feed_21 ?_
    refine ge_bipush (v := 120) a_X10_feed_22 rfl ?_
    refine ge_icmp_le a_X10_feed_24 (fun c_4 => ?_) (fun c_4 => ?_)
    · have hyp := gm_ip hyp c_4
      refine ge_iload_n a_X10_feed_34 rfl 2 rfl ?_
      refine ge_iconst (v := 1) a_X10_feed_35 rfl ?_
      refine ge_isub a_X10_feed_36 ?_
      refine ge_topi (fun v_5 ev_5 => ?_)
      have hyp := hyp v_5 ev_5
      refine ge_istore_n (lv' := [(3, .int v_5), (0, .ref 43), (1, .int a1), (2, .int a2)]) a_X10_feed_37 rfl (Nat.le_of_ble_eq_true rfl) rfl ?_
      exact ge_sub [1, 2, 0] rfl (t_X10_feed_b38 a1 a2    Q   gm_F v_5 h_1 hyp)
    · have hyp := gm_in hyp c_4
      refine ge_aload_n a_X10_feed_27 rfl 0 rfl ?_
      refine ge_ldc (v := -1000002) a_X10_feed_28 ct_X10_87 ?_
      refine ge_cVI [.int (-1000002 : Int32)] (rest := []) a_X10_feed_30 ok_X10_finding lk_X10_83 ⟨Nat.le_of_ble_eq_true rfl, Nat.le_of_ble_eq_true rfl⟩ (rfl : gm_cls 43 = 9) vc_9 (by decide) rfl rfl (Nat.le_of_ble_eq_true rfl) (t_X10_finding (-1000002 : Int32)  h_1 _ hyp) (fun r_12 h_11 hyp => ?_)
      exact ge_iret rfl a_X10_feed_33 hyp
  · have hyp := gm_ip hyp c_3
    refine ge_aload_n a_X10_feed_9 rfl 0 rfl ?_
    refine ge_ldc (v := -1000001) a_X10_feed_10 ct_X10_66 ?_
    refine ge_cVI [.int (-1000001 : Int32)] (rest := []) a_X10_feed_12 ok_X10_finding lk_X10_83 ⟨Nat.le_of_ble_eq_true rfl, Nat.le_of_ble_eq_true rfl⟩ (rfl : gm_cls 43 = 9) vc_9 (by decide) rfl rfl (Nat.le_of_ble_eq_true rfl) (t_X10_finding (-1000001 : Int32)  h_1 _ hyp) (fun r_14 h_13 hyp => ?_)
    exact ge_iret rfl a_X10_feed_15 hyp

theorem a_X10_wipe_0 : At m_X10_wipe 0 (.aload_n 0) 1 1 := at_i (by decide +kernel) rfl
theorem a_X10_wipe_1 : At m_X10_wipe 1 (.getfield 240) 3 4 := at_i (by decide +kernel) rfl
theorem a_X10_wipe_4 : At m_X10_wipe 4 (.istore_n 1) 1 5 := at_i (by decide +kernel) rfl
theorem a_X10_wipe_5 : At m_X10_wipe 5 (.aload_n 0) 1 6 := at_i (by decide +kernel) rfl
theorem a_X10_wipe_6 : At m_X10_wipe 6 (.iconst 0) 1 7 := at_i (by decide +kernel) rfl
theorem a_X10_wipe_7 : At m_X10_wipe 7 (.putfield 240) 3 10 := at_i (by decide +kernel) rfl
theorem a_X10_wipe_10 : At m_X10_wipe 10 (.iload_n 1) 1 11 := at_i (by decide +kernel) rfl
theorem a_X10_wipe_11 : At m_X10_wipe 11 (.ireturn) 1 12 := at_i (by decide +kernel) rfl
def f_X10_wipe  (h : Mem) (Q : Int32 → Mem → Prop) : Prop :=
  ∀ v_1 : Int32, v_1 = h 43 14 →
  ∀ h_2 : Mem, h_2 = gm_st h 43 14 (0 : Int32) →
  Q v_1 h_2
set_option maxRecDepth 20000 in
theorem t_X10_wipe   (h : Mem) (Q : Int32 → Mem → Prop) (hyp : f_X10_wipe  h Q) : Cn m_X10_wipe [.ref 43] h (GI Q) := by
  refine ge_entry (lv := [(0, .ref 43)]) pn_X10 (Nat.le_of_ble_eq_true rfl) rfl ?_
  unfold f_X10_wipe at hyp
  refine ge_aload_n a_X10_wipe_0 rfl 0 rfl ?_
  refine ge_getI a_X10_wipe_1 fd_X10_240 (rfl : gm_cls 43 = 9) ?_
  refine ge_topi (fun v_1 ev_1 => ?_)
  have hyp := hyp v_1 ev_1
  refine ge_istore_n (lv' := [(1, .int v_1), (0, .ref 43)]) a_X10_wipe_4 rfl (Nat.le_of_ble_eq_true rfl) rfl ?_
  refine ge_aload_n a_X10_wipe_5 rfl 1 rfl ?_
  refine ge_iconst (v := 0) a_X10_wipe_6 rfl ?_
  refine ge_putI a_X10_wipe_7 pd_X10_240 (rfl : gm_cls 43 = 9) ?_
  refine ge_nm (fun h_2 eh_2 => ?_)
  have hyp := hyp h_2 eh_2
  refine ge_iload_n a_X10_wipe_10 rfl 0 rfl ?_
  exact ge_iret rfl a_X10_wipe_11 hyp

theorem a_X10_byteAt_0 : At m_X10_byteAt 0 (.iload_n 1) 1 1 := at_i (by decide +kernel) rfl
theorem a_X10_byteAt_1 : At m_X10_byteAt 1 (.aload_n 0) 1 2 := at_i (by decide +kernel) rfl
theorem a_X10_byteAt_2 : At m_X10_byteAt 2 (.getfield 240) 3 5 := at_i (by decide +kernel) rfl
theorem a_X10_byteAt_5 : AtJ m_X10_byteAt 5 (.if_icmp .ge 12) (12) 17 8 := at_j (by decide +kernel) (by decide) rfl
theorem a_X10_byteAt_8 : At m_X10_byteAt 8 (.aload_n 0) 1 9 := at_i (by decide +kernel) rfl
theorem a_X10_byteAt_9 : At m_X10_byteAt 9 (.getfield 28) 3 12 := at_i (by decide +kernel) rfl
theorem a_X10_byteAt_12 : At m_X10_byteAt 12 (.iload_n 1) 1 13 := at_i (by decide +kernel) rfl
theorem a_X10_byteAt_13 : At m_X10_byteAt 13 (.iaload) 1 14 := at_i (by decide +kernel) rfl
theorem a_X10_byteAt_14 : AtJ m_X10_byteAt 14 (.goto 4) (4) 18 17 := at_j (by decide +kernel) (by decide) rfl
theorem a_X10_byteAt_17 : At m_X10_byteAt 17 (.iconst (-1)) 1 18 := at_i (by decide +kernel) rfl
theorem a_X10_byteAt_18 : At m_X10_byteAt 18 (.ireturn) 1 19 := at_i (by decide +kernel) rfl
def f_X10_byteAt (a1 : Int32) (h : Mem) (Q : Int32 → Mem → Prop) : Prop :=
  if h 43 14 ≤ a1 then (
    Q (-1 : Int32) h)
  else (
    vp_in a1 120 ∧
    Q (h 50 a1.toNatClampNeg) h)
set_option maxRecDepth 20000 in
theorem t_X10_byteAt (a1 : Int32)  (h : Mem) (Q : Int32 → Mem → Prop) (hyp : f_X10_byteAt a1 h Q) : Cn m_X10_byteAt [.ref 43, .int a1] h (GI Q) := by
  refine ge_entry (lv := [(0, .ref 43), (1, .int a1)]) pn_X10 (Nat.le_of_ble_eq_true rfl) rfl ?_
  unfold f_X10_byteAt at hyp
  refine ge_iload_n a_X10_byteAt_0 rfl 1 rfl ?_
  refine ge_aload_n a_X10_byteAt_1 rfl 0 rfl ?_
  refine ge_getI a_X10_byteAt_2 fd_X10_240 (rfl : gm_cls 43 = 9) ?_
  refine ge_icmp_ge a_X10_byteAt_5 (fun c_1 => ?_) (fun c_1 => ?_)
  · have hyp := gm_ip hyp c_1
    refine ge_iconst (v := -1) a_X10_byteAt_17 rfl ?_
    exact ge_iret rfl a_X10_byteAt_18 hyp
  · have hyp := gm_in hyp c_1
    refine ge_aload_n a_X10_byteAt_8 rfl 0 rfl ?_
    refine ge_getR (q := 50) a_X10_byteAt_9 fd_X10_28 (rfl : gm_cls 43 = 9) rfl ?_
    refine ge_iload_n a_X10_byteAt_12 rfl 1 rfl ?_
    obtain ⟨b_2, hyp⟩ := hyp
    refine ge_iald (j := a1.toNatClampNeg) a_X10_byteAt_13 ga_50 b_2 rfl ?_
    refine ge_goto a_X10_byteAt_14 ?_
    exact ge_iret rfl a_X10_byteAt_18 hyp
