theorem a_X9_round_0 : At m_X9_round 0 (.iload_n 1) 1 1 := at_i (by decide +kernel) rfl
theorem a_X9_round_1 : At m_X9_round 1 (.iconst 0) 1 2 := at_i (by decide +kernel) rfl
theorem a_X9_round_2 : At m_X9_round 2 (.iconst 1) 1 3 := at_i (by decide +kernel) rfl
theorem a_X9_round_3 : At m_X9_round 3 (.invokestatic 75) 3 6 := at_i (by decide +kernel) rfl
theorem a_X9_round_6 : AtJ m_X9_round 6 (.ifCond .ne 9) (9) 15 9 := at_j (by decide +kernel) (by decide) rfl
theorem a_X9_round_9 : At m_X9_round 9 (.aload_n 0) 1 10 := at_i (by decide +kernel) rfl
theorem a_X9_round_10 : At m_X9_round 10 (.iconst 0) 1 11 := at_i (by decide +kernel) rfl
theorem a_X9_round_11 : At m_X9_round 11 (.invokevirtual 79) 3 14 := at_i (by decide +kernel) rfl
theorem a_X9_round_14 : At m_X9_round 14 (.ireturn) 1 15 := at_i (by decide +kernel) rfl
theorem a_X9_round_15 : At m_X9_round 15 (.aload_n 0) 1 16 := at_i (by decide +kernel) rfl
theorem a_X9_round_16 : At m_X9_round 16 (.getfield 32) 3 19 := at_i (by decide +kernel) rfl
theorem a_X9_round_19 : At m_X9_round 19 (.aload_n 0) 1 20 := at_i (by decide +kernel) rfl
theorem a_X9_round_20 : At m_X9_round 20 (.getfield 10) 3 23 := at_i (by decide +kernel) rfl
theorem a_X9_round_23 : At m_X9_round 23 (.getfield 94) 3 26 := at_i (by decide +kernel) rfl
theorem a_X9_round_26 : At m_X9_round 26 (.invokevirtual 177) 3 29 := at_i (by decide +kernel) rfl
theorem a_X9_round_29 : At m_X9_round 29 (.istore_n 2) 1 30 := at_i (by decide +kernel) rfl
theorem a_X9_round_30 : At m_X9_round 30 (.iload_n 1) 1 31 := at_i (by decide +kernel) rfl
theorem a_X9_round_31 : At m_X9_round 31 (.iconst 1) 1 32 := at_i (by decide +kernel) rfl
theorem a_X9_round_32 : AtJ m_X9_round 32 (.if_icmp .ne 7) (7) 39 35 := at_j (by decide +kernel) (by decide) rfl
theorem a_X9_round_35 : At m_X9_round 35 (.iload_n 2) 1 36 := at_i (by decide +kernel) rfl
theorem a_X9_round_36 : AtJ m_X9_round 36 (.goto 18) (18) 54 39 := at_j (by decide +kernel) (by decide) rfl
theorem a_X9_round_39 : At m_X9_round 39 (.aload_n 0) 1 40 := at_i (by decide +kernel) rfl
theorem a_X9_round_40 : At m_X9_round 40 (.getfield 32) 3 43 := at_i (by decide +kernel) rfl
theorem a_X9_round_43 : At m_X9_round 43 (.aload_n 0) 1 44 := at_i (by decide +kernel) rfl
theorem a_X9_round_44 : At m_X9_round 44 (.getfield 10) 3 47 := at_i (by decide +kernel) rfl
theorem a_X9_round_47 : At m_X9_round 47 (.getfield 94) 3 50 := at_i (by decide +kernel) rfl
theorem a_X9_round_50 : At m_X9_round 50 (.iload_n 2) 1 51 := at_i (by decide +kernel) rfl
theorem a_X9_round_51 : At m_X9_round 51 (.invokevirtual 181) 3 54 := at_i (by decide +kernel) rfl
theorem a_X9_round_54 : At m_X9_round 54 (.ireturn) 1 55 := at_i (by decide +kernel) rfl
def f_X9_round (a1 : Int32) (h : Mem) (Q : Int32 → Mem → Prop) : Prop :=
  f_X9_isWithin a1 (0 : Int32) (1 : Int32) h fun r_2 h_1 =>
  if r_2 = 0 then (
    f_X9_finding (0 : Int32) h_1 fun r_10 h_9 =>
    Q r_10 h_9)
  else (
    f_X2_lengthFrom 5 10 h_1 fun r_5 h_4 =>
    if a1 = (1 : Int32) then (
      Q r_5 h_4)
    else (
      f_X2_beginFrom 5 10 r_5 h_4 fun r_8 h_7 =>
      Q r_8 h_7))
set_option maxRecDepth 20000 in
theorem t_X9_round (a1 : Int32)  (h : Mem) (Q : Int32 → Mem → Prop) (hyp : f_X9_round a1 h Q) : Cn m_X9_round [.ref 0, .int a1] h (GI Q) := by
  refine ge_entry (lv := [(0, .ref 0), (1, .int a1)]) pn_X9 (Nat.le_of_ble_eq_true rfl) rfl ?_
  unfold f_X9_round at hyp
  refine ge_iload_n a_X9_round_0 rfl 1 rfl ?_
  refine ge_iconst (v := 0) a_X9_round_1 rfl ?_
  refine ge_iconst (v := 1) a_X9_round_2 rfl ?_
  refine ge_cSI [.int a1, .int (0 : Int32), .int (1 : Int32)] (rest := []) a_X9_round_3 ok_X9_isWithin lk_X9_75 ⟨Nat.le_of_ble_eq_true rfl, Nat.le_of_ble_eq_true rfl⟩ rfl rfl (Nat.le_of_ble_eq_true rfl) (t_X9_isWithin a1 (0 : Int32) (1 : Int32)  h _ hyp) (fun r_2 h_1 hyp => ?_)
  refine ge_if_ne a_X9_round_6 (fun c_3 => ?_) (fun c_3 => ?_)
  · have hyp := gm_in hyp c_3
    refine ge_aload_n a_X9_round_15 rfl 0 rfl ?_
    refine ge_getR (q := 20) a_X9_round_16 fd_X9_32 (rfl : gm_cls 0 = 8) rfl ?_
    refine ge_aload_n a_X9_round_19 rfl 0 rfl ?_
    refine ge_getR (q := 1) a_X9_round_20 fd_X9_10 (rfl : gm_cls 0 = 8) rfl ?_
    refine ge_getR (q := 5) a_X9_round_23 fd_X9_94 (rfl : gm_cls 1 = 5) rfl ?_
    refine ge_cVI [.ref 5] (rest := []) a_X9_round_26 ok_X2_lengthFrom lk_X9_177 ⟨Nat.le_of_ble_eq_true rfl, Nat.le_of_ble_eq_true rfl⟩ (rfl : gm_cls 20 = 1) vc_1 (by decide) rfl rfl (Nat.le_of_ble_eq_true rfl) (t_X2_lengthFrom 5 10 ga_5 h_1 _ hyp) (fun r_5 h_4 hyp => ?_)
    refine ge_istore_n (lv' := [(2, .int r_5), (0, .ref 0), (1, .int a1)]) a_X9_round_29 rfl (Nat.le_of_ble_eq_true rfl) rfl ?_
    refine ge_iload_n a_X9_round_30 rfl 2 rfl ?_
    refine ge_iconst (v := 1) a_X9_round_31 rfl ?_
    refine ge_icmp_ne a_X9_round_32 (fun c_6 => ?_) (fun c_6 => ?_)
    · have hyp := gm_in hyp c_6
      refine ge_aload_n a_X9_round_39 rfl 1 rfl ?_
      refine ge_getR (q := 20) a_X9_round_40 fd_X9_32 (rfl : gm_cls 0 = 8) rfl ?_
      refine ge_aload_n a_X9_round_43 rfl 1 rfl ?_
      refine ge_getR (q := 1) a_X9_round_44 fd_X9_10 (rfl : gm_cls 0 = 8) rfl ?_
      refine ge_getR (q := 5) a_X9_round_47 fd_X9_94 (rfl : gm_cls 1 = 5) rfl ?_
      refine ge_iload_n a_X9_round_50 rfl 0 rfl ?_
      refine ge_cVI [.ref 5, .int r_5] (rest := []) a_X9_round_51 ok_X2_beginFrom lk_X9_181 ⟨Nat.le_of_ble_eq_true rfl, Nat.le_of_ble_eq_true rfl⟩ (rfl : gm_cls 20 = 1) vc_1 (by decide) rfl rfl (Nat.le_of_ble_eq_true rfl) (t_X2_beginFrom 5 10 r_5 ga_5 h_4 _ hyp) (fun r_8 h_7 hyp => ?_)
      exact ge_iret rfl a_X9_round_54 hyp
    · have hyp := gm_ip hyp c_6
      refine ge_iload_n a_X9_round_35 rfl 0 rfl ?_
      refine ge_goto a_X9_round_36 ?_
      exact ge_iret rfl a_X9_round_54 hyp
  · have hyp := gm_ip hyp c_3
    refine ge_aload_n a_X9_round_9 rfl 0 rfl ?_
    refine ge_iconst (v := 0) a_X9_round_10 rfl ?_
    refine ge_cVI [.int (0 : Int32)] (rest := []) a_X9_round_11 ok_X9_finding lk_X9_79 ⟨Nat.le_of_ble_eq_true rfl, Nat.le_of_ble_eq_true rfl⟩ (rfl : gm_cls 0 = 8) vc_8 (by decide) rfl rfl (Nat.le_of_ble_eq_true rfl) (t_X9_finding (0 : Int32)  h_1 _ hyp) (fun r_10 h_9 hyp => ?_)
    exact ge_iret rfl a_X9_round_14 hyp

theorem a_X9_leads_0 : At m_X9_leads 0 (.aload_n 0) 1 1 := at_i (by decide +kernel) rfl
theorem a_X9_leads_1 : At m_X9_leads 1 (.getfield 25) 3 4 := at_i (by decide +kernel) rfl
theorem a_X9_leads_4 : At m_X9_leads 4 (.aload_n 0) 1 5 := at_i (by decide +kernel) rfl
theorem a_X9_leads_5 : At m_X9_leads 5 (.getfield 10) 3 8 := at_i (by decide +kernel) rfl
theorem a_X9_leads_8 : At m_X9_leads 8 (.getfield 94) 3 11 := at_i (by decide +kernel) rfl
theorem a_X9_leads_11 : At m_X9_leads 11 (.invokevirtual 166) 3 14 := at_i (by decide +kernel) rfl
theorem a_X9_leads_14 : At m_X9_leads 14 (.aload_n 0) 1 15 := at_i (by decide +kernel) rfl
theorem a_X9_leads_15 : At m_X9_leads 15 (.getfield 25) 3 18 := at_i (by decide +kernel) rfl
theorem a_X9_leads_18 : At m_X9_leads 18 (.sipush 200) 3 21 := at_i (by decide +kernel) rfl
theorem a_X9_leads_21 : At m_X9_leads 21 (.invokevirtual 170) 3 24 := at_i (by decide +kernel) rfl
theorem a_X9_leads_24 : At m_X9_leads 24 (.aload_n 0) 1 25 := at_i (by decide +kernel) rfl
theorem a_X9_leads_25 : At m_X9_leads 25 (.getfield 25) 3 28 := at_i (by decide +kernel) rfl
theorem a_X9_leads_28 : At m_X9_leads 28 (.getfield 160) 3 31 := at_i (by decide +kernel) rfl
theorem a_X9_leads_31 : At m_X9_leads 31 (.aload_n 0) 1 32 := at_i (by decide +kernel) rfl
theorem a_X9_leads_32 : At m_X9_leads 32 (.getfield 25) 3 35 := at_i (by decide +kernel) rfl
theorem a_X9_leads_35 : At m_X9_leads 35 (.getfield 163) 3 38 := at_i (by decide +kernel) rfl
theorem a_X9_leads_38 : At m_X9_leads 38 (.iadd) 1 39 := at_i (by decide +kernel) rfl
theorem a_X9_leads_39 : At m_X9_leads 39 (.istore_n 1) 1 40 := at_i (by decide +kernel) rfl
theorem a_X9_leads_40 : At m_X9_leads 40 (.iload_n 1) 1 41 := at_i (by decide +kernel) rfl
theorem a_X9_leads_41 : At m_X9_leads 41 (.iconst 2) 1 42 := at_i (by decide +kernel) rfl
theorem a_X9_leads_42 : At m_X9_leads 42 (.aload_n 0) 1 43 := at_i (by decide +kernel) rfl
theorem a_X9_leads_43 : At m_X9_leads 43 (.getfield 10) 3 46 := at_i (by decide +kernel) rfl
theorem a_X9_leads_46 : At m_X9_leads 46 (.getfield 94) 3 49 := at_i (by decide +kernel) rfl
theorem a_X9_leads_49 : At m_X9_leads 49 (.iconst 0) 1 50 := at_i (by decide +kernel) rfl
theorem a_X9_leads_50 : At m_X9_leads 50 (.iaload) 1 51 := at_i (by decide +kernel) rfl
theorem a_X9_leads_51 : At m_X9_leads 51 (.imul) 1 52 := at_i (by decide +kernel) rfl
theorem a_X9_leads_52 : At m_X9_leads 52 (.isub) 1 53 := at_i (by decide +kernel) rfl
theorem a_X9_leads_53 : At m_X9_leads 53 (.invokestatic 185) 3 56 := at_i (by decide +kernel) rfl
theorem a_X9_leads_56 : At m_X9_leads 56 (.istore_n 2) 1 57 := at_i (by decide +kernel) rfl
theorem a_X9_leads_57 : At m_X9_leads 57 (.iload_n 1) 1 58 := at_i (by decide +kernel) rfl
theorem a_X9_leads_58 : At m_X9_leads 58 (.iconst 2) 1 59 := at_i (by decide +kernel) rfl
theorem a_X9_leads_59 : At m_X9_leads 59 (.aload_n 0) 1 60 := at_i (by decide +kernel) rfl
theorem a_X9_leads_60 : At m_X9_leads 60 (.getfield 10) 3 63 := at_i (by decide +kernel) rfl
theorem a_X9_leads_63 : At m_X9_leads 63 (.getfield 94) 3 66 := at_i (by decide +kernel) rfl
theorem a_X9_leads_66 : At m_X9_leads 66 (.iconst 1) 1 67 := at_i (by decide +kernel) rfl
theorem a_X9_leads_67 : At m_X9_leads 67 (.iaload) 1 68 := at_i (by decide +kernel) rfl
theorem a_X9_leads_68 : At m_X9_leads 68 (.imul) 1 69 := at_i (by decide +kernel) rfl
theorem a_X9_leads_69 : At m_X9_leads 69 (.isub) 1 70 := at_i (by decide +kernel) rfl
theorem a_X9_leads_70 : At m_X9_leads 70 (.invokestatic 185) 3 73 := at_i (by decide +kernel) rfl
theorem a_X9_leads_73 : At m_X9_leads 73 (.istore_n 3) 1 74 := at_i (by decide +kernel) rfl
theorem a_X9_leads_74 : At m_X9_leads 74 (.iload_n 2) 1 75 := at_i (by decide +kernel) rfl
theorem a_X9_leads_75 : At m_X9_leads 75 (.iload_n 3) 1 76 := at_i (by decide +kernel) rfl
theorem a_X9_leads_76 : AtJ m_X9_leads 76 (.if_icmp .ne 5) (5) 81 79 := at_j (by decide +kernel) (by decide) rfl
theorem a_X9_leads_79 : At m_X9_leads 79 (.iconst 2) 1 80 := at_i (by decide +kernel) rfl
theorem a_X9_leads_80 : At m_X9_leads 80 (.ireturn) 1 81 := at_i (by decide +kernel) rfl
theorem a_X9_leads_81 : At m_X9_leads 81 (.iload_n 2) 1 82 := at_i (by decide +kernel) rfl
theorem a_X9_leads_82 : At m_X9_leads 82 (.iload_n 3) 1 83 := at_i (by decide +kernel) rfl
theorem a_X9_leads_83 : AtJ m_X9_leads 83 (.if_icmp .ge 7) (7) 90 86 := at_j (by decide +kernel) (by decide) rfl
theorem a_X9_leads_86 : At m_X9_leads 86 (.iconst 0) 1 87 := at_i (by decide +kernel) rfl
theorem a_X9_leads_87 : AtJ m_X9_leads 87 (.goto 4) (4) 91 90 := at_j (by decide +kernel) (by decide) rfl
theorem a_X9_leads_90 : At m_X9_leads 90 (.iconst 1) 1 91 := at_i (by decide +kernel) rfl
theorem a_X9_leads_91 : At m_X9_leads 91 (.ireturn) 1 92 := at_i (by decide +kernel) rfl
def f_X9_leads  (h : Mem) (Q : Int32 → Mem → Prop) : Prop :=
  f_X1_takeFrom 19 5 10 h fun h_1 =>
  f_X1_step 19 (200 : Int32) h_1 fun h_2 =>
  ∀ v_3 : Int32, v_3 = (h_2 19 0) + (h_2 19 1) →
  ∀ v_4 : Int32, v_4 = (if 0 ≤ v_3 - ((2 : Int32) * (h_2 5 0)) then v_3 - ((2 : Int32) * (h_2 5 0)) else 0 - (v_3 - ((2 : Int32) * (h_2 5 0)))) →
  ∀ v_5 : Int32, v_5 = (if 0 ≤ v_3 - ((2 : Int32) * (h_2 5 1)) then v_3 - ((2 : Int32) * (h_2 5 1)) else 0 - (v_3 - ((2 : Int32) * (h_2 5 1)))) →
  if v_4 = v_5 then (
    Q (2 : Int32) h_2)
  else (
    if v_5 ≤ v_4 then (
      Q (1 : Int32) h_2)
    else (
      Q (0 : Int32) h_2))
set_option maxRecDepth 20000 in
theorem t_X9_leads   (h : Mem) (Q : Int32 → Mem → Prop) (hyp : f_X9_leads  h Q) : Cn m_X9_leads [.ref 0] h (GI Q) := by
  refine ge_entry (lv := [(0, .ref 0)]) pn_X9 (Nat.le_of_ble_eq_true rfl) rfl ?_
  unfold f_X9_leads at hyp
  refine ge_aload_n a_X9_leads_0 rfl 0 rfl ?_
  refine ge_getR (q := 19) a_X9_leads_1 fd_X9_25 (rfl : gm_cls 0 = 8) rfl ?_
  refine ge_aload_n a_X9_leads_4 rfl 0 rfl ?_
  refine ge_getR (q := 1) a_X9_leads_5 fd_X9_10 (rfl : gm_cls 0 = 8) rfl ?_
  refine ge_getR (q := 5) a_X9_leads_8 fd_X9_94 (rfl : gm_cls 1 = 5) rfl ?_
  refine ge_cVV [.ref 5] (rest := []) a_X9_leads_11 ok_X1_takeFrom lk_X9_166 ⟨Nat.le_of_ble_eq_true rfl, Nat.le_of_ble_eq_true rfl⟩ (rfl : gm_cls 19 = 0) vc_0 (by decide) rfl rfl (Nat.le_of_ble_eq_true rfl) (t_X1_takeFrom 19 5 10 (rfl : gm_cls 19 = 0) ga_5 h _ hyp) (fun h_1 hyp => ?_)
  refine ge_aload_n a_X9_leads_14 rfl 0 rfl ?_
  refine ge_getR (q := 19) a_X9_leads_15 fd_X9_25 (rfl : gm_cls 0 = 8) rfl ?_
  refine ge_sipush (v := 200) a_X9_leads_18 rfl ?_
  refine ge_cVV [.int (200 : Int32)] (rest := []) a_X9_leads_21 ok_X1_step lk_X9_170 ⟨Nat.le_of_ble_eq_true rfl, Nat.le_of_ble_eq_true rfl⟩ (rfl : gm_cls 19 = 0) vc_0 (by decide) rfl rfl (Nat.le_of_ble_eq_true rfl) (t_X1_step 19 (200 : Int32) (rfl : gm_cls 19 = 0) h_1 _ hyp) (fun h_2 hyp => ?_)
  refine ge_aload_n a_X9_leads_24 rfl 0 rfl ?_
  refine ge_getR (q := 19) a_X9_leads_25 fd_X9_25 (rfl : gm_cls 0 = 8) rfl ?_
  refine ge_getI a_X9_leads_28 fd_X9_160 (rfl : gm_cls 19 = 0) ?_
  refine ge_aload_n a_X9_leads_31 rfl 0 rfl ?_
  refine ge_getR (q := 19) a_X9_leads_32 fd_X9_25 (rfl : gm_cls 0 = 8) rfl ?_
  refine ge_getI a_X9_leads_35 fd_X9_163 (rfl : gm_cls 19 = 0) ?_
  refine ge_iadd a_X9_leads_38 ?_
  refine ge_topi (fun v_3 ev_3 => ?_)
  have hyp := hyp v_3 ev_3
  refine ge_istore_n (lv' := [(1, .int v_3), (0, .ref 0)]) a_X9_leads_39 rfl (Nat.le_of_ble_eq_true rfl) rfl ?_
  refine ge_iload_n a_X9_leads_40 rfl 0 rfl ?_
  refine ge_iconst (v := 2) a_X9_leads_41 rfl ?_
  refine ge_aload_n a_X9_leads_42 rfl 1 rfl ?_
  refine ge_getR (q := 1) a_X9_leads_43 fd_X9_10 (rfl : gm_cls 0 = 8) rfl ?_
  refine ge_getR (q := 5) a_X9_leads_46 fd_X9_94 (rfl : gm_cls 1 = 5) rfl ?_
  refine ge_iconst (v := 0) a_X9_leads_49 rfl ?_
  refine ge_iald (j := 0) a_X9_leads_50 ga_5 li_0_10.1 li_0_10.2 ?_
  refine ge_imul a_X9_leads_51 ?_
  refine ge_isub a_X9_leads_52 ?_
  refine ge_mabs (rest := []) a_X9_leads_53 lk_X9_185 (Nat.le_of_ble_eq_true rfl) (Nat.le_of_ble_eq_true rfl) ?_
  refine ge_topi (fun v_4 ev_4 => ?_)
  have hyp := hyp v_4 ev_4
  refine ge_istore_n (lv' := [(2, .int v_4), (1, .int v_3), (0, .ref 0)]) a_X9_leads_56 rfl (Nat.le_of_ble_eq_true rfl) rfl ?_
  refine ge_iload_n a_X9_leads_57 rfl 1 rfl ?_
  refine ge_iconst (v := 2) a_X9_leads_58 rfl ?_
  refine ge_aload_n a_X9_leads_59 rfl 2 rfl ?_
  refine ge_getR (q := 1) a_X9_leads_60 fd_X9_10 (rfl : gm_cls 0 = 8) rfl ?_
  refine ge_getR (q := 5) a_X9_leads_63 fd_X9_94 (rfl : gm_cls 1 = 5) rfl ?_
  refine ge_iconst (v := 1) a_X9_leads_66 rfl ?_
  refine ge_iald (j := 1) a_X9_leads_67 ga_5 li_1_10.1 li_1_10.2 ?_
  refine ge_imul a_X9_leads_68 ?_
  refine ge_isub a_X9_leads_69 ?_
  refine ge_mabs (rest := []) a_X9_leads_70 lk_X9_185 (Nat.le_of_ble_eq_true rfl) (Nat.le_of_ble_eq_true rfl) ?_
  refine ge_topi (fun v_5 ev_5 => ?_)
  have hyp := hyp v_5 ev_5
  refine ge_istore_n (lv' := [(3, .int v_5), (2, .int v_4), (1, .int v_3), (0, .ref 0)]) a_X9_leads_73 rfl (Nat.le_of_ble_eq_true rfl) rfl ?_
  refine ge_iload_n a_X9_leads_74 rfl 1 rfl ?_
  refine ge_iload_n a_X9_leads_75 rfl 0 rfl ?_
  refine ge_icmp_ne a_X9_leads_76 (fun c_6 => ?_) (fun c_6 => ?_)
  · have hyp := gm_in hyp c_6
    refine ge_iload_n a_X9_leads_81 rfl 1 rfl ?_
    refine ge_iload_n a_X9_leads_82 rfl 0 rfl ?_
    refine ge_icmp_ge a_X9_leads_83 (fun c_7 => ?_) (fun c_7 => ?_)
    · have hyp := gm_ip hyp c_7
      refine ge_iconst (v := 1) a_X9_leads_90 rfl ?_
      exact ge_iret rfl a_X9_leads_91 hyp
    · have hyp := gm_in hyp c_7
      refine ge_iconst (v := 0) a_X9_leads_86 rfl ?_
      refine ge_goto a_X9_leads_87 ?_
      exact ge_iret rfl a_X9_leads_91 hyp
  · have hyp := gm_ip hyp c_6
    refine ge_iconst (v := 2) a_X9_leads_79 rfl ?_
    exact ge_iret rfl a_X9_leads_80 hyp

theorem a_X9_found_0 : At m_X9_found 0 (.aload_n 0) 1 1 := at_i (by decide +kernel) rfl
theorem a_X9_found_1 : At m_X9_found 1 (.getfield 39) 3 4 := at_i (by decide +kernel) rfl
theorem a_X9_found_4 : At m_X9_found 4 (.aload_n 0) 1 5 := at_i (by decide +kernel) rfl
theorem a_X9_found_5 : At m_X9_found 5 (.getfield 10) 3 8 := at_i (by decide +kernel) rfl
theorem a_X9_found_8 : At m_X9_found 8 (.invokevirtual 190) 3 11 := at_i (by decide +kernel) rfl
theorem a_X9_found_11 : At m_X9_found 11 (.ireturn) 1 12 := at_i (by decide +kernel) rfl
def f_X9_found  (h : Mem) (Q : Int32 → Mem → Prop) : Prop :=
  f_X4_nearestWeights  h fun r_2 h_1 =>
  Q r_2 h_1
set_option maxRecDepth 20000 in
theorem t_X9_found   (h : Mem) (Q : Int32 → Mem → Prop) (hyp : f_X9_found  h Q) : Cn m_X9_found [.ref 0] h (GI Q) := by
  refine ge_entry (lv := [(0, .ref 0)]) pn_X9 (Nat.le_of_ble_eq_true rfl) rfl ?_
  unfold f_X9_found at hyp
  refine ge_aload_n a_X9_found_0 rfl 0 rfl ?_
  refine ge_getR (q := 23) a_X9_found_1 fd_X9_39 (rfl : gm_cls 0 = 8) rfl ?_
  refine ge_aload_n a_X9_found_4 rfl 0 rfl ?_
  refine ge_getR (q := 1) a_X9_found_5 fd_X9_10 (rfl : gm_cls 0 = 8) rfl ?_
  refine ge_cVI [.ref 1] (rest := []) a_X9_found_8 ok_X4_nearestWeights lk_X9_190 ⟨Nat.le_of_ble_eq_true rfl, Nat.le_of_ble_eq_true rfl⟩ (rfl : gm_cls 23 = 3) vc_3 (by decide) rfl rfl (Nat.le_of_ble_eq_true rfl) (t_X4_nearestWeights   h _ hyp) (fun r_2 h_1 hyp => ?_)
  exact ge_iret rfl a_X9_found_11 hyp

theorem a_X9_off_0 : At m_X9_off 0 (.aload_n 0) 1 1 := at_i (by decide +kernel) rfl
theorem a_X9_off_1 : At m_X9_off 1 (.getfield 39) 3 4 := at_i (by decide +kernel) rfl
theorem a_X9_off_4 : At m_X9_off 4 (.aload_n 0) 1 5 := at_i (by decide +kernel) rfl
theorem a_X9_off_5 : At m_X9_off 5 (.getfield 10) 3 8 := at_i (by decide +kernel) rfl
theorem a_X9_off_8 : At m_X9_off 8 (.aload_n 0) 1 9 := at_i (by decide +kernel) rfl
theorem a_X9_off_9 : At m_X9_off 9 (.getfield 39) 3 12 := at_i (by decide +kernel) rfl
theorem a_X9_off_12 : At m_X9_off 12 (.aload_n 0) 1 13 := at_i (by decide +kernel) rfl
theorem a_X9_off_13 : At m_X9_off 13 (.getfield 10) 3 16 := at_i (by decide +kernel) rfl
theorem a_X9_off_16 : At m_X9_off 16 (.invokevirtual 190) 3 19 := at_i (by decide +kernel) rfl
theorem a_X9_off_19 : At m_X9_off 19 (.invokevirtual 194) 3 22 := at_i (by decide +kernel) rfl
theorem a_X9_off_22 : At m_X9_off 22 (.ireturn) 1 23 := at_i (by decide +kernel) rfl
def f_X9_off  (h : Mem) (Q : Int32 → Mem → Prop) : Prop :=
  f_X4_nearestWeights  h fun r_2 h_1 =>
  f_X4_offHour r_2 h_1 fun r_4 h_3 =>
  Q r_4 h_3
set_option maxRecDepth 20000 in
theorem t_X9_off   (h : Mem) (Q : Int32 → Mem → Prop) (hyp : f_X9_off  h Q) : Cn m_X9_off [.ref 0] h (GI Q) := by
  refine ge_entry (lv := [(0, .ref 0)]) pn_X9 (Nat.le_of_ble_eq_true rfl) rfl ?_
  unfold f_X9_off at hyp
  refine ge_aload_n a_X9_off_0 rfl 0 rfl ?_
  refine ge_getR (q := 23) a_X9_off_1 fd_X9_39 (rfl : gm_cls 0 = 8) rfl ?_
  refine ge_aload_n a_X9_off_4 rfl 0 rfl ?_
  refine ge_getR (q := 1) a_X9_off_5 fd_X9_10 (rfl : gm_cls 0 = 8) rfl ?_
  refine ge_aload_n a_X9_off_8 rfl 0 rfl ?_
  refine ge_getR (q := 23) a_X9_off_9 fd_X9_39 (rfl : gm_cls 0 = 8) rfl ?_
  refine ge_aload_n a_X9_off_12 rfl 0 rfl ?_
  refine ge_getR (q := 1) a_X9_off_13 fd_X9_10 (rfl : gm_cls 0 = 8) rfl ?_
  refine ge_cVI [.ref 1] (rest := [.ref 1, .ref 23]) a_X9_off_16 ok_X4_nearestWeights lk_X9_190 ⟨Nat.le_of_ble_eq_true rfl, Nat.le_of_ble_eq_true rfl⟩ (rfl : gm_cls 23 = 3) vc_3 (by decide) rfl rfl (Nat.le_of_ble_eq_true rfl) (t_X4_nearestWeights   h _ hyp) (fun r_2 h_1 hyp => ?_)
  refine ge_cVI [.ref 1, .int r_2] (rest := []) a_X9_off_19 ok_X4_offHour lk_X9_194 ⟨Nat.le_of_ble_eq_true rfl, Nat.le_of_ble_eq_true rfl⟩ (rfl : gm_cls 23 = 3) vc_3 (by decide) rfl rfl (Nat.le_of_ble_eq_true rfl) (t_X4_offHour r_2  h_1 _ hyp) (fun r_4 h_3 hyp => ?_)
  exact ge_iret rfl a_X9_off_22 hyp

theorem a_X9_grid_0 : At m_X9_grid 0 (.aload_n 0) 1 1 := at_i (by decide +kernel) rfl
theorem a_X9_grid_1 : At m_X9_grid 1 (.getfield 39) 3 4 := at_i (by decide +kernel) rfl
theorem a_X9_grid_4 : At m_X9_grid 4 (.aload_n 0) 1 5 := at_i (by decide +kernel) rfl
theorem a_X9_grid_5 : At m_X9_grid 5 (.getfield 10) 3 8 := at_i (by decide +kernel) rfl
theorem a_X9_grid_8 : At m_X9_grid 8 (.invokevirtual 198) 3 11 := at_i (by decide +kernel) rfl
theorem a_X9_grid_11 : At m_X9_grid 11 (.ireturn) 1 12 := at_i (by decide +kernel) rfl
def f_X9_grid  (h : Mem) (Q : Int32 → Mem → Prop) : Prop :=
  f_X4_calmestEyes  h fun r_2 h_1 =>
  Q r_2 h_1
set_option maxRecDepth 20000 in
theorem t_X9_grid   (h : Mem) (Q : Int32 → Mem → Prop) (hyp : f_X9_grid  h Q) : Cn m_X9_grid [.ref 0] h (GI Q) := by
  refine ge_entry (lv := [(0, .ref 0)]) pn_X9 (Nat.le_of_ble_eq_true rfl) rfl ?_
  unfold f_X9_grid at hyp
  refine ge_aload_n a_X9_grid_0 rfl 0 rfl ?_
  refine ge_getR (q := 23) a_X9_grid_1 fd_X9_39 (rfl : gm_cls 0 = 8) rfl ?_
  refine ge_aload_n a_X9_grid_4 rfl 0 rfl ?_
  refine ge_getR (q := 1) a_X9_grid_5 fd_X9_10 (rfl : gm_cls 0 = 8) rfl ?_
  refine ge_cVI [.ref 1] (rest := []) a_X9_grid_8 ok_X4_calmestEyes lk_X9_198 ⟨Nat.le_of_ble_eq_true rfl, Nat.le_of_ble_eq_true rfl⟩ (rfl : gm_cls 23 = 3) vc_3 (by decide) rfl rfl (Nat.le_of_ble_eq_true rfl) (t_X4_calmestEyes   h _ hyp) (fun r_2 h_1 hyp => ?_)
  exact ge_iret rfl a_X9_grid_11 hyp

theorem a_X9_worst_0 : At m_X9_worst 0 (.aload_n 0) 1 1 := at_i (by decide +kernel) rfl
theorem a_X9_worst_1 : At m_X9_worst 1 (.getfield 39) 3 4 := at_i (by decide +kernel) rfl
theorem a_X9_worst_4 : At m_X9_worst 4 (.aload_n 0) 1 5 := at_i (by decide +kernel) rfl
theorem a_X9_worst_5 : At m_X9_worst 5 (.getfield 10) 3 8 := at_i (by decide +kernel) rfl
theorem a_X9_worst_8 : At m_X9_worst 8 (.invokevirtual 198) 3 11 := at_i (by decide +kernel) rfl
theorem a_X9_worst_11 : At m_X9_worst 11 (.istore_n 1) 1 12 := at_i (by decide +kernel) rfl
theorem a_X9_worst_12 : At m_X9_worst 12 (.aload_n 0) 1 13 := at_i (by decide +kernel) rfl
theorem a_X9_worst_13 : At m_X9_worst 13 (.getfield 10) 3 16 := at_i (by decide +kernel) rfl
theorem a_X9_worst_16 : At m_X9_worst 16 (.iload_n 1) 1 17 := at_i (by decide +kernel) rfl
theorem a_X9_worst_17 : At m_X9_worst 17 (.bipush 10) 2 19 := at_i (by decide +kernel) rfl
theorem a_X9_worst_19 : At m_X9_worst 19 (.idiv) 1 20 := at_i (by decide +kernel) rfl
theorem a_X9_worst_20 : At m_X9_worst 20 (.iload_n 1) 1 21 := at_i (by decide +kernel) rfl
theorem a_X9_worst_21 : At m_X9_worst 21 (.bipush 10) 2 23 := at_i (by decide +kernel) rfl
theorem a_X9_worst_23 : At m_X9_worst 23 (.irem) 1 24 := at_i (by decide +kernel) rfl
theorem a_X9_worst_24 : At m_X9_worst 24 (.invokevirtual 201) 3 27 := at_i (by decide +kernel) rfl
theorem a_X9_worst_27 : At m_X9_worst 27 (.ireturn) 1 28 := at_i (by decide +kernel) rfl
def f_X9_worst  (h : Mem) (Q : Int32 → Mem → Prop) : Prop :=
  f_X4_calmestEyes  h fun r_2 h_1 =>
  f_X6_unrestAhead 1 (r_2 / (10 : Int32)) (r_2 - r_2 / (10 : Int32) * (10 : Int32)) h_1 fun r_4 h_3 =>
  Q r_4 h_3
set_option maxRecDepth 20000 in
theorem t_X9_worst   (h : Mem) (Q : Int32 → Mem → Prop) (hyp : f_X9_worst  h Q) : Cn m_X9_worst [.ref 0] h (GI Q) := by
  refine ge_entry (lv := [(0, .ref 0)]) pn_X9 (Nat.le_of_ble_eq_true rfl) rfl ?_
  unfold f_X9_worst at hyp
  refine ge_aload_n a_X9_worst_0 rfl 0 rfl ?_
  refine ge_getR (q := 23) a_X9_worst_1 fd_X9_39 (rfl : gm_cls 0 = 8) rfl ?_
  refine ge_aload_n a_X9_worst_4 rfl 0 rfl ?_
  refine ge_getR (q := 1) a_X9_worst_5 fd_X9_10 (rfl : gm_cls 0 = 8) rfl ?_
  refine ge_cVI [.ref 1] (rest := []) a_X9_worst_8 ok_X4_calmestEyes lk_X9_198 ⟨Nat.le_of_ble_eq_true rfl, Nat.le_of_ble_eq_true rfl⟩ (rfl : gm_cls 23 = 3) vc_3 (by decide) rfl rfl (Nat.le_of_ble_eq_true rfl) (t_X4_calmestEyes   h _ hyp) (fun r_2 h_1 hyp => ?_)
  refine ge_istore_n (lv' := [(1, .int r_2), (0, .ref 0)]) a_X9_worst_11 rfl (Nat.le_of_ble_eq_true rfl) rfl ?_
  refine ge_aload_n a_X9_worst_12 rfl 1 rfl ?_
  refine ge_getR (q := 1) a_X9_worst_13 fd_X9_10 (rfl : gm_cls 0 = 8) rfl ?_
  refine ge_iload_n a_X9_worst_16 rfl 0 rfl ?_
  refine ge_bipush (v := 10) a_X9_worst_17 rfl ?_
  refine ge_idiv a_X9_worst_19 (by decide) ?_
  refine ge_iload_n a_X9_worst_20 rfl 0 rfl ?_
  refine ge_bipush (v := 10) a_X9_worst_21 rfl ?_
  refine ge_irem a_X9_worst_23 (by decide) ?_
  refine ge_cVI [.int (r_2 / (10 : Int32)), .int (r_2 - r_2 / (10 : Int32) * (10 : Int32))] (rest := []) a_X9_worst_24 ok_X6_unrestAhead lk_X9_201 ⟨Nat.le_of_ble_eq_true rfl, Nat.le_of_ble_eq_true rfl⟩ (rfl : gm_cls 1 = 5) vc_5 (by decide) rfl rfl (Nat.le_of_ble_eq_true rfl) (t_X6_unrestAhead 1 (r_2 / (10 : Int32)) (r_2 - r_2 / (10 : Int32) * (10 : Int32)) (rfl : gm_cls 1 = 5) h_1 _ hyp) (fun r_4 h_3 hyp => ?_)
  exact ge_iret rfl a_X9_worst_27 hyp

theorem a_X9_trips_0 : At m_X9_trips 0 (.aload_n 0) 1 1 := at_i (by decide +kernel) rfl
theorem a_X9_trips_1 : At m_X9_trips 1 (.getfield 10) 3 4 := at_i (by decide +kernel) rfl
theorem a_X9_trips_4 : At m_X9_trips 4 (.getfield 139) 3 7 := at_i (by decide +kernel) rfl
theorem a_X9_trips_7 : AtJ m_X9_trips 7 (.ifCond .ne 11) (11) 18 10 := at_j (by decide +kernel) (by decide) rfl
theorem a_X9_trips_10 : At m_X9_trips 10 (.aload_n 0) 1 11 := at_i (by decide +kernel) rfl
theorem a_X9_trips_11 : At m_X9_trips 11 (.iconst 3) 1 12 := at_i (by decide +kernel) rfl
theorem a_X9_trips_12 : At m_X9_trips 12 (.invokevirtual 79) 3 15 := at_i (by decide +kernel) rfl
theorem a_X9_trips_15 : AtJ m_X9_trips 15 (.goto 14) (14) 29 18 := at_j (by decide +kernel) (by decide) rfl
theorem a_X9_trips_18 : At m_X9_trips 18 (.aload_n 0) 1 19 := at_i (by decide +kernel) rfl
theorem a_X9_trips_19 : At m_X9_trips 19 (.getfield 39) 3 22 := at_i (by decide +kernel) rfl
theorem a_X9_trips_22 : At m_X9_trips 22 (.aload_n 0) 1 23 := at_i (by decide +kernel) rfl
theorem a_X9_trips_23 : At m_X9_trips 23 (.getfield 10) 3 26 := at_i (by decide +kernel) rfl
theorem a_X9_trips_26 : At m_X9_trips 26 (.invokevirtual 204) 3 29 := at_i (by decide +kernel) rfl
theorem a_X9_trips_29 : At m_X9_trips 29 (.ireturn) 1 30 := at_i (by decide +kernel) rfl
def f_X9_trips  (h : Mem) (Q : Int32 → Mem → Prop) : Prop :=
  if h 1 5 = 0 then (
    f_X9_finding (3 : Int32) h fun r_5 h_4 =>
    Q r_5 h_4)
  else (
    f_X4_mostTripping  h fun r_3 h_2 =>
    Q r_3 h_2)
set_option maxRecDepth 20000 in
theorem t_X9_trips   (h : Mem) (Q : Int32 → Mem → Prop) (hyp : f_X9_trips  h Q) : Cn m_X9_trips [.ref 0] h (GI Q) := by
  refine ge_entry (lv := [(0, .ref 0)]) pn_X9 (Nat.le_of_ble_eq_true rfl) rfl ?_
  unfold f_X9_trips at hyp
  refine ge_aload_n a_X9_trips_0 rfl 0 rfl ?_
  refine ge_getR (q := 1) a_X9_trips_1 fd_X9_10 (rfl : gm_cls 0 = 8) rfl ?_
  refine ge_getI a_X9_trips_4 fd_X9_139 (rfl : gm_cls 1 = 5) ?_
  refine ge_if_ne a_X9_trips_7 (fun c_1 => ?_) (fun c_1 => ?_)
  · have hyp := gm_in hyp c_1
    refine ge_aload_n a_X9_trips_18 rfl 0 rfl ?_
    refine ge_getR (q := 23) a_X9_trips_19 fd_X9_39 (rfl : gm_cls 0 = 8) rfl ?_
    refine ge_aload_n a_X9_trips_22 rfl 0 rfl ?_
    refine ge_getR (q := 1) a_X9_trips_23 fd_X9_10 (rfl : gm_cls 0 = 8) rfl ?_
    refine ge_cVI [.ref 1] (rest := []) a_X9_trips_26 ok_X4_mostTripping lk_X9_204 ⟨Nat.le_of_ble_eq_true rfl, Nat.le_of_ble_eq_true rfl⟩ (rfl : gm_cls 23 = 3) vc_3 (by decide) rfl rfl (Nat.le_of_ble_eq_true rfl) (t_X4_mostTripping   h _ hyp) (fun r_3 h_2 hyp => ?_)
    exact ge_iret rfl a_X9_trips_29 hyp
  · have hyp := gm_ip hyp c_1
    refine ge_aload_n a_X9_trips_10 rfl 0 rfl ?_
    refine ge_iconst (v := 3) a_X9_trips_11 rfl ?_
    refine ge_cVI [.int (3 : Int32)] (rest := []) a_X9_trips_12 ok_X9_finding lk_X9_79 ⟨Nat.le_of_ble_eq_true rfl, Nat.le_of_ble_eq_true rfl⟩ (rfl : gm_cls 0 = 8) vc_8 (by decide) rfl rfl (Nat.le_of_ble_eq_true rfl) (t_X9_finding (3 : Int32)  h _ hyp) (fun r_5 h_4 hyp => ?_)
    refine ge_goto a_X9_trips_15 ?_
    exact ge_iret rfl a_X9_trips_29 hyp

theorem a_X9_kindFor_0 : At m_X9_kindFor 0 (.aload_n 0) 1 1 := at_i (by decide +kernel) rfl
theorem a_X9_kindFor_1 : At m_X9_kindFor 1 (.getfield 10) 3 4 := at_i (by decide +kernel) rfl
theorem a_X9_kindFor_4 : At m_X9_kindFor 4 (.iload_n 1) 1 5 := at_i (by decide +kernel) rfl
theorem a_X9_kindFor_5 : At m_X9_kindFor 5 (.invokevirtual 90) 3 8 := at_i (by decide +kernel) rfl
theorem a_X9_kindFor_8 : AtJ m_X9_kindFor 8 (.ifCond .eq 18) (18) 26 11 := at_j (by decide +kernel) (by decide) rfl
theorem a_X9_kindFor_11 : At m_X9_kindFor 11 (.aload_n 0) 1 12 := at_i (by decide +kernel) rfl
theorem a_X9_kindFor_12 : At m_X9_kindFor 12 (.getfield 39) 3 15 := at_i (by decide +kernel) rfl
theorem a_X9_kindFor_15 : At m_X9_kindFor 15 (.aload_n 0) 1 16 := at_i (by decide +kernel) rfl
theorem a_X9_kindFor_16 : At m_X9_kindFor 16 (.getfield 10) 3 19 := at_i (by decide +kernel) rfl
theorem a_X9_kindFor_19 : At m_X9_kindFor 19 (.iload_n 1) 1 20 := at_i (by decide +kernel) rfl
theorem a_X9_kindFor_20 : At m_X9_kindFor 20 (.invokevirtual 207) 3 23 := at_i (by decide +kernel) rfl
theorem a_X9_kindFor_23 : AtJ m_X9_kindFor 23 (.goto 8) (8) 31 26 := at_j (by decide +kernel) (by decide) rfl
theorem a_X9_kindFor_26 : At m_X9_kindFor 26 (.aload_n 0) 1 27 := at_i (by decide +kernel) rfl
theorem a_X9_kindFor_27 : At m_X9_kindFor 27 (.iconst 0) 1 28 := at_i (by decide +kernel) rfl
theorem a_X9_kindFor_28 : At m_X9_kindFor 28 (.invokevirtual 79) 3 31 := at_i (by decide +kernel) rfl
theorem a_X9_kindFor_31 : At m_X9_kindFor 31 (.ireturn) 1 32 := at_i (by decide +kernel) rfl
def f_X9_kindFor (a1 : Int32) (h : Mem) (Q : Int32 → Mem → Prop) : Prop :=
  f_X6_isLine 1 a1 h fun r_2 h_1 =>
  if r_2 = 0 then (
    f_X9_finding (0 : Int32) h_1 fun r_5 h_4 =>
    Q r_5 h_4)
  else (
    f_X4_quickestKind a1 h_1 fun r_7 h_6 =>
    Q r_7 h_6)
set_option maxRecDepth 20000 in
theorem t_X9_kindFor (a1 : Int32)  (h : Mem) (Q : Int32 → Mem → Prop) (hyp : f_X9_kindFor a1 h Q) : Cn m_X9_kindFor [.ref 0, .int a1] h (GI Q) := by
  refine ge_entry (lv := [(0, .ref 0), (1, .int a1)]) pn_X9 (Nat.le_of_ble_eq_true rfl) rfl ?_
  unfold f_X9_kindFor at hyp
  refine ge_aload_n a_X9_kindFor_0 rfl 0 rfl ?_
  refine ge_getR (q := 1) a_X9_kindFor_1 fd_X9_10 (rfl : gm_cls 0 = 8) rfl ?_
  refine ge_iload_n a_X9_kindFor_4 rfl 1 rfl ?_
  refine ge_cVI [.int a1] (rest := []) a_X9_kindFor_5 ok_X6_isLine lk_X9_90 ⟨Nat.le_of_ble_eq_true rfl, Nat.le_of_ble_eq_true rfl⟩ (rfl : gm_cls 1 = 5) vc_5 (by decide) rfl rfl (Nat.le_of_ble_eq_true rfl) (t_X6_isLine 1 a1 (rfl : gm_cls 1 = 5) h _ hyp) (fun r_2 h_1 hyp => ?_)
  refine ge_if_eq a_X9_kindFor_8 (fun c_3 => ?_) (fun c_3 => ?_)
  · have hyp := gm_ip hyp c_3
    refine ge_aload_n a_X9_kindFor_26 rfl 0 rfl ?_
    refine ge_iconst (v := 0) a_X9_kindFor_27 rfl ?_
    refine ge_cVI [.int (0 : Int32)] (rest := []) a_X9_kindFor_28 ok_X9_finding lk_X9_79 ⟨Nat.le_of_ble_eq_true rfl, Nat.le_of_ble_eq_true rfl⟩ (rfl : gm_cls 0 = 8) vc_8 (by decide) rfl rfl (Nat.le_of_ble_eq_true rfl) (t_X9_finding (0 : Int32)  h_1 _ hyp) (fun r_5 h_4 hyp => ?_)
    exact ge_iret rfl a_X9_kindFor_31 hyp
  · have hyp := gm_in hyp c_3
    refine ge_aload_n a_X9_kindFor_11 rfl 0 rfl ?_
    refine ge_getR (q := 23) a_X9_kindFor_12 fd_X9_39 (rfl : gm_cls 0 = 8) rfl ?_
    refine ge_aload_n a_X9_kindFor_15 rfl 0 rfl ?_
    refine ge_getR (q := 1) a_X9_kindFor_16 fd_X9_10 (rfl : gm_cls 0 = 8) rfl ?_
    refine ge_iload_n a_X9_kindFor_19 rfl 1 rfl ?_
    refine ge_cVI [.ref 1, .int a1] (rest := []) a_X9_kindFor_20 ok_X4_quickestKind lk_X9_207 ⟨Nat.le_of_ble_eq_true rfl, Nat.le_of_ble_eq_true rfl⟩ (rfl : gm_cls 23 = 3) vc_3 (by decide) rfl rfl (Nat.le_of_ble_eq_true rfl) (t_X4_quickestKind a1  h_1 _ hyp) (fun r_7 h_6 hyp => ?_)
    refine ge_goto a_X9_kindFor_23 ?_
    exact ge_iret rfl a_X9_kindFor_31 hyp

theorem a_X9_ease_0 : At m_X9_ease 0 (.iload_n 1) 1 1 := at_i (by decide +kernel) rfl
theorem a_X9_ease_1 : At m_X9_ease 1 (.iconst 0) 1 2 := at_i (by decide +kernel) rfl
theorem a_X9_ease_2 : At m_X9_ease 2 (.sipush 999) 3 5 := at_i (by decide +kernel) rfl
theorem a_X9_ease_5 : At m_X9_ease 5 (.invokestatic 75) 3 8 := at_i (by decide +kernel) rfl
theorem a_X9_ease_8 : AtJ m_X9_ease 8 (.ifCond .ne 9) (9) 17 11 := at_j (by decide +kernel) (by decide) rfl
theorem a_X9_ease_11 : At m_X9_ease 11 (.aload_n 0) 1 12 := at_i (by decide +kernel) rfl
theorem a_X9_ease_12 : At m_X9_ease 12 (.iconst 0) 1 13 := at_i (by decide +kernel) rfl
theorem a_X9_ease_13 : At m_X9_ease 13 (.invokevirtual 79) 3 16 := at_i (by decide +kernel) rfl
theorem a_X9_ease_16 : At m_X9_ease 16 (.ireturn) 1 17 := at_i (by decide +kernel) rfl
theorem a_X9_ease_17 : At m_X9_ease 17 (.aload_n 0) 1 18 := at_i (by decide +kernel) rfl
theorem a_X9_ease_18 : At m_X9_ease 18 (.getfield 39) 3 21 := at_i (by decide +kernel) rfl
theorem a_X9_ease_21 : At m_X9_ease 21 (.aload_n 0) 1 22 := at_i (by decide +kernel) rfl
theorem a_X9_ease_22 : At m_X9_ease 22 (.getfield 10) 3 25 := at_i (by decide +kernel) rfl
theorem a_X9_ease_25 : At m_X9_ease 25 (.iload_n 1) 1 26 := at_i (by decide +kernel) rfl
theorem a_X9_ease_26 : At m_X9_ease 26 (.invokevirtual 210) 3 29 := at_i (by decide +kernel) rfl
theorem a_X9_ease_29 : At m_X9_ease 29 (.istore_n 2) 1 30 := at_i (by decide +kernel) rfl
theorem a_X9_ease_30 : At m_X9_ease 30 (.iload_n 2) 1 31 := at_i (by decide +kernel) rfl
theorem a_X9_ease_31 : AtJ m_X9_ease 31 (.ifCond .ge 11) (11) 42 34 := at_j (by decide +kernel) (by decide) rfl
theorem a_X9_ease_34 : At m_X9_ease 34 (.aload_n 0) 1 35 := at_i (by decide +kernel) rfl
theorem a_X9_ease_35 : At m_X9_ease 35 (.iconst 3) 1 36 := at_i (by decide +kernel) rfl
theorem a_X9_ease_36 : At m_X9_ease 36 (.invokevirtual 79) 3 39 := at_i (by decide +kernel) rfl
theorem a_X9_ease_39 : AtJ m_X9_ease 39 (.goto 4) (4) 43 42 := at_j (by decide +kernel) (by decide) rfl
theorem a_X9_ease_42 : At m_X9_ease 42 (.iload_n 2) 1 43 := at_i (by decide +kernel) rfl
theorem a_X9_ease_43 : At m_X9_ease 43 (.ireturn) 1 44 := at_i (by decide +kernel) rfl
def f_X9_ease (a1 : Int32) (h : Mem) (Q : Int32 → Mem → Prop) : Prop :=
  f_X9_isWithin a1 (0 : Int32) (999 : Int32) h fun r_2 h_1 =>
  if r_2 = 0 then (
    f_X9_finding (0 : Int32) h_1 fun r_10 h_9 =>
    Q r_10 h_9)
  else (
    f_X4_fewestEased a1 h_1 fun r_5 h_4 =>
    if 0 ≤ r_5 then (
      Q r_5 h_4)
    else (
      f_X9_finding (3 : Int32) h_4 fun r_8 h_7 =>
      Q r_8 h_7))
set_option maxRecDepth 20000 in
theorem t_X9_ease (a1 : Int32)  (h : Mem) (Q : Int32 → Mem → Prop) (hyp : f_X9_ease a1 h Q) : Cn m_X9_ease [.ref 0, .int a1] h (GI Q) := by
  refine ge_entry (lv := [(0, .ref 0), (1, .int a1)]) pn_X9 (Nat.le_of_ble_eq_true rfl) rfl ?_
  unfold f_X9_ease at hyp
  refine ge_iload_n a_X9_ease_0 rfl 1 rfl ?_
  refine ge_iconst (v := 0) a_X9_ease_1 rfl ?_
  refine ge_sipush (v := 999) a_X9_ease_2 rfl ?_
  refine ge_cSI [.int a1, .int (0 : Int32), .int (999 : Int32)] (rest := []) a_X9_ease_5 ok_X9_isWithin lk_X9_75 ⟨Nat.le_of_ble_eq_true rfl, Nat.le_of_ble_eq_true rfl⟩ rfl rfl (Nat.le_of_ble_eq_true rfl) (t_X9_isWithin a1 (0 : Int32) (999 : Int32)  h _ hyp) (fun r_2 h_1 hyp => ?_)
  refine ge_if_ne a_X9_ease_8 (fun c_3 => ?_) (fun c_3 => ?_)
  · have hyp := gm_in hyp c_3
    refine ge_aload_n a_X9_ease_17 rfl 0 rfl ?_
    refine ge_getR (q := 23) a_X9_ease_18 fd_X9_39 (rfl : gm_cls 0 = 8) rfl ?_
    refine ge_aload_n a_X9_ease_21 rfl 0 rfl ?_
    refine ge_getR (q := 1) a_X9_ease_22 fd_X9_10 (rfl : gm_cls 0 = 8) rfl ?_
    refine ge_iload_n a_X9_ease_25 rfl 1 rfl ?_
    refine ge_cVI [.ref 1, .int a1] (rest := []) a_X9_ease_26 ok_X4_fewestEased lk_X9_210 ⟨Nat.le_of_ble_eq_true rfl, Nat.le_of_ble_eq_true rfl⟩ (rfl : gm_cls 23 = 3) vc_3 (by decide) rfl rfl (Nat.le_of_ble_eq_true rfl) (t_X4_fewestEased a1  h_1 _ hyp) (fun r_5 h_4 hyp => ?_)
    refine ge_istore_n (lv' := [(2, .int r_5), (0, .ref 0), (1, .int a1)]) a_X9_ease_29 rfl (Nat.le_of_ble_eq_true rfl) rfl ?_
    refine ge_iload_n a_X9_ease_30 rfl 0 rfl ?_
    refine ge_if_ge a_X9_ease_31 (fun c_6 => ?_) (fun c_6 => ?_)
    · have hyp := gm_ip hyp c_6
      refine ge_iload_n a_X9_ease_42 rfl 0 rfl ?_
      exact ge_iret rfl a_X9_ease_43 hyp
    · have hyp := gm_in hyp c_6
      refine ge_aload_n a_X9_ease_34 rfl 1 rfl ?_
      refine ge_iconst (v := 3) a_X9_ease_35 rfl ?_
      refine ge_cVI [.int (3 : Int32)] (rest := []) a_X9_ease_36 ok_X9_finding lk_X9_79 ⟨Nat.le_of_ble_eq_true rfl, Nat.le_of_ble_eq_true rfl⟩ (rfl : gm_cls 0 = 8) vc_8 (by decide) rfl rfl (Nat.le_of_ble_eq_true rfl) (t_X9_finding (3 : Int32)  h_4 _ hyp) (fun r_8 h_7 hyp => ?_)
      refine ge_goto a_X9_ease_39 ?_
      exact ge_iret rfl a_X9_ease_43 hyp
  · have hyp := gm_ip hyp c_3
    refine ge_aload_n a_X9_ease_11 rfl 0 rfl ?_
    refine ge_iconst (v := 0) a_X9_ease_12 rfl ?_
    refine ge_cVI [.int (0 : Int32)] (rest := []) a_X9_ease_13 ok_X9_finding lk_X9_79 ⟨Nat.le_of_ble_eq_true rfl, Nat.le_of_ble_eq_true rfl⟩ (rfl : gm_cls 0 = 8) vc_8 (by decide) rfl rfl (Nat.le_of_ble_eq_true rfl) (t_X9_finding (0 : Int32)  h_1 _ hyp) (fun r_10 h_9 hyp => ?_)
    exact ge_iret rfl a_X9_ease_16 hyp

theorem a_X9_fit_0 : At m_X9_fit 0 (.aload_n 0) 1 1 := at_i (by decide +kernel) rfl
theorem a_X9_fit_1 : At m_X9_fit 1 (.getfield 39) 3 4 := at_i (by decide +kernel) rfl
theorem a_X9_fit_4 : At m_X9_fit 4 (.aload_n 0) 1 5 := at_i (by decide +kernel) rfl
theorem a_X9_fit_5 : At m_X9_fit 5 (.getfield 10) 3 8 := at_i (by decide +kernel) rfl
theorem a_X9_fit_8 : At m_X9_fit 8 (.invokevirtual 213) 3 11 := at_i (by decide +kernel) rfl
theorem a_X9_fit_11 : At m_X9_fit 11 (.ireturn) 1 12 := at_i (by decide +kernel) rfl
def f_X9_fit  (h : Mem) (Q : Int32 → Mem → Prop) : Prop :=
  f_X4_bestLeftOut  h fun r_2 h_1 =>
  Q r_2 h_1
set_option maxRecDepth 20000 in
theorem t_X9_fit   (h : Mem) (Q : Int32 → Mem → Prop) (hyp : f_X9_fit  h Q) : Cn m_X9_fit [.ref 0] h (GI Q) := by
  refine ge_entry (lv := [(0, .ref 0)]) pn_X9 (Nat.le_of_ble_eq_true rfl) rfl ?_
  unfold f_X9_fit at hyp
  refine ge_aload_n a_X9_fit_0 rfl 0 rfl ?_
  refine ge_getR (q := 23) a_X9_fit_1 fd_X9_39 (rfl : gm_cls 0 = 8) rfl ?_
  refine ge_aload_n a_X9_fit_4 rfl 0 rfl ?_
  refine ge_getR (q := 1) a_X9_fit_5 fd_X9_10 (rfl : gm_cls 0 = 8) rfl ?_
  refine ge_cVI [.ref 1] (rest := []) a_X9_fit_8 ok_X4_bestLeftOut lk_X9_213 ⟨Nat.le_of_ble_eq_true rfl, Nat.le_of_ble_eq_true rfl⟩ (rfl : gm_cls 23 = 3) vc_3 (by decide) rfl rfl (Nat.le_of_ble_eq_true rfl) (t_X4_bestLeftOut   h _ hyp) (fun r_2 h_1 hyp => ?_)
  exact ge_iret rfl a_X9_fit_11 hyp

theorem a_X9_kept_0 : At m_X9_kept 0 (.aload_n 0) 1 1 := at_i (by decide +kernel) rfl
theorem a_X9_kept_1 : At m_X9_kept 1 (.getfield 10) 3 4 := at_i (by decide +kernel) rfl
theorem a_X9_kept_4 : At m_X9_kept 4 (.aload_n 0) 1 5 := at_i (by decide +kernel) rfl
theorem a_X9_kept_5 : At m_X9_kept 5 (.getfield 39) 3 8 := at_i (by decide +kernel) rfl
theorem a_X9_kept_8 : At m_X9_kept 8 (.aload_n 0) 1 9 := at_i (by decide +kernel) rfl
theorem a_X9_kept_9 : At m_X9_kept 9 (.getfield 10) 3 12 := at_i (by decide +kernel) rfl
theorem a_X9_kept_12 : At m_X9_kept 12 (.invokevirtual 213) 3 15 := at_i (by decide +kernel) rfl
theorem a_X9_kept_15 : At m_X9_kept 15 (.invokevirtual 216) 3 18 := at_i (by decide +kernel) rfl
theorem a_X9_kept_18 : At m_X9_kept 18 (.ireturn) 1 19 := at_i (by decide +kernel) rfl
def f_X9_kept  (h : Mem) (Q : Int32 → Mem → Prop) : Prop :=
  f_X4_bestLeftOut  h fun r_2 h_1 =>
  f_X6_wordsAheadWithout 1 r_2 h_1 fun r_4 h_3 =>
  Q r_4 h_3
set_option maxRecDepth 20000 in
theorem t_X9_kept   (h : Mem) (Q : Int32 → Mem → Prop) (hyp : f_X9_kept  h Q) : Cn m_X9_kept [.ref 0] h (GI Q) := by
  refine ge_entry (lv := [(0, .ref 0)]) pn_X9 (Nat.le_of_ble_eq_true rfl) rfl ?_
  unfold f_X9_kept at hyp
  refine ge_aload_n a_X9_kept_0 rfl 0 rfl ?_
  refine ge_getR (q := 1) a_X9_kept_1 fd_X9_10 (rfl : gm_cls 0 = 8) rfl ?_
  refine ge_aload_n a_X9_kept_4 rfl 0 rfl ?_
  refine ge_getR (q := 23) a_X9_kept_5 fd_X9_39 (rfl : gm_cls 0 = 8) rfl ?_
  refine ge_aload_n a_X9_kept_8 rfl 0 rfl ?_
  refine ge_getR (q := 1) a_X9_kept_9 fd_X9_10 (rfl : gm_cls 0 = 8) rfl ?_
  refine ge_cVI [.ref 1] (rest := [.ref 1]) a_X9_kept_12 ok_X4_bestLeftOut lk_X9_213 ⟨Nat.le_of_ble_eq_true rfl, Nat.le_of_ble_eq_true rfl⟩ (rfl : gm_cls 23 = 3) vc_3 (by decide) rfl rfl (Nat.le_of_ble_eq_true rfl) (t_X4_bestLeftOut   h _ hyp) (fun r_2 h_1 hyp => ?_)
  refine ge_cVI [.int r_2] (rest := []) a_X9_kept_15 ok_X6_wordsAheadWithout lk_X9_216 ⟨Nat.le_of_ble_eq_true rfl, Nat.le_of_ble_eq_true rfl⟩ (rfl : gm_cls 1 = 5) vc_5 (by decide) rfl rfl (Nat.le_of_ble_eq_true rfl) (t_X6_wordsAheadWithout 1 r_2 (rfl : gm_cls 1 = 5) h_1 _ hyp) (fun r_4 h_3 hyp => ?_)
  exact ge_iret rfl a_X9_kept_18 hyp

theorem a_X9_isWay_0 : At m_X9_isWay 0 (.aload_n 0) 1 1 := at_i (by decide +kernel) rfl
theorem a_X9_isWay_1 : At m_X9_isWay 1 (.getfield 10) 3 4 := at_i (by decide +kernel) rfl
theorem a_X9_isWay_4 : At m_X9_isWay 4 (.iload_n 1) 1 5 := at_i (by decide +kernel) rfl
theorem a_X9_isWay_5 : At m_X9_isWay 5 (.invokevirtual 90) 3 8 := at_i (by decide +kernel) rfl
theorem a_X9_isWay_8 : AtJ m_X9_isWay 8 (.ifCond .eq 23) (23) 31 11 := at_j (by decide +kernel) (by decide) rfl
theorem a_X9_isWay_11 : At m_X9_isWay 11 (.iload_n 2) 1 12 := at_i (by decide +kernel) rfl
theorem a_X9_isWay_12 : At m_X9_isWay 12 (.iload_n 1) 1 13 := at_i (by decide +kernel) rfl
theorem a_X9_isWay_13 : AtJ m_X9_isWay 13 (.if_icmp .le 18) (18) 31 16 := at_j (by decide +kernel) (by decide) rfl
theorem a_X9_isWay_16 : At m_X9_isWay 16 (.iload_n 2) 1 17 := at_i (by decide +kernel) rfl
theorem a_X9_isWay_17 : At m_X9_isWay 17 (.aload_n 0) 1 18 := at_i (by decide +kernel) rfl
theorem a_X9_isWay_18 : At m_X9_isWay 18 (.getfield 10) 3 21 := at_i (by decide +kernel) rfl
theorem a_X9_isWay_21 : At m_X9_isWay 21 (.getfield 139) 3 24 := at_i (by decide +kernel) rfl
theorem a_X9_isWay_24 : AtJ m_X9_isWay 24 (.if_icmp .gt 7) (7) 31 27 := at_j (by decide +kernel) (by decide) rfl
theorem a_X9_isWay_27 : At m_X9_isWay 27 (.iconst 1) 1 28 := at_i (by decide +kernel) rfl
theorem a_X9_isWay_28 : AtJ m_X9_isWay 28 (.goto 4) (4) 32 31 := at_j (by decide +kernel) (by decide) rfl
theorem a_X9_isWay_31 : At m_X9_isWay 31 (.iconst 0) 1 32 := at_i (by decide +kernel) rfl
theorem a_X9_isWay_32 : At m_X9_isWay 32 (.ireturn) 1 33 := at_i (by decide +kernel) rfl
def f_X9_isWay (a1 : Int32) (a2 : Int32) (h : Mem) (Q : Int32 → Mem → Prop) : Prop :=
  f_X6_isLine 1 a1 h fun r_2 h_1 =>
  if r_2 = 0 then (
    Q (0 : Int32) h_1)
  else (
    if a2 ≤ a1 then (
      Q (0 : Int32) h_1)
    else (
      if h_1 1 5 < a2 then (
        Q (0 : Int32) h_1)
      else (
        Q (1 : Int32) h_1)))
set_option maxRecDepth 20000 in
theorem t_X9_isWay (a1 : Int32) (a2 : Int32)  (h : Mem) (Q : Int32 → Mem → Prop) (hyp : f_X9_isWay a1 a2 h Q) : Cn m_X9_isWay [.ref 0, .int a1, .int a2] h (GI Q) := by
  refine ge_entry (lv := [(0, .ref 0), (1, .int a1), (2, .int a2)]) pn_X9 (Nat.le_of_ble_eq_true rfl) rfl ?_
  unfold f_X9_isWay at hyp
  refine ge_aload_n a_X9_isWay_0 rfl 0 rfl ?_
  refine ge_getR (q := 1) a_X9_isWay_1 fd_X9_10 (rfl : gm_cls 0 = 8) rfl ?_
  refine ge_iload_n a_X9_isWay_4 rfl 1 rfl ?_
  refine ge_cVI [.int a1] (rest := []) a_X9_isWay_5 ok_X6_isLine lk_X9_90 ⟨Nat.le_of_ble_eq_true rfl, Nat.le_of_ble_eq_true rfl⟩ (rfl : gm_cls 1 = 5) vc_5 (by decide) rfl rfl (Nat.le_of_ble_eq_true rfl) (t_X6_isLine 1 a1 (rfl : gm_cls 1 = 5) h _ hyp) (fun r_2 h_1 hyp => ?_)
  refine ge_if_eq a_X9_isWay_8 (fun c_3 => ?_) (fun c_3 => ?_)
  · have hyp := gm_ip hyp c_3
    refine ge_iconst (v := 0) a_X9_isWay_31 rfl ?_
    exact ge_zret rfl rfl a_X9_isWay_32 hyp
  · have hyp := gm_in hyp c_3
    refine ge_iload_n a_X9_isWay_11 rfl 2 rfl ?_
    refine ge_iload_n a_X9_isWay_12 rfl 1 rfl ?_
    refine ge_icmp_le a_X9_isWay_13 (fun c_4 => ?_) (fun c_4 => ?_)
    · have hyp := gm_ip hyp c_4
      refine ge_iconst (v := 0) a_X9_isWay_31 rfl ?_
      exact ge_zret rfl rfl a_X9_isWay_32 hyp
    · have hyp := gm_in hyp c_4
      refine ge_iload_n a_X9_isWay_16 rfl 2 rfl ?_
      refine ge_aload_n a_X9_isWay_17 rfl 0 rfl ?_
      refine ge_getR (q := 1) a_X9_isWay_18 fd_X9_10 (rfl : gm_cls 0 = 8) rfl ?_
      refine ge_getI a_X9_isWay_21 fd_X9_139 (rfl : gm_cls 1 = 5) ?_
      refine ge_icmp_gt a_X9_isWay_24 (fun c_5 => ?_) (fun c_5 => ?_)
      · have hyp := gm_ip hyp c_5
        refine ge_iconst (v := 0) a_X9_isWay_31 rfl ?_
        exact ge_zret rfl rfl a_X9_isWay_32 hyp
      · have hyp := gm_in hyp c_5
        refine ge_iconst (v := 1) a_X9_isWay_27 rfl ?_
        refine ge_goto a_X9_isWay_28 ?_
        exact ge_zret rfl rfl a_X9_isWay_32 hyp

theorem a_X9_jump_0 : At m_X9_jump 0 (.aload_n 0) 1 1 := at_i (by decide +kernel) rfl
theorem a_X9_jump_1 : At m_X9_jump 1 (.iload_n 1) 1 2 := at_i (by decide +kernel) rfl
theorem a_X9_jump_2 : At m_X9_jump 2 (.iload_n 2) 1 3 := at_i (by decide +kernel) rfl
theorem a_X9_jump_3 : At m_X9_jump 3 (.invokevirtual 219) 3 6 := at_i (by decide +kernel) rfl
theorem a_X9_jump_6 : AtJ m_X9_jump 6 (.ifCond .ne 9) (9) 15 9 := at_j (by decide +kernel) (by decide) rfl
theorem a_X9_jump_9 : At m_X9_jump 9 (.aload_n 0) 1 10 := at_i (by decide +kernel) rfl
theorem a_X9_jump_10 : At m_X9_jump 10 (.iconst 0) 1 11 := at_i (by decide +kernel) rfl
theorem a_X9_jump_11 : At m_X9_jump 11 (.invokevirtual 79) 3 14 := at_i (by decide +kernel) rfl
theorem a_X9_jump_14 : At m_X9_jump 14 (.ireturn) 1 15 := at_i (by decide +kernel) rfl
theorem a_X9_jump_15 : At m_X9_jump 15 (.aload_n 0) 1 16 := at_i (by decide +kernel) rfl
theorem a_X9_jump_16 : At m_X9_jump 16 (.getfield 46) 3 19 := at_i (by decide +kernel) rfl
theorem a_X9_jump_19 : At m_X9_jump 19 (.aload_n 0) 1 20 := at_i (by decide +kernel) rfl
theorem a_X9_jump_20 : At m_X9_jump 20 (.getfield 10) 3 23 := at_i (by decide +kernel) rfl
theorem a_X9_jump_23 : At m_X9_jump 23 (.iload_n 1) 1 24 := at_i (by decide +kernel) rfl
theorem a_X9_jump_24 : At m_X9_jump 24 (.iload_n 2) 1 25 := at_i (by decide +kernel) rfl
theorem a_X9_jump_25 : At m_X9_jump 25 (.invokevirtual 223) 3 28 := at_i (by decide +kernel) rfl
theorem a_X9_jump_28 : At m_X9_jump 28 (.aload_n 0) 1 29 := at_i (by decide +kernel) rfl
theorem a_X9_jump_29 : At m_X9_jump 29 (.getfield 46) 3 32 := at_i (by decide +kernel) rfl
theorem a_X9_jump_32 : At m_X9_jump 32 (.iload_n 1) 1 33 := at_i (by decide +kernel) rfl
theorem a_X9_jump_33 : At m_X9_jump 33 (.invokevirtual 227) 3 36 := at_i (by decide +kernel) rfl
theorem a_X9_jump_36 : At m_X9_jump 36 (.ireturn) 1 37 := at_i (by decide +kernel) rfl
def f_X9_jump (a1 : Int32) (a2 : Int32) (h : Mem) (Q : Int32 → Mem → Prop) : Prop :=
  f_X9_isWay a1 a2 h fun r_2 h_1 =>
  if r_2 = 0 then (
    f_X9_finding (0 : Int32) h_1 fun r_8 h_7 =>
    Q r_8 h_7)
  else (
    f_X8_measure a1 a2 h_1 fun h_4 =>
    f_X8_shortest a1 h_4 fun r_6 h_5 =>
    Q r_6 h_5)
set_option maxRecDepth 20000 in
theorem t_X9_jump (a1 : Int32) (a2 : Int32)  (h : Mem) (Q : Int32 → Mem → Prop) (hyp : f_X9_jump a1 a2 h Q) : Cn m_X9_jump [.ref 0, .int a1, .int a2] h (GI Q) := by
  refine ge_entry (lv := [(0, .ref 0), (1, .int a1), (2, .int a2)]) pn_X9 (Nat.le_of_ble_eq_true rfl) rfl ?_
  unfold f_X9_jump at hyp
  refine ge_aload_n a_X9_jump_0 rfl 0 rfl ?_
  refine ge_iload_n a_X9_jump_1 rfl 1 rfl ?_
  refine ge_iload_n a_X9_jump_2 rfl 2 rfl ?_
  refine ge_cVI [.int a1, .int a2] (rest := []) a_X9_jump_3 ok_X9_isWay lk_X9_219 ⟨Nat.le_of_ble_eq_true rfl, Nat.le_of_ble_eq_true rfl⟩ (rfl : gm_cls 0 = 8) vc_8 (by decide) rfl rfl (Nat.le_of_ble_eq_true rfl) (t_X9_isWay a1 a2  h _ hyp) (fun r_2 h_1 hyp => ?_)
  refine ge_if_ne a_X9_jump_6 (fun c_3 => ?_) (fun c_3 => ?_)
  · have hyp := gm_in hyp c_3
    refine ge_aload_n a_X9_jump_15 rfl 0 rfl ?_
    refine ge_getR (q := 26) a_X9_jump_16 fd_X9_46 (rfl : gm_cls 0 = 8) rfl ?_
    refine ge_aload_n a_X9_jump_19 rfl 0 rfl ?_
    refine ge_getR (q := 1) a_X9_jump_20 fd_X9_10 (rfl : gm_cls 0 = 8) rfl ?_
    refine ge_iload_n a_X9_jump_23 rfl 1 rfl ?_
    refine ge_iload_n a_X9_jump_24 rfl 2 rfl ?_
    refine ge_cVV [.ref 1, .int a1, .int a2] (rest := []) a_X9_jump_25 ok_X8_measure lk_X9_223 ⟨Nat.le_of_ble_eq_true rfl, Nat.le_of_ble_eq_true rfl⟩ (rfl : gm_cls 26 = 7) vc_7 (by decide) rfl rfl (Nat.le_of_ble_eq_true rfl) (t_X8_measure a1 a2  h_1 _ hyp) (fun h_4 hyp => ?_)
    refine ge_aload_n a_X9_jump_28 rfl 0 rfl ?_
    refine ge_getR (q := 26) a_X9_jump_29 fd_X9_46 (rfl : gm_cls 0 = 8) rfl ?_
    refine ge_iload_n a_X9_jump_32 rfl 1 rfl ?_
    refine ge_cVI [.int a1] (rest := []) a_X9_jump_33 ok_X8_shortest lk_X9_227 ⟨Nat.le_of_ble_eq_true rfl, Nat.le_of_ble_eq_true rfl⟩ (rfl : gm_cls 26 = 7) vc_7 (by decide) rfl rfl (Nat.le_of_ble_eq_true rfl) (t_X8_shortest a1  h_4 _ hyp) (fun r_6 h_5 hyp => ?_)
    exact ge_iret rfl a_X9_jump_36 hyp
  · have hyp := gm_ip hyp c_3
    refine ge_aload_n a_X9_jump_9 rfl 0 rfl ?_
    refine ge_iconst (v := 0) a_X9_jump_10 rfl ?_
    refine ge_cVI [.int (0 : Int32)] (rest := []) a_X9_jump_11 ok_X9_finding lk_X9_79 ⟨Nat.le_of_ble_eq_true rfl, Nat.le_of_ble_eq_true rfl⟩ (rfl : gm_cls 0 = 8) vc_8 (by decide) rfl rfl (Nat.le_of_ble_eq_true rfl) (t_X9_finding (0 : Int32)  h_1 _ hyp) (fun r_8 h_7 hyp => ?_)
    exact ge_iret rfl a_X9_jump_14 hyp

theorem a_X9_jumped_0 : At m_X9_jumped 0 (.aload_n 0) 1 1 := at_i (by decide +kernel) rfl
theorem a_X9_jumped_1 : At m_X9_jumped 1 (.iload_n 1) 1 2 := at_i (by decide +kernel) rfl
theorem a_X9_jumped_2 : At m_X9_jumped 2 (.iload_n 2) 1 3 := at_i (by decide +kernel) rfl
theorem a_X9_jumped_3 : At m_X9_jumped 3 (.invokevirtual 219) 3 6 := at_i (by decide +kernel) rfl
theorem a_X9_jumped_6 : AtJ m_X9_jumped 6 (.ifCond .ne 9) (9) 15 9 := at_j (by decide +kernel) (by decide) rfl
theorem a_X9_jumped_9 : At m_X9_jumped 9 (.aload_n 0) 1 10 := at_i (by decide +kernel) rfl
theorem a_X9_jumped_10 : At m_X9_jumped 10 (.iconst 0) 1 11 := at_i (by decide +kernel) rfl
theorem a_X9_jumped_11 : At m_X9_jumped 11 (.invokevirtual 79) 3 14 := at_i (by decide +kernel) rfl
theorem a_X9_jumped_14 : At m_X9_jumped 14 (.ireturn) 1 15 := at_i (by decide +kernel) rfl
theorem a_X9_jumped_15 : At m_X9_jumped 15 (.aload_n 0) 1 16 := at_i (by decide +kernel) rfl
theorem a_X9_jumped_16 : At m_X9_jumped 16 (.getfield 46) 3 19 := at_i (by decide +kernel) rfl
theorem a_X9_jumped_19 : At m_X9_jumped 19 (.aload_n 0) 1 20 := at_i (by decide +kernel) rfl
theorem a_X9_jumped_20 : At m_X9_jumped 20 (.getfield 10) 3 23 := at_i (by decide +kernel) rfl
theorem a_X9_jumped_23 : At m_X9_jumped 23 (.iload_n 1) 1 24 := at_i (by decide +kernel) rfl
theorem a_X9_jumped_24 : At m_X9_jumped 24 (.iload_n 2) 1 25 := at_i (by decide +kernel) rfl
theorem a_X9_jumped_25 : At m_X9_jumped 25 (.invokevirtual 223) 3 28 := at_i (by decide +kernel) rfl
theorem a_X9_jumped_28 : At m_X9_jumped 28 (.aload_n 0) 1 29 := at_i (by decide +kernel) rfl
theorem a_X9_jumped_29 : At m_X9_jumped 29 (.getfield 46) 3 32 := at_i (by decide +kernel) rfl
theorem a_X9_jumped_32 : At m_X9_jumped 32 (.iload_n 1) 1 33 := at_i (by decide +kernel) rfl
theorem a_X9_jumped_33 : At m_X9_jumped 33 (.iload_n 2) 1 34 := at_i (by decide +kernel) rfl
theorem a_X9_jumped_34 : At m_X9_jumped 34 (.invokevirtual 230) 3 37 := at_i (by decide +kernel) rfl
theorem a_X9_jumped_37 : At m_X9_jumped 37 (.ireturn) 1 38 := at_i (by decide +kernel) rfl
def f_X9_jumped (a1 : Int32) (a2 : Int32) (h : Mem) (Q : Int32 → Mem → Prop) : Prop :=
  f_X9_isWay a1 a2 h fun r_2 h_1 =>
  if r_2 = 0 then (
    f_X9_finding (0 : Int32) h_1 fun r_8 h_7 =>
    Q r_8 h_7)
  else (
    f_X8_measure a1 a2 h_1 fun h_4 =>
    f_X8_linesRead a1 a2 h_4 fun r_6 h_5 =>
    Q r_6 h_5)
set_option maxRecDepth 20000 in
theorem t_X9_jumped (a1 : Int32) (a2 : Int32)  (h : Mem) (Q : Int32 → Mem → Prop) (hyp : f_X9_jumped a1 a2 h Q) : Cn m_X9_jumped [.ref 0, .int a1, .int a2] h (GI Q) := by
  refine ge_entry (lv := [(0, .ref 0), (1, .int a1), (2, .int a2)]) pn_X9 (Nat.le_of_ble_eq_true rfl) rfl ?_
  unfold f_X9_jumped at hyp
  refine ge_aload_n a_X9_jumped_0 rfl 0 rfl ?_
  refine ge_iload_n a_X9_jumped_1 rfl 1 rfl ?_
  refine ge_iload_n a_X9_jumped_2 rfl 2 rfl ?_
  refine ge_cVI [.int a1, .int a2] (rest := []) a_X9_jumped_3 ok_X9_isWay lk_X9_219 ⟨Nat.le_of_ble_eq_true rfl, Nat.le_of_ble_eq_true rfl⟩ (rfl : gm_cls 0 = 8) vc_8 (by decide) rfl rfl (Nat.le_of_ble_eq_true rfl) (t_X9_isWay a1 a2  h _ hyp) (fun r_2 h_1 hyp => ?_)
  refine ge_if_ne a_X9_jumped_6 (fun c_3 => ?_) (fun c_3 => ?_)
  · have hyp := gm_in hyp c_3
    refine ge_aload_n a_X9_jumped_15 rfl 0 rfl ?_
    refine ge_getR (q := 26) a_X9_jumped_16 fd_X9_46 (rfl : gm_cls 0 = 8) rfl ?_
    refine ge_aload_n a_X9_jumped_19 rfl 0 rfl ?_
    refine ge_getR (q := 1) a_X9_jumped_20 fd_X9_10 (rfl : gm_cls 0 = 8) rfl ?_
    refine ge_iload_n a_X9_jumped_23 rfl 1 rfl ?_
    refine ge_iload_n a_X9_jumped_24 rfl 2 rfl ?_
    refine ge_cVV [.ref 1, .int a1, .int a2] (rest := []) a_X9_jumped_25 ok_X8_measure lk_X9_223 ⟨Nat.le_of_ble_eq_true rfl, Nat.le_of_ble_eq_true rfl⟩ (rfl : gm_cls 26 = 7) vc_7 (by decide) rfl rfl (Nat.le_of_ble_eq_true rfl) (t_X8_measure a1 a2  h_1 _ hyp) (fun h_4 hyp => ?_)
    refine ge_aload_n a_X9_jumped_28 rfl 0 rfl ?_
    refine ge_getR (q := 26) a_X9_jumped_29 fd_X9_46 (rfl : gm_cls 0 = 8) rfl ?_
    refine ge_iload_n a_X9_jumped_32 rfl 1 rfl ?_
    refine ge_iload_n a_X9_jumped_33 rfl 2 rfl ?_
    refine ge_cVI [.int a1, .int a2] (rest := []) a_X9_jumped_34 ok_X8_linesRead lk_X9_230 ⟨Nat.le_of_ble_eq_true rfl, Nat.le_of_ble_eq_true rfl⟩ (rfl : gm_cls 26 = 7) vc_7 (by decide) rfl rfl (Nat.le_of_ble_eq_true rfl) (t_X8_linesRead a1 a2  h_4 _ hyp) (fun r_6 h_5 hyp => ?_)
    exact ge_iret rfl a_X9_jumped_37 hyp
  · have hyp := gm_ip hyp c_3
    refine ge_aload_n a_X9_jumped_9 rfl 0 rfl ?_
    refine ge_iconst (v := 0) a_X9_jumped_10 rfl ?_
    refine ge_cVI [.int (0 : Int32)] (rest := []) a_X9_jumped_11 ok_X9_finding lk_X9_79 ⟨Nat.le_of_ble_eq_true rfl, Nat.le_of_ble_eq_true rfl⟩ (rfl : gm_cls 0 = 8) vc_8 (by decide) rfl rfl (Nat.le_of_ble_eq_true rfl) (t_X9_finding (0 : Int32)  h_1 _ hyp) (fun r_8 h_7 hyp => ?_)
    exact ge_iret rfl a_X9_jumped_14 hyp

theorem a_X9_isSheet_0 : At m_X9_isSheet 0 (.iload_n 1) 1 1 := at_i (by decide +kernel) rfl
theorem a_X9_isSheet_1 : At m_X9_isSheet 1 (.iconst 0) 1 2 := at_i (by decide +kernel) rfl
theorem a_X9_isSheet_2 : At m_X9_isSheet 2 (.iconst 3) 1 3 := at_i (by decide +kernel) rfl
theorem a_X9_isSheet_3 : At m_X9_isSheet 3 (.invokestatic 75) 3 6 := at_i (by decide +kernel) rfl
theorem a_X9_isSheet_6 : At m_X9_isSheet 6 (.ireturn) 1 7 := at_i (by decide +kernel) rfl
def f_X9_isSheet (a1 : Int32) (h : Mem) (Q : Int32 → Mem → Prop) : Prop :=
  f_X9_isWithin a1 (0 : Int32) (3 : Int32) h fun r_2 h_1 =>
  gm_b r_2 ∧ Q r_2 h_1
set_option maxRecDepth 20000 in
theorem t_X9_isSheet (a1 : Int32)  (h : Mem) (Q : Int32 → Mem → Prop) (hyp : f_X9_isSheet a1 h Q) : Cn m_X9_isSheet [.ref 0, .int a1] h (GI Q) := by
  refine ge_entry (lv := [(0, .ref 0), (1, .int a1)]) pn_X9 (Nat.le_of_ble_eq_true rfl) rfl ?_
  unfold f_X9_isSheet at hyp
  refine ge_iload_n a_X9_isSheet_0 rfl 1 rfl ?_
  refine ge_iconst (v := 0) a_X9_isSheet_1 rfl ?_
  refine ge_iconst (v := 3) a_X9_isSheet_2 rfl ?_
  refine ge_cSI [.int a1, .int (0 : Int32), .int (3 : Int32)] (rest := []) a_X9_isSheet_3 ok_X9_isWithin lk_X9_75 ⟨Nat.le_of_ble_eq_true rfl, Nat.le_of_ble_eq_true rfl⟩ rfl rfl (Nat.le_of_ble_eq_true rfl) (t_X9_isWithin a1 (0 : Int32) (3 : Int32)  h _ hyp) (fun r_2 h_1 hyp => ?_)
  exact ge_zret rfl (gm_b_nar hyp.1) a_X9_isSheet_6 hyp.2

theorem a_X9_fits_0 : At m_X9_fits 0 (.aload_n 0) 1 1 := at_i (by decide +kernel) rfl
theorem a_X9_fits_1 : At m_X9_fits 1 (.iload_n 1) 1 2 := at_i (by decide +kernel) rfl
theorem a_X9_fits_2 : At m_X9_fits 2 (.invokevirtual 233) 3 5 := at_i (by decide +kernel) rfl
theorem a_X9_fits_5 : AtJ m_X9_fits 5 (.ifCond .ne 9) (9) 14 8 := at_j (by decide +kernel) (by decide) rfl
theorem a_X9_fits_8 : At m_X9_fits 8 (.aload_n 0) 1 9 := at_i (by decide +kernel) rfl
theorem a_X9_fits_9 : At m_X9_fits 9 (.iconst 0) 1 10 := at_i (by decide +kernel) rfl
theorem a_X9_fits_10 : At m_X9_fits 10 (.invokevirtual 79) 3 13 := at_i (by decide +kernel) rfl
theorem a_X9_fits_13 : At m_X9_fits 13 (.ireturn) 1 14 := at_i (by decide +kernel) rfl
theorem a_X9_fits_14 : At m_X9_fits 14 (.aload_n 0) 1 15 := at_i (by decide +kernel) rfl
theorem a_X9_fits_15 : At m_X9_fits 15 (.getfield 66) 3 18 := at_i (by decide +kernel) rfl
theorem a_X9_fits_18 : At m_X9_fits 18 (.iload_n 1) 1 19 := at_i (by decide +kernel) rfl
theorem a_X9_fits_19 : At m_X9_fits 19 (.aaload) 1 20 := at_i (by decide +kernel) rfl
theorem a_X9_fits_20 : At m_X9_fits 20 (.invokevirtual 236) 3 23 := at_i (by decide +kernel) rfl
theorem a_X9_fits_23 : AtJ m_X9_fits 23 (.ifCond .eq 9) (9) 32 26 := at_j (by decide +kernel) (by decide) rfl
theorem a_X9_fits_26 : At m_X9_fits 26 (.aload_n 0) 1 27 := at_i (by decide +kernel) rfl
theorem a_X9_fits_27 : At m_X9_fits 27 (.iconst 5) 1 28 := at_i (by decide +kernel) rfl
theorem a_X9_fits_28 : At m_X9_fits 28 (.invokevirtual 79) 3 31 := at_i (by decide +kernel) rfl
theorem a_X9_fits_31 : At m_X9_fits 31 (.ireturn) 1 32 := at_i (by decide +kernel) rfl
theorem a_X9_fits_32 : At m_X9_fits 32 (.aload_n 0) 1 33 := at_i (by decide +kernel) rfl
theorem a_X9_fits_33 : At m_X9_fits 33 (.getfield 39) 3 36 := at_i (by decide +kernel) rfl
theorem a_X9_fits_36 : At m_X9_fits 36 (.aload_n 0) 1 37 := at_i (by decide +kernel) rfl
theorem a_X9_fits_37 : At m_X9_fits 37 (.getfield 10) 3 40 := at_i (by decide +kernel) rfl
theorem a_X9_fits_40 : At m_X9_fits 40 (.aload_n 0) 1 41 := at_i (by decide +kernel) rfl
theorem a_X9_fits_41 : At m_X9_fits 41 (.getfield 66) 3 44 := at_i (by decide +kernel) rfl
theorem a_X9_fits_44 : At m_X9_fits 44 (.iload_n 1) 1 45 := at_i (by decide +kernel) rfl
theorem a_X9_fits_45 : At m_X9_fits 45 (.aaload) 1 46 := at_i (by decide +kernel) rfl
theorem a_X9_fits_46 : At m_X9_fits 46 (.invokevirtual 239) 3 49 := at_i (by decide +kernel) rfl
theorem a_X9_fits_49 : At m_X9_fits 49 (.aload_n 0) 1 50 := at_i (by decide +kernel) rfl
theorem a_X9_fits_50 : At m_X9_fits 50 (.getfield 39) 3 53 := at_i (by decide +kernel) rfl
theorem a_X9_fits_53 : At m_X9_fits 53 (.getfield 243) 3 56 := at_i (by decide +kernel) rfl
theorem a_X9_fits_56 : At m_X9_fits 56 (.ireturn) 1 57 := at_i (by decide +kernel) rfl
def f_X9_fits (a1 : Int32) (h : Mem) (Q : Int32 → Mem → Prop) : Prop :=
  f_X9_isSheet a1 h fun r_2 h_1 =>
  if r_2 = 0 then (
    f_X9_finding (0 : Int32) h_1 fun r_13 h_12 =>
    Q r_13 h_12)
  else (
    vp_in a1 4 ∧
    f_X5_isMissing (35 + 2 * a1.toNatClampNeg) h_1 fun r_6 h_5 =>
    if r_6 = 0 then (
      vp_in a1 4 ∧
      f_X4_tallyFits (35 + 2 * a1.toNatClampNeg) h_5 fun h_9 =>
      Q (h_9 23 2) h_9)
    else (
      f_X9_finding (5 : Int32) h_5 fun r_11 h_10 =>
      Q r_11 h_10))
set_option maxRecDepth 20000 in
theorem t_X9_fits (a1 : Int32)  (h : Mem) (Q : Int32 → Mem → Prop) (hyp : f_X9_fits a1 h Q) : Cn m_X9_fits [.ref 0, .int a1] h (GI Q) := by
  refine ge_entry (lv := [(0, .ref 0), (1, .int a1)]) pn_X9 (Nat.le_of_ble_eq_true rfl) rfl ?_
  unfold f_X9_fits at hyp
  refine ge_aload_n a_X9_fits_0 rfl 0 rfl ?_
  refine ge_iload_n a_X9_fits_1 rfl 1 rfl ?_
  refine ge_cVI [.int a1] (rest := []) a_X9_fits_2 ok_X9_isSheet lk_X9_233 ⟨Nat.le_of_ble_eq_true rfl, Nat.le_of_ble_eq_true rfl⟩ (rfl : gm_cls 0 = 8) vc_8 (by decide) rfl rfl (Nat.le_of_ble_eq_true rfl) (t_X9_isSheet a1  h _ hyp) (fun r_2 h_1 hyp => ?_)
  refine ge_if_ne a_X9_fits_5 (fun c_3 => ?_) (fun c_3 => ?_)
  · have hyp := gm_in hyp c_3
    refine ge_aload_n a_X9_fits_14 rfl 0 rfl ?_
    refine ge_getR (q := 33) a_X9_fits_15 fd_X9_66 (rfl : gm_cls 0 = 8) rfl ?_
    refine ge_iload_n a_X9_fits_18 rfl 1 rfl ?_
    obtain ⟨b_4, hyp⟩ := hyp
    refine ge_ald33 a_X9_fits_19 b_4 ?_
    refine ge_cVI [] (rest := []) a_X9_fits_20 ok_X5_isMissing lk_X9_236 ⟨Nat.le_of_ble_eq_true rfl, Nat.le_of_ble_eq_true rfl⟩ (gm_sheet b_4) vc_4 (by decide) rfl rfl (Nat.le_of_ble_eq_true rfl) (t_X5_isMissing (35 + 2 * a1.toNatClampNeg) (gm_sheet b_4) h_1 _ hyp) (fun r_6 h_5 hyp => ?_)
    refine ge_if_eq a_X9_fits_23 (fun c_7 => ?_) (fun c_7 => ?_)
    · have hyp := gm_ip hyp c_7
      refine ge_aload_n a_X9_fits_32 rfl 0 rfl ?_
      refine ge_getR (q := 23) a_X9_fits_33 fd_X9_39 (rfl : gm_cls 0 = 8) rfl ?_
      refine ge_aload_n a_X9_fits_36 rfl 0 rfl ?_
      refine ge_getR (q := 1) a_X9_fits_37 fd_X9_10 (rfl : gm_cls 0 = 8) rfl ?_
      refine ge_aload_n a_X9_fits_40 rfl 0 rfl ?_
      refine ge_getR (q := 33) a_X9_fits_41 fd_X9_66 (rfl : gm_cls 0 = 8) rfl ?_
      refine ge_iload_n a_X9_fits_44 rfl 1 rfl ?_
      obtain ⟨b_8, hyp⟩ := hyp
      refine ge_ald33 a_X9_fits_45 b_8 ?_
      refine ge_cVV [.ref 1, .ref (35 + 2 * a1.toNatClampNeg)] (rest := []) a_X9_fits_46 ok_X4_tallyFits lk_X9_239 ⟨Nat.le_of_ble_eq_true rfl, Nat.le_of_ble_eq_true rfl⟩ (rfl : gm_cls 23 = 3) vc_3 (by decide) rfl rfl (Nat.le_of_ble_eq_true rfl) (t_X4_tallyFits (35 + 2 * a1.toNatClampNeg) (gm_sheet b_8) h_5 _ hyp) (fun h_9 hyp => ?_)
      refine ge_aload_n a_X9_fits_49 rfl 0 rfl ?_
      refine ge_getR (q := 23) a_X9_fits_50 fd_X9_39 (rfl : gm_cls 0 = 8) rfl ?_
      refine ge_getI a_X9_fits_53 fd_X9_243 (rfl : gm_cls 23 = 3) ?_
      exact ge_iret rfl a_X9_fits_56 hyp
    · have hyp := gm_in hyp c_7
      refine ge_aload_n a_X9_fits_26 rfl 0 rfl ?_
      refine ge_iconst (v := 5) a_X9_fits_27 rfl ?_
      refine ge_cVI [.int (5 : Int32)] (rest := []) a_X9_fits_28 ok_X9_finding lk_X9_79 ⟨Nat.le_of_ble_eq_true rfl, Nat.le_of_ble_eq_true rfl⟩ (rfl : gm_cls 0 = 8) vc_8 (by decide) rfl rfl (Nat.le_of_ble_eq_true rfl) (t_X9_finding (5 : Int32)  h_5 _ hyp) (fun r_11 h_10 hyp => ?_)
      exact ge_iret rfl a_X9_fits_31 hyp
  · have hyp := gm_ip hyp c_3
    refine ge_aload_n a_X9_fits_8 rfl 0 rfl ?_
    refine ge_iconst (v := 0) a_X9_fits_9 rfl ?_
    refine ge_cVI [.int (0 : Int32)] (rest := []) a_X9_fits_10 ok_X9_finding lk_X9_79 ⟨Nat.le_of_ble_eq_true rfl, Nat.le_of_ble_eq_true rfl⟩ (rfl : gm_cls 0 = 8) vc_8 (by decide) rfl rfl (Nat.le_of_ble_eq_true rfl) (t_X9_finding (0 : Int32)  h_1 _ hyp) (fun r_13 h_12 hyp => ?_)
    exact ge_iret rfl a_X9_fits_13 hyp

theorem a_X9_led_0 : At m_X9_led 0 (.aload_n 0) 1 1 := at_i (by decide +kernel) rfl
theorem a_X9_led_1 : At m_X9_led 1 (.iload_n 1) 1 2 := at_i (by decide +kernel) rfl
theorem a_X9_led_2 : At m_X9_led 2 (.invokevirtual 233) 3 5 := at_i (by decide +kernel) rfl
theorem a_X9_led_5 : AtJ m_X9_led 5 (.ifCond .ne 9) (9) 14 8 := at_j (by decide +kernel) (by decide) rfl
theorem a_X9_led_8 : At m_X9_led 8 (.aload_n 0) 1 9 := at_i (by decide +kernel) rfl
theorem a_X9_led_9 : At m_X9_led 9 (.iconst 0) 1 10 := at_i (by decide +kernel) rfl
theorem a_X9_led_10 : At m_X9_led 10 (.invokevirtual 79) 3 13 := at_i (by decide +kernel) rfl
theorem a_X9_led_13 : At m_X9_led 13 (.ireturn) 1 14 := at_i (by decide +kernel) rfl
theorem a_X9_led_14 : At m_X9_led 14 (.aload_n 0) 1 15 := at_i (by decide +kernel) rfl
theorem a_X9_led_15 : At m_X9_led 15 (.getfield 66) 3 18 := at_i (by decide +kernel) rfl
theorem a_X9_led_18 : At m_X9_led 18 (.iload_n 1) 1 19 := at_i (by decide +kernel) rfl
theorem a_X9_led_19 : At m_X9_led 19 (.aaload) 1 20 := at_i (by decide +kernel) rfl
theorem a_X9_led_20 : At m_X9_led 20 (.invokevirtual 236) 3 23 := at_i (by decide +kernel) rfl
theorem a_X9_led_23 : AtJ m_X9_led 23 (.ifCond .eq 9) (9) 32 26 := at_j (by decide +kernel) (by decide) rfl
theorem a_X9_led_26 : At m_X9_led 26 (.aload_n 0) 1 27 := at_i (by decide +kernel) rfl
theorem a_X9_led_27 : At m_X9_led 27 (.iconst 5) 1 28 := at_i (by decide +kernel) rfl
theorem a_X9_led_28 : At m_X9_led 28 (.invokevirtual 79) 3 31 := at_i (by decide +kernel) rfl
theorem a_X9_led_31 : At m_X9_led 31 (.ireturn) 1 32 := at_i (by decide +kernel) rfl
theorem a_X9_led_32 : At m_X9_led 32 (.aload_n 0) 1 33 := at_i (by decide +kernel) rfl
theorem a_X9_led_33 : At m_X9_led 33 (.getfield 39) 3 36 := at_i (by decide +kernel) rfl
theorem a_X9_led_36 : At m_X9_led 36 (.aload_n 0) 1 37 := at_i (by decide +kernel) rfl
theorem a_X9_led_37 : At m_X9_led 37 (.getfield 10) 3 40 := at_i (by decide +kernel) rfl
theorem a_X9_led_40 : At m_X9_led 40 (.aload_n 0) 1 41 := at_i (by decide +kernel) rfl
theorem a_X9_led_41 : At m_X9_led 41 (.getfield 66) 3 44 := at_i (by decide +kernel) rfl
theorem a_X9_led_44 : At m_X9_led 44 (.iload_n 1) 1 45 := at_i (by decide +kernel) rfl
theorem a_X9_led_45 : At m_X9_led 45 (.aaload) 1 46 := at_i (by decide +kernel) rfl
theorem a_X9_led_46 : At m_X9_led 46 (.invokevirtual 239) 3 49 := at_i (by decide +kernel) rfl
theorem a_X9_led_49 : At m_X9_led 49 (.aload_n 0) 1 50 := at_i (by decide +kernel) rfl
theorem a_X9_led_50 : At m_X9_led 50 (.getfield 39) 3 53 := at_i (by decide +kernel) rfl
theorem a_X9_led_53 : At m_X9_led 53 (.getfield 243) 3 56 := at_i (by decide +kernel) rfl
theorem a_X9_led_56 : AtJ m_X9_led 56 (.ifCond .ne 11) (11) 67 59 := at_j (by decide +kernel) (by decide) rfl
theorem a_X9_led_59 : At m_X9_led 59 (.aload_n 0) 1 60 := at_i (by decide +kernel) rfl
theorem a_X9_led_60 : At m_X9_led 60 (.iconst 3) 1 61 := at_i (by decide +kernel) rfl
theorem a_X9_led_61 : At m_X9_led 61 (.invokevirtual 79) 3 64 := at_i (by decide +kernel) rfl
theorem a_X9_led_64 : AtJ m_X9_led 64 (.goto 10) (10) 74 67 := at_j (by decide +kernel) (by decide) rfl
theorem a_X9_led_67 : At m_X9_led 67 (.aload_n 0) 1 68 := at_i (by decide +kernel) rfl
theorem a_X9_led_68 : At m_X9_led 68 (.getfield 39) 3 71 := at_i (by decide +kernel) rfl
theorem a_X9_led_71 : At m_X9_led 71 (.getfield 246) 3 74 := at_i (by decide +kernel) rfl
theorem a_X9_led_74 : At m_X9_led 74 (.ireturn) 1 75 := at_i (by decide +kernel) rfl
def f_X9_led (a1 : Int32) (h : Mem) (Q : Int32 → Mem → Prop) : Prop :=
  f_X9_isSheet a1 h fun r_2 h_1 =>
  if r_2 = 0 then (
    f_X9_finding (0 : Int32) h_1 fun r_16 h_15 =>
    Q r_16 h_15)
  else (
    vp_in a1 4 ∧
    f_X5_isMissing (35 + 2 * a1.toNatClampNeg) h_1 fun r_6 h_5 =>
    if r_6 = 0 then (
      vp_in a1 4 ∧
      f_X4_tallyFits (35 + 2 * a1.toNatClampNeg) h_5 fun h_9 =>
      if h_9 23 2 = 0 then (
        f_X9_finding (3 : Int32) h_9 fun r_12 h_11 =>
        Q r_12 h_11)
      else (
        Q (h_9 23 4) h_9))
    else (
      f_X9_finding (5 : Int32) h_5 fun r_14 h_13 =>
      Q r_14 h_13))
set_option maxRecDepth 20000 in
theorem t_X9_led (a1 : Int32)  (h : Mem) (Q : Int32 → Mem → Prop) (hyp : f_X9_led a1 h Q) : Cn m_X9_led [.ref 0, .int a1] h (GI Q) := by
  refine ge_entry (lv := [(0, .ref 0), (1, .int a1)]) pn_X9 (Nat.le_of_ble_eq_true rfl) rfl ?_
  unfold f_X9_led at hyp
  refine ge_aload_n a_X9_led_0 rfl 0 rfl ?_
  refine ge_iload_n a_X9_led_1 rfl 1 rfl ?_
  refine ge_cVI [.int a1] (rest := []) a_X9_led_2 ok_X9_isSheet lk_X9_233 ⟨Nat.le_of_ble_eq_true rfl, Nat.le_of_ble_eq_true rfl⟩ (rfl : gm_cls 0 = 8) vc_8 (by decide) rfl rfl (Nat.le_of_ble_eq_true rfl) (t_X9_isSheet a1  h _ hyp) (fun r_2 h_1 hyp => ?_)
  refine ge_if_ne a_X9_led_5 (fun c_3 => ?_) (fun c_3 => ?_)
  · have hyp := gm_in hyp c_3
    refine ge_aload_n a_X9_led_14 rfl 0 rfl ?_
    refine ge_getR (q := 33) a_X9_led_15 fd_X9_66 (rfl : gm_cls 0 = 8) rfl ?_
    refine ge_iload_n a_X9_led_18 rfl 1 rfl ?_
    obtain ⟨b_4, hyp⟩ := hyp
    refine ge_ald33 a_X9_led_19 b_4 ?_
    refine ge_cVI [] (rest := []) a_X9_led_20 ok_X5_isMissing lk_X9_236 ⟨Nat.le_of_ble_eq_true rfl, Nat.le_of_ble_eq_true rfl⟩ (gm_sheet b_4) vc_4 (by decide) rfl rfl (Nat.le_of_ble_eq_true rfl) (t_X5_isMissing (35 + 2 * a1.toNatClampNeg) (gm_sheet b_4) h_1 _ hyp) (fun r_6 h_5 hyp => ?_)
    refine ge_if_eq a_X9_led_23 (fun c_7 => ?_) (fun c_7 => ?_)
    · have hyp := gm_ip hyp c_7
      refine ge_aload_n a_X9_led_32 rfl 0 rfl ?_
      refine ge_getR (q := 23) a_X9_led_33 fd_X9_39 (rfl : gm_cls 0 = 8) rfl ?_
      refine ge_aload_n a_X9_led_36 rfl 0 rfl ?_
      refine ge_getR (q := 1) a_X9_led_37 fd_X9_10 (rfl : gm_cls 0 = 8) rfl ?_
      refine ge_aload_n a_X9_led_40 rfl 0 rfl ?_
      refine ge_getR (q := 33) a_X9_led_41 fd_X9_66 (rfl : gm_cls 0 = 8) rfl ?_
      refine ge_iload_n a_X9_led_44 rfl 1 rfl ?_
      obtain ⟨b_8, hyp⟩ := hyp
      refine ge_ald33 a_X9_led_45 b_8 ?_
      refine ge_cVV [.ref 1, .ref (35 + 2 * a1.toNatClampNeg)] (rest := []) a_X9_led_46 ok_X4_tallyFits lk_X9_239 ⟨Nat.le_of_ble_eq_true rfl, Nat.le_of_ble_eq_true rfl⟩ (rfl : gm_cls 23 = 3) vc_3 (by decide) rfl rfl (Nat.le_of_ble_eq_true rfl) (t_X4_tallyFits (35 + 2 * a1.toNatClampNeg) (gm_sheet b_8) h_5 _ hyp) (fun h_9 hyp => ?_)
      refine ge_aload_n a_X9_led_49 rfl 0 rfl ?_
      refine ge_getR (q := 23) a_X9_led_50 fd_X9_39 (rfl : gm_cls 0 = 8) rfl ?_
      refine ge_getI a_X9_led_53 fd_X9_243 (rfl : gm_cls 23 = 3) ?_
      refine ge_if_ne a_X9_led_56 (fun c_10 => ?_) (fun c_10 => ?_)
      · have hyp := gm_in hyp c_10
        refine ge_aload_n a_X9_led_67 rfl 0 rfl ?_
        refine ge_getR (q := 23) a_X9_led_68 fd_X9_39 (rfl : gm_cls 0 = 8) rfl ?_
        refine ge_getI a_X9_led_71 fd_X9_246 (rfl : gm_cls 23 = 3) ?_
        exact ge_iret rfl a_X9_led_74 hyp
      · have hyp := gm_ip hyp c_10
        refine ge_aload_n a_X9_led_59 rfl 0 rfl ?_
        refine ge_iconst (v := 3) a_X9_led_60 rfl ?_
        refine ge_cVI [.int (3 : Int32)] (rest := []) a_X9_led_61 ok_X9_finding lk_X9_79 ⟨Nat.le_of_ble_eq_true rfl, Nat.le_of_ble_eq_true rfl⟩ (rfl : gm_cls 0 = 8) vc_8 (by decide) rfl rfl (Nat.le_of_ble_eq_true rfl) (t_X9_finding (3 : Int32)  h_9 _ hyp) (fun r_12 h_11 hyp => ?_)
        refine ge_goto a_X9_led_64 ?_
        exact ge_iret rfl a_X9_led_74 hyp
    · have hyp := gm_in hyp c_7
      refine ge_aload_n a_X9_led_26 rfl 0 rfl ?_
      refine ge_iconst (v := 5) a_X9_led_27 rfl ?_
      refine ge_cVI [.int (5 : Int32)] (rest := []) a_X9_led_28 ok_X9_finding lk_X9_79 ⟨Nat.le_of_ble_eq_true rfl, Nat.le_of_ble_eq_true rfl⟩ (rfl : gm_cls 0 = 8) vc_8 (by decide) rfl rfl (Nat.le_of_ble_eq_true rfl) (t_X9_finding (5 : Int32)  h_5 _ hyp) (fun r_14 h_13 hyp => ?_)
      exact ge_iret rfl a_X9_led_31 hyp
  · have hyp := gm_ip hyp c_3
    refine ge_aload_n a_X9_led_8 rfl 0 rfl ?_
    refine ge_iconst (v := 0) a_X9_led_9 rfl ?_
    refine ge_cVI [.int (0 : Int32)] (rest := []) a_X9_led_10 ok_X9_finding lk_X9_79 ⟨Nat.le_of_ble_eq_true rfl, Nat.le_of_ble_eq_true rfl⟩ (rfl : gm_cls 0 = 8) vc_8 (by decide) rfl rfl (Nat.le_of_ble_eq_true rfl) (t_X9_finding (0 : Int32)  h_1 _ hyp) (fun r_16 h_15 hyp => ?_)
    exact ge_iret rfl a_X9_led_13 hyp

theorem a_X9_commonDivisor_0 : At m_X9_commonDivisor 0 (.iload_n 1) 1 1 := at_i (by decide +kernel) rfl
theorem a_X9_commonDivisor_1 : At m_X9_commonDivisor 1 (.istore_n 2) 1 2 := at_i (by decide +kernel) rfl
theorem a_X9_commonDivisor_2 : At m_X9_commonDivisor 2 (.iload_n 2) 1 3 := at_i (by decide +kernel) rfl
theorem a_X9_commonDivisor_3 : At m_X9_commonDivisor 3 (.iconst 1) 1 4 := at_i (by decide +kernel) rfl
theorem a_X9_commonDivisor_4 : AtJ m_X9_commonDivisor 4 (.if_icmp .le 23) (23) 27 7 := at_j (by decide +kernel) (by decide) rfl
theorem a_X9_commonDivisor_7 : At m_X9_commonDivisor 7 (.iload_n 0) 1 8 := at_i (by decide +kernel) rfl
theorem a_X9_commonDivisor_8 : At m_X9_commonDivisor 8 (.iload_n 2) 1 9 := at_i (by decide +kernel) rfl
theorem a_X9_commonDivisor_9 : At m_X9_commonDivisor 9 (.irem) 1 10 := at_i (by decide +kernel) rfl
theorem a_X9_commonDivisor_10 : AtJ m_X9_commonDivisor 10 (.ifCond .ne 11) (11) 21 13 := at_j (by decide +kernel) (by decide) rfl
theorem a_X9_commonDivisor_13 : At m_X9_commonDivisor 13 (.iload_n 1) 1 14 := at_i (by decide +kernel) rfl
theorem a_X9_commonDivisor_14 : At m_X9_commonDivisor 14 (.iload_n 2) 1 15 := at_i (by decide +kernel) rfl
theorem a_X9_commonDivisor_15 : At m_X9_commonDivisor 15 (.irem) 1 16 := at_i (by decide +kernel) rfl
theorem a_X9_commonDivisor_16 : AtJ m_X9_commonDivisor 16 (.ifCond .ne 5) (5) 21 19 := at_j (by decide +kernel) (by decide) rfl
theorem a_X9_commonDivisor_19 : At m_X9_commonDivisor 19 (.iload_n 2) 1 20 := at_i (by decide +kernel) rfl
theorem a_X9_commonDivisor_20 : At m_X9_commonDivisor 20 (.ireturn) 1 21 := at_i (by decide +kernel) rfl
theorem a_X9_commonDivisor_21 : At m_X9_commonDivisor 21 (.iinc 2 (-1)) 3 24 := at_i (by decide +kernel) rfl
theorem a_X9_commonDivisor_24 : AtJ m_X9_commonDivisor 24 (.goto (-22)) (-22) 2 27 := at_j (by decide +kernel) (by decide) rfl
theorem a_X9_commonDivisor_27 : At m_X9_commonDivisor 27 (.iconst 1) 1 28 := at_i (by decide +kernel) rfl
theorem a_X9_commonDivisor_28 : At m_X9_commonDivisor 28 (.ireturn) 1 29 := at_i (by decide +kernel) rfl
def f_X9_commonDivisor_b2 (a0 : Int32) (a1 : Int32)  (Q : Int32 → Mem → Prop)  (K2 : Int32 → Mem → Prop) (v2 : Int32) (h : Mem) : Prop :=
  if v2 ≤ (1 : Int32) then (
    Q (1 : Int32) h)
  else (
    ¬ v2 = 0 ∧
    if a0 - a0 / v2 * v2 = 0 then (
      ¬ v2 = 0 ∧
      if a1 - a1 / v2 * v2 = 0 then (
        Q v2 h)
      else (
        ∀ v_7 : Int32, v_7 = v2 + (-1 : Int32) →
        K2 v_7 h))
    else (
      ∀ v_4 : Int32, v_4 = v2 + (-1 : Int32) →
      K2 v_4 h))
set_option maxRecDepth 20000 in
theorem t_X9_commonDivisor_b2 (a0 : Int32) (a1 : Int32)    (Q : Int32 → Mem → Prop)   : ∀ (n : Nat) (v2 : Int32) (h : Mem), gm_it1 (f_X9_commonDivisor_b2 a0 a1  Q ) n v2 h → EV m_X9_commonDivisor (GI Q) 2 [(0, .int a0), (1, .int a1), (2, .int v2)] [] h := by
  refine ge_loop1 (P := fun v2 h => EV m_X9_commonDivisor (GI Q) 2 [(0, .int a0), (1, .int a1), (2, .int v2)] [] h) (fun K2 hK2 v2 h hyp => ?_)
  unfold f_X9_commonDivisor_b2 at hyp
  refine ge_iload_n a_X9_commonDivisor_2 rfl 2 rfl ?_
  refine ge_iconst (v := 1) a_X9_commonDivisor_3 rfl ?_
  refine ge_icmp_le a_X9_commonDivisor_4 (fun c_1 => ?_) (fun c_1 => ?_)
  · have hyp := gm_ip hyp c_1
    refine ge_iconst (v := 1) a_X9_commonDivisor_27 rfl ?_
    exact ge_iret rfl a_X9_commonDivisor_28 hyp
  · have hyp := gm_in hyp c_1
    refine ge_iload_n a_X9_commonDivisor_7 rfl 0 rfl ?_
    refine ge_iload_n a_X9_commonDivisor_8 rfl 2 rfl ?_
    obtain ⟨z_2, hyp⟩ := hyp
    refine ge_irem a_X9_commonDivisor_9 z_2 ?_
    refine ge_if_ne a_X9_commonDivisor_10 (fun c_3 => ?_) (fun c_3 => ?_)
    · have hyp := gm_in hyp c_3
      obtain ⟨v_4, ev_4⟩ : ∃ y : Int32, y = v2 + (-1 : Int32) := ⟨_, rfl⟩
      have hyp := hyp v_4 ev_4
      refine ge_iinc (v := v_4) (lv' := [(2, .int v_4), (0, .int a0), (1, .int a1)]) a_X9_commonDivisor_21 2 rfl ev_4.symm (Nat.le_of_ble_eq_true rfl) rfl ?_
      refine ge_goto a_X9_commonDivisor_24 ?_
      exact ge_sub [1, 2, 0] rfl (hK2 v_4 h hyp)
    · have hyp := gm_ip hyp c_3
      refine ge_iload_n a_X9_commonDivisor_13 rfl 1 rfl ?_
      refine ge_iload_n a_X9_commonDivisor_14 rfl 2 rfl ?_
      obtain ⟨z_5, hyp⟩ := hyp
      refine ge_irem a_X9_commonDivisor_15 z_5 ?_
      refine ge_if_ne a_X9_commonDivisor_16 (fun c_6 => ?_) (fun c_6 => ?_)
      · have hyp := gm_in hyp c_6
        obtain ⟨v_7, ev_7⟩ : ∃ y : Int32, y = v2 + (-1 : Int32) := ⟨_, rfl⟩
        have hyp := hyp v_7 ev_7
        refine ge_iinc (v := v_7) (lv' := [(2, .int v_7), (0, .int a0), (1, .int a1)]) a_X9_commonDivisor_21 2 rfl ev_7.symm (Nat.le_of_ble_eq_true rfl) rfl ?_
        refine ge_goto a_X9_commonDivisor_24 ?_
        exact ge_sub [1, 2, 0] rfl (hK2 v_7 h hyp)
      · have hyp := gm_ip hyp c_6
        refine ge_iload_n a_X9_commonDivisor_19 rfl 2 rfl ?_
        exact ge_iret rfl a_X9_commonDivisor_20 hyp
def f_X9_commonDivisor (a0 : Int32) (a1 : Int32) (h : Mem) (Q : Int32 → Mem → Prop) : Prop :=
  gm_it1 (f_X9_commonDivisor_b2 a0 a1  Q ) gm_F a1 h
set_option maxRecDepth 20000 in
theorem t_X9_commonDivisor (a0 : Int32) (a1 : Int32)  (h : Mem) (Q : Int32 → Mem → Prop) (hyp : f_X9_commonDivisor a0 a1 h Q) : Cn m_X9_commonDivisor [.int a0, .int a1] h (GI Q) := by
  refine ge_entry (lv := [(0, .int a0), (1, .int a1)]) pn_X9 (Nat.le_of_ble_eq_true rfl) rfl ?_
  unfold f_X9_commonDivisor at hyp
  refine ge_iload_n a_X9_commonDivisor_0 rfl 1 rfl ?_
  refine ge_istore_n (lv' := [(2, .int a1), (0, .int a0), (1, .int a1)]) a_X9_commonDivisor_1 rfl (Nat.le_of_ble_eq_true rfl) rfl ?_
  exact ge_sub [1, 2, 0] rfl (t_X9_commonDivisor_b2 a0 a1    Q   gm_F a1 h hyp)

theorem a_X9_part_0 : At m_X9_part 0 (.aload_n 0) 1 1 := at_i (by decide +kernel) rfl
theorem a_X9_part_1 : At m_X9_part 1 (.iload_n 1) 1 2 := at_i (by decide +kernel) rfl
theorem a_X9_part_2 : At m_X9_part 2 (.invokevirtual 233) 3 5 := at_i (by decide +kernel) rfl
theorem a_X9_part_5 : AtJ m_X9_part 5 (.ifCond .ne 9) (9) 14 8 := at_j (by decide +kernel) (by decide) rfl
theorem a_X9_part_8 : At m_X9_part 8 (.aload_n 0) 1 9 := at_i (by decide +kernel) rfl
theorem a_X9_part_9 : At m_X9_part 9 (.iconst 0) 1 10 := at_i (by decide +kernel) rfl
theorem a_X9_part_10 : At m_X9_part 10 (.invokevirtual 79) 3 13 := at_i (by decide +kernel) rfl
theorem a_X9_part_13 : At m_X9_part 13 (.ireturn) 1 14 := at_i (by decide +kernel) rfl
theorem a_X9_part_14 : At m_X9_part 14 (.aload_n 0) 1 15 := at_i (by decide +kernel) rfl
theorem a_X9_part_15 : At m_X9_part 15 (.getfield 66) 3 18 := at_i (by decide +kernel) rfl
theorem a_X9_part_18 : At m_X9_part 18 (.iload_n 1) 1 19 := at_i (by decide +kernel) rfl
theorem a_X9_part_19 : At m_X9_part 19 (.aaload) 1 20 := at_i (by decide +kernel) rfl
theorem a_X9_part_20 : At m_X9_part 20 (.invokevirtual 236) 3 23 := at_i (by decide +kernel) rfl
theorem a_X9_part_23 : AtJ m_X9_part 23 (.ifCond .eq 9) (9) 32 26 := at_j (by decide +kernel) (by decide) rfl
theorem a_X9_part_26 : At m_X9_part 26 (.aload_n 0) 1 27 := at_i (by decide +kernel) rfl
theorem a_X9_part_27 : At m_X9_part 27 (.iconst 5) 1 28 := at_i (by decide +kernel) rfl
theorem a_X9_part_28 : At m_X9_part 28 (.invokevirtual 79) 3 31 := at_i (by decide +kernel) rfl
theorem a_X9_part_31 : At m_X9_part 31 (.ireturn) 1 32 := at_i (by decide +kernel) rfl
theorem a_X9_part_32 : At m_X9_part 32 (.iload_n 2) 1 33 := at_i (by decide +kernel) rfl
theorem a_X9_part_33 : At m_X9_part 33 (.iconst 0) 1 34 := at_i (by decide +kernel) rfl
theorem a_X9_part_34 : At m_X9_part 34 (.iconst 1) 1 35 := at_i (by decide +kernel) rfl
theorem a_X9_part_35 : At m_X9_part 35 (.invokestatic 75) 3 38 := at_i (by decide +kernel) rfl
theorem a_X9_part_38 : AtJ m_X9_part 38 (.ifCond .ne 9) (9) 47 41 := at_j (by decide +kernel) (by decide) rfl
theorem a_X9_part_41 : At m_X9_part 41 (.aload_n 0) 1 42 := at_i (by decide +kernel) rfl
theorem a_X9_part_42 : At m_X9_part 42 (.iconst 0) 1 43 := at_i (by decide +kernel) rfl
theorem a_X9_part_43 : At m_X9_part 43 (.invokevirtual 79) 3 46 := at_i (by decide +kernel) rfl
theorem a_X9_part_46 : At m_X9_part 46 (.ireturn) 1 47 := at_i (by decide +kernel) rfl
theorem a_X9_part_47 : At m_X9_part 47 (.aload_n 0) 1 48 := at_i (by decide +kernel) rfl
theorem a_X9_part_48 : At m_X9_part 48 (.getfield 39) 3 51 := at_i (by decide +kernel) rfl
theorem a_X9_part_51 : At m_X9_part 51 (.aload_n 0) 1 52 := at_i (by decide +kernel) rfl
theorem a_X9_part_52 : At m_X9_part 52 (.getfield 10) 3 55 := at_i (by decide +kernel) rfl
theorem a_X9_part_55 : At m_X9_part 55 (.aload_n 0) 1 56 := at_i (by decide +kernel) rfl
theorem a_X9_part_56 : At m_X9_part 56 (.getfield 66) 3 59 := at_i (by decide +kernel) rfl
theorem a_X9_part_59 : At m_X9_part 59 (.iload_n 1) 1 60 := at_i (by decide +kernel) rfl
theorem a_X9_part_60 : At m_X9_part 60 (.aaload) 1 61 := at_i (by decide +kernel) rfl
theorem a_X9_part_61 : At m_X9_part 61 (.invokevirtual 239) 3 64 := at_i (by decide +kernel) rfl
theorem a_X9_part_64 : At m_X9_part 64 (.aload_n 0) 1 65 := at_i (by decide +kernel) rfl
theorem a_X9_part_65 : At m_X9_part 65 (.getfield 39) 3 68 := at_i (by decide +kernel) rfl
theorem a_X9_part_68 : At m_X9_part 68 (.getfield 243) 3 71 := at_i (by decide +kernel) rfl
theorem a_X9_part_71 : AtJ m_X9_part 71 (.ifCond .ne 9) (9) 80 74 := at_j (by decide +kernel) (by decide) rfl
theorem a_X9_part_74 : At m_X9_part 74 (.aload_n 0) 1 75 := at_i (by decide +kernel) rfl
theorem a_X9_part_75 : At m_X9_part 75 (.iconst 3) 1 76 := at_i (by decide +kernel) rfl
theorem a_X9_part_76 : At m_X9_part 76 (.invokevirtual 79) 3 79 := at_i (by decide +kernel) rfl
theorem a_X9_part_79 : At m_X9_part 79 (.ireturn) 1 80 := at_i (by decide +kernel) rfl
theorem a_X9_part_80 : At m_X9_part 80 (.aload_n 0) 1 81 := at_i (by decide +kernel) rfl
theorem a_X9_part_81 : At m_X9_part 81 (.getfield 39) 3 84 := at_i (by decide +kernel) rfl
theorem a_X9_part_84 : At m_X9_part 84 (.getfield 249) 3 87 := at_i (by decide +kernel) rfl
theorem a_X9_part_87 : At m_X9_part 87 (.aload_n 0) 1 88 := at_i (by decide +kernel) rfl
theorem a_X9_part_88 : At m_X9_part 88 (.getfield 39) 3 91 := at_i (by decide +kernel) rfl
theorem a_X9_part_91 : At m_X9_part 91 (.getfield 243) 3 94 := at_i (by decide +kernel) rfl
theorem a_X9_part_94 : At m_X9_part 94 (.invokestatic 252) 3 97 := at_i (by decide +kernel) rfl
theorem a_X9_part_97 : At m_X9_part 97 (.istore_n 3) 1 98 := at_i (by decide +kernel) rfl
theorem a_X9_part_98 : At m_X9_part 98 (.iload_n 2) 1 99 := at_i (by decide +kernel) rfl
theorem a_X9_part_99 : AtJ m_X9_part 99 (.ifCond .ne 13) (13) 112 102 := at_j (by decide +kernel) (by decide) rfl
theorem a_X9_part_102 : At m_X9_part 102 (.aload_n 0) 1 103 := at_i (by decide +kernel) rfl
theorem a_X9_part_103 : At m_X9_part 103 (.getfield 39) 3 106 := at_i (by decide +kernel) rfl
theorem a_X9_part_106 : At m_X9_part 106 (.getfield 249) 3 109 := at_i (by decide +kernel) rfl
theorem a_X9_part_109 : AtJ m_X9_part 109 (.goto 10) (10) 119 112 := at_j (by decide +kernel) (by decide) rfl
theorem a_X9_part_112 : At m_X9_part 112 (.aload_n 0) 1 113 := at_i (by decide +kernel) rfl
theorem a_X9_part_113 : At m_X9_part 113 (.getfield 39) 3 116 := at_i (by decide +kernel) rfl
theorem a_X9_part_116 : At m_X9_part 116 (.getfield 243) 3 119 := at_i (by decide +kernel) rfl
theorem a_X9_part_119 : At m_X9_part 119 (.iload_n 3) 1 120 := at_i (by decide +kernel) rfl
theorem a_X9_part_120 : At m_X9_part 120 (.idiv) 1 121 := at_i (by decide +kernel) rfl
theorem a_X9_part_121 : At m_X9_part 121 (.ireturn) 1 122 := at_i (by decide +kernel) rfl
def f_X9_part (a1 : Int32) (a2 : Int32) (h : Mem) (Q : Int32 → Mem → Prop) : Prop :=
  f_X9_isSheet a1 h fun r_2 h_1 =>
  if r_2 = 0 then (
    f_X9_finding (0 : Int32) h_1 fun r_26 h_25 =>
    Q r_26 h_25)
  else (
    vp_in a1 4 ∧
    f_X5_isMissing (35 + 2 * a1.toNatClampNeg) h_1 fun r_6 h_5 =>
    if r_6 = 0 then (
      f_X9_isWithin a2 (0 : Int32) (1 : Int32) h_5 fun r_9 h_8 =>
      if r_9 = 0 then (
        f_X9_finding (0 : Int32) h_8 fun r_22 h_21 =>
        Q r_22 h_21)
      else (
        vp_in a1 4 ∧
        f_X4_tallyFits (35 + 2 * a1.toNatClampNeg) h_8 fun h_12 =>
        if h_12 23 2 = 0 then (
          f_X9_finding (3 : Int32) h_12 fun r_20 h_19 =>
          Q r_20 h_19)
        else (
          f_X9_commonDivisor (h_12 23 3) (h_12 23 2) h_12 fun r_15 h_14 =>
          if a2 = 0 then (
            ¬ r_15 = 0 ∧
            Q ((h_14 23 3) / r_15) h_14)
          else (
            ¬ r_15 = 0 ∧
            Q ((h_14 23 2) / r_15) h_14))))
    else (
      f_X9_finding (5 : Int32) h_5 fun r_24 h_23 =>
      Q r_24 h_23))
set_option maxRecDepth 20000 in
theorem t_X9_part (a1 : Int32) (a2 : Int32)  (h : Mem) (Q : Int32 → Mem → Prop) (hyp : f_X9_part a1 a2 h Q) : Cn m_X9_part [.ref 0, .int a1, .int a2] h (GI Q) := by
  refine ge_entry (lv := [(0, .ref 0), (1, .int a1), (2, .int a2)]) pn_X9 (Nat.le_of_ble_eq_true rfl) rfl ?_
  unfold f_X9_part at hyp
  refine ge_aload_n a_X9_part_0 rfl 0 rfl ?_
  refine ge_iload_n a_X9_part_1 rfl 1 rfl ?_
  refine ge_cVI [.int a1] (rest := []) a_X9_part_2 ok_X9_isSheet lk_X9_233 ⟨Nat.le_of_ble_eq_true rfl, Nat.le_of_ble_eq_true rfl⟩ (rfl : gm_cls 0 = 8) vc_8 (by decide) rfl rfl (Nat.le_of_ble_eq_true rfl) (t_X9_isSheet a1  h _ hyp) (fun r_2 h_1 hyp => ?_)
  refine ge_if_ne a_X9_part_5 (fun c_3 => ?_) (fun c_3 => ?_)
  · have hyp := gm_in hyp c_3
    refine ge_aload_n a_X9_part_14 rfl 0 rfl ?_
    refine ge_getR (q := 33) a_X9_part_15 fd_X9_66 (rfl : gm_cls 0 = 8) rfl ?_
    refine ge_iload_n a_X9_part_18 rfl 1 rfl ?_
    obtain ⟨b_4, hyp⟩ := hyp
    refine ge_ald33 a_X9_part_19 b_4 ?_
    refine ge_cVI [] (rest := []) a_X9_part_20 ok_X5_isMissing lk_X9_236 ⟨Nat.le_of_ble_eq_true rfl, Nat.le_of_ble_eq_true rfl⟩ (gm_sheet b_4) vc_4 (by decide) rfl rfl (Nat.le_of_ble_eq_true rfl) (t_X5_isMissing (35 + 2 * a1.toNatClampNeg) (gm_sheet b_4) h_1 _ hyp) (fun r_6 h_5 hyp => ?_)
    refine ge_if_eq a_X9_part_23 (fun c_7 => ?_) (fun c_7 => ?_)
    · have hyp := gm_ip hyp c_7
      refine ge_iload_n a_X9_part_32 rfl 2 rfl ?_
      refine ge_iconst (v := 0) a_X9_part_33 rfl ?_
      refine ge_iconst (v := 1) a_X9_part_34 rfl ?_
      refine ge_cSI [.int a2, .int (0 : Int32), .int (1 : Int32)] (rest := []) a_X9_part_35 ok_X9_isWithin lk_X9_75 ⟨Nat.le_of_ble_eq_true rfl, Nat.le_of_ble_eq_true rfl⟩ rfl rfl (Nat.le_of_ble_eq_true rfl) (t_X9_isWithin a2 (0 : Int32) (1 : Int32)  h_5 _ hyp) (fun r_9 h_8 hyp => ?_)
      refine ge_if_ne a_X9_part_38 (fun c_10 => ?_) (fun c_10 => ?_)
      · have hyp := gm_in hyp c_10
        refine ge_aload_n a_X9_part_47 rfl 0 rfl ?_
        refine ge_getR (q := 23) a_X9_part_48 fd_X9_39 (rfl : gm_cls 0 = 8) rfl ?_
        refine ge_aload_n a_X9_part_51 rfl 0 rfl ?_
        refine ge_getR (q := 1) a_X9_part_52 fd_X9_10 (rfl : gm_cls 0 = 8) rfl ?_
        refine ge_aload_n a_X9_part_55 rfl 0 rfl ?_
        refine ge_getR (q := 33) a_X9_part_56 fd_X9_66 (rfl : gm_cls 0 = 8) rfl ?_
        refine ge_iload_n a_X9_part_59 rfl 1 rfl ?_
        obtain ⟨b_11, hyp⟩ := hyp
        refine ge_ald33 a_X9_part_60 b_11 ?_
        refine ge_cVV [.ref 1, .ref (35 + 2 * a1.toNatClampNeg)] (rest := []) a_X9_part_61 ok_X4_tallyFits lk_X9_239 ⟨Nat.le_of_ble_eq_true rfl, Nat.le_of_ble_eq_true rfl⟩ (rfl : gm_cls 23 = 3) vc_3 (by decide) rfl rfl (Nat.le_of_ble_eq_true rfl) (t_X4_tallyFits (35 + 2 * a1.toNatClampNeg) (gm_sheet b_11) h_8 _ hyp) (fun h_12 hyp => ?_)
        refine ge_aload_n a_X9_part_64 rfl 0 rfl ?_
        refine ge_getR (q := 23) a_X9_part_65 fd_X9_39 (rfl : gm_cls 0 = 8) rfl ?_
        refine ge_getI a_X9_part_68 fd_X9_243 (rfl : gm_cls 23 = 3) ?_
        refine ge_if_ne a_X9_part_71 (fun c_13 => ?_) (fun c_13 => ?_)
        · have hyp := gm_in hyp c_13
          refine ge_aload_n a_X9_part_80 rfl 0 rfl ?_
          refine ge_getR (q := 23) a_X9_part_81 fd_X9_39 (rfl : gm_cls 0 = 8) rfl ?_
          refine ge_getI a_X9_part_84 fd_X9_249 (rfl : gm_cls 23 = 3) ?_
          refine ge_aload_n a_X9_part_87 rfl 0 rfl ?_
          refine ge_getR (q := 23) a_X9_part_88 fd_X9_39 (rfl : gm_cls 0 = 8) rfl ?_
          refine ge_getI a_X9_part_91 fd_X9_243 (rfl : gm_cls 23 = 3) ?_
          refine ge_cSI [.int (h_12 23 3), .int (h_12 23 2)] (rest := []) a_X9_part_94 ok_X9_commonDivisor lk_X9_252 ⟨Nat.le_of_ble_eq_true rfl, Nat.le_of_ble_eq_true rfl⟩ rfl rfl (Nat.le_of_ble_eq_true rfl) (t_X9_commonDivisor (h_12 23 3) (h_12 23 2)  h_12 _ hyp) (fun r_15 h_14 hyp => ?_)
          refine ge_istore_n (lv' := [(3, .int r_15), (0, .ref 0), (1, .int a1), (2, .int a2)]) a_X9_part_97 rfl (Nat.le_of_ble_eq_true rfl) rfl ?_
          refine ge_iload_n a_X9_part_98 rfl 3 rfl ?_
          refine ge_if_ne a_X9_part_99 (fun c_16 => ?_) (fun c_16 => ?_)
          · have hyp := gm_in hyp c_16
            refine ge_aload_n a_X9_part_112 rfl 1 rfl ?_
            refine ge_getR (q := 23) a_X9_part_113 fd_X9_39 (rfl : gm_cls 0 = 8) rfl ?_
            refine ge_getI a_X9_part_116 fd_X9_243 (rfl : gm_cls 23 = 3) ?_
            refine ge_iload_n a_X9_part_119 rfl 0 rfl ?_
            obtain ⟨z_17, hyp⟩ := hyp
            refine ge_idiv a_X9_part_120 z_17 ?_
            exact ge_iret rfl a_X9_part_121 hyp
          · have hyp := gm_ip hyp c_16
            refine ge_aload_n a_X9_part_102 rfl 1 rfl ?_
            refine ge_getR (q := 23) a_X9_part_103 fd_X9_39 (rfl : gm_cls 0 = 8) rfl ?_
            refine ge_getI a_X9_part_106 fd_X9_249 (rfl : gm_cls 23 = 3) ?_
            refine ge_goto a_X9_part_109 ?_
            refine ge_iload_n a_X9_part_119 rfl 0 rfl ?_
            obtain ⟨z_18, hyp⟩ := hyp
            refine ge_idiv a_X9_part_120 z_18 ?_
            exact ge_iret rfl a_X9_part_121 hyp
        · have hyp := gm_ip hyp c_13
          refine ge_aload_n a_X9_part_74 rfl 0 rfl ?_
          refine ge_iconst (v := 3) a_X9_part_75 rfl ?_
          refine ge_cVI [.int (3 : Int32)] (rest := []) a_X9_part_76 ok_X9_finding lk_X9_79 ⟨Nat.le_of_ble_eq_true rfl, Nat.le_of_ble_eq_true rfl⟩ (rfl : gm_cls 0 = 8) vc_8 (by decide) rfl rfl (Nat.le_of_ble_eq_true rfl) (t_X9_finding (3 : Int32)  h_12 _ hyp) (fun r_20 h_19 hyp => ?_)
          exact ge_iret rfl a_X9_part_79 hyp
      · have hyp := gm_ip hyp c_10
        refine ge_aload_n a_X9_part_41 rfl 0 rfl ?_
        refine ge_iconst (v := 0) a_X9_part_42 rfl ?_
        refine ge_cVI [.int (0 : Int32)] (rest := []) a_X9_part_43 ok_X9_finding lk_X9_79 ⟨Nat.le_of_ble_eq_true rfl, Nat.le_of_ble_eq_true rfl⟩ (rfl : gm_cls 0 = 8) vc_8 (by decide) rfl rfl (Nat.le_of_ble_eq_true rfl) (t_X9_finding (0 : Int32)  h_8 _ hyp) (fun r_22 h_21 hyp => ?_)
        exact ge_iret rfl a_X9_part_46 hyp
    · have hyp := gm_in hyp c_7
      refine ge_aload_n a_X9_part_26 rfl 0 rfl ?_
      refine ge_iconst (v := 5) a_X9_part_27 rfl ?_
      refine ge_cVI [.int (5 : Int32)] (rest := []) a_X9_part_28 ok_X9_finding lk_X9_79 ⟨Nat.le_of_ble_eq_true rfl, Nat.le_of_ble_eq_true rfl⟩ (rfl : gm_cls 0 = 8) vc_8 (by decide) rfl rfl (Nat.le_of_ble_eq_true rfl) (t_X9_finding (5 : Int32)  h_5 _ hyp) (fun r_24 h_23 hyp => ?_)
      exact ge_iret rfl a_X9_part_31 hyp
  · have hyp := gm_ip hyp c_3
    refine ge_aload_n a_X9_part_8 rfl 0 rfl ?_
    refine ge_iconst (v := 0) a_X9_part_9 rfl ?_
    refine ge_cVI [.int (0 : Int32)] (rest := []) a_X9_part_10 ok_X9_finding lk_X9_79 ⟨Nat.le_of_ble_eq_true rfl, Nat.le_of_ble_eq_true rfl⟩ (rfl : gm_cls 0 = 8) vc_8 (by decide) rfl rfl (Nat.le_of_ble_eq_true rfl) (t_X9_finding (0 : Int32)  h_1 _ hyp) (fun r_26 h_25 hyp => ?_)
    exact ge_iret rfl a_X9_part_13 hyp

theorem a_X9_stays_0 : At m_X9_stays 0 (.iload_n 1) 1 1 := at_i (by decide +kernel) rfl
theorem a_X9_stays_1 : At m_X9_stays 1 (.iconst 0) 1 2 := at_i (by decide +kernel) rfl
theorem a_X9_stays_2 : At m_X9_stays 2 (.bipush 15) 2 4 := at_i (by decide +kernel) rfl
theorem a_X9_stays_4 : At m_X9_stays 4 (.invokestatic 75) 3 7 := at_i (by decide +kernel) rfl
theorem a_X9_stays_7 : AtJ m_X9_stays 7 (.ifCond .eq 12) (12) 19 10 := at_j (by decide +kernel) (by decide) rfl
theorem a_X9_stays_10 : At m_X9_stays 10 (.iload_n 2) 1 11 := at_i (by decide +kernel) rfl
theorem a_X9_stays_11 : At m_X9_stays 11 (.iconst 0) 1 12 := at_i (by decide +kernel) rfl
theorem a_X9_stays_12 : At m_X9_stays 12 (.iconst 1) 1 13 := at_i (by decide +kernel) rfl
theorem a_X9_stays_13 : At m_X9_stays 13 (.invokestatic 75) 3 16 := at_i (by decide +kernel) rfl
theorem a_X9_stays_16 : AtJ m_X9_stays 16 (.ifCond .ne 10) (10) 26 19 := at_j (by decide +kernel) (by decide) rfl
theorem a_X9_stays_19 : At m_X9_stays 19 (.aload_n 0) 1 20 := at_i (by decide +kernel) rfl
theorem a_X9_stays_20 : At m_X9_stays 20 (.iconst 0) 1 21 := at_i (by decide +kernel) rfl
theorem a_X9_stays_21 : At m_X9_stays 21 (.invokevirtual 79) 3 24 := at_i (by decide +kernel) rfl
theorem a_X9_stays_24 : At m_X9_stays 24 (.i2l) 1 25 := at_i (by decide +kernel) rfl
theorem a_X9_stays_25 : At m_X9_stays 25 (.lreturn) 1 26 := at_i (by decide +kernel) rfl
theorem a_X9_stays_26 : At m_X9_stays 26 (.bipush 10) 2 28 := at_i (by decide +kernel) rfl
theorem a_X9_stays_28 : At m_X9_stays 28 (.aload_n 0) 1 29 := at_i (by decide +kernel) rfl
theorem a_X9_stays_29 : At m_X9_stays 29 (.getfield 10) 3 32 := at_i (by decide +kernel) rfl
theorem a_X9_stays_32 : At m_X9_stays 32 (.getfield 94) 3 35 := at_i (by decide +kernel) rfl
theorem a_X9_stays_35 : At m_X9_stays 35 (.bipush 8) 2 37 := at_i (by decide +kernel) rfl
theorem a_X9_stays_37 : At m_X9_stays 37 (.iaload) 1 38 := at_i (by decide +kernel) rfl
theorem a_X9_stays_38 : At m_X9_stays 38 (.isub) 1 39 := at_i (by decide +kernel) rfl
theorem a_X9_stays_39 : At m_X9_stays 39 (.istore_n 3) 1 40 := at_i (by decide +kernel) rfl
theorem a_X9_stays_40 : At m_X9_stays 40 (.iload_n 2) 1 41 := at_i (by decide +kernel) rfl
theorem a_X9_stays_41 : AtJ m_X9_stays 41 (.ifCond .ne 7) (7) 48 44 := at_j (by decide +kernel) (by decide) rfl
theorem a_X9_stays_44 : At m_X9_stays 44 (.iload_n 3) 1 45 := at_i (by decide +kernel) rfl
theorem a_X9_stays_45 : AtJ m_X9_stays 45 (.goto 5) (5) 50 48 := at_j (by decide +kernel) (by decide) rfl
theorem a_X9_stays_48 : At m_X9_stays 48 (.bipush 10) 2 50 := at_i (by decide +kernel) rfl
theorem a_X9_stays_50 : At m_X9_stays 50 (.iload_n 3) 1 51 := at_i (by decide +kernel) rfl
theorem a_X9_stays_51 : At m_X9_stays 51 (.bipush 10) 2 53 := at_i (by decide +kernel) rfl
theorem a_X9_stays_53 : At m_X9_stays 53 (.invokestatic 252) 3 56 := at_i (by decide +kernel) rfl
theorem a_X9_stays_56 : At m_X9_stays 56 (.idiv) 1 57 := at_i (by decide +kernel) rfl
theorem a_X9_stays_57 : At m_X9_stays 57 (.istore 4) 2 59 := at_i (by decide +kernel) rfl
theorem a_X9_stays_59 : At m_X9_stays 59 (.lconst 1) 1 60 := at_i (by decide +kernel) rfl
theorem a_X9_stays_60 : At m_X9_stays 60 (.lstore 5) 2 62 := at_i (by decide +kernel) rfl
theorem a_X9_stays_62 : At m_X9_stays 62 (.iconst 0) 1 63 := at_i (by decide +kernel) rfl
theorem a_X9_stays_63 : At m_X9_stays 63 (.istore 7) 2 65 := at_i (by decide +kernel) rfl
theorem a_X9_stays_65 : At m_X9_stays 65 (.iload 7) 2 67 := at_i (by decide +kernel) rfl
theorem a_X9_stays_67 : At m_X9_stays 67 (.iload_n 1) 1 68 := at_i (by decide +kernel) rfl
theorem a_X9_stays_68 : AtJ m_X9_stays 68 (.if_icmp .ge 17) (17) 85 71 := at_j (by decide +kernel) (by decide) rfl
theorem a_X9_stays_71 : At m_X9_stays 71 (.lload 5) 2 73 := at_i (by decide +kernel) rfl
theorem a_X9_stays_73 : At m_X9_stays 73 (.iload 4) 2 75 := at_i (by decide +kernel) rfl
theorem a_X9_stays_75 : At m_X9_stays 75 (.i2l) 1 76 := at_i (by decide +kernel) rfl
theorem a_X9_stays_76 : At m_X9_stays 76 (.lmul) 1 77 := at_i (by decide +kernel) rfl
theorem a_X9_stays_77 : At m_X9_stays 77 (.lstore 5) 2 79 := at_i (by decide +kernel) rfl
theorem a_X9_stays_79 : At m_X9_stays 79 (.iinc 7 1) 3 82 := at_i (by decide +kernel) rfl
theorem a_X9_stays_82 : AtJ m_X9_stays 82 (.goto (-17)) (-17) 65 85 := at_j (by decide +kernel) (by decide) rfl
theorem a_X9_stays_85 : At m_X9_stays 85 (.lload 5) 2 87 := at_i (by decide +kernel) rfl
theorem a_X9_stays_87 : At m_X9_stays 87 (.lreturn) 1 88 := at_i (by decide +kernel) rfl
def f_X9_stays_b65 (a1 : Int32) (a2 : Int32) (v_14 : Int32) (Q : Int64 → Mem → Prop)  (K65 : Int64 → Int32 → Mem → Prop) (v5 : Int64) (v7 : Int32) (h : Mem) : Prop :=
  if a1 ≤ v7 then (
    Q v5 h)
  else (
    ∀ v_16 : Int64, v_16 = v5 * v_14.toInt64 →
    ∀ v_17 : Int32, v_17 = v7 + (1 : Int32) →
    K65 v_16 v_17 h)
set_option maxRecDepth 20000 in
theorem t_X9_stays_b65 (a1 : Int32) (a2 : Int32) (v_14 : Int32)   (Q : Int64 → Mem → Prop)   : ∀ (n : Nat) (v5 : Int64) (v7 : Int32) (h : Mem), gm_it2 (f_X9_stays_b65 a1 a2 v_14 Q ) n v5 v7 h → EV m_X9_stays (GL Q) 65 [(1, .int a1), (4, .int v_14), (5, .long v5), (7, .int v7)] [] h := by
  refine ge_loop2 (P := fun v5 v7 h => EV m_X9_stays (GL Q) 65 [(1, .int a1), (4, .int v_14), (5, .long v5), (7, .int v7)] [] h) (fun K65 hK65 v5 v7 h hyp => ?_)
  unfold f_X9_stays_b65 at hyp
  refine ge_iload a_X9_stays_65 3 rfl ?_
  refine ge_iload_n a_X9_stays_67 rfl 0 rfl ?_
  refine ge_icmp_ge a_X9_stays_68 (fun c_15 => ?_) (fun c_15 => ?_)
  · have hyp := gm_ip hyp c_15
    refine ge_lload a_X9_stays_85 2 rfl ?_
    exact ge_lret rfl a_X9_stays_87 hyp
  · have hyp := gm_in hyp c_15
    refine ge_lload a_X9_stays_71 2 rfl ?_
    refine ge_iload a_X9_stays_73 1 rfl ?_
    refine ge_i2l a_X9_stays_75 ?_
    refine ge_lmul a_X9_stays_76 ?_
    refine ge_topl (fun v_16 ev_16 => ?_)
    have hyp := hyp v_16 ev_16
    refine ge_lstore (lv' := [(5, .long v_16), (1, .int a1), (4, .int v_14), (7, .int v7)]) a_X9_stays_77 (Nat.le_of_ble_eq_true rfl) rfl ?_
    obtain ⟨v_17, ev_17⟩ : ∃ y : Int32, y = v7 + (1 : Int32) := ⟨_, rfl⟩
    have hyp := hyp v_17 ev_17
    refine ge_iinc (v := v_17) (lv' := [(7, .int v_17), (5, .long v_16), (1, .int a1), (4, .int v_14)]) a_X9_stays_79 3 rfl ev_17.symm (Nat.le_of_ble_eq_true rfl) rfl ?_
    refine ge_goto a_X9_stays_82 ?_
    exact ge_sub [2, 3, 1, 0] rfl (hK65 v_16 v_17 h hyp)
def f_X9_stays (a1 : Int32) (a2 : Int32) (h : Mem) (Q : Int64 → Mem → Prop) : Prop :=
  f_X9_isWithin a1 (0 : Int32) (15 : Int32) h fun r_2 h_1 =>
  if r_2 = 0 then (
    f_X9_finding (0 : Int32) h_1 fun r_5 h_4 =>
    Q r_5.toInt64 h_4)
  else (
    f_X9_isWithin a2 (0 : Int32) (1 : Int32) h_1 fun r_7 h_6 =>
    if r_7 = 0 then (
      f_X9_finding (0 : Int32) h_6 fun r_23 h_22 =>
      Q r_23.toInt64 h_22)
    else (
      ∀ v_9 : Int32, v_9 = (10 : Int32) - (h_6 5 8) →
      if a2 = 0 then (
        f_X9_commonDivisor v_9 (10 : Int32) h_6 fun r_19 h_18 =>
        ¬ r_19 = 0 ∧
        ∀ v_21 : Int32, v_21 = v_9 / r_19 →
        gm_it2 (f_X9_stays_b65 a1 a2 v_21 Q ) gm_F (1 : Int64) (0 : Int32) h_18)
      else (
        f_X9_commonDivisor v_9 (10 : Int32) h_6 fun r_12 h_11 =>
        ¬ r_12 = 0 ∧
        ∀ v_14 : Int32, v_14 = (10 : Int32) / r_12 →
        gm_it2 (f_X9_stays_b65 a1 a2 v_14 Q ) gm_F (1 : Int64) (0 : Int32) h_11)))
set_option maxRecDepth 20000 in
theorem t_X9_stays (a1 : Int32) (a2 : Int32)  (h : Mem) (Q : Int64 → Mem → Prop) (hyp : f_X9_stays a1 a2 h Q) : Cn m_X9_stays [.ref 0, .int a1, .int a2] h (GL Q) := by
  refine ge_entry (lv := [(0, .ref 0), (1, .int a1), (2, .int a2)]) pn_X9 (Nat.le_of_ble_eq_true rfl) rfl ?_
  unfold f_X9_stays at hyp
  refine ge_iload_n a_X9_stays_0 rfl 1 rfl ?_
  refine ge_iconst (v := 0) a_X9_stays_1 rfl ?_
  refine ge_bipush (v := 15) a_X9_stays_2 rfl ?_
  refine ge_cSI [.int a1, .int (0 : Int32), .int (15 : Int32)] (rest := []) a_X9_stays_4 ok_X9_isWithin lk_X9_75 ⟨Nat.le_of_ble_eq_true rfl, Nat.le_of_ble_eq_true rfl⟩ rfl rfl (Nat.le_of_ble_eq_true rfl) (t_X9_isWithin a1 (0 : Int32) (15 : Int32)  h _ hyp) (fun r_2 h_1 hyp => ?_)
  refine ge_if_eq a_X9_stays_7 (fun c_3 => ?_) (fun c_3 => ?_)
  · have hyp := gm_ip hyp c_3
    refine ge_aload_n a_X9_stays_19 rfl 0 rfl ?_
    refine ge_iconst (v := 0) a_X9_stays_20 rfl ?_
    refine ge_cVI [.int (0 : Int32)] (rest := []) a_X9_stays_21 ok_X9_finding lk_X9_79 ⟨Nat.le_of_ble_eq_true rfl, Nat.le_of_ble_eq_true rfl⟩ (rfl : gm_cls 0 = 8) vc_8 (by decide) rfl rfl (Nat.le_of_ble_eq_true rfl) (t_X9_finding (0 : Int32)  h_1 _ hyp) (fun r_5 h_4 hyp => ?_)
    refine ge_i2l a_X9_stays_24 ?_
    exact ge_lret rfl a_X9_stays_25 hyp
  · have hyp := gm_in hyp c_3
    refine ge_iload_n a_X9_stays_10 rfl 2 rfl ?_
    refine ge_iconst (v := 0) a_X9_stays_11 rfl ?_
    refine ge_iconst (v := 1) a_X9_stays_12 rfl ?_
    refine ge_cSI [.int a2, .int (0 : Int32), .int (1 : Int32)] (rest := []) a_X9_stays_13 ok_X9_isWithin lk_X9_75 ⟨Nat.le_of_ble_eq_true rfl, Nat.le_of_ble_eq_true rfl⟩ rfl rfl (Nat.le_of_ble_eq_true rfl) (t_X9_isWithin a2 (0 : Int32) (1 : Int32)  h_1 _ hyp) (fun r_7 h_6 hyp => ?_)
    refine ge_if_ne a_X9_stays_16 (fun c_8 => ?_) (fun c_8 => ?_)
    · have hyp := gm_in hyp c_8
      refine ge_bipush (v := 10) a_X9_stays_26 rfl ?_
      refine ge_aload_n a_X9_stays_28 rfl 0 rfl ?_
      refine ge_getR (q := 1) a_X9_stays_29 fd_X9_10 (rfl : gm_cls 0 = 8) rfl ?_
      refine ge_getR (q := 5) a_X9_stays_32 fd_X9_94 (rfl : gm_cls 1 = 5) rfl ?_
      refine ge_bipush (v := 8) a_X9_stays_35 rfl ?_
      refine ge_iald (j := 8) a_X9_stays_37 ga_5 li_8_10.1 li_8_10.2 ?_
      refine ge_isub a_X9_stays_38 ?_
      refine ge_topi (fun v_9 ev_9 => ?_)
      have hyp := hyp v_9 ev_9
      refine ge_istore_n (lv' := [(3, .int v_9), (0, .ref 0), (1, .int a1), (2, .int a2)]) a_X9_stays_39 rfl (Nat.le_of_ble_eq_true rfl) rfl ?_
      refine ge_iload_n a_X9_stays_40 rfl 3 rfl ?_
      refine ge_if_ne a_X9_stays_41 (fun c_10 => ?_) (fun c_10 => ?_)
      · have hyp := gm_in hyp c_10
        refine ge_bipush (v := 10) a_X9_stays_48 rfl ?_
        refine ge_iload_n a_X9_stays_50 rfl 0 rfl ?_
        refine ge_bipush (v := 10) a_X9_stays_51 rfl ?_
        refine ge_cSI [.int v_9, .int (10 : Int32)] (rest := [.int (10 : Int32)]) a_X9_stays_53 ok_X9_commonDivisor lk_X9_252 ⟨Nat.le_of_ble_eq_true rfl, Nat.le_of_ble_eq_true rfl⟩ rfl rfl (Nat.le_of_ble_eq_true rfl) (t_X9_commonDivisor v_9 (10 : Int32)  h_6 _ hyp) (fun r_12 h_11 hyp => ?_)
        obtain ⟨z_13, hyp⟩ := hyp
        refine ge_idiv a_X9_stays_56 z_13 ?_
        refine ge_topi (fun v_14 ev_14 => ?_)
        have hyp := hyp v_14 ev_14
        refine ge_istore (lv' := [(4, .int v_14), (3, .int v_9), (0, .ref 0), (1, .int a1), (2, .int a2)]) a_X9_stays_57 (Nat.le_of_ble_eq_true rfl) rfl ?_
        refine ge_lconst (v := 1) a_X9_stays_59 rfl ?_
        refine ge_lstore (lv' := [(5, .long (1 : Int64)), (4, .int v_14), (3, .int v_9), (0, .ref 0), (1, .int a1), (2, .int a2)]) a_X9_stays_60 (Nat.le_of_ble_eq_true rfl) rfl ?_
        refine ge_iconst (v := 0) a_X9_stays_62 rfl ?_
        refine ge_istore (lv' := [(7, .int (0 : Int32)), (5, .long (1 : Int64)), (4, .int v_14), (3, .int v_9), (0, .ref 0), (1, .int a1), (2, .int a2)]) a_X9_stays_63 (Nat.le_of_ble_eq_true rfl) rfl ?_
        exact ge_sub [5, 2, 1, 0] rfl (t_X9_stays_b65 a1 a2 v_14   Q   gm_F (1 : Int64) (0 : Int32) h_11 hyp)
      · have hyp := gm_ip hyp c_10
        refine ge_iload_n a_X9_stays_44 rfl 0 rfl ?_
        refine ge_goto a_X9_stays_45 ?_
        refine ge_iload_n a_X9_stays_50 rfl 0 rfl ?_
        refine ge_bipush (v := 10) a_X9_stays_51 rfl ?_
        refine ge_cSI [.int v_9, .int (10 : Int32)] (rest := [.int v_9]) a_X9_stays_53 ok_X9_commonDivisor lk_X9_252 ⟨Nat.le_of_ble_eq_true rfl, Nat.le_of_ble_eq_true rfl⟩ rfl rfl (Nat.le_of_ble_eq_true rfl) (t_X9_commonDivisor v_9 (10 : Int32)  h_6 _ hyp) (fun r_19 h_18 hyp => ?_)
        obtain ⟨z_20, hyp⟩ := hyp
        refine ge_idiv a_X9_stays_56 z_20 ?_
        refine ge_topi (fun v_21 ev_21 => ?_)
        have hyp := hyp v_21 ev_21
        refine ge_istore (lv' := [(4, .int v_21), (3, .int v_9), (0, .ref 0), (1, .int a1), (2, .int a2)]) a_X9_stays_57 (Nat.le_of_ble_eq_true rfl) rfl ?_
        refine ge_lconst (v := 1) a_X9_stays_59 rfl ?_
        refine ge_lstore (lv' := [(5, .long (1 : Int64)), (4, .int v_21), (3, .int v_9), (0, .ref 0), (1, .int a1), (2, .int a2)]) a_X9_stays_60 (Nat.le_of_ble_eq_true rfl) rfl ?_
        refine ge_iconst (v := 0) a_X9_stays_62 rfl ?_
        refine ge_istore (lv' := [(7, .int (0 : Int32)), (5, .long (1 : Int64)), (4, .int v_21), (3, .int v_9), (0, .ref 0), (1, .int a1), (2, .int a2)]) a_X9_stays_63 (Nat.le_of_ble_eq_true rfl) rfl ?_
        exact ge_sub [5, 2, 1, 0] rfl (t_X9_stays_b65 a1 a2 v_21   Q   gm_F (1 : Int64) (0 : Int32) h_18 hyp)
    · have hyp := gm_ip hyp c_8
      refine ge_aload_n a_X9_stays_19 rfl 0 rfl ?_
      refine ge_iconst (v := 0) a_X9_stays_20 rfl ?_
      refine ge_cVI [.int (0 : Int32)] (rest := []) a_X9_stays_21 ok_X9_finding lk_X9_79 ⟨Nat.le_of_ble_eq_true rfl, Nat.le_of_ble_eq_true rfl⟩ (rfl : gm_cls 0 = 8) vc_8 (by decide) rfl rfl (Nat.le_of_ble_eq_true rfl) (t_X9_finding (0 : Int32)  h_6 _ hyp) (fun r_23 h_22 hyp => ?_)
      refine ge_i2l a_X9_stays_24 ?_
      exact ge_lret rfl a_X9_stays_25 hyp

theorem a_X9_evening_0 : At m_X9_evening 0 (.iload_n 1) 1 1 := at_i (by decide +kernel) rfl
theorem a_X9_evening_1 : At m_X9_evening 1 (.iconst 1) 1 2 := at_i (by decide +kernel) rfl
theorem a_X9_evening_2 : At m_X9_evening 2 (.bipush 12) 2 4 := at_i (by decide +kernel) rfl
theorem a_X9_evening_4 : At m_X9_evening 4 (.invokestatic 75) 3 7 := at_i (by decide +kernel) rfl
theorem a_X9_evening_7 : AtJ m_X9_evening 7 (.ifCond .ne 9) (9) 16 10 := at_j (by decide +kernel) (by decide) rfl
theorem a_X9_evening_10 : At m_X9_evening 10 (.aload_n 0) 1 11 := at_i (by decide +kernel) rfl
theorem a_X9_evening_11 : At m_X9_evening 11 (.iconst 0) 1 12 := at_i (by decide +kernel) rfl
theorem a_X9_evening_12 : At m_X9_evening 12 (.invokevirtual 79) 3 15 := at_i (by decide +kernel) rfl
theorem a_X9_evening_15 : At m_X9_evening 15 (.ireturn) 1 16 := at_i (by decide +kernel) rfl
theorem a_X9_evening_16 : At m_X9_evening 16 (.aload_n 0) 1 17 := at_i (by decide +kernel) rfl
theorem a_X9_evening_17 : At m_X9_evening 17 (.getfield 10) 3 20 := at_i (by decide +kernel) rfl
theorem a_X9_evening_20 : At m_X9_evening 20 (.invokevirtual 123) 3 23 := at_i (by decide +kernel) rfl
theorem a_X9_evening_23 : AtJ m_X9_evening 23 (.ifCond .eq 15) (15) 38 26 := at_j (by decide +kernel) (by decide) rfl
theorem a_X9_evening_26 : At m_X9_evening 26 (.aload_n 0) 1 27 := at_i (by decide +kernel) rfl
theorem a_X9_evening_27 : At m_X9_evening 27 (.getfield 10) 3 30 := at_i (by decide +kernel) rfl
theorem a_X9_evening_30 : At m_X9_evening 30 (.getfield 127) 3 33 := at_i (by decide +kernel) rfl
theorem a_X9_evening_33 : At m_X9_evening 33 (.ldc 255) 2 35 := at_i (by decide +kernel) rfl
theorem a_X9_evening_35 : AtJ m_X9_evening 35 (.if_icmp .le 9) (9) 44 38 := at_j (by decide +kernel) (by decide) rfl
theorem a_X9_evening_38 : At m_X9_evening 38 (.aload_n 0) 1 39 := at_i (by decide +kernel) rfl
theorem a_X9_evening_39 : At m_X9_evening 39 (.iconst 4) 1 40 := at_i (by decide +kernel) rfl
theorem a_X9_evening_40 : At m_X9_evening 40 (.invokevirtual 79) 3 43 := at_i (by decide +kernel) rfl
theorem a_X9_evening_43 : At m_X9_evening 43 (.ireturn) 1 44 := at_i (by decide +kernel) rfl
theorem a_X9_evening_44 : At m_X9_evening 44 (.aload_n 0) 1 45 := at_i (by decide +kernel) rfl
theorem a_X9_evening_45 : At m_X9_evening 45 (.getfield 10) 3 48 := at_i (by decide +kernel) rfl
theorem a_X9_evening_48 : At m_X9_evening 48 (.iload_n 1) 1 49 := at_i (by decide +kernel) rfl
theorem a_X9_evening_49 : At m_X9_evening 49 (.aload_n 0) 1 50 := at_i (by decide +kernel) rfl
theorem a_X9_evening_50 : At m_X9_evening 50 (.getfield 25) 3 53 := at_i (by decide +kernel) rfl
theorem a_X9_evening_53 : At m_X9_evening 53 (.invokevirtual 256) 3 56 := at_i (by decide +kernel) rfl
theorem a_X9_evening_56 : At m_X9_evening 56 (.ireturn) 1 57 := at_i (by decide +kernel) rfl
def f_X9_evening (a1 : Int32) (h : Mem) (Q : Int32 → Mem → Prop) : Prop :=
  f_X9_isWithin a1 (1 : Int32) (12 : Int32) h fun r_2 h_1 =>
  if r_2 = 0 then (
    f_X9_finding (0 : Int32) h_1 fun r_16 h_15 =>
    Q r_16 h_15)
  else (
    f_X6_linesAhead 1 h_1 fun r_5 h_4 =>
    if r_5 = 0 then (
      f_X9_finding (4 : Int32) h_4 fun r_8 h_7 =>
      Q r_8 h_7)
    else (
      ∀ v_9 : Int32, v_9 = (9900000 : Int32) →
      if h_4 1 7 ≤ v_9 then (
        f_X6_spendEvening 1 a1 19 h_4 fun r_12 h_11 =>
        Q r_12 h_11)
      else (
        f_X9_finding (4 : Int32) h_4 fun r_14 h_13 =>
        Q r_14 h_13)))
set_option maxRecDepth 20000 in
theorem t_X9_evening (a1 : Int32)  (h : Mem) (Q : Int32 → Mem → Prop) (hyp : f_X9_evening a1 h Q) : Cn m_X9_evening [.ref 0, .int a1] h (GI Q) := by
  refine ge_entry (lv := [(0, .ref 0), (1, .int a1)]) pn_X9 (Nat.le_of_ble_eq_true rfl) rfl ?_
  unfold f_X9_evening at hyp
  refine ge_iload_n a_X9_evening_0 rfl 1 rfl ?_
  refine ge_iconst (v := 1) a_X9_evening_1 rfl ?_
  refine ge_bipush (v := 12) a_X9_evening_2 rfl ?_
  refine ge_cSI [.int a1, .int (1 : Int32), .int (12 : Int32)] (rest := []) a_X9_evening_4 ok_X9_isWithin lk_X9_75 ⟨Nat.le_of_ble_eq_true rfl, Nat.le_of_ble_eq_true rfl⟩ rfl rfl (Nat.le_of_ble_eq_true rfl) (t_X9_isWithin a1 (1 : Int32) (12 : Int32)  h _ hyp) (fun r_2 h_1 hyp => ?_)
  refine ge_if_ne a_X9_evening_7 (fun c_3 => ?_) (fun c_3 => ?_)
  · have hyp := gm_in hyp c_3
    refine ge_aload_n a_X9_evening_16 rfl 0 rfl ?_
    refine ge_getR (q := 1) a_X9_evening_17 fd_X9_10 (rfl : gm_cls 0 = 8) rfl ?_
    refine ge_cVI [] (rest := []) a_X9_evening_20 ok_X6_linesAhead lk_X9_123 ⟨Nat.le_of_ble_eq_true rfl, Nat.le_of_ble_eq_true rfl⟩ (rfl : gm_cls 1 = 5) vc_5 (by decide) rfl rfl (Nat.le_of_ble_eq_true rfl) (t_X6_linesAhead 1 (rfl : gm_cls 1 = 5) h_1 _ hyp) (fun r_5 h_4 hyp => ?_)
    refine ge_if_eq a_X9_evening_23 (fun c_6 => ?_) (fun c_6 => ?_)
    · have hyp := gm_ip hyp c_6
      refine ge_aload_n a_X9_evening_38 rfl 0 rfl ?_
      refine ge_iconst (v := 4) a_X9_evening_39 rfl ?_
      refine ge_cVI [.int (4 : Int32)] (rest := []) a_X9_evening_40 ok_X9_finding lk_X9_79 ⟨Nat.le_of_ble_eq_true rfl, Nat.le_of_ble_eq_true rfl⟩ (rfl : gm_cls 0 = 8) vc_8 (by decide) rfl rfl (Nat.le_of_ble_eq_true rfl) (t_X9_finding (4 : Int32)  h_4 _ hyp) (fun r_8 h_7 hyp => ?_)
      exact ge_iret rfl a_X9_evening_43 hyp
    · have hyp := gm_in hyp c_6
      refine ge_aload_n a_X9_evening_26 rfl 0 rfl ?_
      refine ge_getR (q := 1) a_X9_evening_27 fd_X9_10 (rfl : gm_cls 0 = 8) rfl ?_
      refine ge_getI a_X9_evening_30 fd_X9_127 (rfl : gm_cls 1 = 5) ?_
      refine ge_ldc (v := 9900000) a_X9_evening_33 ct_X9_255 ?_
      refine ge_topi (fun v_9 ev_9 => ?_)
      have hyp := hyp v_9 ev_9
      refine ge_icmp_le a_X9_evening_35 (fun c_10 => ?_) (fun c_10 => ?_)
      · have hyp := gm_ip hyp c_10
        refine ge_aload_n a_X9_evening_44 rfl 0 rfl ?_
        refine ge_getR (q := 1) a_X9_evening_45 fd_X9_10 (rfl : gm_cls 0 = 8) rfl ?_
        refine ge_iload_n a_X9_evening_48 rfl 1 rfl ?_
        refine ge_aload_n a_X9_evening_49 rfl 0 rfl ?_
        refine ge_getR (q := 19) a_X9_evening_50 fd_X9_25 (rfl : gm_cls 0 = 8) rfl ?_
        refine ge_cVI [.int a1, .ref 19] (rest := []) a_X9_evening_53 ok_X6_spendEvening lk_X9_256 ⟨Nat.le_of_ble_eq_true rfl, Nat.le_of_ble_eq_true rfl⟩ (rfl : gm_cls 1 = 5) vc_5 (by decide) rfl rfl (Nat.le_of_ble_eq_true rfl) (t_X6_spendEvening 1 a1 19 (rfl : gm_cls 1 = 5) (rfl : gm_cls 19 = 0) h_4 _ hyp) (fun r_12 h_11 hyp => ?_)
        exact ge_iret rfl a_X9_evening_56 hyp
      · have hyp := gm_in hyp c_10
        refine ge_aload_n a_X9_evening_38 rfl 0 rfl ?_
        refine ge_iconst (v := 4) a_X9_evening_39 rfl ?_
        refine ge_cVI [.int (4 : Int32)] (rest := []) a_X9_evening_40 ok_X9_finding lk_X9_79 ⟨Nat.le_of_ble_eq_true rfl, Nat.le_of_ble_eq_true rfl⟩ (rfl : gm_cls 0 = 8) vc_8 (by decide) rfl rfl (Nat.le_of_ble_eq_true rfl) (t_X9_finding (4 : Int32)  h_4 _ hyp) (fun r_14 h_13 hyp => ?_)
        exact ge_iret rfl a_X9_evening_43 hyp
  · have hyp := gm_ip hyp c_3
    refine ge_aload_n a_X9_evening_10 rfl 0 rfl ?_
    refine ge_iconst (v := 0) a_X9_evening_11 rfl ?_
    refine ge_cVI [.int (0 : Int32)] (rest := []) a_X9_evening_12 ok_X9_finding lk_X9_79 ⟨Nat.le_of_ble_eq_true rfl, Nat.le_of_ble_eq_true rfl⟩ (rfl : gm_cls 0 = 8) vc_8 (by decide) rfl rfl (Nat.le_of_ble_eq_true rfl) (t_X9_finding (0 : Int32)  h_1 _ hyp) (fun r_16 h_15 hyp => ?_)
    exact ge_iret rfl a_X9_evening_15 hyp

theorem a_X9_ahead_0 : At m_X9_ahead 0 (.iload_n 1) 1 1 := at_i (by decide +kernel) rfl
theorem a_X9_ahead_1 : At m_X9_ahead 1 (.iconst 0) 1 2 := at_i (by decide +kernel) rfl
theorem a_X9_ahead_2 : At m_X9_ahead 2 (.bipush 20) 2 4 := at_i (by decide +kernel) rfl
theorem a_X9_ahead_4 : At m_X9_ahead 4 (.invokestatic 75) 3 7 := at_i (by decide +kernel) rfl
theorem a_X9_ahead_7 : AtJ m_X9_ahead 7 (.ifCond .ne 9) (9) 16 10 := at_j (by decide +kernel) (by decide) rfl
theorem a_X9_ahead_10 : At m_X9_ahead 10 (.aload_n 0) 1 11 := at_i (by decide +kernel) rfl
theorem a_X9_ahead_11 : At m_X9_ahead 11 (.iconst 0) 1 12 := at_i (by decide +kernel) rfl
theorem a_X9_ahead_12 : At m_X9_ahead 12 (.invokevirtual 79) 3 15 := at_i (by decide +kernel) rfl
theorem a_X9_ahead_15 : At m_X9_ahead 15 (.ireturn) 1 16 := at_i (by decide +kernel) rfl
theorem a_X9_ahead_16 : At m_X9_ahead 16 (.iconst 0) 1 17 := at_i (by decide +kernel) rfl
theorem a_X9_ahead_17 : At m_X9_ahead 17 (.istore_n 2) 1 18 := at_i (by decide +kernel) rfl
theorem a_X9_ahead_18 : At m_X9_ahead 18 (.aload_n 0) 1 19 := at_i (by decide +kernel) rfl
theorem a_X9_ahead_19 : At m_X9_ahead 19 (.getfield 10) 3 22 := at_i (by decide +kernel) rfl
theorem a_X9_ahead_22 : At m_X9_ahead 22 (.getfield 260) 3 25 := at_i (by decide +kernel) rfl
theorem a_X9_ahead_25 : At m_X9_ahead 25 (.istore_n 3) 1 26 := at_i (by decide +kernel) rfl
theorem a_X9_ahead_26 : At m_X9_ahead 26 (.iconst 0) 1 27 := at_i (by decide +kernel) rfl
theorem a_X9_ahead_27 : At m_X9_ahead 27 (.istore 4) 2 29 := at_i (by decide +kernel) rfl
theorem a_X9_ahead_29 : At m_X9_ahead 29 (.iload 4) 2 31 := at_i (by decide +kernel) rfl
theorem a_X9_ahead_31 : At m_X9_ahead 31 (.iload_n 1) 1 32 := at_i (by decide +kernel) rfl
theorem a_X9_ahead_32 : AtJ m_X9_ahead 32 (.if_icmp .ge 52) (52) 84 35 := at_j (by decide +kernel) (by decide) rfl
theorem a_X9_ahead_35 : At m_X9_ahead 35 (.aload_n 0) 1 36 := at_i (by decide +kernel) rfl
theorem a_X9_ahead_36 : At m_X9_ahead 36 (.getfield 19) 3 39 := at_i (by decide +kernel) rfl
theorem a_X9_ahead_39 : At m_X9_ahead 39 (.aload_n 0) 1 40 := at_i (by decide +kernel) rfl
theorem a_X9_ahead_40 : At m_X9_ahead 40 (.getfield 10) 3 43 := at_i (by decide +kernel) rfl
theorem a_X9_ahead_43 : At m_X9_ahead 43 (.invokevirtual 263) 3 46 := at_i (by decide +kernel) rfl
theorem a_X9_ahead_46 : At m_X9_ahead 46 (.aload_n 0) 1 47 := at_i (by decide +kernel) rfl
theorem a_X9_ahead_47 : At m_X9_ahead 47 (.getfield 19) 3 50 := at_i (by decide +kernel) rfl
theorem a_X9_ahead_50 : At m_X9_ahead 50 (.iload_n 3) 1 51 := at_i (by decide +kernel) rfl
theorem a_X9_ahead_51 : At m_X9_ahead 51 (.putfield 260) 3 54 := at_i (by decide +kernel) rfl
theorem a_X9_ahead_54 : At m_X9_ahead 54 (.iload_n 2) 1 55 := at_i (by decide +kernel) rfl
theorem a_X9_ahead_55 : At m_X9_ahead 55 (.aload_n 0) 1 56 := at_i (by decide +kernel) rfl
theorem a_X9_ahead_56 : At m_X9_ahead 56 (.getfield 19) 3 59 := at_i (by decide +kernel) rfl
theorem a_X9_ahead_59 : At m_X9_ahead 59 (.bipush 12) 2 61 := at_i (by decide +kernel) rfl
theorem a_X9_ahead_61 : At m_X9_ahead 61 (.aload_n 0) 1 62 := at_i (by decide +kernel) rfl
theorem a_X9_ahead_62 : At m_X9_ahead 62 (.getfield 25) 3 65 := at_i (by decide +kernel) rfl
theorem a_X9_ahead_65 : At m_X9_ahead 65 (.invokevirtual 256) 3 68 := at_i (by decide +kernel) rfl
theorem a_X9_ahead_68 : At m_X9_ahead 68 (.iadd) 1 69 := at_i (by decide +kernel) rfl
theorem a_X9_ahead_69 : At m_X9_ahead 69 (.istore_n 2) 1 70 := at_i (by decide +kernel) rfl
theorem a_X9_ahead_70 : At m_X9_ahead 70 (.aload_n 0) 1 71 := at_i (by decide +kernel) rfl
theorem a_X9_ahead_71 : At m_X9_ahead 71 (.getfield 19) 3 74 := at_i (by decide +kernel) rfl
theorem a_X9_ahead_74 : At m_X9_ahead 74 (.getfield 260) 3 77 := at_i (by decide +kernel) rfl
theorem a_X9_ahead_77 : At m_X9_ahead 77 (.istore_n 3) 1 78 := at_i (by decide +kernel) rfl
theorem a_X9_ahead_78 : At m_X9_ahead 78 (.iinc 4 1) 3 81 := at_i (by decide +kernel) rfl
theorem a_X9_ahead_81 : AtJ m_X9_ahead 81 (.goto (-52)) (-52) 29 84 := at_j (by decide +kernel) (by decide) rfl
theorem a_X9_ahead_84 : At m_X9_ahead 84 (.iload_n 2) 1 85 := at_i (by decide +kernel) rfl
theorem a_X9_ahead_85 : At m_X9_ahead 85 (.ireturn) 1 86 := at_i (by decide +kernel) rfl
def f_X9_ahead_b29 (a1 : Int32)  (Q : Int32 → Mem → Prop)  (K29 : Int32 → Int32 → Int32 → Mem → Prop) (v2 : Int32) (v3 : Int32) (v4 : Int32) (h : Mem) : Prop :=
  if a1 ≤ v4 then (
    Q v2 h)
  else (
    f_X6_become 13 1 h fun h_6 =>
    ∀ h_7 : Mem, h_7 = gm_st h_6 13 10 v3 →
    f_X6_spendEvening 13 (12 : Int32) 19 h_7 fun r_9 h_8 =>
    ∀ v_10 : Int32, v_10 = v2 + r_9 →
    ∀ v_11 : Int32, v_11 = h_8 13 10 →
    ∀ v_12 : Int32, v_12 = v4 + (1 : Int32) →
    K29 v_10 v_11 v_12 h_8)
set_option maxRecDepth 20000 in
theorem t_X9_ahead_b29 (a1 : Int32)    (Q : Int32 → Mem → Prop)   : ∀ (n : Nat) (v2 : Int32) (v3 : Int32) (v4 : Int32) (h : Mem), gm_it3 (f_X9_ahead_b29 a1  Q ) n v2 v3 v4 h → EV m_X9_ahead (GI Q) 29 [(0, .ref 0), (1, .int a1), (2, .int v2), (3, .int v3), (4, .int v4)] [] h := by
  refine ge_loop3 (P := fun v2 v3 v4 h => EV m_X9_ahead (GI Q) 29 [(0, .ref 0), (1, .int a1), (2, .int v2), (3, .int v3), (4, .int v4)] [] h) (fun K29 hK29 v2 v3 v4 h hyp => ?_)
  unfold f_X9_ahead_b29 at hyp
  refine ge_iload a_X9_ahead_29 4 rfl ?_
  refine ge_iload_n a_X9_ahead_31 rfl 1 rfl ?_
  refine ge_icmp_ge a_X9_ahead_32 (fun c_5 => ?_) (fun c_5 => ?_)
  · have hyp := gm_ip hyp c_5
    refine ge_iload_n a_X9_ahead_84 rfl 2 rfl ?_
    exact ge_iret rfl a_X9_ahead_85 hyp
  · have hyp := gm_in hyp c_5
    refine ge_aload_n a_X9_ahead_35 rfl 0 rfl ?_
    refine ge_getR (q := 13) a_X9_ahead_36 fd_X9_19 (rfl : gm_cls 0 = 8) rfl ?_
    refine ge_aload_n a_X9_ahead_39 rfl 0 rfl ?_
    refine ge_getR (q := 1) a_X9_ahead_40 fd_X9_10 (rfl : gm_cls 0 = 8) rfl ?_
    refine ge_cVV [.ref 1] (rest := []) a_X9_ahead_43 ok_X6_become lk_X9_263 ⟨Nat.le_of_ble_eq_true rfl, Nat.le_of_ble_eq_true rfl⟩ (rfl : gm_cls 13 = 5) vc_5 (by decide) rfl rfl (Nat.le_of_ble_eq_true rfl) (t_X6_become 13 1 (rfl : gm_cls 13 = 5) (rfl : gm_cls 1 = 5) h _ hyp) (fun h_6 hyp => ?_)
    refine ge_aload_n a_X9_ahead_46 rfl 0 rfl ?_
    refine ge_getR (q := 13) a_X9_ahead_47 fd_X9_19 (rfl : gm_cls 0 = 8) rfl ?_
    refine ge_iload_n a_X9_ahead_50 rfl 3 rfl ?_
    refine ge_putI a_X9_ahead_51 pd_X9_260 (rfl : gm_cls 13 = 5) ?_
    refine ge_nm (fun h_7 eh_7 => ?_)
    have hyp := hyp h_7 eh_7
    refine ge_iload_n a_X9_ahead_54 rfl 2 rfl ?_
    refine ge_aload_n a_X9_ahead_55 rfl 0 rfl ?_
    refine ge_getR (q := 13) a_X9_ahead_56 fd_X9_19 (rfl : gm_cls 0 = 8) rfl ?_
    refine ge_bipush (v := 12) a_X9_ahead_59 rfl ?_
    refine ge_aload_n a_X9_ahead_61 rfl 0 rfl ?_
    refine ge_getR (q := 19) a_X9_ahead_62 fd_X9_25 (rfl : gm_cls 0 = 8) rfl ?_
    refine ge_cVI [.int (12 : Int32), .ref 19] (rest := [.int v2]) a_X9_ahead_65 ok_X6_spendEvening lk_X9_256 ⟨Nat.le_of_ble_eq_true rfl, Nat.le_of_ble_eq_true rfl⟩ (rfl : gm_cls 13 = 5) vc_5 (by decide) rfl rfl (Nat.le_of_ble_eq_true rfl) (t_X6_spendEvening 13 (12 : Int32) 19 (rfl : gm_cls 13 = 5) (rfl : gm_cls 19 = 0) h_7 _ hyp) (fun r_9 h_8 hyp => ?_)
    refine ge_iadd a_X9_ahead_68 ?_
    refine ge_topi (fun v_10 ev_10 => ?_)
    have hyp := hyp v_10 ev_10
    refine ge_istore_n (lv' := [(2, .int v_10), (0, .ref 0), (1, .int a1), (3, .int v3), (4, .int v4)]) a_X9_ahead_69 rfl (Nat.le_of_ble_eq_true rfl) rfl ?_
    refine ge_aload_n a_X9_ahead_70 rfl 1 rfl ?_
    refine ge_getR (q := 13) a_X9_ahead_71 fd_X9_19 (rfl : gm_cls 0 = 8) rfl ?_
    refine ge_getI a_X9_ahead_74 fd_X9_260 (rfl : gm_cls 13 = 5) ?_
    refine ge_topi (fun v_11 ev_11 => ?_)
    have hyp := hyp v_11 ev_11
    refine ge_istore_n (lv' := [(3, .int v_11), (2, .int v_10), (0, .ref 0), (1, .int a1), (4, .int v4)]) a_X9_ahead_77 rfl (Nat.le_of_ble_eq_true rfl) rfl ?_
    obtain ⟨v_12, ev_12⟩ : ∃ y : Int32, y = v4 + (1 : Int32) := ⟨_, rfl⟩
    have hyp := hyp v_12 ev_12
    refine ge_iinc (v := v_12) (lv' := [(4, .int v_12), (3, .int v_11), (2, .int v_10), (0, .ref 0), (1, .int a1)]) a_X9_ahead_78 4 rfl ev_12.symm (Nat.le_of_ble_eq_true rfl) rfl ?_
    refine ge_goto a_X9_ahead_81 ?_
    exact ge_sub [3, 4, 2, 1, 0] rfl (hK29 v_10 v_11 v_12 h_8 hyp)
def f_X9_ahead (a1 : Int32) (h : Mem) (Q : Int32 → Mem → Prop) : Prop :=
  f_X9_isWithin a1 (0 : Int32) (20 : Int32) h fun r_2 h_1 =>
  if r_2 = 0 then (
    f_X9_finding (0 : Int32) h_1 fun r_14 h_13 =>
    Q r_14 h_13)
  else (
    ∀ v_4 : Int32, v_4 = h_1 1 10 →
    gm_it3 (f_X9_ahead_b29 a1  Q ) gm_F (0 : Int32) v_4 (0 : Int32) h_1)
set_option maxRecDepth 20000 in
theorem t_X9_ahead (a1 : Int32)  (h : Mem) (Q : Int32 → Mem → Prop) (hyp : f_X9_ahead a1 h Q) : Cn m_X9_ahead [.ref 0, .int a1] h (GI Q) := by
  refine ge_entry (lv := [(0, .ref 0), (1, .int a1)]) pn_X9 (Nat.le_of_ble_eq_true rfl) rfl ?_
  unfold f_X9_ahead at hyp
  refine ge_iload_n a_X9_ahead_0 rfl 1 rfl ?_
  refine ge_iconst (v := 0) a_X9_ahead_1 rfl ?_
  refine ge_bipush (v := 20) a_X9_ahead_2 rfl ?_
  refine ge_cSI [.int a1, .int (0 : Int32), .int (20 : Int32)] (rest := []) a_X9_ahead_4 ok_X9_isWithin lk_X9_75 ⟨Nat.le_of_ble_eq_true rfl, Nat.le_of_ble_eq_true rfl⟩ rfl rfl (Nat.le_of_ble_eq_true rfl) (t_X9_isWithin a1 (0 : Int32) (20 : Int32)  h _ hyp) (fun r_2 h_1 hyp => ?_)
  refine ge_if_ne a_X9_ahead_7 (fun c_3 => ?_) (fun c_3 => ?_)
  · have hyp := gm_in hyp c_3
    refine ge_iconst (v := 0) a_X9_ahead_16 rfl ?_
    refine ge_istore_n (lv' := [(2, .int (0 : Int32)), (0, .ref 0), (1, .int a1)]) a_X9_ahead_17 rfl (Nat.le_of_ble_eq_true rfl) rfl ?_
    refine ge_aload_n a_X9_ahead_18 rfl 1 rfl ?_
    refine ge_getR (q := 1) a_X9_ahead_19 fd_X9_10 (rfl : gm_cls 0 = 8) rfl ?_
    refine ge_getI a_X9_ahead_22 fd_X9_260 (rfl : gm_cls 1 = 5) ?_
    refine ge_topi (fun v_4 ev_4 => ?_)
    have hyp := hyp v_4 ev_4
    refine ge_istore_n (lv' := [(3, .int v_4), (2, .int (0 : Int32)), (0, .ref 0), (1, .int a1)]) a_X9_ahead_25 rfl (Nat.le_of_ble_eq_true rfl) rfl ?_
    refine ge_iconst (v := 0) a_X9_ahead_26 rfl ?_
    refine ge_istore (lv' := [(4, .int (0 : Int32)), (3, .int v_4), (2, .int (0 : Int32)), (0, .ref 0), (1, .int a1)]) a_X9_ahead_27 (Nat.le_of_ble_eq_true rfl) rfl ?_
    exact ge_sub [3, 4, 2, 1, 0] rfl (t_X9_ahead_b29 a1    Q   gm_F (0 : Int32) v_4 (0 : Int32) h_1 hyp)
  · have hyp := gm_ip hyp c_3
    refine ge_aload_n a_X9_ahead_10 rfl 0 rfl ?_
    refine ge_iconst (v := 0) a_X9_ahead_11 rfl ?_
    refine ge_cVI [.int (0 : Int32)] (rest := []) a_X9_ahead_12 ok_X9_finding lk_X9_79 ⟨Nat.le_of_ble_eq_true rfl, Nat.le_of_ble_eq_true rfl⟩ (rfl : gm_cls 0 = 8) vc_8 (by decide) rfl rfl (Nat.le_of_ble_eq_true rfl) (t_X9_finding (0 : Int32)  h_1 _ hyp) (fun r_14 h_13 hyp => ?_)
    exact ge_iret rfl a_X9_ahead_15 hyp

theorem a_X9_seed_0 : At m_X9_seed 0 (.aload_n 0) 1 1 := at_i (by decide +kernel) rfl
theorem a_X9_seed_1 : At m_X9_seed 1 (.getfield 10) 3 4 := at_i (by decide +kernel) rfl
theorem a_X9_seed_4 : At m_X9_seed 4 (.getfield 260) 3 7 := at_i (by decide +kernel) rfl
theorem a_X9_seed_7 : At m_X9_seed 7 (.istore_n 2) 1 8 := at_i (by decide +kernel) rfl
theorem a_X9_seed_8 : At m_X9_seed 8 (.aload_n 0) 1 9 := at_i (by decide +kernel) rfl
theorem a_X9_seed_9 : At m_X9_seed 9 (.getfield 10) 3 12 := at_i (by decide +kernel) rfl
theorem a_X9_seed_12 : At m_X9_seed 12 (.iload_n 1) 1 13 := at_i (by decide +kernel) rfl
theorem a_X9_seed_13 : At m_X9_seed 13 (.putfield 260) 3 16 := at_i (by decide +kernel) rfl
theorem a_X9_seed_16 : At m_X9_seed 16 (.iload_n 2) 1 17 := at_i (by decide +kernel) rfl
theorem a_X9_seed_17 : At m_X9_seed 17 (.ireturn) 1 18 := at_i (by decide +kernel) rfl
def f_X9_seed (a1 : Int32) (h : Mem) (Q : Int32 → Mem → Prop) : Prop :=
  ∀ v_1 : Int32, v_1 = h 1 10 →
  ∀ h_2 : Mem, h_2 = gm_st h 1 10 a1 →
  Q v_1 h_2
set_option maxRecDepth 20000 in
theorem t_X9_seed (a1 : Int32)  (h : Mem) (Q : Int32 → Mem → Prop) (hyp : f_X9_seed a1 h Q) : Cn m_X9_seed [.ref 0, .int a1] h (GI Q) := by
  refine ge_entry (lv := [(0, .ref 0), (1, .int a1)]) pn_X9 (Nat.le_of_ble_eq_true rfl) rfl ?_
  unfold f_X9_seed at hyp
  refine ge_aload_n a_X9_seed_0 rfl 0 rfl ?_
  refine ge_getR (q := 1) a_X9_seed_1 fd_X9_10 (rfl : gm_cls 0 = 8) rfl ?_
  refine ge_getI a_X9_seed_4 fd_X9_260 (rfl : gm_cls 1 = 5) ?_
  refine ge_topi (fun v_1 ev_1 => ?_)
  have hyp := hyp v_1 ev_1
  refine ge_istore_n (lv' := [(2, .int v_1), (0, .ref 0), (1, .int a1)]) a_X9_seed_7 rfl (Nat.le_of_ble_eq_true rfl) rfl ?_
  refine ge_aload_n a_X9_seed_8 rfl 1 rfl ?_
  refine ge_getR (q := 1) a_X9_seed_9 fd_X9_10 (rfl : gm_cls 0 = 8) rfl ?_
  refine ge_iload_n a_X9_seed_12 rfl 2 rfl ?_
  refine ge_putI a_X9_seed_13 pd_X9_260 (rfl : gm_cls 1 = 5) ?_
  refine ge_nm (fun h_2 eh_2 => ?_)
  have hyp := hyp h_2 eh_2
  refine ge_iload_n a_X9_seed_16 rfl 0 rfl ?_
  exact ge_iret rfl a_X9_seed_17 hyp

theorem a_X9_feed_0 : At m_X9_feed 0 (.iload_n 2) 1 1 := at_i (by decide +kernel) rfl
theorem a_X9_feed_1 : At m_X9_feed 1 (.iconst 1) 1 2 := at_i (by decide +kernel) rfl
theorem a_X9_feed_2 : At m_X9_feed 2 (.iconst 4) 1 3 := at_i (by decide +kernel) rfl
theorem a_X9_feed_3 : At m_X9_feed 3 (.invokestatic 75) 3 6 := at_i (by decide +kernel) rfl
theorem a_X9_feed_6 : AtJ m_X9_feed 6 (.ifCond .ne 9) (9) 15 9 := at_j (by decide +kernel) (by decide) rfl
theorem a_X9_feed_9 : At m_X9_feed 9 (.aload_n 0) 1 10 := at_i (by decide +kernel) rfl
theorem a_X9_feed_10 : At m_X9_feed 10 (.iconst 0) 1 11 := at_i (by decide +kernel) rfl
theorem a_X9_feed_11 : At m_X9_feed 11 (.invokevirtual 79) 3 14 := at_i (by decide +kernel) rfl
theorem a_X9_feed_14 : At m_X9_feed 14 (.ireturn) 1 15 := at_i (by decide +kernel) rfl
theorem a_X9_feed_15 : At m_X9_feed 15 (.aload_n 0) 1 16 := at_i (by decide +kernel) rfl
theorem a_X9_feed_16 : At m_X9_feed 16 (.getfield 53) 3 19 := at_i (by decide +kernel) rfl
theorem a_X9_feed_19 : At m_X9_feed 19 (.getfield 267) 3 22 := at_i (by decide +kernel) rfl
theorem a_X9_feed_22 : At m_X9_feed 22 (.bipush 120) 2 24 := at_i (by decide +kernel) rfl
theorem a_X9_feed_24 : At m_X9_feed 24 (.iload_n 2) 1 25 := at_i (by decide +kernel) rfl
theorem a_X9_feed_25 : At m_X9_feed 25 (.isub) 1 26 := at_i (by decide +kernel) rfl
theorem a_X9_feed_26 : AtJ m_X9_feed 26 (.if_icmp .le 9) (9) 35 29 := at_j (by decide +kernel) (by decide) rfl
theorem a_X9_feed_29 : At m_X9_feed 29 (.aload_n 0) 1 30 := at_i (by decide +kernel) rfl
theorem a_X9_feed_30 : At m_X9_feed 30 (.iconst 1) 1 31 := at_i (by decide +kernel) rfl
theorem a_X9_feed_31 : At m_X9_feed 31 (.invokevirtual 79) 3 34 := at_i (by decide +kernel) rfl
theorem a_X9_feed_34 : At m_X9_feed 34 (.ireturn) 1 35 := at_i (by decide +kernel) rfl
theorem a_X9_feed_35 : At m_X9_feed 35 (.aload_n 0) 1 36 := at_i (by decide +kernel) rfl
theorem a_X9_feed_36 : At m_X9_feed 36 (.getfield 53) 3 39 := at_i (by decide +kernel) rfl
theorem a_X9_feed_39 : At m_X9_feed 39 (.iload_n 1) 1 40 := at_i (by decide +kernel) rfl
theorem a_X9_feed_40 : At m_X9_feed 40 (.iload_n 2) 1 41 := at_i (by decide +kernel) rfl
theorem a_X9_feed_41 : At m_X9_feed 41 (.invokevirtual 270) 3 44 := at_i (by decide +kernel) rfl
theorem a_X9_feed_44 : At m_X9_feed 44 (.aload_n 0) 1 45 := at_i (by decide +kernel) rfl
theorem a_X9_feed_45 : At m_X9_feed 45 (.getfield 53) 3 48 := at_i (by decide +kernel) rfl
theorem a_X9_feed_48 : At m_X9_feed 48 (.getfield 267) 3 51 := at_i (by decide +kernel) rfl
theorem a_X9_feed_51 : At m_X9_feed 51 (.ireturn) 1 52 := at_i (by decide +kernel) rfl
def f_X9_feed (a1 : Int32) (a2 : Int32) (h : Mem) (Q : Int32 → Mem → Prop) : Prop :=
  f_X9_isWithin a2 (1 : Int32) (4 : Int32) h fun r_2 h_1 =>
  if r_2 = 0 then (
    f_X9_finding (0 : Int32) h_1 fun r_9 h_8 =>
    Q r_9 h_8)
  else (
    if h_1 30 1 ≤ (120 : Int32) - a2 then (
      f_X7_append a1 a2 h_1 fun h_5 =>
      Q (h_5 30 1) h_5)
    else (
      f_X9_finding (1 : Int32) h_1 fun r_7 h_6 =>
      Q r_7 h_6))
set_option maxRecDepth 20000 in
theorem t_X9_feed (a1 : Int32) (a2 : Int32)  (h : Mem) (Q : Int32 → Mem → Prop) (hyp : f_X9_feed a1 a2 h Q) : Cn m_X9_feed [.ref 0, .int a1, .int a2] h (GI Q) := by
  refine ge_entry (lv := [(0, .ref 0), (1, .int a1), (2, .int a2)]) pn_X9 (Nat.le_of_ble_eq_true rfl) rfl ?_
  unfold f_X9_feed at hyp
  refine ge_iload_n a_X9_feed_0 rfl 2 rfl ?_
  refine ge_iconst (v := 1) a_X9_feed_1 rfl ?_
  refine ge_iconst (v := 4) a_X9_feed_2 rfl ?_
  refine ge_cSI [.int a2, .int (1 : Int32), .int (4 : Int32)] (rest := []) a_X9_feed_3 ok_X9_isWithin lk_X9_75 ⟨Nat.le_of_ble_eq_true rfl, Nat.le_of_ble_eq_true rfl⟩ rfl rfl (Nat.le_of_ble_eq_true rfl) (t_X9_isWithin a2 (1 : Int32) (4 : Int32)  h _ hyp) (fun r_2 h_1 hyp => ?_)
  refine ge_if_ne a_X9_feed_6 (fun c_3 => ?_) (fun c_3 => ?_)
  · have hyp := gm_in hyp c_3
    refine ge_aload_n a_X9_feed_15 rfl 0 rfl ?_
    refine ge_getR (q := 30) a_X9_feed_16 fd_X9_53 (rfl : gm_cls 0 = 8) rfl ?_
    refine ge_getI a_X9_feed_19 fd_X9_267 (rfl : gm_cls 30 = 6) ?_
    refine ge_bipush (v := 120) a_X9_feed_22 rfl ?_
    refine ge_iload_n a_X9_feed_24 rfl 2 rfl ?_
    refine ge_isub a_X9_feed_25 ?_
    refine ge_icmp_le a_X9_feed_26 (fun c_4 => ?_) (fun c_4 => ?_)
    · have hyp := gm_ip hyp c_4
      refine ge_aload_n a_X9_feed_35 rfl 0 rfl ?_
      refine ge_getR (q := 30) a_X9_feed_36 fd_X9_53 (rfl : gm_cls 0 = 8) rfl ?_
      refine ge_iload_n a_X9_feed_39 rfl 1 rfl ?_
      refine ge_iload_n a_X9_feed_40 rfl 2 rfl ?_
      refine ge_cVV [.int a1, .int a2] (rest := []) a_X9_feed_41 ok_X7_append lk_X9_270 ⟨Nat.le_of_ble_eq_true rfl, Nat.le_of_ble_eq_true rfl⟩ (rfl : gm_cls 30 = 6) vc_6 (by decide) rfl rfl (Nat.le_of_ble_eq_true rfl) (t_X7_append a1 a2  h_1 _ hyp) (fun h_5 hyp => ?_)
      refine ge_aload_n a_X9_feed_44 rfl 0 rfl ?_
      refine ge_getR (q := 30) a_X9_feed_45 fd_X9_53 (rfl : gm_cls 0 = 8) rfl ?_
      refine ge_getI a_X9_feed_48 fd_X9_267 (rfl : gm_cls 30 = 6) ?_
      exact ge_iret rfl a_X9_feed_51 hyp
    · have hyp := gm_in hyp c_4
      refine ge_aload_n a_X9_feed_29 rfl 0 rfl ?_
      refine ge_iconst (v := 1) a_X9_feed_30 rfl ?_
      refine ge_cVI [.int (1 : Int32)] (rest := []) a_X9_feed_31 ok_X9_finding lk_X9_79 ⟨Nat.le_of_ble_eq_true rfl, Nat.le_of_ble_eq_true rfl⟩ (rfl : gm_cls 0 = 8) vc_8 (by decide) rfl rfl (Nat.le_of_ble_eq_true rfl) (t_X9_finding (1 : Int32)  h_1 _ hyp) (fun r_7 h_6 hyp => ?_)
      exact ge_iret rfl a_X9_feed_34 hyp
  · have hyp := gm_ip hyp c_3
    refine ge_aload_n a_X9_feed_9 rfl 0 rfl ?_
    refine ge_iconst (v := 0) a_X9_feed_10 rfl ?_
    refine ge_cVI [.int (0 : Int32)] (rest := []) a_X9_feed_11 ok_X9_finding lk_X9_79 ⟨Nat.le_of_ble_eq_true rfl, Nat.le_of_ble_eq_true rfl⟩ (rfl : gm_cls 0 = 8) vc_8 (by decide) rfl rfl (Nat.le_of_ble_eq_true rfl) (t_X9_finding (0 : Int32)  h_1 _ hyp) (fun r_9 h_8 hyp => ?_)
    exact ge_iret rfl a_X9_feed_14 hyp

theorem a_X9_wipe_0 : At m_X9_wipe 0 (.aload_n 0) 1 1 := at_i (by decide +kernel) rfl
theorem a_X9_wipe_1 : At m_X9_wipe 1 (.getfield 53) 3 4 := at_i (by decide +kernel) rfl
theorem a_X9_wipe_4 : At m_X9_wipe 4 (.getfield 267) 3 7 := at_i (by decide +kernel) rfl
theorem a_X9_wipe_7 : At m_X9_wipe 7 (.istore_n 1) 1 8 := at_i (by decide +kernel) rfl
theorem a_X9_wipe_8 : At m_X9_wipe 8 (.aload_n 0) 1 9 := at_i (by decide +kernel) rfl
theorem a_X9_wipe_9 : At m_X9_wipe 9 (.getfield 53) 3 12 := at_i (by decide +kernel) rfl
theorem a_X9_wipe_12 : At m_X9_wipe 12 (.iconst 0) 1 13 := at_i (by decide +kernel) rfl
theorem a_X9_wipe_13 : At m_X9_wipe 13 (.putfield 267) 3 16 := at_i (by decide +kernel) rfl
theorem a_X9_wipe_16 : At m_X9_wipe 16 (.iload_n 1) 1 17 := at_i (by decide +kernel) rfl
theorem a_X9_wipe_17 : At m_X9_wipe 17 (.ireturn) 1 18 := at_i (by decide +kernel) rfl
def f_X9_wipe  (h : Mem) (Q : Int32 → Mem → Prop) : Prop :=
  ∀ v_1 : Int32, v_1 = h 30 1 →
  ∀ h_2 : Mem, h_2 = gm_st h 30 1 (0 : Int32) →
  Q v_1 h_2
set_option maxRecDepth 20000 in
theorem t_X9_wipe   (h : Mem) (Q : Int32 → Mem → Prop) (hyp : f_X9_wipe  h Q) : Cn m_X9_wipe [.ref 0] h (GI Q) := by
  refine ge_entry (lv := [(0, .ref 0)]) pn_X9 (Nat.le_of_ble_eq_true rfl) rfl ?_
  unfold f_X9_wipe at hyp
  refine ge_aload_n a_X9_wipe_0 rfl 0 rfl ?_
  refine ge_getR (q := 30) a_X9_wipe_1 fd_X9_53 (rfl : gm_cls 0 = 8) rfl ?_
  refine ge_getI a_X9_wipe_4 fd_X9_267 (rfl : gm_cls 30 = 6) ?_
  refine ge_topi (fun v_1 ev_1 => ?_)
  have hyp := hyp v_1 ev_1
  refine ge_istore_n (lv' := [(1, .int v_1), (0, .ref 0)]) a_X9_wipe_7 rfl (Nat.le_of_ble_eq_true rfl) rfl ?_
  refine ge_aload_n a_X9_wipe_8 rfl 1 rfl ?_
  refine ge_getR (q := 30) a_X9_wipe_9 fd_X9_53 (rfl : gm_cls 0 = 8) rfl ?_
  refine ge_iconst (v := 0) a_X9_wipe_12 rfl ?_
  refine ge_putI a_X9_wipe_13 pd_X9_267 (rfl : gm_cls 30 = 6) ?_
  refine ge_nm (fun h_2 eh_2 => ?_)
  have hyp := hyp h_2 eh_2
  refine ge_iload_n a_X9_wipe_16 rfl 0 rfl ?_
  exact ge_iret rfl a_X9_wipe_17 hyp

theorem a_X9_text_0 : At m_X9_text 0 (.aload_n 0) 1 1 := at_i (by decide +kernel) rfl
theorem a_X9_text_1 : At m_X9_text 1 (.getfield 19) 3 4 := at_i (by decide +kernel) rfl
theorem a_X9_text_4 : At m_X9_text 4 (.aload_n 0) 1 5 := at_i (by decide +kernel) rfl
theorem a_X9_text_5 : At m_X9_text 5 (.getfield 10) 3 8 := at_i (by decide +kernel) rfl
theorem a_X9_text_8 : At m_X9_text 8 (.invokevirtual 263) 3 11 := at_i (by decide +kernel) rfl
theorem a_X9_text_11 : At m_X9_text 11 (.aload_n 0) 1 12 := at_i (by decide +kernel) rfl
theorem a_X9_text_12 : At m_X9_text 12 (.getfield 60) 3 15 := at_i (by decide +kernel) rfl
theorem a_X9_text_15 : At m_X9_text 15 (.aload_n 0) 1 16 := at_i (by decide +kernel) rfl
theorem a_X9_text_16 : At m_X9_text 16 (.getfield 19) 3 19 := at_i (by decide +kernel) rfl
theorem a_X9_text_19 : At m_X9_text 19 (.aload_n 0) 1 20 := at_i (by decide +kernel) rfl
theorem a_X9_text_20 : At m_X9_text 20 (.getfield 53) 3 23 := at_i (by decide +kernel) rfl
theorem a_X9_text_23 : At m_X9_text 23 (.invokevirtual 274) 3 26 := at_i (by decide +kernel) rfl
theorem a_X9_text_26 : At m_X9_text 26 (.istore_n 1) 1 27 := at_i (by decide +kernel) rfl
theorem a_X9_text_27 : At m_X9_text 27 (.iload_n 1) 1 28 := at_i (by decide +kernel) rfl
theorem a_X9_text_28 : AtJ m_X9_text 28 (.ifCond .le 14) (14) 42 31 := at_j (by decide +kernel) (by decide) rfl
theorem a_X9_text_31 : At m_X9_text 31 (.aload_n 0) 1 32 := at_i (by decide +kernel) rfl
theorem a_X9_text_32 : At m_X9_text 32 (.getfield 10) 3 35 := at_i (by decide +kernel) rfl
theorem a_X9_text_35 : At m_X9_text 35 (.aload_n 0) 1 36 := at_i (by decide +kernel) rfl
theorem a_X9_text_36 : At m_X9_text 36 (.getfield 19) 3 39 := at_i (by decide +kernel) rfl
theorem a_X9_text_39 : At m_X9_text 39 (.invokevirtual 263) 3 42 := at_i (by decide +kernel) rfl
theorem a_X9_text_42 : At m_X9_text 42 (.aload_n 0) 1 43 := at_i (by decide +kernel) rfl
theorem a_X9_text_43 : At m_X9_text 43 (.getfield 53) 3 46 := at_i (by decide +kernel) rfl
theorem a_X9_text_46 : At m_X9_text 46 (.iconst 0) 1 47 := at_i (by decide +kernel) rfl
theorem a_X9_text_47 : At m_X9_text 47 (.putfield 267) 3 50 := at_i (by decide +kernel) rfl
theorem a_X9_text_50 : At m_X9_text 50 (.iload_n 1) 1 51 := at_i (by decide +kernel) rfl
theorem a_X9_text_51 : At m_X9_text 51 (.ireturn) 1 52 := at_i (by decide +kernel) rfl
def f_X9_text  (h : Mem) (Q : Int32 → Mem → Prop) : Prop :=
  f_X6_become 13 1 h fun h_1 =>
  f_X3_tellTo  h_1 fun r_3 h_2 =>
  if r_3 ≤ 0 then (
    ∀ h_5 : Mem, h_5 = gm_st h_2 30 1 (0 : Int32) →
    Q r_3 h_5)
  else (
    f_X6_become 1 13 h_2 fun h_6 =>
    ∀ h_7 : Mem, h_7 = gm_st h_6 30 1 (0 : Int32) →
    Q r_3 h_7)
set_option maxRecDepth 20000 in
theorem t_X9_text   (h : Mem) (Q : Int32 → Mem → Prop) (hyp : f_X9_text  h Q) : Cn m_X9_text [.ref 0] h (GI Q) := by
  refine ge_entry (lv := [(0, .ref 0)]) pn_X9 (Nat.le_of_ble_eq_true rfl) rfl ?_
  unfold f_X9_text at hyp
  refine ge_aload_n a_X9_text_0 rfl 0 rfl ?_
  refine ge_getR (q := 13) a_X9_text_1 fd_X9_19 (rfl : gm_cls 0 = 8) rfl ?_
  refine ge_aload_n a_X9_text_4 rfl 0 rfl ?_
  refine ge_getR (q := 1) a_X9_text_5 fd_X9_10 (rfl : gm_cls 0 = 8) rfl ?_
  refine ge_cVV [.ref 1] (rest := []) a_X9_text_8 ok_X6_become lk_X9_263 ⟨Nat.le_of_ble_eq_true rfl, Nat.le_of_ble_eq_true rfl⟩ (rfl : gm_cls 13 = 5) vc_5 (by decide) rfl rfl (Nat.le_of_ble_eq_true rfl) (t_X6_become 13 1 (rfl : gm_cls 13 = 5) (rfl : gm_cls 1 = 5) h _ hyp) (fun h_1 hyp => ?_)
  refine ge_aload_n a_X9_text_11 rfl 0 rfl ?_
  refine ge_getR (q := 32) a_X9_text_12 fd_X9_60 (rfl : gm_cls 0 = 8) rfl ?_
  refine ge_aload_n a_X9_text_15 rfl 0 rfl ?_
  refine ge_getR (q := 13) a_X9_text_16 fd_X9_19 (rfl : gm_cls 0 = 8) rfl ?_
  refine ge_aload_n a_X9_text_19 rfl 0 rfl ?_
  refine ge_getR (q := 30) a_X9_text_20 fd_X9_53 (rfl : gm_cls 0 = 8) rfl ?_
  refine ge_cVI [.ref 13, .ref 30] (rest := []) a_X9_text_23 ok_X3_tellTo lk_X9_274 ⟨Nat.le_of_ble_eq_true rfl, Nat.le_of_ble_eq_true rfl⟩ (rfl : gm_cls 32 = 2) vc_2 (by decide) rfl rfl (Nat.le_of_ble_eq_true rfl) (t_X3_tellTo   h_1 _ hyp) (fun r_3 h_2 hyp => ?_)
  refine ge_istore_n (lv' := [(1, .int r_3), (0, .ref 0)]) a_X9_text_26 rfl (Nat.le_of_ble_eq_true rfl) rfl ?_
  refine ge_iload_n a_X9_text_27 rfl 0 rfl ?_
  refine ge_if_le a_X9_text_28 (fun c_4 => ?_) (fun c_4 => ?_)
  · have hyp := gm_ip hyp c_4
    refine ge_aload_n a_X9_text_42 rfl 1 rfl ?_
    refine ge_getR (q := 30) a_X9_text_43 fd_X9_53 (rfl : gm_cls 0 = 8) rfl ?_
    refine ge_iconst (v := 0) a_X9_text_46 rfl ?_
    refine ge_putI a_X9_text_47 pd_X9_267 (rfl : gm_cls 30 = 6) ?_
    refine ge_nm (fun h_5 eh_5 => ?_)
    have hyp := hyp h_5 eh_5
    refine ge_iload_n a_X9_text_50 rfl 0 rfl ?_
    exact ge_iret rfl a_X9_text_51 hyp
  · have hyp := gm_in hyp c_4
    refine ge_aload_n a_X9_text_31 rfl 1 rfl ?_
    refine ge_getR (q := 1) a_X9_text_32 fd_X9_10 (rfl : gm_cls 0 = 8) rfl ?_
    refine ge_aload_n a_X9_text_35 rfl 1 rfl ?_
    refine ge_getR (q := 13) a_X9_text_36 fd_X9_19 (rfl : gm_cls 0 = 8) rfl ?_
    refine ge_cVV [.ref 13] (rest := []) a_X9_text_39 ok_X6_become lk_X9_263 ⟨Nat.le_of_ble_eq_true rfl, Nat.le_of_ble_eq_true rfl⟩ (rfl : gm_cls 1 = 5) vc_5 (by decide) rfl rfl (Nat.le_of_ble_eq_true rfl) (t_X6_become 1 13 (rfl : gm_cls 1 = 5) (rfl : gm_cls 13 = 5) h_2 _ hyp) (fun h_6 hyp => ?_)
    refine ge_aload_n a_X9_text_42 rfl 1 rfl ?_
    refine ge_getR (q := 30) a_X9_text_43 fd_X9_53 (rfl : gm_cls 0 = 8) rfl ?_
    refine ge_iconst (v := 0) a_X9_text_46 rfl ?_
    refine ge_putI a_X9_text_47 pd_X9_267 (rfl : gm_cls 30 = 6) ?_
    refine ge_nm (fun h_7 eh_7 => ?_)
    have hyp := hyp h_7 eh_7
    refine ge_iload_n a_X9_text_50 rfl 0 rfl ?_
    exact ge_iret rfl a_X9_text_51 hyp

theorem a_X9_hold_0 : At m_X9_hold 0 (.iload_n 1) 1 1 := at_i (by decide +kernel) rfl
theorem a_X9_hold_1 : At m_X9_hold 1 (.iconst 0) 1 2 := at_i (by decide +kernel) rfl
theorem a_X9_hold_2 : At m_X9_hold 2 (.bipush 9) 2 4 := at_i (by decide +kernel) rfl
theorem a_X9_hold_4 : At m_X9_hold 4 (.invokestatic 75) 3 7 := at_i (by decide +kernel) rfl
theorem a_X9_hold_7 : AtJ m_X9_hold 7 (.ifCond .eq 20) (20) 27 10 := at_j (by decide +kernel) (by decide) rfl
theorem a_X9_hold_10 : At m_X9_hold 10 (.iload_n 2) 1 11 := at_i (by decide +kernel) rfl
theorem a_X9_hold_11 : At m_X9_hold 11 (.iconst (-1)) 1 12 := at_i (by decide +kernel) rfl
theorem a_X9_hold_12 : At m_X9_hold 12 (.aload_n 0) 1 13 := at_i (by decide +kernel) rfl
theorem a_X9_hold_13 : At m_X9_hold 13 (.getfield 10) 3 16 := at_i (by decide +kernel) rfl
theorem a_X9_hold_16 : At m_X9_hold 16 (.getfield 139) 3 19 := at_i (by decide +kernel) rfl
theorem a_X9_hold_19 : At m_X9_hold 19 (.iconst 1) 1 20 := at_i (by decide +kernel) rfl
theorem a_X9_hold_20 : At m_X9_hold 20 (.isub) 1 21 := at_i (by decide +kernel) rfl
theorem a_X9_hold_21 : At m_X9_hold 21 (.invokestatic 75) 3 24 := at_i (by decide +kernel) rfl
theorem a_X9_hold_24 : AtJ m_X9_hold 24 (.ifCond .ne 9) (9) 33 27 := at_j (by decide +kernel) (by decide) rfl
theorem a_X9_hold_27 : At m_X9_hold 27 (.aload_n 0) 1 28 := at_i (by decide +kernel) rfl
theorem a_X9_hold_28 : At m_X9_hold 28 (.iconst 0) 1 29 := at_i (by decide +kernel) rfl
theorem a_X9_hold_29 : At m_X9_hold 29 (.invokevirtual 79) 3 32 := at_i (by decide +kernel) rfl
theorem a_X9_hold_32 : At m_X9_hold 32 (.ireturn) 1 33 := at_i (by decide +kernel) rfl
theorem a_X9_hold_33 : At m_X9_hold 33 (.aload_n 0) 1 34 := at_i (by decide +kernel) rfl
theorem a_X9_hold_34 : At m_X9_hold 34 (.getfield 10) 3 37 := at_i (by decide +kernel) rfl
theorem a_X9_hold_37 : At m_X9_hold 37 (.getfield 278) 3 40 := at_i (by decide +kernel) rfl
theorem a_X9_hold_40 : At m_X9_hold 40 (.iload_n 1) 1 41 := at_i (by decide +kernel) rfl
theorem a_X9_hold_41 : At m_X9_hold 41 (.iload_n 2) 1 42 := at_i (by decide +kernel) rfl
theorem a_X9_hold_42 : At m_X9_hold 42 (.iastore) 1 43 := at_i (by decide +kernel) rfl
theorem a_X9_hold_43 : At m_X9_hold 43 (.iconst 1) 1 44 := at_i (by decide +kernel) rfl
theorem a_X9_hold_44 : At m_X9_hold 44 (.ireturn) 1 45 := at_i (by decide +kernel) rfl
def f_X9_hold (a1 : Int32) (a2 : Int32) (h : Mem) (Q : Int32 → Mem → Prop) : Prop :=
  f_X9_isWithin a1 (0 : Int32) (9 : Int32) h fun r_2 h_1 =>
  if r_2 = 0 then (
    f_X9_finding (0 : Int32) h_1 fun r_5 h_4 =>
    Q r_5 h_4)
  else (
    f_X9_isWithin a2 (-1 : Int32) ((h_1 1 5) - (1 : Int32)) h_1 fun r_7 h_6 =>
    if r_7 = 0 then (
      f_X9_finding (0 : Int32) h_6 fun r_12 h_11 =>
      Q r_12 h_11)
    else (
      vp_in a1 10 ∧
      ∀ h_10 : Mem, h_10 = gm_st h_6 6 a1.toNatClampNeg a2 →
      Q (1 : Int32) h_10))
set_option maxRecDepth 20000 in
theorem t_X9_hold (a1 : Int32) (a2 : Int32)  (h : Mem) (Q : Int32 → Mem → Prop) (hyp : f_X9_hold a1 a2 h Q) : Cn m_X9_hold [.ref 0, .int a1, .int a2] h (GI Q) := by
  refine ge_entry (lv := [(0, .ref 0), (1, .int a1), (2, .int a2)]) pn_X9 (Nat.le_of_ble_eq_true rfl) rfl ?_
  unfold f_X9_hold at hyp
  refine ge_iload_n a_X9_hold_0 rfl 1 rfl ?_
  refine ge_iconst (v := 0) a_X9_hold_1 rfl ?_
  refine ge_bipush (v := 9) a_X9_hold_2 rfl ?_
  refine ge_cSI [.int a1, .int (0 : Int32), .int (9 : Int32)] (rest := []) a_X9_hold_4 ok_X9_isWithin lk_X9_75 ⟨Nat.le_of_ble_eq_true rfl, Nat.le_of_ble_eq_true rfl⟩ rfl rfl (Nat.le_of_ble_eq_true rfl) (t_X9_isWithin a1 (0 : Int32) (9 : Int32)  h _ hyp) (fun r_2 h_1 hyp => ?_)
  refine ge_if_eq a_X9_hold_7 (fun c_3 => ?_) (fun c_3 => ?_)
  · have hyp := gm_ip hyp c_3
    refine ge_aload_n a_X9_hold_27 rfl 0 rfl ?_
    refine ge_iconst (v := 0) a_X9_hold_28 rfl ?_
    refine ge_cVI [.int (0 : Int32)] (rest := []) a_X9_hold_29 ok_X9_finding lk_X9_79 ⟨Nat.le_of_ble_eq_true rfl, Nat.le_of_ble_eq_true rfl⟩ (rfl : gm_cls 0 = 8) vc_8 (by decide) rfl rfl (Nat.le_of_ble_eq_true rfl) (t_X9_finding (0 : Int32)  h_1 _ hyp) (fun r_5 h_4 hyp => ?_)
    exact ge_iret rfl a_X9_hold_32 hyp
  · have hyp := gm_in hyp c_3
    refine ge_iload_n a_X9_hold_10 rfl 2 rfl ?_
    refine ge_iconst (v := -1) a_X9_hold_11 rfl ?_
    refine ge_aload_n a_X9_hold_12 rfl 0 rfl ?_
    refine ge_getR (q := 1) a_X9_hold_13 fd_X9_10 (rfl : gm_cls 0 = 8) rfl ?_
    refine ge_getI a_X9_hold_16 fd_X9_139 (rfl : gm_cls 1 = 5) ?_
    refine ge_iconst (v := 1) a_X9_hold_19 rfl ?_
    refine ge_isub a_X9_hold_20 ?_
    refine ge_cSI [.int a2, .int (-1 : Int32), .int ((h_1 1 5) - (1 : Int32))] (rest := []) a_X9_hold_21 ok_X9_isWithin lk_X9_75 ⟨Nat.le_of_ble_eq_true rfl, Nat.le_of_ble_eq_true rfl⟩ rfl rfl (Nat.le_of_ble_eq_true rfl) (t_X9_isWithin a2 (-1 : Int32) ((h_1 1 5) - (1 : Int32))  h_1 _ hyp) (fun r_7 h_6 hyp => ?_)
    refine ge_if_ne a_X9_hold_24 (fun c_8 => ?_) (fun c_8 => ?_)
    · have hyp := gm_in hyp c_8
      refine ge_aload_n a_X9_hold_33 rfl 0 rfl ?_
      refine ge_getR (q := 1) a_X9_hold_34 fd_X9_10 (rfl : gm_cls 0 = 8) rfl ?_
      refine ge_getR (q := 6) a_X9_hold_37 fd_X9_278 (rfl : gm_cls 1 = 5) rfl ?_
      refine ge_iload_n a_X9_hold_40 rfl 1 rfl ?_
      refine ge_iload_n a_X9_hold_41 rfl 2 rfl ?_
      obtain ⟨b_9, hyp⟩ := hyp
      refine ge_iast (j := a1.toNatClampNeg) a_X9_hold_42 ga_6 b_9 rfl ?_
      refine ge_nm (fun h_10 eh_10 => ?_)
      have hyp := hyp h_10 eh_10
      refine ge_iconst (v := 1) a_X9_hold_43 rfl ?_
      exact ge_iret rfl a_X9_hold_44 hyp
    · have hyp := gm_ip hyp c_8
      refine ge_aload_n a_X9_hold_27 rfl 0 rfl ?_
      refine ge_iconst (v := 0) a_X9_hold_28 rfl ?_
      refine ge_cVI [.int (0 : Int32)] (rest := []) a_X9_hold_29 ok_X9_finding lk_X9_79 ⟨Nat.le_of_ble_eq_true rfl, Nat.le_of_ble_eq_true rfl⟩ (rfl : gm_cls 0 = 8) vc_8 (by decide) rfl rfl (Nat.le_of_ble_eq_true rfl) (t_X9_finding (0 : Int32)  h_6 _ hyp) (fun r_12 h_11 hyp => ?_)
      exact ge_iret rfl a_X9_hold_32 hyp

theorem a_X9_as_0 : At m_X9_as 0 (.iload_n 1) 1 1 := at_i (by decide +kernel) rfl
theorem a_X9_as_1 : At m_X9_as 1 (.iconst 0) 1 2 := at_i (by decide +kernel) rfl
theorem a_X9_as_2 : At m_X9_as 2 (.bipush 9) 2 4 := at_i (by decide +kernel) rfl
theorem a_X9_as_4 : At m_X9_as 4 (.invokestatic 75) 3 7 := at_i (by decide +kernel) rfl
theorem a_X9_as_7 : AtJ m_X9_as 7 (.ifCond .eq 13) (13) 20 10 := at_j (by decide +kernel) (by decide) rfl
theorem a_X9_as_10 : At m_X9_as 10 (.iload_n 2) 1 11 := at_i (by decide +kernel) rfl
theorem a_X9_as_11 : At m_X9_as 11 (.iconst 0) 1 12 := at_i (by decide +kernel) rfl
theorem a_X9_as_12 : At m_X9_as 12 (.bipush 6) 2 14 := at_i (by decide +kernel) rfl
theorem a_X9_as_14 : At m_X9_as 14 (.invokestatic 75) 3 17 := at_i (by decide +kernel) rfl
theorem a_X9_as_17 : AtJ m_X9_as 17 (.ifCond .ne 9) (9) 26 20 := at_j (by decide +kernel) (by decide) rfl
theorem a_X9_as_20 : At m_X9_as 20 (.aload_n 0) 1 21 := at_i (by decide +kernel) rfl
theorem a_X9_as_21 : At m_X9_as 21 (.iconst 0) 1 22 := at_i (by decide +kernel) rfl
theorem a_X9_as_22 : At m_X9_as 22 (.invokevirtual 79) 3 25 := at_i (by decide +kernel) rfl
theorem a_X9_as_25 : At m_X9_as 25 (.ireturn) 1 26 := at_i (by decide +kernel) rfl
theorem a_X9_as_26 : At m_X9_as 26 (.aload_n 0) 1 27 := at_i (by decide +kernel) rfl
theorem a_X9_as_27 : At m_X9_as 27 (.getfield 10) 3 30 := at_i (by decide +kernel) rfl
theorem a_X9_as_30 : At m_X9_as 30 (.getfield 278) 3 33 := at_i (by decide +kernel) rfl
theorem a_X9_as_33 : At m_X9_as 33 (.iload_n 1) 1 34 := at_i (by decide +kernel) rfl
theorem a_X9_as_34 : At m_X9_as 34 (.iaload) 1 35 := at_i (by decide +kernel) rfl
theorem a_X9_as_35 : At m_X9_as 35 (.istore_n 3) 1 36 := at_i (by decide +kernel) rfl
theorem a_X9_as_36 : At m_X9_as 36 (.aload_n 0) 1 37 := at_i (by decide +kernel) rfl
theorem a_X9_as_37 : At m_X9_as 37 (.getfield 10) 3 40 := at_i (by decide +kernel) rfl
theorem a_X9_as_40 : At m_X9_as 40 (.iload_n 3) 1 41 := at_i (by decide +kernel) rfl
theorem a_X9_as_41 : At m_X9_as 41 (.invokevirtual 90) 3 44 := at_i (by decide +kernel) rfl
theorem a_X9_as_44 : AtJ m_X9_as 44 (.ifCond .ne 9) (9) 53 47 := at_j (by decide +kernel) (by decide) rfl
theorem a_X9_as_47 : At m_X9_as 47 (.aload_n 0) 1 48 := at_i (by decide +kernel) rfl
theorem a_X9_as_48 : At m_X9_as 48 (.iconst 5) 1 49 := at_i (by decide +kernel) rfl
theorem a_X9_as_49 : At m_X9_as 49 (.invokevirtual 79) 3 52 := at_i (by decide +kernel) rfl
theorem a_X9_as_52 : At m_X9_as 52 (.ireturn) 1 53 := at_i (by decide +kernel) rfl
theorem a_X9_as_53 : At m_X9_as 53 (.aload_n 0) 1 54 := at_i (by decide +kernel) rfl
theorem a_X9_as_54 : At m_X9_as 54 (.getfield 10) 3 57 := at_i (by decide +kernel) rfl
theorem a_X9_as_57 : At m_X9_as 57 (.getfield 281) 3 60 := at_i (by decide +kernel) rfl
theorem a_X9_as_60 : At m_X9_as 60 (.iload_n 3) 1 61 := at_i (by decide +kernel) rfl
theorem a_X9_as_61 : At m_X9_as 61 (.iaload) 1 62 := at_i (by decide +kernel) rfl
theorem a_X9_as_62 : At m_X9_as 62 (.iload_n 2) 1 63 := at_i (by decide +kernel) rfl
theorem a_X9_as_63 : At m_X9_as 63 (.invokestatic 284) 3 66 := at_i (by decide +kernel) rfl
theorem a_X9_as_66 : AtJ m_X9_as 66 (.ifCond .eq 7) (7) 73 69 := at_j (by decide +kernel) (by decide) rfl
theorem a_X9_as_69 : At m_X9_as 69 (.iload_n 3) 1 70 := at_i (by decide +kernel) rfl
theorem a_X9_as_70 : AtJ m_X9_as 70 (.goto 8) (8) 78 73 := at_j (by decide +kernel) (by decide) rfl
theorem a_X9_as_73 : At m_X9_as 73 (.aload_n 0) 1 74 := at_i (by decide +kernel) rfl
theorem a_X9_as_74 : At m_X9_as 74 (.iconst 2) 1 75 := at_i (by decide +kernel) rfl
theorem a_X9_as_75 : At m_X9_as 75 (.invokevirtual 79) 3 78 := at_i (by decide +kernel) rfl
theorem a_X9_as_78 : At m_X9_as 78 (.ireturn) 1 79 := at_i (by decide +kernel) rfl
def f_X9_as (a1 : Int32) (a2 : Int32) (h : Mem) (Q : Int32 → Mem → Prop) : Prop :=
  f_X9_isWithin a1 (0 : Int32) (9 : Int32) h fun r_2 h_1 =>
  if r_2 = 0 then (
    f_X9_finding (0 : Int32) h_1 fun r_5 h_4 =>
    Q r_5 h_4)
  else (
    f_X9_isWithin a2 (0 : Int32) (6 : Int32) h_1 fun r_7 h_6 =>
    if r_7 = 0 then (
      f_X9_finding (0 : Int32) h_6 fun r_23 h_22 =>
      Q r_23 h_22)
    else (
      vp_in a1 10 ∧
      ∀ v_10 : Int32, v_10 = h_6 6 a1.toNatClampNeg →
      f_X6_isLine 1 v_10 h_6 fun r_12 h_11 =>
      if r_12 = 0 then (
        f_X9_finding (5 : Int32) h_11 fun r_21 h_20 =>
        Q r_21 h_20)
      else (
        vp_in v_10 12 ∧
        f_X0_isOrIsUnder (h_11 2 v_10.toNatClampNeg) a2 h_11 fun r_16 h_15 =>
        if r_16 = 0 then (
          f_X9_finding (2 : Int32) h_15 fun r_19 h_18 =>
          Q r_19 h_18)
        else (
          Q v_10 h_15))))
set_option maxRecDepth 20000 in
theorem t_X9_as (a1 : Int32) (a2 : Int32)  (h : Mem) (Q : Int32 → Mem → Prop) (hyp : f_X9_as a1 a2 h Q) : Cn m_X9_as [.ref 0, .int a1, .int a2] h (GI Q) := by
  refine ge_entry (lv := [(0, .ref 0), (1, .int a1), (2, .int a2)]) pn_X9 (Nat.le_of_ble_eq_true rfl) rfl ?_
  unfold f_X9_as at hyp
  refine ge_iload_n a_X9_as_0 rfl 1 rfl ?_
  refine ge_iconst (v := 0) a_X9_as_1 rfl ?_
  refine ge_bipush (v := 9) a_X9_as_2 rfl ?_
  refine ge_cSI [.int a1, .int (0 : Int32), .int (9 : Int32)] (rest := []) a_X9_as_4 ok_X9_isWithin lk_X9_75 ⟨Nat.le_of_ble_eq_true rfl, Nat.le_of_ble_eq_true rfl⟩ rfl rfl (Nat.le_of_ble_eq_true rfl) (t_X9_isWithin a1 (0 : Int32) (9 : Int32)  h _ hyp) (fun r_2 h_1 hyp => ?_)
  refine ge_if_eq a_X9_as_7 (fun c_3 => ?_) (fun c_3 => ?_)
  · have hyp := gm_ip hyp c_3
    refine ge_aload_n a_X9_as_20 rfl 0 rfl ?_
    refine ge_iconst (v := 0) a_X9_as_21 rfl ?_
    refine ge_cVI [.int (0 : Int32)] (rest := []) a_X9_as_22 ok_X9_finding lk_X9_79 ⟨Nat.le_of_ble_eq_true rfl, Nat.le_of_ble_eq_true rfl⟩ (rfl : gm_cls 0 = 8) vc_8 (by decide) rfl rfl (Nat.le_of_ble_eq_true rfl) (t_X9_finding (0 : Int32)  h_1 _ hyp) (fun r_5 h_4 hyp => ?_)
    exact ge_iret rfl a_X9_as_25 hyp
  · have hyp := gm_in hyp c_3
    refine ge_iload_n a_X9_as_10 rfl 2 rfl ?_
    refine ge_iconst (v := 0) a_X9_as_11 rfl ?_
    refine ge_bipush (v := 6) a_X9_as_12 rfl ?_
    refine ge_cSI [.int a2, .int (0 : Int32), .int (6 : Int32)] (rest := []) a_X9_as_14 ok_X9_isWithin lk_X9_75 ⟨Nat.le_of_ble_eq_true rfl, Nat.le_of_ble_eq_true rfl⟩ rfl rfl (Nat.le_of_ble_eq_true rfl) (t_X9_isWithin a2 (0 : Int32) (6 : Int32)  h_1 _ hyp) (fun r_7 h_6 hyp => ?_)
    refine ge_if_ne a_X9_as_17 (fun c_8 => ?_) (fun c_8 => ?_)
    · have hyp := gm_in hyp c_8
      refine ge_aload_n a_X9_as_26 rfl 0 rfl ?_
      refine ge_getR (q := 1) a_X9_as_27 fd_X9_10 (rfl : gm_cls 0 = 8) rfl ?_
      refine ge_getR (q := 6) a_X9_as_30 fd_X9_278 (rfl : gm_cls 1 = 5) rfl ?_
      refine ge_iload_n a_X9_as_33 rfl 1 rfl ?_
      obtain ⟨b_9, hyp⟩ := hyp
      refine ge_iald (j := a1.toNatClampNeg) a_X9_as_34 ga_6 b_9 rfl ?_
      refine ge_topi (fun v_10 ev_10 => ?_)
      have hyp := hyp v_10 ev_10
      refine ge_istore_n (lv' := [(3, .int v_10), (0, .ref 0), (1, .int a1), (2, .int a2)]) a_X9_as_35 rfl (Nat.le_of_ble_eq_true rfl) rfl ?_
      refine ge_aload_n a_X9_as_36 rfl 1 rfl ?_
      refine ge_getR (q := 1) a_X9_as_37 fd_X9_10 (rfl : gm_cls 0 = 8) rfl ?_
      refine ge_iload_n a_X9_as_40 rfl 0 rfl ?_
      refine ge_cVI [.int v_10] (rest := []) a_X9_as_41 ok_X6_isLine lk_X9_90 ⟨Nat.le_of_ble_eq_true rfl, Nat.le_of_ble_eq_true rfl⟩ (rfl : gm_cls 1 = 5) vc_5 (by decide) rfl rfl (Nat.le_of_ble_eq_true rfl) (t_X6_isLine 1 v_10 (rfl : gm_cls 1 = 5) h_6 _ hyp) (fun r_12 h_11 hyp => ?_)
      refine ge_if_ne a_X9_as_44 (fun c_13 => ?_) (fun c_13 => ?_)
      · have hyp := gm_in hyp c_13
        refine ge_aload_n a_X9_as_53 rfl 1 rfl ?_
        refine ge_getR (q := 1) a_X9_as_54 fd_X9_10 (rfl : gm_cls 0 = 8) rfl ?_
        refine ge_getR (q := 2) a_X9_as_57 fd_X9_281 (rfl : gm_cls 1 = 5) rfl ?_
        refine ge_iload_n a_X9_as_60 rfl 0 rfl ?_
        obtain ⟨b_14, hyp⟩ := hyp
        refine ge_iald (j := v_10.toNatClampNeg) a_X9_as_61 ga_2 b_14 rfl ?_
        refine ge_iload_n a_X9_as_62 rfl 3 rfl ?_
        refine ge_cSI [.int (h_11 2 v_10.toNatClampNeg), .int a2] (rest := []) a_X9_as_63 ok_X0_isOrIsUnder lk_X9_284 ⟨Nat.le_of_ble_eq_true rfl, Nat.le_of_ble_eq_true rfl⟩ rfl rfl (Nat.le_of_ble_eq_true rfl) (t_X0_isOrIsUnder (h_11 2 v_10.toNatClampNeg) a2  h_11 _ hyp) (fun r_16 h_15 hyp => ?_)
        refine ge_if_eq a_X9_as_66 (fun c_17 => ?_) (fun c_17 => ?_)
        · have hyp := gm_ip hyp c_17
          refine ge_aload_n a_X9_as_73 rfl 1 rfl ?_
          refine ge_iconst (v := 2) a_X9_as_74 rfl ?_
          refine ge_cVI [.int (2 : Int32)] (rest := []) a_X9_as_75 ok_X9_finding lk_X9_79 ⟨Nat.le_of_ble_eq_true rfl, Nat.le_of_ble_eq_true rfl⟩ (rfl : gm_cls 0 = 8) vc_8 (by decide) rfl rfl (Nat.le_of_ble_eq_true rfl) (t_X9_finding (2 : Int32)  h_15 _ hyp) (fun r_19 h_18 hyp => ?_)
          exact ge_iret rfl a_X9_as_78 hyp
        · have hyp := gm_in hyp c_17
          refine ge_iload_n a_X9_as_69 rfl 0 rfl ?_
          refine ge_goto a_X9_as_70 ?_
          exact ge_iret rfl a_X9_as_78 hyp
      · have hyp := gm_ip hyp c_13
        refine ge_aload_n a_X9_as_47 rfl 1 rfl ?_
        refine ge_iconst (v := 5) a_X9_as_48 rfl ?_
        refine ge_cVI [.int (5 : Int32)] (rest := []) a_X9_as_49 ok_X9_finding lk_X9_79 ⟨Nat.le_of_ble_eq_true rfl, Nat.le_of_ble_eq_true rfl⟩ (rfl : gm_cls 0 = 8) vc_8 (by decide) rfl rfl (Nat.le_of_ble_eq_true rfl) (t_X9_finding (5 : Int32)  h_11 _ hyp) (fun r_21 h_20 hyp => ?_)
        exact ge_iret rfl a_X9_as_52 hyp
    · have hyp := gm_ip hyp c_8
      refine ge_aload_n a_X9_as_20 rfl 0 rfl ?_
      refine ge_iconst (v := 0) a_X9_as_21 rfl ?_
      refine ge_cVI [.int (0 : Int32)] (rest := []) a_X9_as_22 ok_X9_finding lk_X9_79 ⟨Nat.le_of_ble_eq_true rfl, Nat.le_of_ble_eq_true rfl⟩ (rfl : gm_cls 0 = 8) vc_8 (by decide) rfl rfl (Nat.le_of_ble_eq_true rfl) (t_X9_finding (0 : Int32)  h_6 _ hyp) (fun r_23 h_22 hyp => ?_)
      exact ge_iret rfl a_X9_as_25 hyp

theorem a_X9_sheet_0 : At m_X9_sheet 0 (.aload_n 0) 1 1 := at_i (by decide +kernel) rfl
theorem a_X9_sheet_1 : At m_X9_sheet 1 (.iload_n 1) 1 2 := at_i (by decide +kernel) rfl
theorem a_X9_sheet_2 : At m_X9_sheet 2 (.invokevirtual 233) 3 5 := at_i (by decide +kernel) rfl
theorem a_X9_sheet_5 : AtJ m_X9_sheet 5 (.ifCond .eq 10) (10) 15 8 := at_j (by decide +kernel) (by decide) rfl
theorem a_X9_sheet_8 : At m_X9_sheet 8 (.iload_n 2) 1 9 := at_i (by decide +kernel) rfl
theorem a_X9_sheet_9 : At m_X9_sheet 9 (.invokestatic 289) 3 12 := at_i (by decide +kernel) rfl
theorem a_X9_sheet_12 : AtJ m_X9_sheet 12 (.ifCond .ne 9) (9) 21 15 := at_j (by decide +kernel) (by decide) rfl
theorem a_X9_sheet_15 : At m_X9_sheet 15 (.aload_n 0) 1 16 := at_i (by decide +kernel) rfl
theorem a_X9_sheet_16 : At m_X9_sheet 16 (.iconst 0) 1 17 := at_i (by decide +kernel) rfl
theorem a_X9_sheet_17 : At m_X9_sheet 17 (.invokevirtual 79) 3 20 := at_i (by decide +kernel) rfl
theorem a_X9_sheet_20 : At m_X9_sheet 20 (.ireturn) 1 21 := at_i (by decide +kernel) rfl
theorem a_X9_sheet_21 : At m_X9_sheet 21 (.iload_n 3) 1 22 := at_i (by decide +kernel) rfl
theorem a_X9_sheet_22 : AtJ m_X9_sheet 22 (.ifCond .ge 10) (10) 32 25 := at_j (by decide +kernel) (by decide) rfl
theorem a_X9_sheet_25 : At m_X9_sheet 25 (.aload_n 0) 1 26 := at_i (by decide +kernel) rfl
theorem a_X9_sheet_26 : At m_X9_sheet 26 (.bipush 6) 2 28 := at_i (by decide +kernel) rfl
theorem a_X9_sheet_28 : At m_X9_sheet 28 (.invokevirtual 79) 3 31 := at_i (by decide +kernel) rfl
theorem a_X9_sheet_31 : At m_X9_sheet 31 (.ireturn) 1 32 := at_i (by decide +kernel) rfl
theorem a_X9_sheet_32 : At m_X9_sheet 32 (.iload_n 3) 1 33 := at_i (by decide +kernel) rfl
theorem a_X9_sheet_33 : At m_X9_sheet 33 (.bipush 40) 2 35 := at_i (by decide +kernel) rfl
theorem a_X9_sheet_35 : AtJ m_X9_sheet 35 (.if_icmp .le 9) (9) 44 38 := at_j (by decide +kernel) (by decide) rfl
theorem a_X9_sheet_38 : At m_X9_sheet 38 (.aload_n 0) 1 39 := at_i (by decide +kernel) rfl
theorem a_X9_sheet_39 : At m_X9_sheet 39 (.iconst 0) 1 40 := at_i (by decide +kernel) rfl
theorem a_X9_sheet_40 : At m_X9_sheet 40 (.invokevirtual 79) 3 43 := at_i (by decide +kernel) rfl
theorem a_X9_sheet_43 : At m_X9_sheet 43 (.ireturn) 1 44 := at_i (by decide +kernel) rfl
theorem a_X9_sheet_44 : At m_X9_sheet 44 (.aload_n 0) 1 45 := at_i (by decide +kernel) rfl
theorem a_X9_sheet_45 : At m_X9_sheet 45 (.getfield 66) 3 48 := at_i (by decide +kernel) rfl
theorem a_X9_sheet_48 : At m_X9_sheet 48 (.iload_n 1) 1 49 := at_i (by decide +kernel) rfl
theorem a_X9_sheet_49 : At m_X9_sheet 49 (.aaload) 1 50 := at_i (by decide +kernel) rfl
theorem a_X9_sheet_50 : At m_X9_sheet 50 (.iload_n 2) 1 51 := at_i (by decide +kernel) rfl
theorem a_X9_sheet_51 : At m_X9_sheet 51 (.iload_n 3) 1 52 := at_i (by decide +kernel) rfl
theorem a_X9_sheet_52 : At m_X9_sheet 52 (.invokevirtual 292) 3 55 := at_i (by decide +kernel) rfl
theorem a_X9_sheet_55 : At m_X9_sheet 55 (.aload_n 0) 1 56 := at_i (by decide +kernel) rfl
theorem a_X9_sheet_56 : At m_X9_sheet 56 (.getfield 66) 3 59 := at_i (by decide +kernel) rfl
theorem a_X9_sheet_59 : At m_X9_sheet 59 (.iload_n 1) 1 60 := at_i (by decide +kernel) rfl
theorem a_X9_sheet_60 : At m_X9_sheet 60 (.aaload) 1 61 := at_i (by decide +kernel) rfl
theorem a_X9_sheet_61 : At m_X9_sheet 61 (.getfield 295) 3 64 := at_i (by decide +kernel) rfl
theorem a_X9_sheet_64 : At m_X9_sheet 64 (.ireturn) 1 65 := at_i (by decide +kernel) rfl
def f_X9_sheet (a1 : Int32) (a2 : Int32) (a3 : Int32) (h : Mem) (Q : Int32 → Mem → Prop) : Prop :=
  f_X9_isSheet a1 h fun r_2 h_1 =>
  if r_2 = 0 then (
    f_X9_finding (0 : Int32) h_1 fun r_5 h_4 =>
    Q r_5 h_4)
  else (
    f_X5_canHave a2 h_1 fun r_7 h_6 =>
    if r_7 = 0 then (
      f_X9_finding (0 : Int32) h_6 fun r_19 h_18 =>
      Q r_19 h_18)
    else (
      if 0 ≤ a3 then (
        if a3 ≤ (40 : Int32) then (
          vp_in a1 4 ∧
          f_X5_begin (35 + 2 * a1.toNatClampNeg) a2 a3 h_6 fun h_12 =>
          vp_in a1 4 ∧
          Q (h_12 (35 + 2 * a1.toNatClampNeg) 2) h_12)
        else (
          f_X9_finding (0 : Int32) h_6 fun r_15 h_14 =>
          Q r_15 h_14))
      else (
        f_X9_finding (6 : Int32) h_6 fun r_17 h_16 =>
        Q r_17 h_16)))
set_option maxRecDepth 20000 in
theorem t_X9_sheet (a1 : Int32) (a2 : Int32) (a3 : Int32)  (h : Mem) (Q : Int32 → Mem → Prop) (hyp : f_X9_sheet a1 a2 a3 h Q) : Cn m_X9_sheet [.ref 0, .int a1, .int a2, .int a3] h (GI Q) := by
  refine ge_entry (lv := [(0, .ref 0), (1, .int a1), (2, .int a2), (3, .int a3)]) pn_X9 (Nat.le_of_ble_eq_true rfl) rfl ?_
  unfold f_X9_sheet at hyp
  refine ge_aload_n a_X9_sheet_0 rfl 0 rfl ?_
  refine ge_iload_n a_X9_sheet_1 rfl 1 rfl ?_
  refine ge_cVI [.int a1] (rest := []) a_X9_sheet_2 ok_X9_isSheet lk_X9_233 ⟨Nat.le_of_ble_eq_true rfl, Nat.le_of_ble_eq_true rfl⟩ (rfl : gm_cls 0 = 8) vc_8 (by decide) rfl rfl (Nat.le_of_ble_eq_true rfl) (t_X9_isSheet a1  h _ hyp) (fun r_2 h_1 hyp => ?_)
  refine ge_if_eq a_X9_sheet_5 (fun c_3 => ?_) (fun c_3 => ?_)
  · have hyp := gm_ip hyp c_3
    refine ge_aload_n a_X9_sheet_15 rfl 0 rfl ?_
    refine ge_iconst (v := 0) a_X9_sheet_16 rfl ?_
    refine ge_cVI [.int (0 : Int32)] (rest := []) a_X9_sheet_17 ok_X9_finding lk_X9_79 ⟨Nat.le_of_ble_eq_true rfl, Nat.le_of_ble_eq_true rfl⟩ (rfl : gm_cls 0 = 8) vc_8 (by decide) rfl rfl (Nat.le_of_ble_eq_true rfl) (t_X9_finding (0 : Int32)  h_1 _ hyp) (fun r_5 h_4 hyp => ?_)
    exact ge_iret rfl a_X9_sheet_20 hyp
  · have hyp := gm_in hyp c_3
    refine ge_iload_n a_X9_sheet_8 rfl 2 rfl ?_
    refine ge_cSI [.int a2] (rest := []) a_X9_sheet_9 ok_X5_canHave lk_X9_289 ⟨Nat.le_of_ble_eq_true rfl, Nat.le_of_ble_eq_true rfl⟩ rfl rfl (Nat.le_of_ble_eq_true rfl) (t_X5_canHave a2  h_1 _ hyp) (fun r_7 h_6 hyp => ?_)
    refine ge_if_ne a_X9_sheet_12 (fun c_8 => ?_) (fun c_8 => ?_)
    · have hyp := gm_in hyp c_8
      refine ge_iload_n a_X9_sheet_21 rfl 3 rfl ?_
      refine ge_if_ge a_X9_sheet_22 (fun c_9 => ?_) (fun c_9 => ?_)
      · have hyp := gm_ip hyp c_9
        refine ge_iload_n a_X9_sheet_32 rfl 3 rfl ?_
        refine ge_bipush (v := 40) a_X9_sheet_33 rfl ?_
        refine ge_icmp_le a_X9_sheet_35 (fun c_10 => ?_) (fun c_10 => ?_)
        · have hyp := gm_ip hyp c_10
          refine ge_aload_n a_X9_sheet_44 rfl 0 rfl ?_
          refine ge_getR (q := 33) a_X9_sheet_45 fd_X9_66 (rfl : gm_cls 0 = 8) rfl ?_
          refine ge_iload_n a_X9_sheet_48 rfl 1 rfl ?_
          obtain ⟨b_11, hyp⟩ := hyp
          refine ge_ald33 a_X9_sheet_49 b_11 ?_
          refine ge_iload_n a_X9_sheet_50 rfl 2 rfl ?_
          refine ge_iload_n a_X9_sheet_51 rfl 3 rfl ?_
          refine ge_cVV [.int a2, .int a3] (rest := []) a_X9_sheet_52 ok_X5_begin lk_X9_292 ⟨Nat.le_of_ble_eq_true rfl, Nat.le_of_ble_eq_true rfl⟩ (gm_sheet b_11) vc_4 (by decide) rfl rfl (Nat.le_of_ble_eq_true rfl) (t_X5_begin (35 + 2 * a1.toNatClampNeg) a2 a3 (gm_sheet b_11) h_6 _ hyp) (fun h_12 hyp => ?_)
          refine ge_aload_n a_X9_sheet_55 rfl 0 rfl ?_
          refine ge_getR (q := 33) a_X9_sheet_56 fd_X9_66 (rfl : gm_cls 0 = 8) rfl ?_
          refine ge_iload_n a_X9_sheet_59 rfl 1 rfl ?_
          obtain ⟨b_13, hyp⟩ := hyp
          refine ge_ald33 a_X9_sheet_60 b_13 ?_
          refine ge_getI a_X9_sheet_61 fd_X9_295 (gm_sheet b_13) ?_
          exact ge_iret rfl a_X9_sheet_64 hyp
        · have hyp := gm_in hyp c_10
          refine ge_aload_n a_X9_sheet_38 rfl 0 rfl ?_
          refine ge_iconst (v := 0) a_X9_sheet_39 rfl ?_
          refine ge_cVI [.int (0 : Int32)] (rest := []) a_X9_sheet_40 ok_X9_finding lk_X9_79 ⟨Nat.le_of_ble_eq_true rfl, Nat.le_of_ble_eq_true rfl⟩ (rfl : gm_cls 0 = 8) vc_8 (by decide) rfl rfl (Nat.le_of_ble_eq_true rfl) (t_X9_finding (0 : Int32)  h_6 _ hyp) (fun r_15 h_14 hyp => ?_)
          exact ge_iret rfl a_X9_sheet_43 hyp
      · have hyp := gm_in hyp c_9
        refine ge_aload_n a_X9_sheet_25 rfl 0 rfl ?_
        refine ge_bipush (v := 6) a_X9_sheet_26 rfl ?_
        refine ge_cVI [.int (6 : Int32)] (rest := []) a_X9_sheet_28 ok_X9_finding lk_X9_79 ⟨Nat.le_of_ble_eq_true rfl, Nat.le_of_ble_eq_true rfl⟩ (rfl : gm_cls 0 = 8) vc_8 (by decide) rfl rfl (Nat.le_of_ble_eq_true rfl) (t_X9_finding (6 : Int32)  h_6 _ hyp) (fun r_17 h_16 hyp => ?_)
        exact ge_iret rfl a_X9_sheet_31 hyp
    · have hyp := gm_ip hyp c_8
      refine ge_aload_n a_X9_sheet_15 rfl 0 rfl ?_
      refine ge_iconst (v := 0) a_X9_sheet_16 rfl ?_
      refine ge_cVI [.int (0 : Int32)] (rest := []) a_X9_sheet_17 ok_X9_finding lk_X9_79 ⟨Nat.le_of_ble_eq_true rfl, Nat.le_of_ble_eq_true rfl⟩ (rfl : gm_cls 0 = 8) vc_8 (by decide) rfl rfl (Nat.le_of_ble_eq_true rfl) (t_X9_finding (0 : Int32)  h_6 _ hyp) (fun r_19 h_18 hyp => ?_)
      exact ge_iret rfl a_X9_sheet_20 hyp

theorem a_X9_write_0 : At m_X9_write 0 (.aload_n 0) 1 1 := at_i (by decide +kernel) rfl
theorem a_X9_write_1 : At m_X9_write 1 (.iload_n 1) 1 2 := at_i (by decide +kernel) rfl
theorem a_X9_write_2 : At m_X9_write 2 (.invokevirtual 233) 3 5 := at_i (by decide +kernel) rfl
theorem a_X9_write_5 : AtJ m_X9_write 5 (.ifCond .ne 9) (9) 14 8 := at_j (by decide +kernel) (by decide) rfl
theorem a_X9_write_8 : At m_X9_write 8 (.aload_n 0) 1 9 := at_i (by decide +kernel) rfl
theorem a_X9_write_9 : At m_X9_write 9 (.iconst 0) 1 10 := at_i (by decide +kernel) rfl
theorem a_X9_write_10 : At m_X9_write 10 (.invokevirtual 79) 3 13 := at_i (by decide +kernel) rfl
theorem a_X9_write_13 : At m_X9_write 13 (.ireturn) 1 14 := at_i (by decide +kernel) rfl
theorem a_X9_write_14 : At m_X9_write 14 (.aload_n 0) 1 15 := at_i (by decide +kernel) rfl
theorem a_X9_write_15 : At m_X9_write 15 (.getfield 66) 3 18 := at_i (by decide +kernel) rfl
theorem a_X9_write_18 : At m_X9_write 18 (.iload_n 1) 1 19 := at_i (by decide +kernel) rfl
theorem a_X9_write_19 : At m_X9_write 19 (.aaload) 1 20 := at_i (by decide +kernel) rfl
theorem a_X9_write_20 : At m_X9_write 20 (.invokevirtual 236) 3 23 := at_i (by decide +kernel) rfl
theorem a_X9_write_23 : AtJ m_X9_write 23 (.ifCond .eq 9) (9) 32 26 := at_j (by decide +kernel) (by decide) rfl
theorem a_X9_write_26 : At m_X9_write 26 (.aload_n 0) 1 27 := at_i (by decide +kernel) rfl
theorem a_X9_write_27 : At m_X9_write 27 (.iconst 5) 1 28 := at_i (by decide +kernel) rfl
theorem a_X9_write_28 : At m_X9_write 28 (.invokevirtual 79) 3 31 := at_i (by decide +kernel) rfl
theorem a_X9_write_31 : At m_X9_write 31 (.ireturn) 1 32 := at_i (by decide +kernel) rfl
theorem a_X9_write_32 : At m_X9_write 32 (.iload_n 2) 1 33 := at_i (by decide +kernel) rfl
theorem a_X9_write_33 : At m_X9_write 33 (.iconst 0) 1 34 := at_i (by decide +kernel) rfl
theorem a_X9_write_34 : At m_X9_write 34 (.aload_n 0) 1 35 := at_i (by decide +kernel) rfl
theorem a_X9_write_35 : At m_X9_write 35 (.getfield 66) 3 38 := at_i (by decide +kernel) rfl
theorem a_X9_write_38 : At m_X9_write 38 (.iload_n 1) 1 39 := at_i (by decide +kernel) rfl
theorem a_X9_write_39 : At m_X9_write 39 (.aaload) 1 40 := at_i (by decide +kernel) rfl
theorem a_X9_write_40 : At m_X9_write 40 (.getfield 295) 3 43 := at_i (by decide +kernel) rfl
theorem a_X9_write_43 : At m_X9_write 43 (.iconst 1) 1 44 := at_i (by decide +kernel) rfl
theorem a_X9_write_44 : At m_X9_write 44 (.isub) 1 45 := at_i (by decide +kernel) rfl
theorem a_X9_write_45 : At m_X9_write 45 (.invokestatic 75) 3 48 := at_i (by decide +kernel) rfl
theorem a_X9_write_48 : AtJ m_X9_write 48 (.ifCond .ne 9) (9) 57 51 := at_j (by decide +kernel) (by decide) rfl
theorem a_X9_write_51 : At m_X9_write 51 (.aload_n 0) 1 52 := at_i (by decide +kernel) rfl
theorem a_X9_write_52 : At m_X9_write 52 (.iconst 0) 1 53 := at_i (by decide +kernel) rfl
theorem a_X9_write_53 : At m_X9_write 53 (.invokevirtual 79) 3 56 := at_i (by decide +kernel) rfl
theorem a_X9_write_56 : At m_X9_write 56 (.ireturn) 1 57 := at_i (by decide +kernel) rfl
theorem a_X9_write_57 : At m_X9_write 57 (.aload_n 0) 1 58 := at_i (by decide +kernel) rfl
theorem a_X9_write_58 : At m_X9_write 58 (.getfield 66) 3 61 := at_i (by decide +kernel) rfl
theorem a_X9_write_61 : At m_X9_write 61 (.iload_n 1) 1 62 := at_i (by decide +kernel) rfl
theorem a_X9_write_62 : At m_X9_write 62 (.aaload) 1 63 := at_i (by decide +kernel) rfl
theorem a_X9_write_63 : At m_X9_write 63 (.iload_n 2) 1 64 := at_i (by decide +kernel) rfl
theorem a_X9_write_64 : At m_X9_write 64 (.iload_n 3) 1 65 := at_i (by decide +kernel) rfl
theorem a_X9_write_65 : At m_X9_write 65 (.invokevirtual 296) 3 68 := at_i (by decide +kernel) rfl
theorem a_X9_write_68 : At m_X9_write 68 (.iconst 1) 1 69 := at_i (by decide +kernel) rfl
theorem a_X9_write_69 : At m_X9_write 69 (.ireturn) 1 70 := at_i (by decide +kernel) rfl
def f_X9_write (a1 : Int32) (a2 : Int32) (a3 : Int32) (h : Mem) (Q : Int32 → Mem → Prop) : Prop :=
  f_X9_isSheet a1 h fun r_2 h_1 =>
  if r_2 = 0 then (
    f_X9_finding (0 : Int32) h_1 fun r_19 h_18 =>
    Q r_19 h_18)
  else (
    vp_in a1 4 ∧
    f_X5_isMissing (35 + 2 * a1.toNatClampNeg) h_1 fun r_6 h_5 =>
    if r_6 = 0 then (
      vp_in a1 4 ∧
      f_X9_isWithin a2 (0 : Int32) ((h_5 (35 + 2 * a1.toNatClampNeg) 2) - (1 : Int32)) h_5 fun r_10 h_9 =>
      if r_10 = 0 then (
        f_X9_finding (0 : Int32) h_9 fun r_15 h_14 =>
        Q r_15 h_14)
      else (
        vp_in a1 4 ∧
        f_X5_put (35 + 2 * a1.toNatClampNeg) a2 a3 h_9 fun h_13 =>
        Q (1 : Int32) h_13))
    else (
      f_X9_finding (5 : Int32) h_5 fun r_17 h_16 =>
      Q r_17 h_16))
set_option maxRecDepth 20000 in
theorem t_X9_write (a1 : Int32) (a2 : Int32) (a3 : Int32)  (h : Mem) (Q : Int32 → Mem → Prop) (hyp : f_X9_write a1 a2 a3 h Q) : Cn m_X9_write [.ref 0, .int a1, .int a2, .int a3] h (GI Q) := by
  refine ge_entry (lv := [(0, .ref 0), (1, .int a1), (2, .int a2), (3, .int a3)]) pn_X9 (Nat.le_of_ble_eq_true rfl) rfl ?_
  unfold f_X9_write at hyp
  refine ge_aload_n a_X9_write_0 rfl 0 rfl ?_
  refine ge_iload_n a_X9_write_1 rfl 1 rfl ?_
  refine ge_cVI [.int a1] (rest := []) a_X9_write_2 ok_X9_isSheet lk_X9_233 ⟨Nat.le_of_ble_eq_true rfl, Nat.le_of_ble_eq_true rfl⟩ (rfl : gm_cls 0 = 8) vc_8 (by decide) rfl rfl (Nat.le_of_ble_eq_true rfl) (t_X9_isSheet a1  h _ hyp) (fun r_2 h_1 hyp => ?_)
  refine ge_if_ne a_X9_write_5 (fun c_3 => ?_) (fun c_3 => ?_)
  · have hyp := gm_in hyp c_3
    refine ge_aload_n a_X9_write_14 rfl 0 rfl ?_
    refine ge_getR (q := 33) a_X9_write_15 fd_X9_66 (rfl : gm_cls 0 = 8) rfl ?_
    refine ge_iload_n a_X9_write_18 rfl 1 rfl ?_
    obtain ⟨b_4, hyp⟩ := hyp
    refine ge_ald33 a_X9_write_19 b_4 ?_
    refine ge_cVI [] (rest := []) a_X9_write_20 ok_X5_isMissing lk_X9_236 ⟨Nat.le_of_ble_eq_true rfl, Nat.le_of_ble_eq_true rfl⟩ (gm_sheet b_4) vc_4 (by decide) rfl rfl (Nat.le_of_ble_eq_true rfl) (t_X5_isMissing (35 + 2 * a1.toNatClampNeg) (gm_sheet b_4) h_1 _ hyp) (fun r_6 h_5 hyp => ?_)
    refine ge_if_eq a_X9_write_23 (fun c_7 => ?_) (fun c_7 => ?_)
    · have hyp := gm_ip hyp c_7
      refine ge_iload_n a_X9_write_32 rfl 2 rfl ?_
      refine ge_iconst (v := 0) a_X9_write_33 rfl ?_
      refine ge_aload_n a_X9_write_34 rfl 0 rfl ?_
      refine ge_getR (q := 33) a_X9_write_35 fd_X9_66 (rfl : gm_cls 0 = 8) rfl ?_
      refine ge_iload_n a_X9_write_38 rfl 1 rfl ?_
      obtain ⟨b_8, hyp⟩ := hyp
      refine ge_ald33 a_X9_write_39 b_8 ?_
      refine ge_getI a_X9_write_40 fd_X9_295 (gm_sheet b_8) ?_
      refine ge_iconst (v := 1) a_X9_write_43 rfl ?_
      refine ge_isub a_X9_write_44 ?_
      refine ge_cSI [.int a2, .int (0 : Int32), .int ((h_5 (35 + 2 * a1.toNatClampNeg) 2) - (1 : Int32))] (rest := []) a_X9_write_45 ok_X9_isWithin lk_X9_75 ⟨Nat.le_of_ble_eq_true rfl, Nat.le_of_ble_eq_true rfl⟩ rfl rfl (Nat.le_of_ble_eq_true rfl) (t_X9_isWithin a2 (0 : Int32) ((h_5 (35 + 2 * a1.toNatClampNeg) 2) - (1 : Int32))  h_5 _ hyp) (fun r_10 h_9 hyp => ?_)
      refine ge_if_ne a_X9_write_48 (fun c_11 => ?_) (fun c_11 => ?_)
      · have hyp := gm_in hyp c_11
        refine ge_aload_n a_X9_write_57 rfl 0 rfl ?_
        refine ge_getR (q := 33) a_X9_write_58 fd_X9_66 (rfl : gm_cls 0 = 8) rfl ?_
        refine ge_iload_n a_X9_write_61 rfl 1 rfl ?_
        obtain ⟨b_12, hyp⟩ := hyp
        refine ge_ald33 a_X9_write_62 b_12 ?_
        refine ge_iload_n a_X9_write_63 rfl 2 rfl ?_
        refine ge_iload_n a_X9_write_64 rfl 3 rfl ?_
        refine ge_cVV [.int a2, .int a3] (rest := []) a_X9_write_65 ok_X5_put lk_X9_296 ⟨Nat.le_of_ble_eq_true rfl, Nat.le_of_ble_eq_true rfl⟩ (gm_sheet b_12) vc_4 (by decide) rfl rfl (Nat.le_of_ble_eq_true rfl) (t_X5_put (35 + 2 * a1.toNatClampNeg) a2 a3 (gm_sheet b_12) h_9 _ hyp) (fun h_13 hyp => ?_)
        refine ge_iconst (v := 1) a_X9_write_68 rfl ?_
        exact ge_iret rfl a_X9_write_69 hyp
      · have hyp := gm_ip hyp c_11
        refine ge_aload_n a_X9_write_51 rfl 0 rfl ?_
        refine ge_iconst (v := 0) a_X9_write_52 rfl ?_
        refine ge_cVI [.int (0 : Int32)] (rest := []) a_X9_write_53 ok_X9_finding lk_X9_79 ⟨Nat.le_of_ble_eq_true rfl, Nat.le_of_ble_eq_true rfl⟩ (rfl : gm_cls 0 = 8) vc_8 (by decide) rfl rfl (Nat.le_of_ble_eq_true rfl) (t_X9_finding (0 : Int32)  h_9 _ hyp) (fun r_15 h_14 hyp => ?_)
        exact ge_iret rfl a_X9_write_56 hyp
    · have hyp := gm_in hyp c_7
      refine ge_aload_n a_X9_write_26 rfl 0 rfl ?_
      refine ge_iconst (v := 5) a_X9_write_27 rfl ?_
      refine ge_cVI [.int (5 : Int32)] (rest := []) a_X9_write_28 ok_X9_finding lk_X9_79 ⟨Nat.le_of_ble_eq_true rfl, Nat.le_of_ble_eq_true rfl⟩ (rfl : gm_cls 0 = 8) vc_8 (by decide) rfl rfl (Nat.le_of_ble_eq_true rfl) (t_X9_finding (5 : Int32)  h_5 _ hyp) (fun r_17 h_16 hyp => ?_)
      exact ge_iret rfl a_X9_write_31 hyp
  · have hyp := gm_ip hyp c_3
    refine ge_aload_n a_X9_write_8 rfl 0 rfl ?_
    refine ge_iconst (v := 0) a_X9_write_9 rfl ?_
    refine ge_cVI [.int (0 : Int32)] (rest := []) a_X9_write_10 ok_X9_finding lk_X9_79 ⟨Nat.le_of_ble_eq_true rfl, Nat.le_of_ble_eq_true rfl⟩ (rfl : gm_cls 0 = 8) vc_8 (by decide) rfl rfl (Nat.le_of_ble_eq_true rfl) (t_X9_finding (0 : Int32)  h_1 _ hyp) (fun r_19 h_18 hyp => ?_)
    exact ge_iret rfl a_X9_write_13 hyp

theorem a_X9_copy_0 : At m_X9_copy 0 (.aload_n 0) 1 1 := at_i (by decide +kernel) rfl
theorem a_X9_copy_1 : At m_X9_copy 1 (.iload_n 1) 1 2 := at_i (by decide +kernel) rfl
theorem a_X9_copy_2 : At m_X9_copy 2 (.invokevirtual 233) 3 5 := at_i (by decide +kernel) rfl
theorem a_X9_copy_5 : AtJ m_X9_copy 5 (.ifCond .eq 11) (11) 16 8 := at_j (by decide +kernel) (by decide) rfl
theorem a_X9_copy_8 : At m_X9_copy 8 (.aload_n 0) 1 9 := at_i (by decide +kernel) rfl
theorem a_X9_copy_9 : At m_X9_copy 9 (.iload_n 3) 1 10 := at_i (by decide +kernel) rfl
theorem a_X9_copy_10 : At m_X9_copy 10 (.invokevirtual 233) 3 13 := at_i (by decide +kernel) rfl
theorem a_X9_copy_13 : AtJ m_X9_copy 13 (.ifCond .ne 9) (9) 22 16 := at_j (by decide +kernel) (by decide) rfl
theorem a_X9_copy_16 : At m_X9_copy 16 (.aload_n 0) 1 17 := at_i (by decide +kernel) rfl
theorem a_X9_copy_17 : At m_X9_copy 17 (.iconst 0) 1 18 := at_i (by decide +kernel) rfl
theorem a_X9_copy_18 : At m_X9_copy 18 (.invokevirtual 79) 3 21 := at_i (by decide +kernel) rfl
theorem a_X9_copy_21 : At m_X9_copy 21 (.ireturn) 1 22 := at_i (by decide +kernel) rfl
theorem a_X9_copy_22 : At m_X9_copy 22 (.aload_n 0) 1 23 := at_i (by decide +kernel) rfl
theorem a_X9_copy_23 : At m_X9_copy 23 (.getfield 66) 3 26 := at_i (by decide +kernel) rfl
theorem a_X9_copy_26 : At m_X9_copy 26 (.iload_n 1) 1 27 := at_i (by decide +kernel) rfl
theorem a_X9_copy_27 : At m_X9_copy 27 (.aaload) 1 28 := at_i (by decide +kernel) rfl
theorem a_X9_copy_28 : At m_X9_copy 28 (.astore 6) 2 30 := at_i (by decide +kernel) rfl
theorem a_X9_copy_30 : At m_X9_copy 30 (.aload_n 0) 1 31 := at_i (by decide +kernel) rfl
theorem a_X9_copy_31 : At m_X9_copy 31 (.getfield 66) 3 34 := at_i (by decide +kernel) rfl
theorem a_X9_copy_34 : At m_X9_copy 34 (.iload_n 3) 1 35 := at_i (by decide +kernel) rfl
theorem a_X9_copy_35 : At m_X9_copy 35 (.aaload) 1 36 := at_i (by decide +kernel) rfl
theorem a_X9_copy_36 : At m_X9_copy 36 (.astore 7) 2 38 := at_i (by decide +kernel) rfl
theorem a_X9_copy_38 : At m_X9_copy 38 (.aload 6) 2 40 := at_i (by decide +kernel) rfl
theorem a_X9_copy_40 : At m_X9_copy 40 (.invokevirtual 236) 3 43 := at_i (by decide +kernel) rfl
theorem a_X9_copy_43 : AtJ m_X9_copy 43 (.ifCond .ne 11) (11) 54 46 := at_j (by decide +kernel) (by decide) rfl
theorem a_X9_copy_46 : At m_X9_copy 46 (.aload 7) 2 48 := at_i (by decide +kernel) rfl
theorem a_X9_copy_48 : At m_X9_copy 48 (.invokevirtual 236) 3 51 := at_i (by decide +kernel) rfl
theorem a_X9_copy_51 : AtJ m_X9_copy 51 (.ifCond .eq 9) (9) 60 54 := at_j (by decide +kernel) (by decide) rfl
theorem a_X9_copy_54 : At m_X9_copy 54 (.aload_n 0) 1 55 := at_i (by decide +kernel) rfl
theorem a_X9_copy_55 : At m_X9_copy 55 (.iconst 5) 1 56 := at_i (by decide +kernel) rfl
theorem a_X9_copy_56 : At m_X9_copy 56 (.invokevirtual 79) 3 59 := at_i (by decide +kernel) rfl
theorem a_X9_copy_59 : At m_X9_copy 59 (.ireturn) 1 60 := at_i (by decide +kernel) rfl
theorem a_X9_copy_60 : At m_X9_copy 60 (.aload 6) 2 62 := at_i (by decide +kernel) rfl
theorem a_X9_copy_62 : At m_X9_copy 62 (.getfield 299) 3 65 := at_i (by decide +kernel) rfl
theorem a_X9_copy_65 : At m_X9_copy 65 (.aload 7) 2 67 := at_i (by decide +kernel) rfl
theorem a_X9_copy_67 : At m_X9_copy 67 (.getfield 299) 3 70 := at_i (by decide +kernel) rfl
theorem a_X9_copy_70 : AtJ m_X9_copy 70 (.if_icmp .eq 9) (9) 79 73 := at_j (by decide +kernel) (by decide) rfl
theorem a_X9_copy_73 : At m_X9_copy 73 (.aload_n 0) 1 74 := at_i (by decide +kernel) rfl
theorem a_X9_copy_74 : At m_X9_copy 74 (.iconst 2) 1 75 := at_i (by decide +kernel) rfl
theorem a_X9_copy_75 : At m_X9_copy 75 (.invokevirtual 79) 3 78 := at_i (by decide +kernel) rfl
theorem a_X9_copy_78 : At m_X9_copy 78 (.ireturn) 1 79 := at_i (by decide +kernel) rfl
theorem a_X9_copy_79 : At m_X9_copy 79 (.aload 6) 2 81 := at_i (by decide +kernel) rfl
theorem a_X9_copy_81 : At m_X9_copy 81 (.iload_n 2) 1 82 := at_i (by decide +kernel) rfl
theorem a_X9_copy_82 : At m_X9_copy 82 (.iload 5) 2 84 := at_i (by decide +kernel) rfl
theorem a_X9_copy_84 : At m_X9_copy 84 (.invokevirtual 302) 3 87 := at_i (by decide +kernel) rfl
theorem a_X9_copy_87 : AtJ m_X9_copy 87 (.ifCond .eq 15) (15) 102 90 := at_j (by decide +kernel) (by decide) rfl
theorem a_X9_copy_90 : At m_X9_copy 90 (.aload 7) 2 92 := at_i (by decide +kernel) rfl
theorem a_X9_copy_92 : At m_X9_copy 92 (.iload 4) 2 94 := at_i (by decide +kernel) rfl
theorem a_X9_copy_94 : At m_X9_copy 94 (.iload 5) 2 96 := at_i (by decide +kernel) rfl
theorem a_X9_copy_96 : At m_X9_copy 96 (.invokevirtual 302) 3 99 := at_i (by decide +kernel) rfl
theorem a_X9_copy_99 : AtJ m_X9_copy 99 (.ifCond .ne 9) (9) 108 102 := at_j (by decide +kernel) (by decide) rfl
theorem a_X9_copy_102 : At m_X9_copy 102 (.aload_n 0) 1 103 := at_i (by decide +kernel) rfl
theorem a_X9_copy_103 : At m_X9_copy 103 (.iconst 0) 1 104 := at_i (by decide +kernel) rfl
theorem a_X9_copy_104 : At m_X9_copy 104 (.invokevirtual 79) 3 107 := at_i (by decide +kernel) rfl
theorem a_X9_copy_107 : At m_X9_copy 107 (.ireturn) 1 108 := at_i (by decide +kernel) rfl
theorem a_X9_copy_108 : At m_X9_copy 108 (.aload 6) 2 110 := at_i (by decide +kernel) rfl
theorem a_X9_copy_110 : At m_X9_copy 110 (.getfield 305) 3 113 := at_i (by decide +kernel) rfl
theorem a_X9_copy_113 : At m_X9_copy 113 (.iload_n 2) 1 114 := at_i (by decide +kernel) rfl
theorem a_X9_copy_114 : At m_X9_copy 114 (.aload 7) 2 116 := at_i (by decide +kernel) rfl
theorem a_X9_copy_116 : At m_X9_copy 116 (.getfield 305) 3 119 := at_i (by decide +kernel) rfl
theorem a_X9_copy_119 : At m_X9_copy 119 (.iload 4) 2 121 := at_i (by decide +kernel) rfl
theorem a_X9_copy_121 : At m_X9_copy 121 (.iload 5) 2 123 := at_i (by decide +kernel) rfl
theorem a_X9_copy_123 : At m_X9_copy 123 (.invokestatic 308) 3 126 := at_i (by decide +kernel) rfl
theorem a_X9_copy_126 : At m_X9_copy 126 (.iload 5) 2 128 := at_i (by decide +kernel) rfl
theorem a_X9_copy_128 : At m_X9_copy 128 (.ireturn) 1 129 := at_i (by decide +kernel) rfl
def f_X9_copy (a1 : Int32) (a2 : Int32) (a3 : Int32) (a4 : Int32) (a5 : Int32) (h : Mem) (Q : Int32 → Mem → Prop) : Prop :=
  f_X9_isSheet a1 h fun r_2 h_1 =>
  if r_2 = 0 then (
    f_X9_finding (0 : Int32) h_1 fun r_5 h_4 =>
    Q r_5 h_4)
  else (
    f_X9_isSheet a3 h_1 fun r_7 h_6 =>
    if r_7 = 0 then (
      f_X9_finding (0 : Int32) h_6 fun r_41 h_40 =>
      Q r_41 h_40)
    else (
      vp_in a1 4 ∧
      vp_in a3 4 ∧
      f_X5_isMissing (35 + 2 * a1.toNatClampNeg) h_6 fun r_12 h_11 =>
      if r_12 = 0 then (
        f_X5_isMissing (35 + 2 * a3.toNatClampNeg) h_11 fun r_17 h_16 =>
        if r_17 = 0 then (
          if h_16 (35 + 2 * a1.toNatClampNeg) 1 = h_16 (35 + 2 * a3.toNatClampNeg) 1 then (
            f_X5_hasPart (35 + 2 * a1.toNatClampNeg) a2 a5 h_16 fun r_21 h_20 =>
            if r_21 = 0 then (
              f_X9_finding (0 : Int32) h_20 fun r_24 h_23 =>
              Q r_24 h_23)
            else (
              f_X5_hasPart (35 + 2 * a3.toNatClampNeg) a4 a5 h_20 fun r_26 h_25 =>
              if r_26 = 0 then (
                f_X9_finding (0 : Int32) h_25 fun r_35 h_34 =>
                Q r_35 h_34)
              else (
                ¬ a2 < 0 ∧
                ¬ a4 < 0 ∧
                ¬ a5 < 0 ∧
                a2.toNatClampNeg + a5.toNatClampNeg ≤ 40 ∧
                a4.toNatClampNeg + a5.toNatClampNeg ≤ 40 ∧
                ∀ h_33 : Mem, h_33 = gm_cpy h_25 (35 + 2 * a1.toNatClampNeg + 1) (35 + 2 * a3.toNatClampNeg + 1) a2.toNatClampNeg a4.toNatClampNeg a5.toNatClampNeg →
                Q a5 h_33)))
          else (
            f_X9_finding (2 : Int32) h_16 fun r_37 h_36 =>
            Q r_37 h_36))
        else (
          f_X9_finding (5 : Int32) h_16 fun r_39 h_38 =>
          Q r_39 h_38))
      else (
        f_X9_finding (5 : Int32) h_11 fun r_15 h_14 =>
        Q r_15 h_14)))
set_option maxRecDepth 20000 in
theorem t_X9_copy (a1 : Int32) (a2 : Int32) (a3 : Int32) (a4 : Int32) (a5 : Int32)  (h : Mem) (Q : Int32 → Mem → Prop) (hyp : f_X9_copy a1 a2 a3 a4 a5 h Q) : Cn m_X9_copy [.ref 0, .int a1, .int a2, .int a3, .int a4, .int a5] h (GI Q) := by
  refine ge_entry (lv := [(0, .ref 0), (1, .int a1), (2, .int a2), (3, .int a3), (4, .int a4), (5, .int a5)]) pn_X9 (Nat.le_of_ble_eq_true rfl) rfl ?_
  unfold f_X9_copy at hyp
  refine ge_aload_n a_X9_copy_0 rfl 0 rfl ?_
  refine ge_iload_n a_X9_copy_1 rfl 1 rfl ?_
  refine ge_cVI [.int a1] (rest := []) a_X9_copy_2 ok_X9_isSheet lk_X9_233 ⟨Nat.le_of_ble_eq_true rfl, Nat.le_of_ble_eq_true rfl⟩ (rfl : gm_cls 0 = 8) vc_8 (by decide) rfl rfl (Nat.le_of_ble_eq_true rfl) (t_X9_isSheet a1  h _ hyp) (fun r_2 h_1 hyp => ?_)
  refine ge_if_eq a_X9_copy_5 (fun c_3 => ?_) (fun c_3 => ?_)
  · have hyp := gm_ip hyp c_3
    refine ge_aload_n a_X9_copy_16 rfl 0 rfl ?_
    refine ge_iconst (v := 0) a_X9_copy_17 rfl ?_
    refine ge_cVI [.int (0 : Int32)] (rest := []) a_X9_copy_18 ok_X9_finding lk_X9_79 ⟨Nat.le_of_ble_eq_true rfl, Nat.le_of_ble_eq_true rfl⟩ (rfl : gm_cls 0 = 8) vc_8 (by decide) rfl rfl (Nat.le_of_ble_eq_true rfl) (t_X9_finding (0 : Int32)  h_1 _ hyp) (fun r_5 h_4 hyp => ?_)
    exact ge_iret rfl a_X9_copy_21 hyp
  · have hyp := gm_in hyp c_3
    refine ge_aload_n a_X9_copy_8 rfl 0 rfl ?_
    refine ge_iload_n a_X9_copy_9 rfl 3 rfl ?_
    refine ge_cVI [.int a3] (rest := []) a_X9_copy_10 ok_X9_isSheet lk_X9_233 ⟨Nat.le_of_ble_eq_true rfl, Nat.le_of_ble_eq_true rfl⟩ (rfl : gm_cls 0 = 8) vc_8 (by decide) rfl rfl (Nat.le_of_ble_eq_true rfl) (t_X9_isSheet a3  h_1 _ hyp) (fun r_7 h_6 hyp => ?_)
    refine ge_if_ne a_X9_copy_13 (fun c_8 => ?_) (fun c_8 => ?_)
    · have hyp := gm_in hyp c_8
      refine ge_aload_n a_X9_copy_22 rfl 0 rfl ?_
      refine ge_getR (q := 33) a_X9_copy_23 fd_X9_66 (rfl : gm_cls 0 = 8) rfl ?_
      refine ge_iload_n a_X9_copy_26 rfl 1 rfl ?_
      obtain ⟨b_9, hyp⟩ := hyp
      refine ge_ald33 a_X9_copy_27 b_9 ?_
      refine ge_astore (lv' := [(6, .ref (35 + 2 * a1.toNatClampNeg)), (0, .ref 0), (1, .int a1), (2, .int a2), (3, .int a3), (4, .int a4), (5, .int a5)]) a_X9_copy_28 (Nat.le_of_ble_eq_true rfl) rfl ?_
      refine ge_aload_n a_X9_copy_30 rfl 1 rfl ?_
      refine ge_getR (q := 33) a_X9_copy_31 fd_X9_66 (rfl : gm_cls 0 = 8) rfl ?_
      refine ge_iload_n a_X9_copy_34 rfl 4 rfl ?_
      obtain ⟨b_10, hyp⟩ := hyp
      refine ge_ald33 a_X9_copy_35 b_10 ?_
      refine ge_astore (lv' := [(7, .ref (35 + 2 * a3.toNatClampNeg)), (6, .ref (35 + 2 * a1.toNatClampNeg)), (0, .ref 0), (1, .int a1), (2, .int a2), (3, .int a3), (4, .int a4), (5, .int a5)]) a_X9_copy_36 (Nat.le_of_ble_eq_true rfl) rfl ?_
      refine ge_aload a_X9_copy_38 1 rfl ?_
      refine ge_cVI [] (rest := []) a_X9_copy_40 ok_X5_isMissing lk_X9_236 ⟨Nat.le_of_ble_eq_true rfl, Nat.le_of_ble_eq_true rfl⟩ (gm_sheet b_9) vc_4 (by decide) rfl rfl (Nat.le_of_ble_eq_true rfl) (t_X5_isMissing (35 + 2 * a1.toNatClampNeg) (gm_sheet b_9) h_6 _ hyp) (fun r_12 h_11 hyp => ?_)
      refine ge_if_ne a_X9_copy_43 (fun c_13 => ?_) (fun c_13 => ?_)
      · have hyp := gm_in hyp c_13
        refine ge_aload_n a_X9_copy_54 rfl 2 rfl ?_
        refine ge_iconst (v := 5) a_X9_copy_55 rfl ?_
        refine ge_cVI [.int (5 : Int32)] (rest := []) a_X9_copy_56 ok_X9_finding lk_X9_79 ⟨Nat.le_of_ble_eq_true rfl, Nat.le_of_ble_eq_true rfl⟩ (rfl : gm_cls 0 = 8) vc_8 (by decide) rfl rfl (Nat.le_of_ble_eq_true rfl) (t_X9_finding (5 : Int32)  h_11 _ hyp) (fun r_15 h_14 hyp => ?_)
        exact ge_iret rfl a_X9_copy_59 hyp
      · have hyp := gm_ip hyp c_13
        refine ge_aload a_X9_copy_46 0 rfl ?_
        refine ge_cVI [] (rest := []) a_X9_copy_48 ok_X5_isMissing lk_X9_236 ⟨Nat.le_of_ble_eq_true rfl, Nat.le_of_ble_eq_true rfl⟩ (gm_sheet b_10) vc_4 (by decide) rfl rfl (Nat.le_of_ble_eq_true rfl) (t_X5_isMissing (35 + 2 * a3.toNatClampNeg) (gm_sheet b_10) h_11 _ hyp) (fun r_17 h_16 hyp => ?_)
        refine ge_if_eq a_X9_copy_51 (fun c_18 => ?_) (fun c_18 => ?_)
        · have hyp := gm_ip hyp c_18
          refine ge_aload a_X9_copy_60 1 rfl ?_
          refine ge_getI a_X9_copy_62 fd_X9_299 (gm_sheet b_9) ?_
          refine ge_aload a_X9_copy_65 0 rfl ?_
          refine ge_getI a_X9_copy_67 fd_X9_299 (gm_sheet b_10) ?_
          refine ge_icmp_eq a_X9_copy_70 (fun c_19 => ?_) (fun c_19 => ?_)
          · have hyp := gm_ip hyp c_19
            refine ge_aload a_X9_copy_79 1 rfl ?_
            refine ge_iload_n a_X9_copy_81 rfl 4 rfl ?_
            refine ge_iload a_X9_copy_82 7 rfl ?_
            refine ge_cVI [.int a2, .int a5] (rest := []) a_X9_copy_84 ok_X5_hasPart lk_X9_302 ⟨Nat.le_of_ble_eq_true rfl, Nat.le_of_ble_eq_true rfl⟩ (gm_sheet b_9) vc_4 (by decide) rfl rfl (Nat.le_of_ble_eq_true rfl) (t_X5_hasPart (35 + 2 * a1.toNatClampNeg) a2 a5 (gm_sheet b_9) h_16 _ hyp) (fun r_21 h_20 hyp => ?_)
            refine ge_if_eq a_X9_copy_87 (fun c_22 => ?_) (fun c_22 => ?_)
            · have hyp := gm_ip hyp c_22
              refine ge_aload_n a_X9_copy_102 rfl 2 rfl ?_
              refine ge_iconst (v := 0) a_X9_copy_103 rfl ?_
              refine ge_cVI [.int (0 : Int32)] (rest := []) a_X9_copy_104 ok_X9_finding lk_X9_79 ⟨Nat.le_of_ble_eq_true rfl, Nat.le_of_ble_eq_true rfl⟩ (rfl : gm_cls 0 = 8) vc_8 (by decide) rfl rfl (Nat.le_of_ble_eq_true rfl) (t_X9_finding (0 : Int32)  h_20 _ hyp) (fun r_24 h_23 hyp => ?_)
              exact ge_iret rfl a_X9_copy_107 hyp
            · have hyp := gm_in hyp c_22
              refine ge_aload a_X9_copy_90 0 rfl ?_
              refine ge_iload a_X9_copy_92 6 rfl ?_
              refine ge_iload a_X9_copy_94 7 rfl ?_
              refine ge_cVI [.int a4, .int a5] (rest := []) a_X9_copy_96 ok_X5_hasPart lk_X9_302 ⟨Nat.le_of_ble_eq_true rfl, Nat.le_of_ble_eq_true rfl⟩ (gm_sheet b_10) vc_4 (by decide) rfl rfl (Nat.le_of_ble_eq_true rfl) (t_X5_hasPart (35 + 2 * a3.toNatClampNeg) a4 a5 (gm_sheet b_10) h_20 _ hyp) (fun r_26 h_25 hyp => ?_)
              refine ge_if_ne a_X9_copy_99 (fun c_27 => ?_) (fun c_27 => ?_)
              · have hyp := gm_in hyp c_27
                refine ge_aload a_X9_copy_108 1 rfl ?_
                refine ge_getR (q := 35 + 2 * a1.toNatClampNeg + 1) a_X9_copy_110 fd_X9_305 (gm_sheet b_9) (kr4_0 (gm_sheet b_9)) ?_
                refine ge_iload_n a_X9_copy_113 rfl 4 rfl ?_
                refine ge_aload a_X9_copy_114 0 rfl ?_
                refine ge_getR (q := 35 + 2 * a3.toNatClampNeg + 1) a_X9_copy_116 fd_X9_305 (gm_sheet b_10) (kr4_0 (gm_sheet b_10)) ?_
                refine ge_iload a_X9_copy_119 6 rfl ?_
                refine ge_iload a_X9_copy_121 7 rfl ?_
                obtain ⟨z_28, hyp⟩ := hyp
                obtain ⟨z_29, hyp⟩ := hyp
                obtain ⟨z_30, hyp⟩ := hyp
                obtain ⟨z_31, hyp⟩ := hyp
                obtain ⟨z_32, hyp⟩ := hyp
                refine ge_copy (rest := []) a_X9_copy_123 lk_X9_308 (ka4_0 (gm_sheet b_9)) (ka4_0 (gm_sheet b_10)) z_28 z_29 z_30 z_31 z_32 (Nat.le_of_ble_eq_true rfl) (Nat.le_of_ble_eq_true rfl) ?_
                refine ge_nm (fun h_33 eh_33 => ?_)
                have hyp := hyp h_33 eh_33
                refine ge_iload a_X9_copy_126 7 rfl ?_
                exact ge_iret rfl a_X9_copy_128 hyp
              · have hyp := gm_ip hyp c_27
                refine ge_aload_n a_X9_copy_102 rfl 2 rfl ?_
                refine ge_iconst (v := 0) a_X9_copy_103 rfl ?_
                refine ge_cVI [.int (0 : Int32)] (rest := []) a_X9_copy_104 ok_X9_finding lk_X9_79 ⟨Nat.le_of_ble_eq_true rfl, Nat.le_of_ble_eq_true rfl⟩ (rfl : gm_cls 0 = 8) vc_8 (by decide) rfl rfl (Nat.le_of_ble_eq_true rfl) (t_X9_finding (0 : Int32)  h_25 _ hyp) (fun r_35 h_34 hyp => ?_)
                exact ge_iret rfl a_X9_copy_107 hyp
          · have hyp := gm_in hyp c_19
            refine ge_aload_n a_X9_copy_73 rfl 2 rfl ?_
            refine ge_iconst (v := 2) a_X9_copy_74 rfl ?_
            refine ge_cVI [.int (2 : Int32)] (rest := []) a_X9_copy_75 ok_X9_finding lk_X9_79 ⟨Nat.le_of_ble_eq_true rfl, Nat.le_of_ble_eq_true rfl⟩ (rfl : gm_cls 0 = 8) vc_8 (by decide) rfl rfl (Nat.le_of_ble_eq_true rfl) (t_X9_finding (2 : Int32)  h_16 _ hyp) (fun r_37 h_36 hyp => ?_)
            exact ge_iret rfl a_X9_copy_78 hyp
        · have hyp := gm_in hyp c_18
          refine ge_aload_n a_X9_copy_54 rfl 2 rfl ?_
          refine ge_iconst (v := 5) a_X9_copy_55 rfl ?_
          refine ge_cVI [.int (5 : Int32)] (rest := []) a_X9_copy_56 ok_X9_finding lk_X9_79 ⟨Nat.le_of_ble_eq_true rfl, Nat.le_of_ble_eq_true rfl⟩ (rfl : gm_cls 0 = 8) vc_8 (by decide) rfl rfl (Nat.le_of_ble_eq_true rfl) (t_X9_finding (5 : Int32)  h_16 _ hyp) (fun r_39 h_38 hyp => ?_)
          exact ge_iret rfl a_X9_copy_59 hyp
    · have hyp := gm_ip hyp c_8
      refine ge_aload_n a_X9_copy_16 rfl 0 rfl ?_
      refine ge_iconst (v := 0) a_X9_copy_17 rfl ?_
      refine ge_cVI [.int (0 : Int32)] (rest := []) a_X9_copy_18 ok_X9_finding lk_X9_79 ⟨Nat.le_of_ble_eq_true rfl, Nat.le_of_ble_eq_true rfl⟩ (rfl : gm_cls 0 = 8) vc_8 (by decide) rfl rfl (Nat.le_of_ble_eq_true rfl) (t_X9_finding (0 : Int32)  h_6 _ hyp) (fun r_41 h_40 hyp => ?_)
      exact ge_iret rfl a_X9_copy_21 hyp

theorem a_X9_load_0 : At m_X9_load 0 (.aload_n 0) 1 1 := at_i (by decide +kernel) rfl
theorem a_X9_load_1 : At m_X9_load 1 (.iload_n 1) 1 2 := at_i (by decide +kernel) rfl
theorem a_X9_load_2 : At m_X9_load 2 (.invokevirtual 233) 3 5 := at_i (by decide +kernel) rfl
theorem a_X9_load_5 : AtJ m_X9_load 5 (.ifCond .ne 9) (9) 14 8 := at_j (by decide +kernel) (by decide) rfl
theorem a_X9_load_8 : At m_X9_load 8 (.aload_n 0) 1 9 := at_i (by decide +kernel) rfl
theorem a_X9_load_9 : At m_X9_load 9 (.iconst 0) 1 10 := at_i (by decide +kernel) rfl
theorem a_X9_load_10 : At m_X9_load 10 (.invokevirtual 79) 3 13 := at_i (by decide +kernel) rfl
theorem a_X9_load_13 : At m_X9_load 13 (.ireturn) 1 14 := at_i (by decide +kernel) rfl
theorem a_X9_load_14 : At m_X9_load 14 (.aload_n 0) 1 15 := at_i (by decide +kernel) rfl
theorem a_X9_load_15 : At m_X9_load 15 (.getfield 66) 3 18 := at_i (by decide +kernel) rfl
theorem a_X9_load_18 : At m_X9_load 18 (.iload_n 1) 1 19 := at_i (by decide +kernel) rfl
theorem a_X9_load_19 : At m_X9_load 19 (.aaload) 1 20 := at_i (by decide +kernel) rfl
theorem a_X9_load_20 : At m_X9_load 20 (.invokevirtual 236) 3 23 := at_i (by decide +kernel) rfl
theorem a_X9_load_23 : AtJ m_X9_load 23 (.ifCond .eq 9) (9) 32 26 := at_j (by decide +kernel) (by decide) rfl
theorem a_X9_load_26 : At m_X9_load 26 (.aload_n 0) 1 27 := at_i (by decide +kernel) rfl
theorem a_X9_load_27 : At m_X9_load 27 (.iconst 5) 1 28 := at_i (by decide +kernel) rfl
theorem a_X9_load_28 : At m_X9_load 28 (.invokevirtual 79) 3 31 := at_i (by decide +kernel) rfl
theorem a_X9_load_31 : At m_X9_load 31 (.ireturn) 1 32 := at_i (by decide +kernel) rfl
theorem a_X9_load_32 : At m_X9_load 32 (.aload_n 0) 1 33 := at_i (by decide +kernel) rfl
theorem a_X9_load_33 : At m_X9_load 33 (.getfield 10) 3 36 := at_i (by decide +kernel) rfl
theorem a_X9_load_36 : At m_X9_load 36 (.aload_n 0) 1 37 := at_i (by decide +kernel) rfl
theorem a_X9_load_37 : At m_X9_load 37 (.getfield 66) 3 40 := at_i (by decide +kernel) rfl
theorem a_X9_load_40 : At m_X9_load 40 (.iload_n 1) 1 41 := at_i (by decide +kernel) rfl
theorem a_X9_load_41 : At m_X9_load 41 (.aaload) 1 42 := at_i (by decide +kernel) rfl
theorem a_X9_load_42 : At m_X9_load 42 (.invokevirtual 314) 3 45 := at_i (by decide +kernel) rfl
theorem a_X9_load_45 : At m_X9_load 45 (.ireturn) 1 46 := at_i (by decide +kernel) rfl
def f_X9_load (a1 : Int32) (h : Mem) (Q : Int32 → Mem → Prop) : Prop :=
  f_X9_isSheet a1 h fun r_2 h_1 =>
  if r_2 = 0 then (
    f_X9_finding (0 : Int32) h_1 fun r_14 h_13 =>
    Q r_14 h_13)
  else (
    vp_in a1 4 ∧
    f_X5_isMissing (35 + 2 * a1.toNatClampNeg) h_1 fun r_6 h_5 =>
    if r_6 = 0 then (
      vp_in a1 4 ∧
      f_X6_takeWords 1 (35 + 2 * a1.toNatClampNeg) h_5 fun r_10 h_9 =>
      Q r_10 h_9)
    else (
      f_X9_finding (5 : Int32) h_5 fun r_12 h_11 =>
      Q r_12 h_11))
set_option maxRecDepth 20000 in
theorem t_X9_load (a1 : Int32)  (h : Mem) (Q : Int32 → Mem → Prop) (hyp : f_X9_load a1 h Q) : Cn m_X9_load [.ref 0, .int a1] h (GI Q) := by
  refine ge_entry (lv := [(0, .ref 0), (1, .int a1)]) pn_X9 (Nat.le_of_ble_eq_true rfl) rfl ?_
  unfold f_X9_load at hyp
  refine ge_aload_n a_X9_load_0 rfl 0 rfl ?_
  refine ge_iload_n a_X9_load_1 rfl 1 rfl ?_
  refine ge_cVI [.int a1] (rest := []) a_X9_load_2 ok_X9_isSheet lk_X9_233 ⟨Nat.le_of_ble_eq_true rfl, Nat.le_of_ble_eq_true rfl⟩ (rfl : gm_cls 0 = 8) vc_8 (by decide) rfl rfl (Nat.le_of_ble_eq_true rfl) (t_X9_isSheet a1  h _ hyp) (fun r_2 h_1 hyp => ?_)
  refine ge_if_ne a_X9_load_5 (fun c_3 => ?_) (fun c_3 => ?_)
  · have hyp := gm_in hyp c_3
    refine ge_aload_n a_X9_load_14 rfl 0 rfl ?_
    refine ge_getR (q := 33) a_X9_load_15 fd_X9_66 (rfl : gm_cls 0 = 8) rfl ?_
    refine ge_iload_n a_X9_load_18 rfl 1 rfl ?_
    obtain ⟨b_4, hyp⟩ := hyp
    refine ge_ald33 a_X9_load_19 b_4 ?_
    refine ge_cVI [] (rest := []) a_X9_load_20 ok_X5_isMissing lk_X9_236 ⟨Nat.le_of_ble_eq_true rfl, Nat.le_of_ble_eq_true rfl⟩ (gm_sheet b_4) vc_4 (by decide) rfl rfl (Nat.le_of_ble_eq_true rfl) (t_X5_isMissing (35 + 2 * a1.toNatClampNeg) (gm_sheet b_4) h_1 _ hyp) (fun r_6 h_5 hyp => ?_)
    refine ge_if_eq a_X9_load_23 (fun c_7 => ?_) (fun c_7 => ?_)
    · have hyp := gm_ip hyp c_7
      refine ge_aload_n a_X9_load_32 rfl 0 rfl ?_
      refine ge_getR (q := 1) a_X9_load_33 fd_X9_10 (rfl : gm_cls 0 = 8) rfl ?_
      refine ge_aload_n a_X9_load_36 rfl 0 rfl ?_
      refine ge_getR (q := 33) a_X9_load_37 fd_X9_66 (rfl : gm_cls 0 = 8) rfl ?_
      refine ge_iload_n a_X9_load_40 rfl 1 rfl ?_
      obtain ⟨b_8, hyp⟩ := hyp
      refine ge_ald33 a_X9_load_41 b_8 ?_
      refine ge_cVI [.ref (35 + 2 * a1.toNatClampNeg)] (rest := []) a_X9_load_42 ok_X6_takeWords lk_X9_314 ⟨Nat.le_of_ble_eq_true rfl, Nat.le_of_ble_eq_true rfl⟩ (rfl : gm_cls 1 = 5) vc_5 (by decide) rfl rfl (Nat.le_of_ble_eq_true rfl) (t_X6_takeWords 1 (35 + 2 * a1.toNatClampNeg) (rfl : gm_cls 1 = 5) (gm_sheet b_8) h_5 _ hyp) (fun r_10 h_9 hyp => ?_)
      exact ge_iret rfl a_X9_load_45 hyp
    · have hyp := gm_in hyp c_7
      refine ge_aload_n a_X9_load_26 rfl 0 rfl ?_
      refine ge_iconst (v := 5) a_X9_load_27 rfl ?_
      refine ge_cVI [.int (5 : Int32)] (rest := []) a_X9_load_28 ok_X9_finding lk_X9_79 ⟨Nat.le_of_ble_eq_true rfl, Nat.le_of_ble_eq_true rfl⟩ (rfl : gm_cls 0 = 8) vc_8 (by decide) rfl rfl (Nat.le_of_ble_eq_true rfl) (t_X9_finding (5 : Int32)  h_5 _ hyp) (fun r_12 h_11 hyp => ?_)
      exact ge_iret rfl a_X9_load_31 hyp
  · have hyp := gm_ip hyp c_3
    refine ge_aload_n a_X9_load_8 rfl 0 rfl ?_
    refine ge_iconst (v := 0) a_X9_load_9 rfl ?_
    refine ge_cVI [.int (0 : Int32)] (rest := []) a_X9_load_10 ok_X9_finding lk_X9_79 ⟨Nat.le_of_ble_eq_true rfl, Nat.le_of_ble_eq_true rfl⟩ (rfl : gm_cls 0 = 8) vc_8 (by decide) rfl rfl (Nat.le_of_ble_eq_true rfl) (t_X9_finding (0 : Int32)  h_1 _ hyp) (fun r_14 h_13 hyp => ?_)
    exact ge_iret rfl a_X9_load_13 hyp
