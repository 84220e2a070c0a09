theorem a_X9_firstWrongTime_0 : At m_X9_firstWrongTime 0 (.aload_n 0) 1 1 := at_i (by decide +kernel) rfl
theorem a_X9_firstWrongTime_1 : At m_X9_firstWrongTime 1 (.getfield 25) 3 4 := at_i (by decide +kernel) rfl
theorem a_X9_firstWrongTime_4 : At m_X9_firstWrongTime 4 (.aload_n 0) 1 5 := at_i (by decide +kernel) rfl
theorem a_X9_firstWrongTime_5 : At m_X9_firstWrongTime 5 (.getfield 10) 3 8 := at_i (by decide +kernel) rfl
theorem a_X9_firstWrongTime_8 : At m_X9_firstWrongTime 8 (.getfield 94) 3 11 := at_i (by decide +kernel) rfl
theorem a_X9_firstWrongTime_11 : At m_X9_firstWrongTime 11 (.invokevirtual 166) 3 14 := at_i (by decide +kernel) rfl
theorem a_X9_firstWrongTime_14 : At m_X9_firstWrongTime 14 (.aload_n 0) 1 15 := at_i (by decide +kernel) rfl
theorem a_X9_firstWrongTime_15 : At m_X9_firstWrongTime 15 (.getfield 10) 3 18 := at_i (by decide +kernel) rfl
theorem a_X9_firstWrongTime_18 : At m_X9_firstWrongTime 18 (.getfield 127) 3 21 := at_i (by decide +kernel) rfl
theorem a_X9_firstWrongTime_21 : At m_X9_firstWrongTime 21 (.istore_n 2) 1 22 := at_i (by decide +kernel) rfl
theorem a_X9_firstWrongTime_22 : At m_X9_firstWrongTime 22 (.iconst 0) 1 23 := at_i (by decide +kernel) rfl
theorem a_X9_firstWrongTime_23 : At m_X9_firstWrongTime 23 (.istore_n 3) 1 24 := at_i (by decide +kernel) rfl
theorem a_X9_firstWrongTime_24 : At m_X9_firstWrongTime 24 (.iload_n 3) 1 25 := at_i (by decide +kernel) rfl
theorem a_X9_firstWrongTime_25 : At m_X9_firstWrongTime 25 (.aload_n 1) 1 26 := at_i (by decide +kernel) rfl
theorem a_X9_firstWrongTime_26 : At m_X9_firstWrongTime 26 (.getfield 295) 3 29 := at_i (by decide +kernel) rfl
theorem a_X9_firstWrongTime_29 : AtJ m_X9_firstWrongTime 29 (.if_icmp .ge 77) (77) 106 32 := at_j (by decide +kernel) (by decide) rfl
theorem a_X9_firstWrongTime_32 : At m_X9_firstWrongTime 32 (.aload_n 0) 1 33 := at_i (by decide +kernel) rfl
theorem a_X9_firstWrongTime_33 : At m_X9_firstWrongTime 33 (.getfield 10) 3 36 := at_i (by decide +kernel) rfl
theorem a_X9_firstWrongTime_36 : At m_X9_firstWrongTime 36 (.getfield 142) 3 39 := at_i (by decide +kernel) rfl
theorem a_X9_firstWrongTime_39 : At m_X9_firstWrongTime 39 (.iload_n 3) 1 40 := at_i (by decide +kernel) rfl
theorem a_X9_firstWrongTime_40 : At m_X9_firstWrongTime 40 (.iadd) 1 41 := at_i (by decide +kernel) rfl
theorem a_X9_firstWrongTime_41 : At m_X9_firstWrongTime 41 (.istore 4) 2 43 := at_i (by decide +kernel) rfl
theorem a_X9_firstWrongTime_43 : At m_X9_firstWrongTime 43 (.aload_n 0) 1 44 := at_i (by decide +kernel) rfl
theorem a_X9_firstWrongTime_44 : At m_X9_firstWrongTime 44 (.getfield 10) 3 47 := at_i (by decide +kernel) rfl
theorem a_X9_firstWrongTime_47 : At m_X9_firstWrongTime 47 (.iload 4) 2 49 := at_i (by decide +kernel) rfl
theorem a_X9_firstWrongTime_49 : At m_X9_firstWrongTime 49 (.invokevirtual 90) 3 52 := at_i (by decide +kernel) rfl
theorem a_X9_firstWrongTime_52 : AtJ m_X9_firstWrongTime 52 (.ifCond .ne 7) (7) 59 55 := at_j (by decide +kernel) (by decide) rfl
theorem a_X9_firstWrongTime_55 : At m_X9_firstWrongTime 55 (.iconst 1) 1 56 := at_i (by decide +kernel) rfl
theorem a_X9_firstWrongTime_56 : At m_X9_firstWrongTime 56 (.iload_n 3) 1 57 := at_i (by decide +kernel) rfl
theorem a_X9_firstWrongTime_57 : At m_X9_firstWrongTime 57 (.iadd) 1 58 := at_i (by decide +kernel) rfl
theorem a_X9_firstWrongTime_58 : At m_X9_firstWrongTime 58 (.ireturn) 1 59 := at_i (by decide +kernel) rfl
theorem a_X9_firstWrongTime_59 : At m_X9_firstWrongTime 59 (.iload_n 2) 1 60 := at_i (by decide +kernel) rfl
theorem a_X9_firstWrongTime_60 : At m_X9_firstWrongTime 60 (.aload_n 0) 1 61 := at_i (by decide +kernel) rfl
theorem a_X9_firstWrongTime_61 : At m_X9_firstWrongTime 61 (.getfield 10) 3 64 := at_i (by decide +kernel) rfl
theorem a_X9_firstWrongTime_64 : At m_X9_firstWrongTime 64 (.iload 4) 2 66 := at_i (by decide +kernel) rfl
theorem a_X9_firstWrongTime_66 : At m_X9_firstWrongTime 66 (.aload_n 0) 1 67 := at_i (by decide +kernel) rfl
theorem a_X9_firstWrongTime_67 : At m_X9_firstWrongTime 67 (.getfield 25) 3 70 := at_i (by decide +kernel) rfl
theorem a_X9_firstWrongTime_70 : At m_X9_firstWrongTime 70 (.getfield 160) 3 73 := at_i (by decide +kernel) rfl
theorem a_X9_firstWrongTime_73 : At m_X9_firstWrongTime 73 (.invokevirtual 97) 3 76 := at_i (by decide +kernel) rfl
theorem a_X9_firstWrongTime_76 : At m_X9_firstWrongTime 76 (.iadd) 1 77 := at_i (by decide +kernel) rfl
theorem a_X9_firstWrongTime_77 : At m_X9_firstWrongTime 77 (.istore_n 2) 1 78 := at_i (by decide +kernel) rfl
theorem a_X9_firstWrongTime_78 : At m_X9_firstWrongTime 78 (.aload_n 1) 1 79 := at_i (by decide +kernel) rfl
theorem a_X9_firstWrongTime_79 : At m_X9_firstWrongTime 79 (.getfield 305) 3 82 := at_i (by decide +kernel) rfl
theorem a_X9_firstWrongTime_82 : At m_X9_firstWrongTime 82 (.iload_n 3) 1 83 := at_i (by decide +kernel) rfl
theorem a_X9_firstWrongTime_83 : At m_X9_firstWrongTime 83 (.iaload) 1 84 := at_i (by decide +kernel) rfl
theorem a_X9_firstWrongTime_84 : At m_X9_firstWrongTime 84 (.iload_n 2) 1 85 := at_i (by decide +kernel) rfl
theorem a_X9_firstWrongTime_85 : AtJ m_X9_firstWrongTime 85 (.if_icmp .eq 7) (7) 92 88 := at_j (by decide +kernel) (by decide) rfl
theorem a_X9_firstWrongTime_88 : At m_X9_firstWrongTime 88 (.iconst 1) 1 89 := at_i (by decide +kernel) rfl
theorem a_X9_firstWrongTime_89 : At m_X9_firstWrongTime 89 (.iload_n 3) 1 90 := at_i (by decide +kernel) rfl
theorem a_X9_firstWrongTime_90 : At m_X9_firstWrongTime 90 (.iadd) 1 91 := at_i (by decide +kernel) rfl
theorem a_X9_firstWrongTime_91 : At m_X9_firstWrongTime 91 (.ireturn) 1 92 := at_i (by decide +kernel) rfl
theorem a_X9_firstWrongTime_92 : At m_X9_firstWrongTime 92 (.aload_n 0) 1 93 := at_i (by decide +kernel) rfl
theorem a_X9_firstWrongTime_93 : At m_X9_firstWrongTime 93 (.getfield 25) 3 96 := at_i (by decide +kernel) rfl
theorem a_X9_firstWrongTime_96 : At m_X9_firstWrongTime 96 (.iconst 1) 1 97 := at_i (by decide +kernel) rfl
theorem a_X9_firstWrongTime_97 : At m_X9_firstWrongTime 97 (.invokevirtual 170) 3 100 := at_i (by decide +kernel) rfl
theorem a_X9_firstWrongTime_100 : At m_X9_firstWrongTime 100 (.iinc 3 1) 3 103 := at_i (by decide +kernel) rfl
theorem a_X9_firstWrongTime_103 : AtJ m_X9_firstWrongTime 103 (.goto (-79)) (-79) 24 106 := at_j (by decide +kernel) (by decide) rfl
theorem a_X9_firstWrongTime_106 : At m_X9_firstWrongTime 106 (.iconst 0) 1 107 := at_i (by decide +kernel) rfl
theorem a_X9_firstWrongTime_107 : At m_X9_firstWrongTime 107 (.ireturn) 1 108 := at_i (by decide +kernel) rfl
def f_X9_firstWrongTime_b24 (q1 : Nat)  (Q : Int32 → Mem → Prop)  (K24 : Int32 → Int32 → Mem → Prop) (v2 : Int32) (v3 : Int32) (h : Mem) : Prop :=
  if h q1 2 ≤ v3 then (
    Q (0 : Int32) h)
  else (
    ∀ v_4 : Int32, v_4 = (h 1 6) + v3 →
    f_X6_isLine 1 v_4 h fun r_6 h_5 =>
    if r_6 = 0 then (
      Q ((1 : Int32) + v3) h_5)
    else (
      f_X6_takesOf 1 v_4 (h_5 19 0) h_5 fun r_9 h_8 =>
      ∀ v_10 : Int32, v_10 = v2 + r_9 →
      vp_in v3 40 ∧
      if h_8 (q1 + 1) v3.toNatClampNeg = v_10 then (
        f_X1_step 19 (1 : Int32) h_8 fun h_13 =>
        ∀ v_14 : Int32, v_14 = v3 + (1 : Int32) →
        K24 v_10 v_14 h_13)
      else (
        Q ((1 : Int32) + v3) h_8)))
set_option maxRecDepth 20000 in
theorem t_X9_firstWrongTime_b24 (q1 : Nat)  (hq1 : gm_cls q1 = 4)  (Q : Int32 → Mem → Prop)   : ∀ (n : Nat) (v2 : Int32) (v3 : Int32) (h : Mem), gm_it2 (f_X9_firstWrongTime_b24 q1  Q ) n v2 v3 h → EV m_X9_firstWrongTime (GI Q) 24 [(0, .ref 0), (1, .ref q1), (2, .int v2), (3, .int v3)] [] h := by
  refine ge_loop2 (P := fun v2 v3 h => EV m_X9_firstWrongTime (GI Q) 24 [(0, .ref 0), (1, .ref q1), (2, .int v2), (3, .int v3)] [] h) (fun K24 hK24 v2 v3 h hyp => ?_)
  unfold f_X9_firstWrongTime_b24 at hyp
  refine ge_iload_n a_X9_firstWrongTime_24 rfl 3 rfl ?_
  refine ge_aload_n a_X9_firstWrongTime_25 rfl 1 rfl ?_
  refine ge_getI a_X9_firstWrongTime_26 fd_X9_295 hq1 ?_
  refine ge_icmp_ge a_X9_firstWrongTime_29 (fun c_3 => ?_) (fun c_3 => ?_)
  · have hyp := gm_ip hyp c_3
    refine ge_iconst (v := 0) a_X9_firstWrongTime_106 rfl ?_
    exact ge_iret rfl a_X9_firstWrongTime_107 hyp
  · have hyp := gm_in hyp c_3
    refine ge_aload_n a_X9_firstWrongTime_32 rfl 0 rfl ?_
    refine ge_getR (q := 1) a_X9_firstWrongTime_33 fd_X9_10 (rfl : gm_cls 0 = 8) rfl ?_
    refine ge_getI a_X9_firstWrongTime_36 fd_X9_142 (rfl : gm_cls 1 = 5) ?_
    refine ge_iload_n a_X9_firstWrongTime_39 rfl 3 rfl ?_
    refine ge_iadd a_X9_firstWrongTime_40 ?_
    refine ge_topi (fun v_4 ev_4 => ?_)
    have hyp := hyp v_4 ev_4
    refine ge_istore (lv' := [(4, .int v_4), (0, .ref 0), (1, .ref q1), (2, .int v2), (3, .int v3)]) a_X9_firstWrongTime_41 (Nat.le_of_ble_eq_true rfl) rfl ?_
    refine ge_aload_n a_X9_firstWrongTime_43 rfl 1 rfl ?_
    refine ge_getR (q := 1) a_X9_firstWrongTime_44 fd_X9_10 (rfl : gm_cls 0 = 8) rfl ?_
    refine ge_iload a_X9_firstWrongTime_47 0 rfl ?_
    refine ge_cVI [.int v_4] (rest := []) a_X9_firstWrongTime_49 ok_X6_isLine lk_X9_90 ⟨Nat.le_of_ble_eq_true rfl, Nat.le_of_ble_eq_true rfl⟩ (rfl : gm_cls 1 = 5) vc_5 (by decide) rfl rfl (Nat.le_of_ble_eq_true rfl) (t_X6_isLine 1 v_4 (rfl : gm_cls 1 = 5) h _ hyp) (fun r_6 h_5 hyp => ?_)
    refine ge_if_ne a_X9_firstWrongTime_52 (fun c_7 => ?_) (fun c_7 => ?_)
    · have hyp := gm_in hyp c_7
      refine ge_iload_n a_X9_firstWrongTime_59 rfl 3 rfl ?_
      refine ge_aload_n a_X9_firstWrongTime_60 rfl 1 rfl ?_
      refine ge_getR (q := 1) a_X9_firstWrongTime_61 fd_X9_10 (rfl : gm_cls 0 = 8) rfl ?_
      refine ge_iload a_X9_firstWrongTime_64 0 rfl ?_
      refine ge_aload_n a_X9_firstWrongTime_66 rfl 1 rfl ?_
      refine ge_getR (q := 19) a_X9_firstWrongTime_67 fd_X9_25 (rfl : gm_cls 0 = 8) rfl ?_
      refine ge_getI a_X9_firstWrongTime_70 fd_X9_160 (rfl : gm_cls 19 = 0) ?_
      refine ge_cVI [.int v_4, .int (h_5 19 0)] (rest := [.int v2]) a_X9_firstWrongTime_73 ok_X6_takesOf lk_X9_97 ⟨Nat.le_of_ble_eq_true rfl, Nat.le_of_ble_eq_true rfl⟩ (rfl : gm_cls 1 = 5) vc_5 (by decide) rfl rfl (Nat.le_of_ble_eq_true rfl) (t_X6_takesOf 1 v_4 (h_5 19 0) (rfl : gm_cls 1 = 5) h_5 _ hyp) (fun r_9 h_8 hyp => ?_)
      refine ge_iadd a_X9_firstWrongTime_76 ?_
      refine ge_topi (fun v_10 ev_10 => ?_)
      have hyp := hyp v_10 ev_10
      refine ge_istore_n (lv' := [(2, .int v_10), (4, .int v_4), (0, .ref 0), (1, .ref q1), (3, .int v3)]) a_X9_firstWrongTime_77 rfl (Nat.le_of_ble_eq_true rfl) rfl ?_
      refine ge_aload_n a_X9_firstWrongTime_78 rfl 3 rfl ?_
      refine ge_getR (q := q1 + 1) a_X9_firstWrongTime_79 fd_X9_305 hq1 (kr4_0 hq1) ?_
      refine ge_iload_n a_X9_firstWrongTime_82 rfl 4 rfl ?_
      obtain ⟨b_11, hyp⟩ := hyp
      refine ge_iald (j := v3.toNatClampNeg) a_X9_firstWrongTime_83 (ka4_0 hq1) b_11 rfl ?_
      refine ge_iload_n a_X9_firstWrongTime_84 rfl 0 rfl ?_
      refine ge_icmp_eq a_X9_firstWrongTime_85 (fun c_12 => ?_) (fun c_12 => ?_)
      · have hyp := gm_ip hyp c_12
        refine ge_aload_n a_X9_firstWrongTime_92 rfl 2 rfl ?_
        refine ge_getR (q := 19) a_X9_firstWrongTime_93 fd_X9_25 (rfl : gm_cls 0 = 8) rfl ?_
        refine ge_iconst (v := 1) a_X9_firstWrongTime_96 rfl ?_
        refine ge_cVV [.int (1 : Int32)] (rest := []) a_X9_firstWrongTime_97 ok_X1_step lk_X9_170 ⟨Nat.le_of_ble_eq_true rfl, Nat.le_of_ble_eq_true rfl⟩ (rfl : gm_cls 19 = 0) vc_0 (by decide) rfl rfl (Nat.le_of_ble_eq_true rfl) (t_X1_step 19 (1 : Int32) (rfl : gm_cls 19 = 0) h_8 _ hyp) (fun h_13 hyp => ?_)
        obtain ⟨v_14, ev_14⟩ : ∃ y : Int32, y = v3 + (1 : Int32) := ⟨_, rfl⟩
        have hyp := hyp v_14 ev_14
        refine ge_iinc (v := v_14) (lv' := [(3, .int v_14), (2, .int v_10), (4, .int v_4), (0, .ref 0), (1, .ref q1)]) a_X9_firstWrongTime_100 4 rfl ev_14.symm (Nat.le_of_ble_eq_true rfl) rfl ?_
        refine ge_goto a_X9_firstWrongTime_103 ?_
        exact ge_sub [3, 4, 1, 0] rfl (hK24 v_10 v_14 h_13 hyp)
      · have hyp := gm_in hyp c_12
        refine ge_iconst (v := 1) a_X9_firstWrongTime_88 rfl ?_
        refine ge_iload_n a_X9_firstWrongTime_89 rfl 4 rfl ?_
        refine ge_iadd a_X9_firstWrongTime_90 ?_
        exact ge_iret rfl a_X9_firstWrongTime_91 hyp
    · have hyp := gm_ip hyp c_7
      refine ge_iconst (v := 1) a_X9_firstWrongTime_55 rfl ?_
      refine ge_iload_n a_X9_firstWrongTime_56 rfl 4 rfl ?_
      refine ge_iadd a_X9_firstWrongTime_57 ?_
      exact ge_iret rfl a_X9_firstWrongTime_58 hyp
def f_X9_firstWrongTime (q1 : Nat) (h : Mem) (Q : Int32 → Mem → Prop) : Prop :=
  f_X1_takeFrom 19 5 10 h fun h_1 =>
  ∀ v_2 : Int32, v_2 = h_1 1 7 →
  gm_it2 (f_X9_firstWrongTime_b24 q1  Q ) gm_F v_2 (0 : Int32) h_1
set_option maxRecDepth 20000 in
theorem t_X9_firstWrongTime (q1 : Nat) (hq1 : gm_cls q1 = 4) (h : Mem) (Q : Int32 → Mem → Prop) (hyp : f_X9_firstWrongTime q1 h Q) : Cn m_X9_firstWrongTime [.ref 0, .ref q1] h (GI Q) := by
  refine ge_entry (lv := [(0, .ref 0), (1, .ref q1)]) pn_X9 (Nat.le_of_ble_eq_true rfl) rfl ?_
  unfold f_X9_firstWrongTime at hyp
  refine ge_aload_n a_X9_firstWrongTime_0 rfl 0 rfl ?_
  refine ge_getR (q := 19) a_X9_firstWrongTime_1 fd_X9_25 (rfl : gm_cls 0 = 8) rfl ?_
  refine ge_aload_n a_X9_firstWrongTime_4 rfl 0 rfl ?_
  refine ge_getR (q := 1) a_X9_firstWrongTime_5 fd_X9_10 (rfl : gm_cls 0 = 8) rfl ?_
  refine ge_getR (q := 5) a_X9_firstWrongTime_8 fd_X9_94 (rfl : gm_cls 1 = 5) rfl ?_
  refine ge_cVV [.ref 5] (rest := []) a_X9_firstWrongTime_11 ok_X1_takeFrom lk_X9_166 ⟨Nat.le_of_ble_eq_true rfl, Nat.le_of_ble_eq_true rfl⟩ (rfl : gm_cls 19 = 0) vc_0 (by decide) rfl rfl (Nat.le_of_ble_eq_true rfl) (t_X1_takeFrom 19 5 10 (rfl : gm_cls 19 = 0) ga_5 h _ hyp) (fun h_1 hyp => ?_)
  refine ge_aload_n a_X9_firstWrongTime_14 rfl 0 rfl ?_
  refine ge_getR (q := 1) a_X9_firstWrongTime_15 fd_X9_10 (rfl : gm_cls 0 = 8) rfl ?_
  refine ge_getI a_X9_firstWrongTime_18 fd_X9_127 (rfl : gm_cls 1 = 5) ?_
  refine ge_topi (fun v_2 ev_2 => ?_)
  have hyp := hyp v_2 ev_2
  refine ge_istore_n (lv' := [(2, .int v_2), (0, .ref 0), (1, .ref q1)]) a_X9_firstWrongTime_21 rfl (Nat.le_of_ble_eq_true rfl) rfl ?_
  refine ge_iconst (v := 0) a_X9_firstWrongTime_22 rfl ?_
  refine ge_istore_n (lv' := [(3, .int (0 : Int32)), (2, .int v_2), (0, .ref 0), (1, .ref q1)]) a_X9_firstWrongTime_23 rfl (Nat.le_of_ble_eq_true rfl) rfl ?_
  exact ge_sub [2, 3, 1, 0] rfl (t_X9_firstWrongTime_b24 q1  hq1  Q   gm_F v_2 (0 : Int32) h_1 hyp)

theorem a_X9_judge_0 : At m_X9_judge 0 (.aload_n 0) 1 1 := at_i (by decide +kernel) rfl
theorem a_X9_judge_1 : At m_X9_judge 1 (.iload_n 1) 1 2 := at_i (by decide +kernel) rfl
theorem a_X9_judge_2 : At m_X9_judge 2 (.invokevirtual 233) 3 5 := at_i (by decide +kernel) rfl
theorem a_X9_judge_5 : AtJ m_X9_judge 5 (.ifCond .ne 9) (9) 14 8 := at_j (by decide +kernel) (by decide) rfl
theorem a_X9_judge_8 : At m_X9_judge 8 (.aload_n 0) 1 9 := at_i (by decide +kernel) rfl
theorem a_X9_judge_9 : At m_X9_judge 9 (.iconst 0) 1 10 := at_i (by decide +kernel) rfl
theorem a_X9_judge_10 : At m_X9_judge 10 (.invokevirtual 79) 3 13 := at_i (by decide +kernel) rfl
theorem a_X9_judge_13 : At m_X9_judge 13 (.ireturn) 1 14 := at_i (by decide +kernel) rfl
theorem a_X9_judge_14 : At m_X9_judge 14 (.aload_n 0) 1 15 := at_i (by decide +kernel) rfl
theorem a_X9_judge_15 : At m_X9_judge 15 (.getfield 66) 3 18 := at_i (by decide +kernel) rfl
theorem a_X9_judge_18 : At m_X9_judge 18 (.iload_n 1) 1 19 := at_i (by decide +kernel) rfl
theorem a_X9_judge_19 : At m_X9_judge 19 (.aaload) 1 20 := at_i (by decide +kernel) rfl
theorem a_X9_judge_20 : At m_X9_judge 20 (.invokevirtual 236) 3 23 := at_i (by decide +kernel) rfl
theorem a_X9_judge_23 : AtJ m_X9_judge 23 (.ifCond .eq 9) (9) 32 26 := at_j (by decide +kernel) (by decide) rfl
theorem a_X9_judge_26 : At m_X9_judge 26 (.aload_n 0) 1 27 := at_i (by decide +kernel) rfl
theorem a_X9_judge_27 : At m_X9_judge 27 (.iconst 5) 1 28 := at_i (by decide +kernel) rfl
theorem a_X9_judge_28 : At m_X9_judge 28 (.invokevirtual 79) 3 31 := at_i (by decide +kernel) rfl
theorem a_X9_judge_31 : At m_X9_judge 31 (.ireturn) 1 32 := at_i (by decide +kernel) rfl
theorem a_X9_judge_32 : At m_X9_judge 32 (.aload_n 0) 1 33 := at_i (by decide +kernel) rfl
theorem a_X9_judge_33 : At m_X9_judge 33 (.aload_n 0) 1 34 := at_i (by decide +kernel) rfl
theorem a_X9_judge_34 : At m_X9_judge 34 (.getfield 66) 3 37 := at_i (by decide +kernel) rfl
theorem a_X9_judge_37 : At m_X9_judge 37 (.iload_n 1) 1 38 := at_i (by decide +kernel) rfl
theorem a_X9_judge_38 : At m_X9_judge 38 (.aaload) 1 39 := at_i (by decide +kernel) rfl
theorem a_X9_judge_39 : At m_X9_judge 39 (.invokevirtual 318) 3 42 := at_i (by decide +kernel) rfl
theorem a_X9_judge_42 : At m_X9_judge 42 (.ireturn) 1 43 := at_i (by decide +kernel) rfl
def f_X9_judge (a1 : Int32) (h : Mem) (Q : Int32 → Mem → Prop) : Prop :=
  f_X9_isSheet a1 h fun r_2 h_1 =>
  if r_2 = 0 then (
    f_X9_finding (0 : Int32) h_1 fun r_14 h_13 =>
    Q r_14 h_13)
  else (
    vp_in a1 4 ∧
    f_X5_isMissing (35 + 2 * a1.toNatClampNeg) h_1 fun r_6 h_5 =>
    if r_6 = 0 then (
      vp_in a1 4 ∧
      f_X9_firstWrongTime (35 + 2 * a1.toNatClampNeg) h_5 fun r_10 h_9 =>
      Q r_10 h_9)
    else (
      f_X9_finding (5 : Int32) h_5 fun r_12 h_11 =>
      Q r_12 h_11))
set_option maxRecDepth 20000 in
theorem t_X9_judge (a1 : Int32)  (h : Mem) (Q : Int32 → Mem → Prop) (hyp : f_X9_judge a1 h Q) : Cn m_X9_judge [.ref 0, .int a1] h (GI Q) := by
  refine ge_entry (lv := [(0, .ref 0), (1, .int a1)]) pn_X9 (Nat.le_of_ble_eq_true rfl) rfl ?_
  unfold f_X9_judge at hyp
  refine ge_aload_n a_X9_judge_0 rfl 0 rfl ?_
  refine ge_iload_n a_X9_judge_1 rfl 1 rfl ?_
  refine ge_cVI [.int a1] (rest := []) a_X9_judge_2 ok_X9_isSheet lk_X9_233 ⟨Nat.le_of_ble_eq_true rfl, Nat.le_of_ble_eq_true rfl⟩ (rfl : gm_cls 0 = 8) vc_8 (by decide) rfl rfl (Nat.le_of_ble_eq_true rfl) (t_X9_isSheet a1  h _ hyp) (fun r_2 h_1 hyp => ?_)
  refine ge_if_ne a_X9_judge_5 (fun c_3 => ?_) (fun c_3 => ?_)
  · have hyp := gm_in hyp c_3
    refine ge_aload_n a_X9_judge_14 rfl 0 rfl ?_
    refine ge_getR (q := 33) a_X9_judge_15 fd_X9_66 (rfl : gm_cls 0 = 8) rfl ?_
    refine ge_iload_n a_X9_judge_18 rfl 1 rfl ?_
    obtain ⟨b_4, hyp⟩ := hyp
    refine ge_ald33 a_X9_judge_19 b_4 ?_
    refine ge_cVI [] (rest := []) a_X9_judge_20 ok_X5_isMissing lk_X9_236 ⟨Nat.le_of_ble_eq_true rfl, Nat.le_of_ble_eq_true rfl⟩ (gm_sheet b_4) vc_4 (by decide) rfl rfl (Nat.le_of_ble_eq_true rfl) (t_X5_isMissing (35 + 2 * a1.toNatClampNeg) (gm_sheet b_4) h_1 _ hyp) (fun r_6 h_5 hyp => ?_)
    refine ge_if_eq a_X9_judge_23 (fun c_7 => ?_) (fun c_7 => ?_)
    · have hyp := gm_ip hyp c_7
      refine ge_aload_n a_X9_judge_32 rfl 0 rfl ?_
      refine ge_aload_n a_X9_judge_33 rfl 0 rfl ?_
      refine ge_getR (q := 33) a_X9_judge_34 fd_X9_66 (rfl : gm_cls 0 = 8) rfl ?_
      refine ge_iload_n a_X9_judge_37 rfl 1 rfl ?_
      obtain ⟨b_8, hyp⟩ := hyp
      refine ge_ald33 a_X9_judge_38 b_8 ?_
      refine ge_cVI [.ref (35 + 2 * a1.toNatClampNeg)] (rest := []) a_X9_judge_39 ok_X9_firstWrongTime lk_X9_318 ⟨Nat.le_of_ble_eq_true rfl, Nat.le_of_ble_eq_true rfl⟩ (rfl : gm_cls 0 = 8) vc_8 (by decide) rfl rfl (Nat.le_of_ble_eq_true rfl) (t_X9_firstWrongTime (35 + 2 * a1.toNatClampNeg) (gm_sheet b_8) h_5 _ hyp) (fun r_10 h_9 hyp => ?_)
      exact ge_iret rfl a_X9_judge_42 hyp
    · have hyp := gm_in hyp c_7
      refine ge_aload_n a_X9_judge_26 rfl 0 rfl ?_
      refine ge_iconst (v := 5) a_X9_judge_27 rfl ?_
      refine ge_cVI [.int (5 : Int32)] (rest := []) a_X9_judge_28 ok_X9_finding lk_X9_79 ⟨Nat.le_of_ble_eq_true rfl, Nat.le_of_ble_eq_true rfl⟩ (rfl : gm_cls 0 = 8) vc_8 (by decide) rfl rfl (Nat.le_of_ble_eq_true rfl) (t_X9_finding (5 : Int32)  h_5 _ hyp) (fun r_12 h_11 hyp => ?_)
      exact ge_iret rfl a_X9_judge_31 hyp
  · have hyp := gm_ip hyp c_3
    refine ge_aload_n a_X9_judge_8 rfl 0 rfl ?_
    refine ge_iconst (v := 0) a_X9_judge_9 rfl ?_
    refine ge_cVI [.int (0 : Int32)] (rest := []) a_X9_judge_10 ok_X9_finding lk_X9_79 ⟨Nat.le_of_ble_eq_true rfl, Nat.le_of_ble_eq_true rfl⟩ (rfl : gm_cls 0 = 8) vc_8 (by decide) rfl rfl (Nat.le_of_ble_eq_true rfl) (t_X9_finding (0 : Int32)  h_1 _ hyp) (fun r_14 h_13 hyp => ?_)
    exact ge_iret rfl a_X9_judge_13 hyp

theorem a_X9_image_0 : At m_X9_image 0 (.aload_n 0) 1 1 := at_i (by decide +kernel) rfl
theorem a_X9_image_1 : At m_X9_image 1 (.getfield 16) 3 4 := at_i (by decide +kernel) rfl
theorem a_X9_image_4 : At m_X9_image 4 (.aload_n 0) 1 5 := at_i (by decide +kernel) rfl
theorem a_X9_image_5 : At m_X9_image 5 (.getfield 10) 3 8 := at_i (by decide +kernel) rfl
theorem a_X9_image_8 : At m_X9_image 8 (.invokevirtual 263) 3 11 := at_i (by decide +kernel) rfl
theorem a_X9_image_11 : At m_X9_image 11 (.aload_n 0) 1 12 := at_i (by decide +kernel) rfl
theorem a_X9_image_12 : At m_X9_image 12 (.iconst 1) 1 13 := at_i (by decide +kernel) rfl
theorem a_X9_image_13 : At m_X9_image 13 (.putfield 321) 3 16 := at_i (by decide +kernel) rfl
theorem a_X9_image_16 : At m_X9_image 16 (.iconst 1) 1 17 := at_i (by decide +kernel) rfl
theorem a_X9_image_17 : At m_X9_image 17 (.ireturn) 1 18 := at_i (by decide +kernel) rfl
def f_X9_image  (h : Mem) (Q : Int32 → Mem → Prop) : Prop :=
  f_X6_become 7 1 h fun h_1 =>
  ∀ h_2 : Mem, h_2 = gm_st h_1 0 11 (1 : Int32) →
  Q (1 : Int32) h_2
set_option maxRecDepth 20000 in
theorem t_X9_image   (h : Mem) (Q : Int32 → Mem → Prop) (hyp : f_X9_image  h Q) : Cn m_X9_image [.ref 0] h (GI Q) := by
  refine ge_entry (lv := [(0, .ref 0)]) pn_X9 (Nat.le_of_ble_eq_true rfl) rfl ?_
  unfold f_X9_image at hyp
  refine ge_aload_n a_X9_image_0 rfl 0 rfl ?_
  refine ge_getR (q := 7) a_X9_image_1 fd_X9_16 (rfl : gm_cls 0 = 8) rfl ?_
  refine ge_aload_n a_X9_image_4 rfl 0 rfl ?_
  refine ge_getR (q := 1) a_X9_image_5 fd_X9_10 (rfl : gm_cls 0 = 8) rfl ?_
  refine ge_cVV [.ref 1] (rest := []) a_X9_image_8 ok_X6_become lk_X9_263 ⟨Nat.le_of_ble_eq_true rfl, Nat.le_of_ble_eq_true rfl⟩ (rfl : gm_cls 7 = 5) vc_5 (by decide) rfl rfl (Nat.le_of_ble_eq_true rfl) (t_X6_become 7 1 (rfl : gm_cls 7 = 5) (rfl : gm_cls 1 = 5) h _ hyp) (fun h_1 hyp => ?_)
  refine ge_aload_n a_X9_image_11 rfl 0 rfl ?_
  refine ge_iconst (v := 1) a_X9_image_12 rfl ?_
  refine ge_putZ a_X9_image_13 pd_X9_321 (rfl : gm_cls 0 = 8) gm_b1 ?_
  refine ge_nm (fun h_2 eh_2 => ?_)
  have hyp := hyp h_2 eh_2
  refine ge_iconst (v := 1) a_X9_image_16 rfl ?_
  exact ge_iret rfl a_X9_image_17 hyp

theorem a_X9_undo_0 : At m_X9_undo 0 (.aload_n 0) 1 1 := at_i (by decide +kernel) rfl
theorem a_X9_undo_1 : At m_X9_undo 1 (.getfield 321) 3 4 := at_i (by decide +kernel) rfl
theorem a_X9_undo_4 : AtJ m_X9_undo 4 (.ifCond .ne 9) (9) 13 7 := at_j (by decide +kernel) (by decide) rfl
theorem a_X9_undo_7 : At m_X9_undo 7 (.aload_n 0) 1 8 := at_i (by decide +kernel) rfl
theorem a_X9_undo_8 : At m_X9_undo 8 (.iconst 3) 1 9 := at_i (by decide +kernel) rfl
theorem a_X9_undo_9 : At m_X9_undo 9 (.invokevirtual 79) 3 12 := at_i (by decide +kernel) rfl
theorem a_X9_undo_12 : At m_X9_undo 12 (.ireturn) 1 13 := at_i (by decide +kernel) rfl
theorem a_X9_undo_13 : At m_X9_undo 13 (.aload_n 0) 1 14 := at_i (by decide +kernel) rfl
theorem a_X9_undo_14 : At m_X9_undo 14 (.getfield 10) 3 17 := at_i (by decide +kernel) rfl
theorem a_X9_undo_17 : At m_X9_undo 17 (.aload_n 0) 1 18 := at_i (by decide +kernel) rfl
theorem a_X9_undo_18 : At m_X9_undo 18 (.getfield 16) 3 21 := at_i (by decide +kernel) rfl
theorem a_X9_undo_21 : At m_X9_undo 21 (.invokevirtual 263) 3 24 := at_i (by decide +kernel) rfl
theorem a_X9_undo_24 : At m_X9_undo 24 (.aload_n 0) 1 25 := at_i (by decide +kernel) rfl
theorem a_X9_undo_25 : At m_X9_undo 25 (.getfield 10) 3 28 := at_i (by decide +kernel) rfl
theorem a_X9_undo_28 : At m_X9_undo 28 (.getfield 127) 3 31 := at_i (by decide +kernel) rfl
theorem a_X9_undo_31 : At m_X9_undo 31 (.ireturn) 1 32 := at_i (by decide +kernel) rfl
def f_X9_undo  (h : Mem) (Q : Int32 → Mem → Prop) : Prop :=
  if h 0 11 = 0 then (
    f_X9_finding (3 : Int32) h fun r_4 h_3 =>
    Q r_4 h_3)
  else (
    f_X6_become 1 7 h fun h_2 =>
    Q (h_2 1 7) h_2)
set_option maxRecDepth 20000 in
theorem t_X9_undo   (h : Mem) (Q : Int32 → Mem → Prop) (hyp : f_X9_undo  h Q) : Cn m_X9_undo [.ref 0] h (GI Q) := by
  refine ge_entry (lv := [(0, .ref 0)]) pn_X9 (Nat.le_of_ble_eq_true rfl) rfl ?_
  unfold f_X9_undo at hyp
  refine ge_aload_n a_X9_undo_0 rfl 0 rfl ?_
  refine ge_getI a_X9_undo_1 fd_X9_321 (rfl : gm_cls 0 = 8) ?_
  refine ge_if_ne a_X9_undo_4 (fun c_1 => ?_) (fun c_1 => ?_)
  · have hyp := gm_in hyp c_1
    refine ge_aload_n a_X9_undo_13 rfl 0 rfl ?_
    refine ge_getR (q := 1) a_X9_undo_14 fd_X9_10 (rfl : gm_cls 0 = 8) rfl ?_
    refine ge_aload_n a_X9_undo_17 rfl 0 rfl ?_
    refine ge_getR (q := 7) a_X9_undo_18 fd_X9_16 (rfl : gm_cls 0 = 8) rfl ?_
    refine ge_cVV [.ref 7] (rest := []) a_X9_undo_21 ok_X6_become lk_X9_263 ⟨Nat.le_of_ble_eq_true rfl, Nat.le_of_ble_eq_true rfl⟩ (rfl : gm_cls 1 = 5) vc_5 (by decide) rfl rfl (Nat.le_of_ble_eq_true rfl) (t_X6_become 1 7 (rfl : gm_cls 1 = 5) (rfl : gm_cls 7 = 5) h _ hyp) (fun h_2 hyp => ?_)
    refine ge_aload_n a_X9_undo_24 rfl 0 rfl ?_
    refine ge_getR (q := 1) a_X9_undo_25 fd_X9_10 (rfl : gm_cls 0 = 8) rfl ?_
    refine ge_getI a_X9_undo_28 fd_X9_127 (rfl : gm_cls 1 = 5) ?_
    exact ge_iret rfl a_X9_undo_31 hyp
  · have hyp := gm_ip hyp c_1
    refine ge_aload_n a_X9_undo_7 rfl 0 rfl ?_
    refine ge_iconst (v := 3) a_X9_undo_8 rfl ?_
    refine ge_cVI [.int (3 : Int32)] (rest := []) a_X9_undo_9 ok_X9_finding lk_X9_79 ⟨Nat.le_of_ble_eq_true rfl, Nat.le_of_ble_eq_true rfl⟩ (rfl : gm_cls 0 = 8) vc_8 (by decide) rfl rfl (Nat.le_of_ble_eq_true rfl) (t_X9_finding (3 : Int32)  h _ hyp) (fun r_4 h_3 hyp => ?_)
    exact ge_iret rfl a_X9_undo_12 hyp

theorem a_X9_tear_0 : At m_X9_tear 0 (.aload_n 0) 1 1 := at_i (by decide +kernel) rfl
theorem a_X9_tear_1 : At m_X9_tear 1 (.getfield 321) 3 4 := at_i (by decide +kernel) rfl
theorem a_X9_tear_4 : AtJ m_X9_tear 4 (.ifCond .eq 7) (7) 11 7 := at_j (by decide +kernel) (by decide) rfl
theorem a_X9_tear_7 : At m_X9_tear 7 (.iconst 1) 1 8 := at_i (by decide +kernel) rfl
theorem a_X9_tear_8 : AtJ m_X9_tear 8 (.goto 4) (4) 12 11 := at_j (by decide +kernel) (by decide) rfl
theorem a_X9_tear_11 : At m_X9_tear 11 (.iconst 0) 1 12 := at_i (by decide +kernel) rfl
theorem a_X9_tear_12 : At m_X9_tear 12 (.istore_n 1) 1 13 := at_i (by decide +kernel) rfl
theorem a_X9_tear_13 : At m_X9_tear 13 (.aload_n 0) 1 14 := at_i (by decide +kernel) rfl
theorem a_X9_tear_14 : At m_X9_tear 14 (.iconst 0) 1 15 := at_i (by decide +kernel) rfl
theorem a_X9_tear_15 : At m_X9_tear 15 (.putfield 321) 3 18 := at_i (by decide +kernel) rfl
theorem a_X9_tear_18 : At m_X9_tear 18 (.iload_n 1) 1 19 := at_i (by decide +kernel) rfl
theorem a_X9_tear_19 : At m_X9_tear 19 (.ireturn) 1 20 := at_i (by decide +kernel) rfl
def f_X9_tear  (h : Mem) (Q : Int32 → Mem → Prop) : Prop :=
  if h 0 11 = 0 then (
    ∀ h_2 : Mem, h_2 = gm_st h 0 11 (0 : Int32) →
    Q (0 : Int32) h_2)
  else (
    ∀ h_3 : Mem, h_3 = gm_st h 0 11 (0 : Int32) →
    Q (1 : Int32) h_3)
set_option maxRecDepth 20000 in
theorem t_X9_tear   (h : Mem) (Q : Int32 → Mem → Prop) (hyp : f_X9_tear  h Q) : Cn m_X9_tear [.ref 0] h (GI Q) := by
  refine ge_entry (lv := [(0, .ref 0)]) pn_X9 (Nat.le_of_ble_eq_true rfl) rfl ?_
  unfold f_X9_tear at hyp
  refine ge_aload_n a_X9_tear_0 rfl 0 rfl ?_
  refine ge_getI a_X9_tear_1 fd_X9_321 (rfl : gm_cls 0 = 8) ?_
  refine ge_if_eq a_X9_tear_4 (fun c_1 => ?_) (fun c_1 => ?_)
  · have hyp := gm_ip hyp c_1
    refine ge_iconst (v := 0) a_X9_tear_11 rfl ?_
    refine ge_istore_n (lv' := [(1, .int (0 : Int32)), (0, .ref 0)]) a_X9_tear_12 rfl (Nat.le_of_ble_eq_true rfl) rfl ?_
    refine ge_aload_n a_X9_tear_13 rfl 1 rfl ?_
    refine ge_iconst (v := 0) a_X9_tear_14 rfl ?_
    refine ge_putZ a_X9_tear_15 pd_X9_321 (rfl : gm_cls 0 = 8) gm_b0 ?_
    refine ge_nm (fun h_2 eh_2 => ?_)
    have hyp := hyp h_2 eh_2
    refine ge_iload_n a_X9_tear_18 rfl 0 rfl ?_
    exact ge_iret rfl a_X9_tear_19 hyp
  · have hyp := gm_in hyp c_1
    refine ge_iconst (v := 1) a_X9_tear_7 rfl ?_
    refine ge_goto a_X9_tear_8 ?_
    refine ge_istore_n (lv' := [(1, .int (1 : Int32)), (0, .ref 0)]) a_X9_tear_12 rfl (Nat.le_of_ble_eq_true rfl) rfl ?_
    refine ge_aload_n a_X9_tear_13 rfl 1 rfl ?_
    refine ge_iconst (v := 0) a_X9_tear_14 rfl ?_
    refine ge_putZ a_X9_tear_15 pd_X9_321 (rfl : gm_cls 0 = 8) gm_b0 ?_
    refine ge_nm (fun h_3 eh_3 => ?_)
    have hyp := hyp h_3 eh_3
    refine ge_iload_n a_X9_tear_18 rfl 0 rfl ?_
    exact ge_iret rfl a_X9_tear_19 hyp

theorem a_X9_count_0 : At m_X9_count 0 (.iload_n 1) 1 1 := at_i (by decide +kernel) rfl
theorem a_X9_count_1 : decode cX9_count 1 = .ok (.tableswitch 125 0 7 #[47, 55, 63, 71, 86, 101, 109, 117], 47) := by decide +kernel
theorem a_X9_count_48 : At m_X9_count 48 (.aload_n 0) 1 49 := at_i (by decide +kernel) rfl
theorem a_X9_count_49 : At m_X9_count 49 (.getfield 10) 3 52 := at_i (by decide +kernel) rfl
theorem a_X9_count_52 : At m_X9_count 52 (.getfield 127) 3 55 := at_i (by decide +kernel) rfl
theorem a_X9_count_55 : At m_X9_count 55 (.ireturn) 1 56 := at_i (by decide +kernel) rfl
theorem a_X9_count_56 : At m_X9_count 56 (.aload_n 0) 1 57 := at_i (by decide +kernel) rfl
theorem a_X9_count_57 : At m_X9_count 57 (.getfield 10) 3 60 := at_i (by decide +kernel) rfl
theorem a_X9_count_60 : At m_X9_count 60 (.getfield 139) 3 63 := at_i (by decide +kernel) rfl
theorem a_X9_count_63 : At m_X9_count 63 (.ireturn) 1 64 := at_i (by decide +kernel) rfl
theorem a_X9_count_64 : At m_X9_count 64 (.aload_n 0) 1 65 := at_i (by decide +kernel) rfl
theorem a_X9_count_65 : At m_X9_count 65 (.getfield 10) 3 68 := at_i (by decide +kernel) rfl
theorem a_X9_count_68 : At m_X9_count 68 (.getfield 142) 3 71 := at_i (by decide +kernel) rfl
theorem a_X9_count_71 : At m_X9_count 71 (.ireturn) 1 72 := at_i (by decide +kernel) rfl
theorem a_X9_count_72 : At m_X9_count 72 (.aload_n 0) 1 73 := at_i (by decide +kernel) rfl
theorem a_X9_count_73 : At m_X9_count 73 (.getfield 10) 3 76 := at_i (by decide +kernel) rfl
theorem a_X9_count_76 : At m_X9_count 76 (.aload_n 0) 1 77 := at_i (by decide +kernel) rfl
theorem a_X9_count_77 : At m_X9_count 77 (.getfield 10) 3 80 := at_i (by decide +kernel) rfl
theorem a_X9_count_80 : At m_X9_count 80 (.getfield 325) 3 83 := at_i (by decide +kernel) rfl
theorem a_X9_count_83 : At m_X9_count 83 (.invokevirtual 328) 3 86 := at_i (by decide +kernel) rfl
theorem a_X9_count_86 : At m_X9_count 86 (.ireturn) 1 87 := at_i (by decide +kernel) rfl
theorem a_X9_count_87 : At m_X9_count 87 (.aload_n 0) 1 88 := at_i (by decide +kernel) rfl
theorem a_X9_count_88 : At m_X9_count 88 (.getfield 10) 3 91 := at_i (by decide +kernel) rfl
theorem a_X9_count_91 : At m_X9_count 91 (.aload_n 0) 1 92 := at_i (by decide +kernel) rfl
theorem a_X9_count_92 : At m_X9_count 92 (.getfield 10) 3 95 := at_i (by decide +kernel) rfl
theorem a_X9_count_95 : At m_X9_count 95 (.getfield 331) 3 98 := at_i (by decide +kernel) rfl
theorem a_X9_count_98 : At m_X9_count 98 (.invokevirtual 328) 3 101 := at_i (by decide +kernel) rfl
theorem a_X9_count_101 : At m_X9_count 101 (.ireturn) 1 102 := at_i (by decide +kernel) rfl
theorem a_X9_count_102 : At m_X9_count 102 (.aload_n 0) 1 103 := at_i (by decide +kernel) rfl
theorem a_X9_count_103 : At m_X9_count 103 (.getfield 53) 3 106 := at_i (by decide +kernel) rfl
theorem a_X9_count_106 : At m_X9_count 106 (.getfield 267) 3 109 := at_i (by decide +kernel) rfl
theorem a_X9_count_109 : At m_X9_count 109 (.ireturn) 1 110 := at_i (by decide +kernel) rfl
theorem a_X9_count_110 : At m_X9_count 110 (.aload_n 0) 1 111 := at_i (by decide +kernel) rfl
theorem a_X9_count_111 : At m_X9_count 111 (.getfield 10) 3 114 := at_i (by decide +kernel) rfl
theorem a_X9_count_114 : At m_X9_count 114 (.getfield 260) 3 117 := at_i (by decide +kernel) rfl
theorem a_X9_count_117 : At m_X9_count 117 (.ireturn) 1 118 := at_i (by decide +kernel) rfl
theorem a_X9_count_118 : At m_X9_count 118 (.aload_n 0) 1 119 := at_i (by decide +kernel) rfl
theorem a_X9_count_119 : At m_X9_count 119 (.getfield 10) 3 122 := at_i (by decide +kernel) rfl
theorem a_X9_count_122 : At m_X9_count 122 (.invokevirtual 334) 3 125 := at_i (by decide +kernel) rfl
theorem a_X9_count_125 : At m_X9_count 125 (.ireturn) 1 126 := at_i (by decide +kernel) rfl
theorem a_X9_count_126 : At m_X9_count 126 (.aload_n 0) 1 127 := at_i (by decide +kernel) rfl
theorem a_X9_count_127 : At m_X9_count 127 (.iconst 0) 1 128 := at_i (by decide +kernel) rfl
theorem a_X9_count_128 : At m_X9_count 128 (.invokevirtual 79) 3 131 := at_i (by decide +kernel) rfl
theorem a_X9_count_131 : At m_X9_count 131 (.ireturn) 1 132 := at_i (by decide +kernel) rfl
def f_X9_count (a1 : Int32) (h : Mem) (Q : Int32 → Mem → Prop) : Prop :=
  if a1 = 0 then (
    Q (h 1 7) h)
  else (
  if a1 = 1 then (
    Q (h 1 5) h)
  else (
  if a1 = 2 then (
    Q (h 1 6) h)
  else (
  if a1 = 3 then (
    f_X6_sumOf 1 3 12 h fun r_6 h_5 =>
    Q r_6 h_5)
  else (
  if a1 = 4 then (
    f_X6_sumOf 1 4 12 h fun r_9 h_8 =>
    Q r_9 h_8)
  else (
  if a1 = 5 then (
    Q (h 30 1) h)
  else (
  if a1 = 6 then (
    Q (h 1 10) h)
  else (
  if a1 = 7 then (
    f_X6_spotsHeld 1 h fun r_14 h_13 =>
    Q r_14 h_13)
  else (
    f_X9_finding (0 : Int32) h fun r_16 h_15 =>
    Q r_16 h_15))))))))
set_option maxRecDepth 20000 in
theorem t_X9_count (a1 : Int32)  (h : Mem) (Q : Int32 → Mem → Prop) (hyp : f_X9_count a1 h Q) : Cn m_X9_count [.ref 0, .int a1] h (GI Q) := by
  refine ge_entry (lv := [(0, .ref 0), (1, .int a1)]) pn_X9 (Nat.le_of_ble_eq_true rfl) rfl ?_
  unfold f_X9_count at hyp
  refine ge_iload_n a_X9_count_0 rfl 1 rfl ?_
  refine ge_sw (dt := 126) [(0, 48), (1, 56), (2, 64), (3, 72), (4, 87), (5, 102), (6, 110), (7, 118)] a_X9_count_1 (by decide +kernel) (by decide) ?_
  refine ge_ite (fun c_1 => ?_) (fun c_1 => ?_)
  · have hyp := gm_ip hyp c_1
    refine ge_aload_n a_X9_count_48 rfl 0 rfl ?_
    refine ge_getR (q := 1) a_X9_count_49 fd_X9_10 (rfl : gm_cls 0 = 8) rfl ?_
    refine ge_getI a_X9_count_52 fd_X9_127 (rfl : gm_cls 1 = 5) ?_
    exact ge_iret rfl a_X9_count_55 hyp
  have hyp := gm_in hyp c_1
  refine ge_ite (fun c_2 => ?_) (fun c_2 => ?_)
  · have hyp := gm_ip hyp c_2
    refine ge_aload_n a_X9_count_56 rfl 0 rfl ?_
    refine ge_getR (q := 1) a_X9_count_57 fd_X9_10 (rfl : gm_cls 0 = 8) rfl ?_
    refine ge_getI a_X9_count_60 fd_X9_139 (rfl : gm_cls 1 = 5) ?_
    exact ge_iret rfl a_X9_count_63 hyp
  have hyp := gm_in hyp c_2
  refine ge_ite (fun c_3 => ?_) (fun c_3 => ?_)
  · have hyp := gm_ip hyp c_3
    refine ge_aload_n a_X9_count_64 rfl 0 rfl ?_
    refine ge_getR (q := 1) a_X9_count_65 fd_X9_10 (rfl : gm_cls 0 = 8) rfl ?_
    refine ge_getI a_X9_count_68 fd_X9_142 (rfl : gm_cls 1 = 5) ?_
    exact ge_iret rfl a_X9_count_71 hyp
  have hyp := gm_in hyp c_3
  refine ge_ite (fun c_4 => ?_) (fun c_4 => ?_)
  · have hyp := gm_ip hyp c_4
    refine ge_aload_n a_X9_count_72 rfl 0 rfl ?_
    refine ge_getR (q := 1) a_X9_count_73 fd_X9_10 (rfl : gm_cls 0 = 8) rfl ?_
    refine ge_aload_n a_X9_count_76 rfl 0 rfl ?_
    refine ge_getR (q := 1) a_X9_count_77 fd_X9_10 (rfl : gm_cls 0 = 8) rfl ?_
    refine ge_getR (q := 3) a_X9_count_80 fd_X9_325 (rfl : gm_cls 1 = 5) rfl ?_
    refine ge_cVI [.ref 3] (rest := []) a_X9_count_83 ok_X6_sumOf lk_X9_328 ⟨Nat.le_of_ble_eq_true rfl, Nat.le_of_ble_eq_true rfl⟩ (rfl : gm_cls 1 = 5) vc_5 (by decide) rfl rfl (Nat.le_of_ble_eq_true rfl) (t_X6_sumOf 1 3 12 (rfl : gm_cls 1 = 5) ga_3 h _ hyp) (fun r_6 h_5 hyp => ?_)
    exact ge_iret rfl a_X9_count_86 hyp
  have hyp := gm_in hyp c_4
  refine ge_ite (fun c_7 => ?_) (fun c_7 => ?_)
  · have hyp := gm_ip hyp c_7
    refine ge_aload_n a_X9_count_87 rfl 0 rfl ?_
    refine ge_getR (q := 1) a_X9_count_88 fd_X9_10 (rfl : gm_cls 0 = 8) rfl ?_
    refine ge_aload_n a_X9_count_91 rfl 0 rfl ?_
    refine ge_getR (q := 1) a_X9_count_92 fd_X9_10 (rfl : gm_cls 0 = 8) rfl ?_
    refine ge_getR (q := 4) a_X9_count_95 fd_X9_331 (rfl : gm_cls 1 = 5) rfl ?_
    refine ge_cVI [.ref 4] (rest := []) a_X9_count_98 ok_X6_sumOf lk_X9_328 ⟨Nat.le_of_ble_eq_true rfl, Nat.le_of_ble_eq_true rfl⟩ (rfl : gm_cls 1 = 5) vc_5 (by decide) rfl rfl (Nat.le_of_ble_eq_true rfl) (t_X6_sumOf 1 4 12 (rfl : gm_cls 1 = 5) ga_4 h _ hyp) (fun r_9 h_8 hyp => ?_)
    exact ge_iret rfl a_X9_count_101 hyp
  have hyp := gm_in hyp c_7
  refine ge_ite (fun c_10 => ?_) (fun c_10 => ?_)
  · have hyp := gm_ip hyp c_10
    refine ge_aload_n a_X9_count_102 rfl 0 rfl ?_
    refine ge_getR (q := 30) a_X9_count_103 fd_X9_53 (rfl : gm_cls 0 = 8) rfl ?_
    refine ge_getI a_X9_count_106 fd_X9_267 (rfl : gm_cls 30 = 6) ?_
    exact ge_iret rfl a_X9_count_109 hyp
  have hyp := gm_in hyp c_10
  refine ge_ite (fun c_11 => ?_) (fun c_11 => ?_)
  · have hyp := gm_ip hyp c_11
    refine ge_aload_n a_X9_count_110 rfl 0 rfl ?_
    refine ge_getR (q := 1) a_X9_count_111 fd_X9_10 (rfl : gm_cls 0 = 8) rfl ?_
    refine ge_getI a_X9_count_114 fd_X9_260 (rfl : gm_cls 1 = 5) ?_
    exact ge_iret rfl a_X9_count_117 hyp
  have hyp := gm_in hyp c_11
  refine ge_ite (fun c_12 => ?_) (fun c_12 => ?_)
  · have hyp := gm_ip hyp c_12
    refine ge_aload_n a_X9_count_118 rfl 0 rfl ?_
    refine ge_getR (q := 1) a_X9_count_119 fd_X9_10 (rfl : gm_cls 0 = 8) rfl ?_
    refine ge_cVI [] (rest := []) a_X9_count_122 ok_X6_spotsHeld lk_X9_334 ⟨Nat.le_of_ble_eq_true rfl, Nat.le_of_ble_eq_true rfl⟩ (rfl : gm_cls 1 = 5) vc_5 (by decide) rfl rfl (Nat.le_of_ble_eq_true rfl) (t_X6_spotsHeld 1 (rfl : gm_cls 1 = 5) h _ hyp) (fun r_14 h_13 hyp => ?_)
    exact ge_iret rfl a_X9_count_125 hyp
  have hyp := gm_in hyp c_12
  show EV _ _ 126 _ _ _
  refine ge_aload_n a_X9_count_126 rfl 0 rfl ?_
  refine ge_iconst (v := 0) a_X9_count_127 rfl ?_
  refine ge_cVI [.int (0 : Int32)] (rest := []) a_X9_count_128 ok_X9_finding lk_X9_79 ⟨Nat.le_of_ble_eq_true rfl, Nat.le_of_ble_eq_true rfl⟩ (rfl : gm_cls 0 = 8) vc_8 (by decide) rfl rfl (Nat.le_of_ble_eq_true rfl) (t_X9_finding (0 : Int32)  h _ hyp) (fun r_16 h_15 hyp => ?_)
  exact ge_iret rfl a_X9_count_131 hyp

theorem a_X9_status_0 : At m_X9_status 0 (.iload_n 1) 1 1 := at_i (by decide +kernel) rfl
theorem a_X9_status_1 : At m_X9_status 1 (.iconst (-1)) 1 2 := at_i (by decide +kernel) rfl
theorem a_X9_status_2 : At m_X9_status 2 (.bipush 6) 2 4 := at_i (by decide +kernel) rfl
theorem a_X9_status_4 : At m_X9_status 4 (.invokestatic 75) 3 7 := at_i (by decide +kernel) rfl
theorem a_X9_status_7 : AtJ m_X9_status 7 (.ifCond .ne 9) (9) 16 10 := at_j (by decide +kernel) (by decide) rfl
theorem a_X9_status_10 : At m_X9_status 10 (.aload_n 0) 1 11 := at_i (by decide +kernel) rfl
theorem a_X9_status_11 : At m_X9_status 11 (.iconst 0) 1 12 := at_i (by decide +kernel) rfl
theorem a_X9_status_12 : At m_X9_status 12 (.invokevirtual 79) 3 15 := at_i (by decide +kernel) rfl
theorem a_X9_status_15 : At m_X9_status 15 (.ireturn) 1 16 := at_i (by decide +kernel) rfl
theorem a_X9_status_16 : At m_X9_status 16 (.iload_n 1) 1 17 := at_i (by decide +kernel) rfl
theorem a_X9_status_17 : AtJ m_X9_status 17 (.ifCond .lt 10) (10) 27 20 := at_j (by decide +kernel) (by decide) rfl
theorem a_X9_status_20 : At m_X9_status 20 (.aload_n 0) 1 21 := at_i (by decide +kernel) rfl
theorem a_X9_status_21 : At m_X9_status 21 (.getfield 70) 3 24 := at_i (by decide +kernel) rfl
theorem a_X9_status_24 : At m_X9_status 24 (.iload_n 1) 1 25 := at_i (by decide +kernel) rfl
theorem a_X9_status_25 : At m_X9_status 25 (.iaload) 1 26 := at_i (by decide +kernel) rfl
theorem a_X9_status_26 : At m_X9_status 26 (.ireturn) 1 27 := at_i (by decide +kernel) rfl
theorem a_X9_status_27 : At m_X9_status 27 (.iconst 0) 1 28 := at_i (by decide +kernel) rfl
theorem a_X9_status_28 : At m_X9_status 28 (.istore_n 2) 1 29 := at_i (by decide +kernel) rfl
theorem a_X9_status_29 : At m_X9_status 29 (.iconst 0) 1 30 := at_i (by decide +kernel) rfl
theorem a_X9_status_30 : At m_X9_status 30 (.istore_n 3) 1 31 := at_i (by decide +kernel) rfl
theorem a_X9_status_31 : At m_X9_status 31 (.iload_n 3) 1 32 := at_i (by decide +kernel) rfl
theorem a_X9_status_32 : At m_X9_status 32 (.bipush 7) 2 34 := at_i (by decide +kernel) rfl
theorem a_X9_status_34 : AtJ m_X9_status 34 (.if_icmp .ge 18) (18) 52 37 := at_j (by decide +kernel) (by decide) rfl
theorem a_X9_status_37 : At m_X9_status 37 (.iload_n 2) 1 38 := at_i (by decide +kernel) rfl
theorem a_X9_status_38 : At m_X9_status 38 (.aload_n 0) 1 39 := at_i (by decide +kernel) rfl
theorem a_X9_status_39 : At m_X9_status 39 (.getfield 70) 3 42 := at_i (by decide +kernel) rfl
theorem a_X9_status_42 : At m_X9_status 42 (.iload_n 3) 1 43 := at_i (by decide +kernel) rfl
theorem a_X9_status_43 : At m_X9_status 43 (.iaload) 1 44 := at_i (by decide +kernel) rfl
theorem a_X9_status_44 : At m_X9_status 44 (.iadd) 1 45 := at_i (by decide +kernel) rfl
theorem a_X9_status_45 : At m_X9_status 45 (.istore_n 2) 1 46 := at_i (by decide +kernel) rfl
theorem a_X9_status_46 : At m_X9_status 46 (.iinc 3 1) 3 49 := at_i (by decide +kernel) rfl
theorem a_X9_status_49 : AtJ m_X9_status 49 (.goto (-18)) (-18) 31 52 := at_j (by decide +kernel) (by decide) rfl
theorem a_X9_status_52 : At m_X9_status 52 (.iload_n 2) 1 53 := at_i (by decide +kernel) rfl
theorem a_X9_status_53 : At m_X9_status 53 (.ireturn) 1 54 := at_i (by decide +kernel) rfl
def f_X9_status_b31 (a1 : Int32)  (Q : Int32 → Mem → Prop)  (K31 : Int32 → Int32 → Mem → Prop) (v2 : Int32) (v3 : Int32) (h : Mem) : Prop :=
  if (7 : Int32) ≤ v3 then (
    Q v2 h)
  else (
    vp_in v3 7 ∧
    ∀ v_7 : Int32, v_7 = v2 + (h 34 v3.toNatClampNeg) →
    ∀ v_8 : Int32, v_8 = v3 + (1 : Int32) →
    K31 v_7 v_8 h)
set_option maxRecDepth 20000 in
theorem t_X9_status_b31 (a1 : Int32)    (Q : Int32 → Mem → Prop)   : ∀ (n : Nat) (v2 : Int32) (v3 : Int32) (h : Mem), gm_it2 (f_X9_status_b31 a1  Q ) n v2 v3 h → EV m_X9_status (GI Q) 31 [(0, .ref 0), (2, .int v2), (3, .int v3)] [] h := by
  refine ge_loop2 (P := fun v2 v3 h => EV m_X9_status (GI Q) 31 [(0, .ref 0), (2, .int v2), (3, .int v3)] [] h) (fun K31 hK31 v2 v3 h hyp => ?_)
  unfold f_X9_status_b31 at hyp
  refine ge_iload_n a_X9_status_31 rfl 2 rfl ?_
  refine ge_bipush (v := 7) a_X9_status_32 rfl ?_
  refine ge_icmp_ge a_X9_status_34 (fun c_5 => ?_) (fun c_5 => ?_)
  · have hyp := gm_ip hyp c_5
    refine ge_iload_n a_X9_status_52 rfl 1 rfl ?_
    exact ge_iret rfl a_X9_status_53 hyp
  · have hyp := gm_in hyp c_5
    refine ge_iload_n a_X9_status_37 rfl 1 rfl ?_
    refine ge_aload_n a_X9_status_38 rfl 0 rfl ?_
    refine ge_getR (q := 34) a_X9_status_39 fd_X9_70 (rfl : gm_cls 0 = 8) rfl ?_
    refine ge_iload_n a_X9_status_42 rfl 2 rfl ?_
    obtain ⟨b_6, hyp⟩ := hyp
    refine ge_iald (j := v3.toNatClampNeg) a_X9_status_43 ga_34 b_6 rfl ?_
    refine ge_iadd a_X9_status_44 ?_
    refine ge_topi (fun v_7 ev_7 => ?_)
    have hyp := hyp v_7 ev_7
    refine ge_istore_n (lv' := [(2, .int v_7), (0, .ref 0), (3, .int v3)]) a_X9_status_45 rfl (Nat.le_of_ble_eq_true rfl) rfl ?_
    obtain ⟨v_8, ev_8⟩ : ∃ y : Int32, y = v3 + (1 : Int32) := ⟨_, rfl⟩
    have hyp := hyp v_8 ev_8
    refine ge_iinc (v := v_8) (lv' := [(3, .int v_8), (2, .int v_7), (0, .ref 0)]) a_X9_status_46 2 rfl ev_8.symm (Nat.le_of_ble_eq_true rfl) rfl ?_
    refine ge_goto a_X9_status_49 ?_
    exact ge_sub [2, 1, 0] rfl (hK31 v_7 v_8 h hyp)
def f_X9_status (a1 : Int32) (h : Mem) (Q : Int32 → Mem → Prop) : Prop :=
  f_X9_isWithin a1 (-1 : Int32) (6 : Int32) h fun r_2 h_1 =>
  if r_2 = 0 then (
    f_X9_finding (0 : Int32) h_1 fun r_11 h_10 =>
    Q r_11 h_10)
  else (
    if a1 < 0 then (
      gm_it2 (f_X9_status_b31 a1  Q ) gm_F (0 : Int32) (0 : Int32) h_1)
    else (
      vp_in a1 7 ∧
      Q (h_1 34 a1.toNatClampNeg) h_1))
set_option maxRecDepth 20000 in
theorem t_X9_status (a1 : Int32)  (h : Mem) (Q : Int32 → Mem → Prop) (hyp : f_X9_status a1 h Q) : Cn m_X9_status [.ref 0, .int a1] h (GI Q) := by
  refine ge_entry (lv := [(0, .ref 0), (1, .int a1)]) pn_X9 (Nat.le_of_ble_eq_true rfl) rfl ?_
  unfold f_X9_status at hyp
  refine ge_iload_n a_X9_status_0 rfl 1 rfl ?_
  refine ge_iconst (v := -1) a_X9_status_1 rfl ?_
  refine ge_bipush (v := 6) a_X9_status_2 rfl ?_
  refine ge_cSI [.int a1, .int (-1 : Int32), .int (6 : Int32)] (rest := []) a_X9_status_4 ok_X9_isWithin lk_X9_75 ⟨Nat.le_of_ble_eq_true rfl, Nat.le_of_ble_eq_true rfl⟩ rfl rfl (Nat.le_of_ble_eq_true rfl) (t_X9_isWithin a1 (-1 : Int32) (6 : Int32)  h _ hyp) (fun r_2 h_1 hyp => ?_)
  refine ge_if_ne a_X9_status_7 (fun c_3 => ?_) (fun c_3 => ?_)
  · have hyp := gm_in hyp c_3
    refine ge_iload_n a_X9_status_16 rfl 1 rfl ?_
    refine ge_if_lt a_X9_status_17 (fun c_4 => ?_) (fun c_4 => ?_)
    · have hyp := gm_ip hyp c_4
      refine ge_iconst (v := 0) a_X9_status_27 rfl ?_
      refine ge_istore_n (lv' := [(2, .int (0 : Int32)), (0, .ref 0), (1, .int a1)]) a_X9_status_28 rfl (Nat.le_of_ble_eq_true rfl) rfl ?_
      refine ge_iconst (v := 0) a_X9_status_29 rfl ?_
      refine ge_istore_n (lv' := [(3, .int (0 : Int32)), (2, .int (0 : Int32)), (0, .ref 0), (1, .int a1)]) a_X9_status_30 rfl (Nat.le_of_ble_eq_true rfl) rfl ?_
      exact ge_sub [2, 1, 0] rfl (t_X9_status_b31 a1    Q   gm_F (0 : Int32) (0 : Int32) h_1 hyp)
    · have hyp := gm_in hyp c_4
      refine ge_aload_n a_X9_status_20 rfl 0 rfl ?_
      refine ge_getR (q := 34) a_X9_status_21 fd_X9_70 (rfl : gm_cls 0 = 8) rfl ?_
      refine ge_iload_n a_X9_status_24 rfl 1 rfl ?_
      obtain ⟨b_9, hyp⟩ := hyp
      refine ge_iald (j := a1.toNatClampNeg) a_X9_status_25 ga_34 b_9 rfl ?_
      exact ge_iret rfl a_X9_status_26 hyp
  · have hyp := gm_ip hyp c_3
    refine ge_aload_n a_X9_status_10 rfl 0 rfl ?_
    refine ge_iconst (v := 0) a_X9_status_11 rfl ?_
    refine ge_cVI [.int (0 : Int32)] (rest := []) a_X9_status_12 ok_X9_finding lk_X9_79 ⟨Nat.le_of_ble_eq_true rfl, Nat.le_of_ble_eq_true rfl⟩ (rfl : gm_cls 0 = 8) vc_8 (by decide) rfl rfl (Nat.le_of_ble_eq_true rfl) (t_X9_finding (0 : Int32)  h_1 _ hyp) (fun r_11 h_10 hyp => ?_)
    exact ge_iret rfl a_X9_status_15 hyp

theorem a_X10_finding_0 : At m_X10_finding 0 (.aload_n 0) 1 1 := at_i (by decide +kernel) rfl
theorem a_X10_finding_1 : At m_X10_finding 1 (.getfield 19) 3 4 := at_i (by decide +kernel) rfl
theorem a_X10_finding_4 : At m_X10_finding 4 (.ldc 66) 2 6 := at_i (by decide +kernel) rfl
theorem a_X10_finding_6 : At m_X10_finding 6 (.iload_n 1) 1 7 := at_i (by decide +kernel) rfl
theorem a_X10_finding_7 : At m_X10_finding 7 (.isub) 1 8 := at_i (by decide +kernel) rfl
theorem a_X10_finding_8 : At m_X10_finding 8 (.iconst 1) 1 9 := at_i (by decide +kernel) rfl
theorem a_X10_finding_9 : At m_X10_finding 9 (.iadd) 1 10 := at_i (by decide +kernel) rfl
theorem a_X10_finding_10 : At m_X10_finding 10 (.dup2) 1 11 := at_i (by decide +kernel) rfl
theorem a_X10_finding_11 : At m_X10_finding 11 (.iaload) 1 12 := at_i (by decide +kernel) rfl
theorem a_X10_finding_12 : At m_X10_finding 12 (.iconst 1) 1 13 := at_i (by decide +kernel) rfl
theorem a_X10_finding_13 : At m_X10_finding 13 (.iadd) 1 14 := at_i (by decide +kernel) rfl
theorem a_X10_finding_14 : At m_X10_finding 14 (.iastore) 1 15 := at_i (by decide +kernel) rfl
theorem a_X10_finding_15 : At m_X10_finding 15 (.aload_n 0) 1 16 := at_i (by decide +kernel) rfl
theorem a_X10_finding_16 : At m_X10_finding 16 (.getfield 19) 3 19 := at_i (by decide +kernel) rfl
theorem a_X10_finding_19 : At m_X10_finding 19 (.iconst 0) 1 20 := at_i (by decide +kernel) rfl
theorem a_X10_finding_20 : At m_X10_finding 20 (.dup2) 1 21 := at_i (by decide +kernel) rfl
theorem a_X10_finding_21 : At m_X10_finding 21 (.iaload) 1 22 := at_i (by decide +kernel) rfl
theorem a_X10_finding_22 : At m_X10_finding 22 (.iconst 1) 1 23 := at_i (by decide +kernel) rfl
theorem a_X10_finding_23 : At m_X10_finding 23 (.iadd) 1 24 := at_i (by decide +kernel) rfl
theorem a_X10_finding_24 : At m_X10_finding 24 (.iastore) 1 25 := at_i (by decide +kernel) rfl
theorem a_X10_finding_25 : At m_X10_finding 25 (.iload_n 1) 1 26 := at_i (by decide +kernel) rfl
theorem a_X10_finding_26 : At m_X10_finding 26 (.ireturn) 1 27 := at_i (by decide +kernel) rfl
def f_X10_finding (a1 : Int32) (h : Mem) (Q : Int32 → Mem → Prop) : Prop :=
  vp_in (((-1000001 : Int32) - a1) + (1 : Int32)) 8 ∧
  vp_in (((-1000001 : Int32) - a1) + (1 : Int32)) 8 ∧
  ∀ h_3 : Mem, h_3 = gm_st h 47 ((((-1000001 : Int32) - a1) + (1 : Int32)).toNatClampNeg) ((h 47 ((((-1000001 : Int32) - a1) + (1 : Int32)).toNatClampNeg)) + (1 : Int32)) →
  ∀ h_4 : Mem, h_4 = gm_st h_3 47 0 ((h_3 47 0) + (1 : Int32)) →
  Q a1 h_4
set_option maxRecDepth 20000 in
theorem t_X10_finding (a1 : Int32)  (h : Mem) (Q : Int32 → Mem → Prop) (hyp : f_X10_finding a1 h Q) : Cn m_X10_finding [.ref 43, .int a1] h (GI Q) := by
  refine ge_entry (lv := [(0, .ref 43), (1, .int a1)]) pn_X10 (Nat.le_of_ble_eq_true rfl) rfl ?_
  unfold f_X10_finding at hyp
  refine ge_aload_n a_X10_finding_0 rfl 0 rfl ?_
  refine ge_getR (q := 47) a_X10_finding_1 fd_X10_19 (rfl : gm_cls 43 = 9) rfl ?_
  refine ge_ldc (v := -1000001) a_X10_finding_4 ct_X10_66 ?_
  refine ge_iload_n a_X10_finding_6 rfl 1 rfl ?_
  refine ge_isub a_X10_finding_7 ?_
  refine ge_iconst (v := 1) a_X10_finding_8 rfl ?_
  refine ge_iadd a_X10_finding_9 ?_
  refine ge_dup2 a_X10_finding_10 rfl rfl ?_
  obtain ⟨b_1, hyp⟩ := hyp
  refine ge_iald (j := (((-1000001 : Int32) - a1) + (1 : Int32)).toNatClampNeg) a_X10_finding_11 ga_47 b_1 rfl ?_
  refine ge_iconst (v := 1) a_X10_finding_12 rfl ?_
  refine ge_iadd a_X10_finding_13 ?_
  obtain ⟨b_2, hyp⟩ := hyp
  refine ge_iast (j := (((-1000001 : Int32) - a1) + (1 : Int32)).toNatClampNeg) a_X10_finding_14 ga_47 b_2 rfl ?_
  refine ge_nm (fun h_3 eh_3 => ?_)
  have hyp := hyp h_3 eh_3
  refine ge_aload_n a_X10_finding_15 rfl 0 rfl ?_
  refine ge_getR (q := 47) a_X10_finding_16 fd_X10_19 (rfl : gm_cls 43 = 9) rfl ?_
  refine ge_iconst (v := 0) a_X10_finding_19 rfl ?_
  refine ge_dup2 a_X10_finding_20 rfl rfl ?_
  refine ge_iald (j := 0) a_X10_finding_21 ga_47 li_0_8.1 li_0_8.2 ?_
  refine ge_iconst (v := 1) a_X10_finding_22 rfl ?_
  refine ge_iadd a_X10_finding_23 ?_
  refine ge_iast (j := 0) a_X10_finding_24 ga_47 li_0_8.1 li_0_8.2 ?_
  refine ge_nm (fun h_4 eh_4 => ?_)
  have hyp := hyp h_4 eh_4
  refine ge_iload_n a_X10_finding_25 rfl 1 rfl ?_
  exact ge_iret rfl a_X10_finding_26 hyp

theorem a_X10_within_0 : At m_X10_within 0 (.iload_n 0) 1 1 := at_i (by decide +kernel) rfl
theorem a_X10_within_1 : At m_X10_within 1 (.iload_n 1) 1 2 := at_i (by decide +kernel) rfl
theorem a_X10_within_2 : AtJ m_X10_within 2 (.if_icmp .lt 12) (12) 14 5 := at_j (by decide +kernel) (by decide) rfl
theorem a_X10_within_5 : At m_X10_within 5 (.iload_n 0) 1 6 := at_i (by decide +kernel) rfl
theorem a_X10_within_6 : At m_X10_within 6 (.iload_n 2) 1 7 := at_i (by decide +kernel) rfl
theorem a_X10_within_7 : AtJ m_X10_within 7 (.if_icmp .gt 7) (7) 14 10 := at_j (by decide +kernel) (by decide) rfl
theorem a_X10_within_10 : At m_X10_within 10 (.iconst 1) 1 11 := at_i (by decide +kernel) rfl
theorem a_X10_within_11 : AtJ m_X10_within 11 (.goto 4) (4) 15 14 := at_j (by decide +kernel) (by decide) rfl
theorem a_X10_within_14 : At m_X10_within 14 (.iconst 0) 1 15 := at_i (by decide +kernel) rfl
theorem a_X10_within_15 : At m_X10_within 15 (.ireturn) 1 16 := at_i (by decide +kernel) rfl
def f_X10_within (a0 : Int32) (a1 : Int32) (a2 : Int32) (h : Mem) (Q : Int32 → Mem → Prop) : Prop :=
  if a0 < a1 then (
    Q (0 : Int32) h)
  else (
    if a2 < a0 then (
      Q (0 : Int32) h)
    else (
      Q (1 : Int32) h))
set_option maxRecDepth 20000 in
theorem t_X10_within (a0 : Int32) (a1 : Int32) (a2 : Int32)  (h : Mem) (Q : Int32 → Mem → Prop) (hyp : f_X10_within a0 a1 a2 h Q) : Cn m_X10_within [.int a0, .int a1, .int a2] h (GI Q) := by
  refine ge_entry (lv := [(0, .int a0), (1, .int a1), (2, .int a2)]) pn_X10 (Nat.le_of_ble_eq_true rfl) rfl ?_
  unfold f_X10_within at hyp
  refine ge_iload_n a_X10_within_0 rfl 0 rfl ?_
  refine ge_iload_n a_X10_within_1 rfl 1 rfl ?_
  refine ge_icmp_lt a_X10_within_2 (fun c_1 => ?_) (fun c_1 => ?_)
  · have hyp := gm_ip hyp c_1
    refine ge_iconst (v := 0) a_X10_within_14 rfl ?_
    exact ge_zret rfl rfl a_X10_within_15 hyp
  · have hyp := gm_in hyp c_1
    refine ge_iload_n a_X10_within_5 rfl 0 rfl ?_
    refine ge_iload_n a_X10_within_6 rfl 2 rfl ?_
    refine ge_icmp_gt a_X10_within_7 (fun c_2 => ?_) (fun c_2 => ?_)
    · have hyp := gm_ip hyp c_2
      refine ge_iconst (v := 0) a_X10_within_14 rfl ?_
      exact ge_zret rfl rfl a_X10_within_15 hyp
    · have hyp := gm_in hyp c_2
      refine ge_iconst (v := 1) a_X10_within_10 rfl ?_
      refine ge_goto a_X10_within_11 ?_
      exact ge_zret rfl rfl a_X10_within_15 hyp

theorem a_X10_become_0 : At m_X10_become 0 (.aload_n 0) 1 1 := at_i (by decide +kernel) rfl
theorem a_X10_become_1 : At m_X10_become 1 (.getfield 9) 3 4 := at_i (by decide +kernel) rfl
theorem a_X10_become_4 : At m_X10_become 4 (.iload_n 1) 1 5 := at_i (by decide +kernel) rfl
theorem a_X10_become_5 : At m_X10_become 5 (.iaload) 1 6 := at_i (by decide +kernel) rfl
theorem a_X10_become_6 : At m_X10_become 6 (.istore_n 3) 1 7 := at_i (by decide +kernel) rfl
theorem a_X10_become_7 : At m_X10_become 7 (.aload_n 0) 1 8 := at_i (by decide +kernel) rfl
theorem a_X10_become_8 : At m_X10_become 8 (.getfield 9) 3 11 := at_i (by decide +kernel) rfl
theorem a_X10_become_11 : At m_X10_become 11 (.iload_n 1) 1 12 := at_i (by decide +kernel) rfl
theorem a_X10_become_12 : At m_X10_become 12 (.iload_n 2) 1 13 := at_i (by decide +kernel) rfl
theorem a_X10_become_13 : At m_X10_become 13 (.iastore) 1 14 := at_i (by decide +kernel) rfl
theorem a_X10_become_14 : At m_X10_become 14 (.iload_n 3) 1 15 := at_i (by decide +kernel) rfl
theorem a_X10_become_15 : At m_X10_become 15 (.ireturn) 1 16 := at_i (by decide +kernel) rfl
def f_X10_become (a1 : Int32) (a2 : Int32) (h : Mem) (Q : Int32 → Mem → Prop) : Prop :=
  vp_in a1 62 ∧
  ∀ v_2 : Int32, v_2 = h 44 a1.toNatClampNeg →
  vp_in a1 62 ∧
  ∀ h_4 : Mem, h_4 = gm_st h 44 a1.toNatClampNeg a2 →
  Q v_2 h_4
set_option maxRecDepth 20000 in
theorem t_X10_become (a1 : Int32) (a2 : Int32)  (h : Mem) (Q : Int32 → Mem → Prop) (hyp : f_X10_become a1 a2 h Q) : Cn m_X10_become [.ref 43, .int a1, .int a2] h (GI Q) := by
  refine ge_entry (lv := [(0, .ref 43), (1, .int a1), (2, .int a2)]) pn_X10 (Nat.le_of_ble_eq_true rfl) rfl ?_
  unfold f_X10_become at hyp
  refine ge_aload_n a_X10_become_0 rfl 0 rfl ?_
  refine ge_getR (q := 44) a_X10_become_1 fd_X10_9 (rfl : gm_cls 43 = 9) rfl ?_
  refine ge_iload_n a_X10_become_4 rfl 1 rfl ?_
  obtain ⟨b_1, hyp⟩ := hyp
  refine ge_iald (j := a1.toNatClampNeg) a_X10_become_5 ga_44 b_1 rfl ?_
  refine ge_topi (fun v_2 ev_2 => ?_)
  have hyp := hyp v_2 ev_2
  refine ge_istore_n (lv' := [(3, .int v_2), (0, .ref 43), (1, .int a1), (2, .int a2)]) a_X10_become_6 rfl (Nat.le_of_ble_eq_true rfl) rfl ?_
  refine ge_aload_n a_X10_become_7 rfl 1 rfl ?_
  refine ge_getR (q := 44) a_X10_become_8 fd_X10_9 (rfl : gm_cls 43 = 9) rfl ?_
  refine ge_iload_n a_X10_become_11 rfl 2 rfl ?_
  refine ge_iload_n a_X10_become_12 rfl 3 rfl ?_
  obtain ⟨b_3, hyp⟩ := hyp
  refine ge_iast (j := a1.toNatClampNeg) a_X10_become_13 ga_44 b_3 rfl ?_
  refine ge_nm (fun h_4 eh_4 => ?_)
  have hyp := hyp h_4 eh_4
  refine ge_iload_n a_X10_become_14 rfl 0 rfl ?_
  exact ge_iret rfl a_X10_become_15 hyp

theorem a_X10_copyRow_0 : At m_X10_copyRow 0 (.iconst 0) 1 1 := at_i (by decide +kernel) rfl
theorem a_X10_copyRow_1 : At m_X10_copyRow 1 (.istore_n 2) 1 2 := at_i (by decide +kernel) rfl
theorem a_X10_copyRow_2 : At m_X10_copyRow 2 (.iload_n 2) 1 3 := at_i (by decide +kernel) rfl
theorem a_X10_copyRow_3 : At m_X10_copyRow 3 (.bipush 62) 2 5 := at_i (by decide +kernel) rfl
theorem a_X10_copyRow_5 : AtJ m_X10_copyRow 5 (.if_icmp .ge 15) (15) 20 8 := at_j (by decide +kernel) (by decide) rfl
theorem a_X10_copyRow_8 : At m_X10_copyRow 8 (.aload_n 1) 1 9 := at_i (by decide +kernel) rfl
theorem a_X10_copyRow_9 : At m_X10_copyRow 9 (.iload_n 2) 1 10 := at_i (by decide +kernel) rfl
theorem a_X10_copyRow_10 : At m_X10_copyRow 10 (.aload_n 0) 1 11 := at_i (by decide +kernel) rfl
theorem a_X10_copyRow_11 : At m_X10_copyRow 11 (.iload_n 2) 1 12 := at_i (by decide +kernel) rfl
theorem a_X10_copyRow_12 : At m_X10_copyRow 12 (.iaload) 1 13 := at_i (by decide +kernel) rfl
theorem a_X10_copyRow_13 : At m_X10_copyRow 13 (.iastore) 1 14 := at_i (by decide +kernel) rfl
theorem a_X10_copyRow_14 : At m_X10_copyRow 14 (.iinc 2 1) 3 17 := at_i (by decide +kernel) rfl
theorem a_X10_copyRow_17 : AtJ m_X10_copyRow 17 (.goto (-15)) (-15) 2 20 := at_j (by decide +kernel) (by decide) rfl
theorem a_X10_copyRow_20 : At m_X10_copyRow 20 (.return_) 1 21 := at_i (by decide +kernel) rfl
def f_X10_copyRow_b2 (b0 : Nat) (n0 : Nat) (b1 : Nat) (n1 : Nat)  (Q : Mem → Prop)  (K2 : Int32 → Mem → Prop) (v2 : Int32) (h : Mem) : Prop :=
  if (62 : Int32) ≤ v2 then (
    Q h)
  else (
    vp_in v2 n0 ∧
    vp_in v2 n1 ∧
    ∀ h_4 : Mem, h_4 = gm_st h b1 v2.toNatClampNeg (h b0 v2.toNatClampNeg) →
    ∀ v_5 : Int32, v_5 = v2 + (1 : Int32) →
    K2 v_5 h_4)
set_option maxRecDepth 20000 in
theorem t_X10_copyRow_b2 (b0 : Nat) (n0 : Nat) (b1 : Nat) (n1 : Nat)  (hb0 : gm_arr b0 n0) (hb1 : gm_arr b1 n1)  (Q : Mem → Prop)   : ∀ (n : Nat) (v2 : Int32) (h : Mem), gm_it1 (f_X10_copyRow_b2 b0 n0 b1 n1  Q ) n v2 h → EV m_X10_copyRow (GV Q) 2 [(0, .ref b0), (1, .ref b1), (2, .int v2)] [] h := by
  refine ge_loop1 (P := fun v2 h => EV m_X10_copyRow (GV Q) 2 [(0, .ref b0), (1, .ref b1), (2, .int v2)] [] h) (fun K2 hK2 v2 h hyp => ?_)
  unfold f_X10_copyRow_b2 at hyp
  refine ge_iload_n a_X10_copyRow_2 rfl 2 rfl ?_
  refine ge_bipush (v := 62) a_X10_copyRow_3 rfl ?_
  refine ge_icmp_ge a_X10_copyRow_5 (fun c_1 => ?_) (fun c_1 => ?_)
  · have hyp := gm_ip hyp c_1
    exact ge_vret rfl a_X10_copyRow_20 hyp
  · have hyp := gm_in hyp c_1
    refine ge_aload_n a_X10_copyRow_8 rfl 1 rfl ?_
    refine ge_iload_n a_X10_copyRow_9 rfl 2 rfl ?_
    refine ge_aload_n a_X10_copyRow_10 rfl 0 rfl ?_
    refine ge_iload_n a_X10_copyRow_11 rfl 2 rfl ?_
    obtain ⟨b_2, hyp⟩ := hyp
    refine ge_iald (j := v2.toNatClampNeg) a_X10_copyRow_12 hb0 b_2 rfl ?_
    obtain ⟨b_3, hyp⟩ := hyp
    refine ge_iast (j := v2.toNatClampNeg) a_X10_copyRow_13 hb1 b_3 rfl ?_
    refine ge_nm (fun h_4 eh_4 => ?_)
    have hyp := hyp h_4 eh_4
    obtain ⟨v_5, ev_5⟩ : ∃ y : Int32, y = v2 + (1 : Int32) := ⟨_, rfl⟩
    have hyp := hyp v_5 ev_5
    refine ge_iinc (v := v_5) (lv' := [(2, .int v_5), (0, .ref b0), (1, .ref b1)]) a_X10_copyRow_14 2 rfl ev_5.symm (Nat.le_of_ble_eq_true rfl) rfl ?_
    refine ge_goto a_X10_copyRow_17 ?_
    exact ge_sub [1, 2, 0] rfl (hK2 v_5 h_4 hyp)
def f_X10_copyRow (b0 : Nat) (n0 : Nat) (b1 : Nat) (n1 : Nat) (h : Mem) (Q : Mem → Prop) : Prop :=
  gm_it1 (f_X10_copyRow_b2 b0 n0 b1 n1  Q ) gm_F (0 : Int32) h
set_option maxRecDepth 20000 in
theorem t_X10_copyRow (b0 : Nat) (n0 : Nat) (b1 : Nat) (n1 : Nat) (hb0 : gm_arr b0 n0) (hb1 : gm_arr b1 n1) (h : Mem) (Q : Mem → Prop) (hyp : f_X10_copyRow b0 n0 b1 n1 h Q) : Cn m_X10_copyRow [.ref b0, .ref b1] h (GV Q) := by
  refine ge_entry (lv := [(0, .ref b0), (1, .ref b1)]) pn_X10 (Nat.le_of_ble_eq_true rfl) rfl ?_
  unfold f_X10_copyRow at hyp
  refine ge_iconst (v := 0) a_X10_copyRow_0 rfl ?_
  refine ge_istore_n (lv' := [(2, .int (0 : Int32)), (0, .ref b0), (1, .ref b1)]) a_X10_copyRow_1 rfl (Nat.le_of_ble_eq_true rfl) rfl ?_
  exact ge_sub [1, 2, 0] rfl (t_X10_copyRow_b2 b0 n0 b1 n1  hb0 hb1  Q   gm_F (0 : Int32) h hyp)

theorem a_X10_putBack_0 : At m_X10_putBack 0 (.aload_n 0) 1 1 := at_i (by decide +kernel) rfl
theorem a_X10_putBack_1 : At m_X10_putBack 1 (.getfield 16) 3 4 := at_i (by decide +kernel) rfl
theorem a_X10_putBack_4 : At m_X10_putBack 4 (.aload_n 0) 1 5 := at_i (by decide +kernel) rfl
theorem a_X10_putBack_5 : At m_X10_putBack 5 (.getfield 9) 3 8 := at_i (by decide +kernel) rfl
theorem a_X10_putBack_8 : At m_X10_putBack 8 (.invokestatic 67) 3 11 := at_i (by decide +kernel) rfl
theorem a_X10_putBack_11 : At m_X10_putBack 11 (.iload_n 1) 1 12 := at_i (by decide +kernel) rfl
theorem a_X10_putBack_12 : At m_X10_putBack 12 (.ireturn) 1 13 := at_i (by decide +kernel) rfl
def f_X10_putBack (a1 : Int32) (h : Mem) (Q : Int32 → Mem → Prop) : Prop :=
  f_X10_copyRow 46 62 44 62 h fun h_1 =>
  Q a1 h_1
set_option maxRecDepth 20000 in
theorem t_X10_putBack (a1 : Int32)  (h : Mem) (Q : Int32 → Mem → Prop) (hyp : f_X10_putBack a1 h Q) : Cn m_X10_putBack [.ref 43, .int a1] h (GI Q) := by
  refine ge_entry (lv := [(0, .ref 43), (1, .int a1)]) pn_X10 (Nat.le_of_ble_eq_true rfl) rfl ?_
  unfold f_X10_putBack at hyp
  refine ge_aload_n a_X10_putBack_0 rfl 0 rfl ?_
  refine ge_getR (q := 46) a_X10_putBack_1 fd_X10_16 (rfl : gm_cls 43 = 9) rfl ?_
  refine ge_aload_n a_X10_putBack_4 rfl 0 rfl ?_
  refine ge_getR (q := 44) a_X10_putBack_5 fd_X10_9 (rfl : gm_cls 43 = 9) rfl ?_
  refine ge_cSV [.ref 46, .ref 44] (rest := []) a_X10_putBack_8 ok_X10_copyRow lk_X10_67 ⟨Nat.le_of_ble_eq_true rfl, Nat.le_of_ble_eq_true rfl⟩ rfl rfl (Nat.le_of_ble_eq_true rfl) (t_X10_copyRow 46 62 44 62 ga_46 ga_44 h _ hyp) (fun h_1 hyp => ?_)
  refine ge_iload_n a_X10_putBack_11 rfl 1 rfl ?_
  exact ge_iret rfl a_X10_putBack_12 hyp

theorem a_X10_has_0 : At m_X10_has 0 (.iload_n 0) 1 1 := at_i (by decide +kernel) rfl
theorem a_X10_has_1 : At m_X10_has 1 (.iload_n 1) 1 2 := at_i (by decide +kernel) rfl
theorem a_X10_has_2 : At m_X10_has 2 (.ishr) 1 3 := at_i (by decide +kernel) rfl
theorem a_X10_has_3 : At m_X10_has 3 (.iconst 1) 1 4 := at_i (by decide +kernel) rfl
theorem a_X10_has_4 : At m_X10_has 4 (.iand) 1 5 := at_i (by decide +kernel) rfl
theorem a_X10_has_5 : At m_X10_has 5 (.iconst 1) 1 6 := at_i (by decide +kernel) rfl
theorem a_X10_has_6 : AtJ m_X10_has 6 (.if_icmp .ne 7) (7) 13 9 := at_j (by decide +kernel) (by decide) rfl
theorem a_X10_has_9 : At m_X10_has 9 (.iconst 1) 1 10 := at_i (by decide +kernel) rfl
theorem a_X10_has_10 : AtJ m_X10_has 10 (.goto 4) (4) 14 13 := at_j (by decide +kernel) (by decide) rfl
theorem a_X10_has_13 : At m_X10_has 13 (.iconst 0) 1 14 := at_i (by decide +kernel) rfl
theorem a_X10_has_14 : At m_X10_has 14 (.ireturn) 1 15 := at_i (by decide +kernel) rfl
def f_X10_has (a0 : Int32) (a1 : Int32) (h : Mem) (Q : Int32 → Mem → Prop) : Prop :=
  if (a0 >>> (a1 &&& 31)) &&& (1 : Int32) = (1 : Int32) then (
    Q (1 : Int32) h)
  else (
    Q (0 : Int32) h)
set_option maxRecDepth 20000 in
theorem t_X10_has (a0 : Int32) (a1 : Int32)  (h : Mem) (Q : Int32 → Mem → Prop) (hyp : f_X10_has a0 a1 h Q) : Cn m_X10_has [.int a0, .int a1] h (GI Q) := by
  refine ge_entry (lv := [(0, .int a0), (1, .int a1)]) pn_X10 (Nat.le_of_ble_eq_true rfl) rfl ?_
  unfold f_X10_has at hyp
  refine ge_iload_n a_X10_has_0 rfl 0 rfl ?_
  refine ge_iload_n a_X10_has_1 rfl 1 rfl ?_
  refine ge_ishr a_X10_has_2 ?_
  refine ge_iconst (v := 1) a_X10_has_3 rfl ?_
  refine ge_iand a_X10_has_4 ?_
  refine ge_iconst (v := 1) a_X10_has_5 rfl ?_
  refine ge_icmp_ne a_X10_has_6 (fun c_1 => ?_) (fun c_1 => ?_)
  · have hyp := gm_in hyp c_1
    refine ge_iconst (v := 0) a_X10_has_13 rfl ?_
    exact ge_zret rfl rfl a_X10_has_14 hyp
  · have hyp := gm_ip hyp c_1
    refine ge_iconst (v := 1) a_X10_has_9 rfl ?_
    refine ge_goto a_X10_has_10 ?_
    exact ge_zret rfl rfl a_X10_has_14 hyp

theorem a_X10_bits_0 : At m_X10_bits 0 (.iconst 0) 1 1 := at_i (by decide +kernel) rfl
theorem a_X10_bits_1 : At m_X10_bits 1 (.istore_n 1) 1 2 := at_i (by decide +kernel) rfl
theorem a_X10_bits_2 : At m_X10_bits 2 (.iload_n 0) 1 3 := at_i (by decide +kernel) rfl
theorem a_X10_bits_3 : At m_X10_bits 3 (.istore_n 2) 1 4 := at_i (by decide +kernel) rfl
theorem a_X10_bits_4 : At m_X10_bits 4 (.iload_n 2) 1 5 := at_i (by decide +kernel) rfl
theorem a_X10_bits_5 : AtJ m_X10_bits 5 (.ifCond .eq 15) (15) 20 8 := at_j (by decide +kernel) (by decide) rfl
theorem a_X10_bits_8 : At m_X10_bits 8 (.iinc 1 1) 3 11 := at_i (by decide +kernel) rfl
theorem a_X10_bits_11 : At m_X10_bits 11 (.iload_n 2) 1 12 := at_i (by decide +kernel) rfl
theorem a_X10_bits_12 : At m_X10_bits 12 (.iload_n 2) 1 13 := at_i (by decide +kernel) rfl
theorem a_X10_bits_13 : At m_X10_bits 13 (.iconst 1) 1 14 := at_i (by decide +kernel) rfl
theorem a_X10_bits_14 : At m_X10_bits 14 (.isub) 1 15 := at_i (by decide +kernel) rfl
theorem a_X10_bits_15 : At m_X10_bits 15 (.iand) 1 16 := at_i (by decide +kernel) rfl
theorem a_X10_bits_16 : At m_X10_bits 16 (.istore_n 2) 1 17 := at_i (by decide +kernel) rfl
theorem a_X10_bits_17 : AtJ m_X10_bits 17 (.goto (-13)) (-13) 4 20 := at_j (by decide +kernel) (by decide) rfl
theorem a_X10_bits_20 : At m_X10_bits 20 (.iload_n 1) 1 21 := at_i (by decide +kernel) rfl
theorem a_X10_bits_21 : At m_X10_bits 21 (.ireturn) 1 22 := at_i (by decide +kernel) rfl
def f_X10_bits_b4 (a0 : Int32)  (Q : Int32 → Mem → Prop)  (K4 : Int32 → Int32 → Mem → Prop) (v1 : Int32) (v2 : Int32) (h : Mem) : Prop :=
  if v2 = 0 then (
    Q v1 h)
  else (
    ∀ v_2 : Int32, v_2 = v1 + (1 : Int32) →
    ∀ v_3 : Int32, v_3 = v2 &&& (v2 - (1 : Int32)) →
    K4 v_2 v_3 h)
set_option maxRecDepth 20000 in
theorem t_X10_bits_b4 (a0 : Int32)    (Q : Int32 → Mem → Prop)   : ∀ (n : Nat) (v1 : Int32) (v2 : Int32) (h : Mem), gm_it2 (f_X10_bits_b4 a0  Q ) n v1 v2 h → EV m_X10_bits (GI Q) 4 [(1, .int v1), (2, .int v2)] [] h := by
  refine ge_loop2 (P := fun v1 v2 h => EV m_X10_bits (GI Q) 4 [(1, .int v1), (2, .int v2)] [] h) (fun K4 hK4 v1 v2 h hyp => ?_)
  unfold f_X10_bits_b4 at hyp
  refine ge_iload_n a_X10_bits_4 rfl 1 rfl ?_
  refine ge_if_eq a_X10_bits_5 (fun c_1 => ?_) (fun c_1 => ?_)
  · have hyp := gm_ip hyp c_1
    refine ge_iload_n a_X10_bits_20 rfl 0 rfl ?_
    exact ge_iret rfl a_X10_bits_21 hyp
  · have hyp := gm_in hyp c_1
    obtain ⟨v_2, ev_2⟩ : ∃ y : Int32, y = v1 + (1 : Int32) := ⟨_, rfl⟩
    have hyp := hyp v_2 ev_2
    refine ge_iinc (v := v_2) (lv' := [(1, .int v_2), (2, .int v2)]) a_X10_bits_8 0 rfl ev_2.symm (Nat.le_of_ble_eq_true rfl) rfl ?_
    refine ge_iload_n a_X10_bits_11 rfl 1 rfl ?_
    refine ge_iload_n a_X10_bits_12 rfl 1 rfl ?_
    refine ge_iconst (v := 1) a_X10_bits_13 rfl ?_
    refine ge_isub a_X10_bits_14 ?_
    refine ge_iand a_X10_bits_15 ?_
    refine ge_topi (fun v_3 ev_3 => ?_)
    have hyp := hyp v_3 ev_3
    refine ge_istore_n (lv' := [(2, .int v_3), (1, .int v_2)]) a_X10_bits_16 rfl (Nat.le_of_ble_eq_true rfl) rfl ?_
    refine ge_goto a_X10_bits_17 ?_
    exact ge_sub [1, 0] rfl (hK4 v_2 v_3 h hyp)
def f_X10_bits (a0 : Int32) (h : Mem) (Q : Int32 → Mem → Prop) : Prop :=
  gm_it2 (f_X10_bits_b4 a0  Q ) gm_F (0 : Int32) a0 h
set_option maxRecDepth 20000 in
theorem t_X10_bits (a0 : Int32)  (h : Mem) (Q : Int32 → Mem → Prop) (hyp : f_X10_bits a0 h Q) : Cn m_X10_bits [.int a0] h (GI Q) := by
  refine ge_entry (lv := [(0, .int a0)]) pn_X10 (Nat.le_of_ble_eq_true rfl) rfl ?_
  unfold f_X10_bits at hyp
  refine ge_iconst (v := 0) a_X10_bits_0 rfl ?_
  refine ge_istore_n (lv' := [(1, .int (0 : Int32)), (0, .int a0)]) a_X10_bits_1 rfl (Nat.le_of_ble_eq_true rfl) rfl ?_
  refine ge_iload_n a_X10_bits_2 rfl 1 rfl ?_
  refine ge_istore_n (lv' := [(2, .int a0), (1, .int (0 : Int32)), (0, .int a0)]) a_X10_bits_3 rfl (Nat.le_of_ble_eq_true rfl) rfl ?_
  exact ge_sub [1, 0] rfl (t_X10_bits_b4 a0    Q   gm_F (0 : Int32) a0 h hyp)

theorem a_X10_isLine_0 : At m_X10_isLine 0 (.iload_n 1) 1 1 := at_i (by decide +kernel) rfl
theorem a_X10_isLine_1 : At m_X10_isLine 1 (.iconst 0) 1 2 := at_i (by decide +kernel) rfl
theorem a_X10_isLine_2 : At m_X10_isLine 2 (.aload_n 0) 1 3 := at_i (by decide +kernel) rfl
theorem a_X10_isLine_3 : At m_X10_isLine 3 (.getfield 9) 3 6 := at_i (by decide +kernel) rfl
theorem a_X10_isLine_6 : At m_X10_isLine 6 (.iconst 4) 1 7 := at_i (by decide +kernel) rfl
theorem a_X10_isLine_7 : At m_X10_isLine 7 (.iaload) 1 8 := at_i (by decide +kernel) rfl
theorem a_X10_isLine_8 : At m_X10_isLine 8 (.iconst 1) 1 9 := at_i (by decide +kernel) rfl
theorem a_X10_isLine_9 : At m_X10_isLine 9 (.isub) 1 10 := at_i (by decide +kernel) rfl
theorem a_X10_isLine_10 : At m_X10_isLine 10 (.invokestatic 71) 3 13 := at_i (by decide +kernel) rfl
theorem a_X10_isLine_13 : At m_X10_isLine 13 (.ireturn) 1 14 := at_i (by decide +kernel) rfl
def f_X10_isLine (a1 : Int32) (h : Mem) (Q : Int32 → Mem → Prop) : Prop :=
  f_X10_within a1 (0 : Int32) ((h 44 4) - (1 : Int32)) h fun r_2 h_1 =>
  gm_b r_2 ∧ Q r_2 h_1
set_option maxRecDepth 20000 in
theorem t_X10_isLine (a1 : Int32)  (h : Mem) (Q : Int32 → Mem → Prop) (hyp : f_X10_isLine a1 h Q) : Cn m_X10_isLine [.ref 43, .int a1] h (GI Q) := by
  refine ge_entry (lv := [(0, .ref 43), (1, .int a1)]) pn_X10 (Nat.le_of_ble_eq_true rfl) rfl ?_
  unfold f_X10_isLine at hyp
  refine ge_iload_n a_X10_isLine_0 rfl 1 rfl ?_
  refine ge_iconst (v := 0) a_X10_isLine_1 rfl ?_
  refine ge_aload_n a_X10_isLine_2 rfl 0 rfl ?_
  refine ge_getR (q := 44) a_X10_isLine_3 fd_X10_9 (rfl : gm_cls 43 = 9) rfl ?_
  refine ge_iconst (v := 4) a_X10_isLine_6 rfl ?_
  refine ge_iald (j := 4) a_X10_isLine_7 ga_44 li_4_62.1 li_4_62.2 ?_
  refine ge_iconst (v := 1) a_X10_isLine_8 rfl ?_
  refine ge_isub a_X10_isLine_9 ?_
  refine ge_cSI [.int a1, .int (0 : Int32), .int ((h 44 4) - (1 : Int32))] (rest := []) a_X10_isLine_10 ok_X10_within lk_X10_71 ⟨Nat.le_of_ble_eq_true rfl, Nat.le_of_ble_eq_true rfl⟩ rfl rfl (Nat.le_of_ble_eq_true rfl) (t_X10_within a1 (0 : Int32) ((h 44 4) - (1 : Int32))  h _ hyp) (fun r_2 h_1 hyp => ?_)
  exact ge_zret rfl (gm_b_nar hyp.1) a_X10_isLine_13 hyp.2

theorem a_X10_isKind_0 : At m_X10_isKind 0 (.iload_n 0) 1 1 := at_i (by decide +kernel) rfl
theorem a_X10_isKind_1 : At m_X10_isKind 1 (.iconst 0) 1 2 := at_i (by decide +kernel) rfl
theorem a_X10_isKind_2 : At m_X10_isKind 2 (.bipush 6) 2 4 := at_i (by decide +kernel) rfl
theorem a_X10_isKind_4 : At m_X10_isKind 4 (.invokestatic 71) 3 7 := at_i (by decide +kernel) rfl
theorem a_X10_isKind_7 : At m_X10_isKind 7 (.ireturn) 1 8 := at_i (by decide +kernel) rfl
def f_X10_isKind (a0 : Int32) (h : Mem) (Q : Int32 → Mem → Prop) : Prop :=
  f_X10_within a0 (0 : Int32) (6 : Int32) h fun r_2 h_1 =>
  gm_b r_2 ∧ Q r_2 h_1
set_option maxRecDepth 20000 in
theorem t_X10_isKind (a0 : Int32)  (h : Mem) (Q : Int32 → Mem → Prop) (hyp : f_X10_isKind a0 h Q) : Cn m_X10_isKind [.int a0] h (GI Q) := by
  refine ge_entry (lv := [(0, .int a0)]) pn_X10 (Nat.le_of_ble_eq_true rfl) rfl ?_
  unfold f_X10_isKind at hyp
  refine ge_iload_n a_X10_isKind_0 rfl 0 rfl ?_
  refine ge_iconst (v := 0) a_X10_isKind_1 rfl ?_
  refine ge_bipush (v := 6) a_X10_isKind_2 rfl ?_
  refine ge_cSI [.int a0, .int (0 : Int32), .int (6 : Int32)] (rest := []) a_X10_isKind_4 ok_X10_within lk_X10_71 ⟨Nat.le_of_ble_eq_true rfl, Nat.le_of_ble_eq_true rfl⟩ rfl rfl (Nat.le_of_ble_eq_true rfl) (t_X10_within a0 (0 : Int32) (6 : Int32)  h _ hyp) (fun r_2 h_1 hyp => ?_)
  exact ge_zret rfl (gm_b_nar hyp.1) a_X10_isKind_7 hyp.2

theorem a_X10_at_0 : At m_X10_at 0 (.bipush 26) 2 2 := at_i (by decide +kernel) rfl
theorem a_X10_at_2 : At m_X10_at 2 (.iconst 3) 1 3 := at_i (by decide +kernel) rfl
theorem a_X10_at_3 : At m_X10_at 3 (.iload_n 0) 1 4 := at_i (by decide +kernel) rfl
theorem a_X10_at_4 : At m_X10_at 4 (.imul) 1 5 := at_i (by decide +kernel) rfl
theorem a_X10_at_5 : At m_X10_at 5 (.iadd) 1 6 := at_i (by decide +kernel) rfl
theorem a_X10_at_6 : At m_X10_at 6 (.iload_n 1) 1 7 := at_i (by decide +kernel) rfl
theorem a_X10_at_7 : At m_X10_at 7 (.iadd) 1 8 := at_i (by decide +kernel) rfl
theorem a_X10_at_8 : At m_X10_at 8 (.ireturn) 1 9 := at_i (by decide +kernel) rfl
def f_X10_at (a0 : Int32) (a1 : Int32) (h : Mem) (Q : Int32 → Mem → Prop) : Prop :=
  Q (((26 : Int32) + ((3 : Int32) * a0)) + a1) h
set_option maxRecDepth 20000 in
theorem t_X10_at (a0 : Int32) (a1 : Int32)  (h : Mem) (Q : Int32 → Mem → Prop) (hyp : f_X10_at a0 a1 h Q) : Cn m_X10_at [.int a0, .int a1] h (GI Q) := by
  refine ge_entry (lv := [(0, .int a0), (1, .int a1)]) pn_X10 (Nat.le_of_ble_eq_true rfl) rfl ?_
  unfold f_X10_at at hyp
  refine ge_bipush (v := 26) a_X10_at_0 rfl ?_
  refine ge_iconst (v := 3) a_X10_at_2 rfl ?_
  refine ge_iload_n a_X10_at_3 rfl 0 rfl ?_
  refine ge_imul a_X10_at_4 ?_
  refine ge_iadd a_X10_at_5 ?_
  refine ge_iload_n a_X10_at_6 rfl 1 rfl ?_
  refine ge_iadd a_X10_at_7 ?_
  exact ge_iret rfl a_X10_at_8 hyp

theorem a_X10_lineIs_0 : At m_X10_lineIs 0 (.aload_n 0) 1 1 := at_i (by decide +kernel) rfl
theorem a_X10_lineIs_1 : At m_X10_lineIs 1 (.getfield 9) 3 4 := at_i (by decide +kernel) rfl
theorem a_X10_lineIs_4 : At m_X10_lineIs 4 (.iload_n 1) 1 5 := at_i (by decide +kernel) rfl
theorem a_X10_lineIs_5 : At m_X10_lineIs 5 (.iload_n 2) 1 6 := at_i (by decide +kernel) rfl
theorem a_X10_lineIs_6 : At m_X10_lineIs 6 (.invokestatic 75) 3 9 := at_i (by decide +kernel) rfl
theorem a_X10_lineIs_9 : At m_X10_lineIs 9 (.iaload) 1 10 := at_i (by decide +kernel) rfl
theorem a_X10_lineIs_10 : At m_X10_lineIs 10 (.ireturn) 1 11 := at_i (by decide +kernel) rfl
def f_X10_lineIs (a1 : Int32) (a2 : Int32) (h : Mem) (Q : Int32 → Mem → Prop) : Prop :=
  f_X10_at a1 a2 h fun r_2 h_1 =>
  vp_in r_2 62 ∧
  Q (h_1 44 r_2.toNatClampNeg) h_1
set_option maxRecDepth 20000 in
theorem t_X10_lineIs (a1 : Int32) (a2 : Int32)  (h : Mem) (Q : Int32 → Mem → Prop) (hyp : f_X10_lineIs a1 a2 h Q) : Cn m_X10_lineIs [.ref 43, .int a1, .int a2] h (GI Q) := by
  refine ge_entry (lv := [(0, .ref 43), (1, .int a1), (2, .int a2)]) pn_X10 (Nat.le_of_ble_eq_true rfl) rfl ?_
  unfold f_X10_lineIs at hyp
  refine ge_aload_n a_X10_lineIs_0 rfl 0 rfl ?_
  refine ge_getR (q := 44) a_X10_lineIs_1 fd_X10_9 (rfl : gm_cls 43 = 9) rfl ?_
  refine ge_iload_n a_X10_lineIs_4 rfl 1 rfl ?_
  refine ge_iload_n a_X10_lineIs_5 rfl 2 rfl ?_
  refine ge_cSI [.int a1, .int a2] (rest := [.ref 44]) a_X10_lineIs_6 ok_X10_at lk_X10_75 ⟨Nat.le_of_ble_eq_true rfl, Nat.le_of_ble_eq_true rfl⟩ rfl rfl (Nat.le_of_ble_eq_true rfl) (t_X10_at a1 a2  h _ hyp) (fun r_2 h_1 hyp => ?_)
  obtain ⟨b_3, hyp⟩ := hyp
  refine ge_iald (j := r_2.toNatClampNeg) a_X10_lineIs_9 ga_44 b_3 rfl ?_
  exact ge_iret rfl a_X10_lineIs_10 hyp

theorem a_X10_comes_0 : At m_X10_comes 0 (.aload_n 0) 1 1 := at_i (by decide +kernel) rfl
theorem a_X10_comes_1 : At m_X10_comes 1 (.getfield 9) 3 4 := at_i (by decide +kernel) rfl
theorem a_X10_comes_4 : At m_X10_comes 4 (.iconst 4) 1 5 := at_i (by decide +kernel) rfl
theorem a_X10_comes_5 : At m_X10_comes 5 (.iaload) 1 6 := at_i (by decide +kernel) rfl
theorem a_X10_comes_6 : At m_X10_comes 6 (.istore 4) 2 8 := at_i (by decide +kernel) rfl
theorem a_X10_comes_8 : At m_X10_comes 8 (.aload_n 0) 1 9 := at_i (by decide +kernel) rfl
theorem a_X10_comes_9 : At m_X10_comes 9 (.getfield 9) 3 12 := at_i (by decide +kernel) rfl
theorem a_X10_comes_12 : At m_X10_comes 12 (.iload 4) 2 14 := at_i (by decide +kernel) rfl
theorem a_X10_comes_14 : At m_X10_comes 14 (.iconst 0) 1 15 := at_i (by decide +kernel) rfl
theorem a_X10_comes_15 : At m_X10_comes 15 (.invokestatic 75) 3 18 := at_i (by decide +kernel) rfl
theorem a_X10_comes_18 : At m_X10_comes 18 (.iload_n 1) 1 19 := at_i (by decide +kernel) rfl
theorem a_X10_comes_19 : At m_X10_comes 19 (.iastore) 1 20 := at_i (by decide +kernel) rfl
theorem a_X10_comes_20 : At m_X10_comes 20 (.aload_n 0) 1 21 := at_i (by decide +kernel) rfl
theorem a_X10_comes_21 : At m_X10_comes 21 (.getfield 9) 3 24 := at_i (by decide +kernel) rfl
theorem a_X10_comes_24 : At m_X10_comes 24 (.iload 4) 2 26 := at_i (by decide +kernel) rfl
theorem a_X10_comes_26 : At m_X10_comes 26 (.iconst 1) 1 27 := at_i (by decide +kernel) rfl
theorem a_X10_comes_27 : At m_X10_comes 27 (.invokestatic 75) 3 30 := at_i (by decide +kernel) rfl
theorem a_X10_comes_30 : At m_X10_comes 30 (.iload_n 2) 1 31 := at_i (by decide +kernel) rfl
theorem a_X10_comes_31 : At m_X10_comes 31 (.iastore) 1 32 := at_i (by decide +kernel) rfl
theorem a_X10_comes_32 : At m_X10_comes 32 (.aload_n 0) 1 33 := at_i (by decide +kernel) rfl
theorem a_X10_comes_33 : At m_X10_comes 33 (.getfield 9) 3 36 := at_i (by decide +kernel) rfl
theorem a_X10_comes_36 : At m_X10_comes 36 (.iload 4) 2 38 := at_i (by decide +kernel) rfl
theorem a_X10_comes_38 : At m_X10_comes 38 (.iconst 2) 1 39 := at_i (by decide +kernel) rfl
theorem a_X10_comes_39 : At m_X10_comes 39 (.invokestatic 75) 3 42 := at_i (by decide +kernel) rfl
theorem a_X10_comes_42 : At m_X10_comes 42 (.iload_n 3) 1 43 := at_i (by decide +kernel) rfl
theorem a_X10_comes_43 : At m_X10_comes 43 (.iastore) 1 44 := at_i (by decide +kernel) rfl
theorem a_X10_comes_44 : At m_X10_comes 44 (.aload_n 0) 1 45 := at_i (by decide +kernel) rfl
theorem a_X10_comes_45 : At m_X10_comes 45 (.getfield 9) 3 48 := at_i (by decide +kernel) rfl
theorem a_X10_comes_48 : At m_X10_comes 48 (.iconst 4) 1 49 := at_i (by decide +kernel) rfl
theorem a_X10_comes_49 : At m_X10_comes 49 (.dup2) 1 50 := at_i (by decide +kernel) rfl
theorem a_X10_comes_50 : At m_X10_comes 50 (.iaload) 1 51 := at_i (by decide +kernel) rfl
theorem a_X10_comes_51 : At m_X10_comes 51 (.iconst 1) 1 52 := at_i (by decide +kernel) rfl
theorem a_X10_comes_52 : At m_X10_comes 52 (.iadd) 1 53 := at_i (by decide +kernel) rfl
theorem a_X10_comes_53 : At m_X10_comes 53 (.iastore) 1 54 := at_i (by decide +kernel) rfl
theorem a_X10_comes_54 : At m_X10_comes 54 (.iload 4) 2 56 := at_i (by decide +kernel) rfl
theorem a_X10_comes_56 : At m_X10_comes 56 (.ireturn) 1 57 := at_i (by decide +kernel) rfl
def f_X10_comes (a1 : Int32) (a2 : Int32) (a3 : Int32) (h : Mem) (Q : Int32 → Mem → Prop) : Prop :=
  ∀ v_1 : Int32, v_1 = h 44 4 →
  f_X10_at v_1 (0 : Int32) h fun r_3 h_2 =>
  vp_in r_3 62 ∧
  ∀ h_5 : Mem, h_5 = gm_st h_2 44 r_3.toNatClampNeg a1 →
  f_X10_at v_1 (1 : Int32) h_5 fun r_7 h_6 =>
  vp_in r_7 62 ∧
  ∀ h_9 : Mem, h_9 = gm_st h_6 44 r_7.toNatClampNeg a2 →
  f_X10_at v_1 (2 : Int32) h_9 fun r_11 h_10 =>
  vp_in r_11 62 ∧
  ∀ h_13 : Mem, h_13 = gm_st h_10 44 r_11.toNatClampNeg a3 →
  ∀ h_14 : Mem, h_14 = gm_st h_13 44 4 ((h_13 44 4) + (1 : Int32)) →
  Q v_1 h_14
set_option maxRecDepth 20000 in
theorem t_X10_comes (a1 : Int32) (a2 : Int32) (a3 : Int32)  (h : Mem) (Q : Int32 → Mem → Prop) (hyp : f_X10_comes a1 a2 a3 h Q) : Cn m_X10_comes [.ref 43, .int a1, .int a2, .int a3] h (GI Q) := by
  refine ge_entry (lv := [(0, .ref 43), (1, .int a1), (2, .int a2), (3, .int a3)]) pn_X10 (Nat.le_of_ble_eq_true rfl) rfl ?_
  unfold f_X10_comes at hyp
  refine ge_aload_n a_X10_comes_0 rfl 0 rfl ?_
  refine ge_getR (q := 44) a_X10_comes_1 fd_X10_9 (rfl : gm_cls 43 = 9) rfl ?_
  refine ge_iconst (v := 4) a_X10_comes_4 rfl ?_
  refine ge_iald (j := 4) a_X10_comes_5 ga_44 li_4_62.1 li_4_62.2 ?_
  refine ge_topi (fun v_1 ev_1 => ?_)
  have hyp := hyp v_1 ev_1
  refine ge_istore (lv' := [(4, .int v_1), (0, .ref 43), (1, .int a1), (2, .int a2), (3, .int a3)]) a_X10_comes_6 (Nat.le_of_ble_eq_true rfl) rfl ?_
  refine ge_aload_n a_X10_comes_8 rfl 1 rfl ?_
  refine ge_getR (q := 44) a_X10_comes_9 fd_X10_9 (rfl : gm_cls 43 = 9) rfl ?_
  refine ge_iload a_X10_comes_12 0 rfl ?_
  refine ge_iconst (v := 0) a_X10_comes_14 rfl ?_
  refine ge_cSI [.int v_1, .int (0 : Int32)] (rest := [.ref 44]) a_X10_comes_15 ok_X10_at lk_X10_75 ⟨Nat.le_of_ble_eq_true rfl, Nat.le_of_ble_eq_true rfl⟩ rfl rfl (Nat.le_of_ble_eq_true rfl) (t_X10_at v_1 (0 : Int32)  h _ hyp) (fun r_3 h_2 hyp => ?_)
  refine ge_iload_n a_X10_comes_18 rfl 2 rfl ?_
  obtain ⟨b_4, hyp⟩ := hyp
  refine ge_iast (j := r_3.toNatClampNeg) a_X10_comes_19 ga_44 b_4 rfl ?_
  refine ge_nm (fun h_5 eh_5 => ?_)
  have hyp := hyp h_5 eh_5
  refine ge_aload_n a_X10_comes_20 rfl 1 rfl ?_
  refine ge_getR (q := 44) a_X10_comes_21 fd_X10_9 (rfl : gm_cls 43 = 9) rfl ?_
  refine ge_iload a_X10_comes_24 0 rfl ?_
  refine ge_iconst (v := 1) a_X10_comes_26 rfl ?_
  refine ge_cSI [.int v_1, .int (1 : Int32)] (rest := [.ref 44]) a_X10_comes_27 ok_X10_at lk_X10_75 ⟨Nat.le_of_ble_eq_true rfl, Nat.le_of_ble_eq_true rfl⟩ rfl rfl (Nat.le_of_ble_eq_true rfl) (t_X10_at v_1 (1 : Int32)  h_5 _ hyp) (fun r_7 h_6 hyp => ?_)
  refine ge_iload_n a_X10_comes_30 rfl 3 rfl ?_
  obtain ⟨b_8, hyp⟩ := hyp
  refine ge_iast (j := r_7.toNatClampNeg) a_X10_comes_31 ga_44 b_8 rfl ?_
  refine ge_nm (fun h_9 eh_9 => ?_)
  have hyp := hyp h_9 eh_9
  refine ge_aload_n a_X10_comes_32 rfl 1 rfl ?_
  refine ge_getR (q := 44) a_X10_comes_33 fd_X10_9 (rfl : gm_cls 43 = 9) rfl ?_
  refine ge_iload a_X10_comes_36 0 rfl ?_
  refine ge_iconst (v := 2) a_X10_comes_38 rfl ?_
  refine ge_cSI [.int v_1, .int (2 : Int32)] (rest := [.ref 44]) a_X10_comes_39 ok_X10_at lk_X10_75 ⟨Nat.le_of_ble_eq_true rfl, Nat.le_of_ble_eq_true rfl⟩ rfl rfl (Nat.le_of_ble_eq_true rfl) (t_X10_at v_1 (2 : Int32)  h_9 _ hyp) (fun r_11 h_10 hyp => ?_)
  refine ge_iload_n a_X10_comes_42 rfl 4 rfl ?_
  obtain ⟨b_12, hyp⟩ := hyp
  refine ge_iast (j := r_11.toNatClampNeg) a_X10_comes_43 ga_44 b_12 rfl ?_
  refine ge_nm (fun h_13 eh_13 => ?_)
  have hyp := hyp h_13 eh_13
  refine ge_aload_n a_X10_comes_44 rfl 1 rfl ?_
  refine ge_getR (q := 44) a_X10_comes_45 fd_X10_9 (rfl : gm_cls 43 = 9) rfl ?_
  refine ge_iconst (v := 4) a_X10_comes_48 rfl ?_
  refine ge_dup2 a_X10_comes_49 rfl rfl ?_
  refine ge_iald (j := 4) a_X10_comes_50 ga_44 li_4_62.1 li_4_62.2 ?_
  refine ge_iconst (v := 1) a_X10_comes_51 rfl ?_
  refine ge_iadd a_X10_comes_52 ?_
  refine ge_iast (j := 4) a_X10_comes_53 ga_44 li_4_62.1 li_4_62.2 ?_
  refine ge_nm (fun h_14 eh_14 => ?_)
  have hyp := hyp h_14 eh_14
  refine ge_iload a_X10_comes_54 0 rfl ?_
  exact ge_iret rfl a_X10_comes_56 hyp

theorem a_X10_line_0 : At m_X10_line 0 (.iload_n 1) 1 1 := at_i (by decide +kernel) rfl
theorem a_X10_line_1 : At m_X10_line 1 (.invokestatic 79) 3 4 := at_i (by decide +kernel) rfl
theorem a_X10_line_4 : AtJ m_X10_line 4 (.ifCond .ne 10) (10) 14 7 := at_j (by decide +kernel) (by decide) rfl
theorem a_X10_line_7 : At m_X10_line 7 (.aload_n 0) 1 8 := at_i (by decide +kernel) rfl
theorem a_X10_line_8 : At m_X10_line 8 (.ldc 66) 2 10 := at_i (by decide +kernel) rfl
theorem a_X10_line_10 : At m_X10_line 10 (.invokevirtual 83) 3 13 := at_i (by decide +kernel) rfl
theorem a_X10_line_13 : At m_X10_line 13 (.ireturn) 1 14 := at_i (by decide +kernel) rfl
theorem a_X10_line_14 : At m_X10_line 14 (.aload_n 0) 1 15 := at_i (by decide +kernel) rfl
theorem a_X10_line_15 : At m_X10_line 15 (.getfield 9) 3 18 := at_i (by decide +kernel) rfl
theorem a_X10_line_18 : At m_X10_line 18 (.iconst 4) 1 19 := at_i (by decide +kernel) rfl
theorem a_X10_line_19 : At m_X10_line 19 (.iaload) 1 20 := at_i (by decide +kernel) rfl
theorem a_X10_line_20 : At m_X10_line 20 (.bipush 12) 2 22 := at_i (by decide +kernel) rfl
theorem a_X10_line_22 : AtJ m_X10_line 22 (.if_icmp .ne 12) (12) 34 25 := at_j (by decide +kernel) (by decide) rfl
theorem a_X10_line_25 : At m_X10_line 25 (.aload_n 0) 1 26 := at_i (by decide +kernel) rfl
theorem a_X10_line_26 : At m_X10_line 26 (.ldc 87) 2 28 := at_i (by decide +kernel) rfl
theorem a_X10_line_28 : At m_X10_line 28 (.invokevirtual 83) 3 31 := at_i (by decide +kernel) rfl
theorem a_X10_line_31 : AtJ m_X10_line 31 (.goto 10) (10) 41 34 := at_j (by decide +kernel) (by decide) rfl
theorem a_X10_line_34 : At m_X10_line 34 (.aload_n 0) 1 35 := at_i (by decide +kernel) rfl
theorem a_X10_line_35 : At m_X10_line 35 (.iload_n 1) 1 36 := at_i (by decide +kernel) rfl
theorem a_X10_line_36 : At m_X10_line 36 (.iconst 5) 1 37 := at_i (by decide +kernel) rfl
theorem a_X10_line_37 : At m_X10_line 37 (.iconst 0) 1 38 := at_i (by decide +kernel) rfl
theorem a_X10_line_38 : At m_X10_line 38 (.invokevirtual 88) 3 41 := at_i (by decide +kernel) rfl
theorem a_X10_line_41 : At m_X10_line 41 (.ireturn) 1 42 := at_i (by decide +kernel) rfl
def f_X10_line (a1 : Int32) (h : Mem) (Q : Int32 → Mem → Prop) : Prop :=
  f_X10_isKind a1 h fun r_2 h_1 =>
  if r_2 = 0 then (
    f_X10_finding (-1000001 : Int32) h_1 fun r_10 h_9 =>
    Q r_10 h_9)
  else (
    if h_1 44 4 = (12 : Int32) then (
      f_X10_finding (-1000002 : Int32) h_1 fun r_8 h_7 =>
      Q r_8 h_7)
    else (
      f_X10_comes a1 (5 : Int32) (0 : Int32) h_1 fun r_6 h_5 =>
      Q r_6 h_5))
set_option maxRecDepth 20000 in
theorem t_X10_line (a1 : Int32)  (h : Mem) (Q : Int32 → Mem → Prop) (hyp : f_X10_line a1 h Q) : Cn m_X10_line [.ref 43, .int a1] h (GI Q) := by
  refine ge_entry (lv := [(0, .ref 43), (1, .int a1)]) pn_X10 (Nat.le_of_ble_eq_true rfl) rfl ?_
  unfold f_X10_line at hyp
  refine ge_iload_n a_X10_line_0 rfl 1 rfl ?_
  refine ge_cSI [.int a1] (rest := []) a_X10_line_1 ok_X10_isKind lk_X10_79 ⟨Nat.le_of_ble_eq_true rfl, Nat.le_of_ble_eq_true rfl⟩ rfl rfl (Nat.le_of_ble_eq_true rfl) (t_X10_isKind a1  h _ hyp) (fun r_2 h_1 hyp => ?_)
  refine ge_if_ne a_X10_line_4 (fun c_3 => ?_) (fun c_3 => ?_)
  · have hyp := gm_in hyp c_3
    refine ge_aload_n a_X10_line_14 rfl 0 rfl ?_
    refine ge_getR (q := 44) a_X10_line_15 fd_X10_9 (rfl : gm_cls 43 = 9) rfl ?_
    refine ge_iconst (v := 4) a_X10_line_18 rfl ?_
    refine ge_iald (j := 4) a_X10_line_19 ga_44 li_4_62.1 li_4_62.2 ?_
    refine ge_bipush (v := 12) a_X10_line_20 rfl ?_
    refine ge_icmp_ne a_X10_line_22 (fun c_4 => ?_) (fun c_4 => ?_)
    · have hyp := gm_in hyp c_4
      refine ge_aload_n a_X10_line_34 rfl 0 rfl ?_
      refine ge_iload_n a_X10_line_35 rfl 1 rfl ?_
      refine ge_iconst (v := 5) a_X10_line_36 rfl ?_
      refine ge_iconst (v := 0) a_X10_line_37 rfl ?_
      refine ge_cVI [.int a1, .int (5 : Int32), .int (0 : Int32)] (rest := []) a_X10_line_38 ok_X10_comes lk_X10_88 ⟨Nat.le_of_ble_eq_true rfl, Nat.le_of_ble_eq_true rfl⟩ (rfl : gm_cls 43 = 9) vc_9 (by decide) rfl rfl (Nat.le_of_ble_eq_true rfl) (t_X10_comes a1 (5 : Int32) (0 : Int32)  h_1 _ hyp) (fun r_6 h_5 hyp => ?_)
      exact ge_iret rfl a_X10_line_41 hyp
    · have hyp := gm_ip hyp c_4
      refine ge_aload_n a_X10_line_25 rfl 0 rfl ?_
      refine ge_ldc (v := -1000002) a_X10_line_26 ct_X10_87 ?_
      refine ge_cVI [.int (-1000002 : Int32)] (rest := []) a_X10_line_28 ok_X10_finding lk_X10_83 ⟨Nat.le_of_ble_eq_true rfl, Nat.le_of_ble_eq_true rfl⟩ (rfl : gm_cls 43 = 9) vc_9 (by decide) rfl rfl (Nat.le_of_ble_eq_true rfl) (t_X10_finding (-1000002 : Int32)  h_1 _ hyp) (fun r_8 h_7 hyp => ?_)
      refine ge_goto a_X10_line_31 ?_
      exact ge_iret rfl a_X10_line_41 hyp
  · have hyp := gm_ip hyp c_3
    refine ge_aload_n a_X10_line_7 rfl 0 rfl ?_
    refine ge_ldc (v := -1000001) a_X10_line_8 ct_X10_66 ?_
    refine ge_cVI [.int (-1000001 : Int32)] (rest := []) a_X10_line_10 ok_X10_finding lk_X10_83 ⟨Nat.le_of_ble_eq_true rfl, Nat.le_of_ble_eq_true rfl⟩ (rfl : gm_cls 43 = 9) vc_9 (by decide) rfl rfl (Nat.le_of_ble_eq_true rfl) (t_X10_finding (-1000001 : Int32)  h_1 _ hyp) (fun r_10 h_9 hyp => ?_)
    exact ge_iret rfl a_X10_line_13 hyp

theorem a_X10_above_0 : At m_X10_above 0 (.iload_n 0) 1 1 := at_i (by decide +kernel) rfl
theorem a_X10_above_1 : AtJ m_X10_above 1 (.ifCond .ne 7) (7) 8 4 := at_j (by decide +kernel) (by decide) rfl
theorem a_X10_above_4 : At m_X10_above 4 (.iconst (-1)) 1 5 := at_i (by decide +kernel) rfl
theorem a_X10_above_5 : AtJ m_X10_above 5 (.goto 32) (32) 37 8 := at_j (by decide +kernel) (by decide) rfl
theorem a_X10_above_8 : At m_X10_above 8 (.iload_n 0) 1 9 := at_i (by decide +kernel) rfl
theorem a_X10_above_9 : At m_X10_above 9 (.iconst 3) 1 10 := at_i (by decide +kernel) rfl
theorem a_X10_above_10 : AtJ m_X10_above 10 (.if_icmp .ne 7) (7) 17 13 := at_j (by decide +kernel) (by decide) rfl
theorem a_X10_above_13 : At m_X10_above 13 (.iconst 2) 1 14 := at_i (by decide +kernel) rfl
theorem a_X10_above_14 : AtJ m_X10_above 14 (.goto 23) (23) 37 17 := at_j (by decide +kernel) (by decide) rfl
theorem a_X10_above_17 : At m_X10_above 17 (.iload_n 0) 1 18 := at_i (by decide +kernel) rfl
theorem a_X10_above_18 : At m_X10_above 18 (.iconst 5) 1 19 := at_i (by decide +kernel) rfl
theorem a_X10_above_19 : AtJ m_X10_above 19 (.if_icmp .ne 7) (7) 26 22 := at_j (by decide +kernel) (by decide) rfl
theorem a_X10_above_22 : At m_X10_above 22 (.iconst 4) 1 23 := at_i (by decide +kernel) rfl
theorem a_X10_above_23 : AtJ m_X10_above 23 (.goto 14) (14) 37 26 := at_j (by decide +kernel) (by decide) rfl
theorem a_X10_above_26 : At m_X10_above 26 (.iload_n 0) 1 27 := at_i (by decide +kernel) rfl
theorem a_X10_above_27 : At m_X10_above 27 (.bipush 6) 2 29 := at_i (by decide +kernel) rfl
theorem a_X10_above_29 : AtJ m_X10_above 29 (.if_icmp .ne 7) (7) 36 32 := at_j (by decide +kernel) (by decide) rfl
theorem a_X10_above_32 : At m_X10_above 32 (.iconst 5) 1 33 := at_i (by decide +kernel) rfl
theorem a_X10_above_33 : AtJ m_X10_above 33 (.goto 4) (4) 37 36 := at_j (by decide +kernel) (by decide) rfl
theorem a_X10_above_36 : At m_X10_above 36 (.iconst 0) 1 37 := at_i (by decide +kernel) rfl
theorem a_X10_above_37 : At m_X10_above 37 (.ireturn) 1 38 := at_i (by decide +kernel) rfl
def f_X10_above (a0 : Int32) (h : Mem) (Q : Int32 → Mem → Prop) : Prop :=
  if a0 = 0 then (
    Q (-1 : Int32) h)
  else (
    if a0 = (3 : Int32) then (
      Q (2 : Int32) h)
    else (
      if a0 = (5 : Int32) then (
        Q (4 : Int32) h)
      else (
        if a0 = (6 : Int32) then (
          Q (5 : Int32) h)
        else (
          Q (0 : Int32) h))))
set_option maxRecDepth 20000 in
theorem t_X10_above (a0 : Int32)  (h : Mem) (Q : Int32 → Mem → Prop) (hyp : f_X10_above a0 h Q) : Cn m_X10_above [.int a0] h (GI Q) := by
  refine ge_entry (lv := [(0, .int a0)]) pn_X10 (Nat.le_of_ble_eq_true rfl) rfl ?_
  unfold f_X10_above at hyp
  refine ge_iload_n a_X10_above_0 rfl 0 rfl ?_
  refine ge_if_ne a_X10_above_1 (fun c_1 => ?_) (fun c_1 => ?_)
  · have hyp := gm_in hyp c_1
    refine ge_iload_n a_X10_above_8 rfl 0 rfl ?_
    refine ge_iconst (v := 3) a_X10_above_9 rfl ?_
    refine ge_icmp_ne a_X10_above_10 (fun c_2 => ?_) (fun c_2 => ?_)
    · have hyp := gm_in hyp c_2
      refine ge_iload_n a_X10_above_17 rfl 0 rfl ?_
      refine ge_iconst (v := 5) a_X10_above_18 rfl ?_
      refine ge_icmp_ne a_X10_above_19 (fun c_3 => ?_) (fun c_3 => ?_)
      · have hyp := gm_in hyp c_3
        refine ge_iload_n a_X10_above_26 rfl 0 rfl ?_
        refine ge_bipush (v := 6) a_X10_above_27 rfl ?_
        refine ge_icmp_ne a_X10_above_29 (fun c_4 => ?_) (fun c_4 => ?_)
        · have hyp := gm_in hyp c_4
          refine ge_iconst (v := 0) a_X10_above_36 rfl ?_
          exact ge_iret rfl a_X10_above_37 hyp
        · have hyp := gm_ip hyp c_4
          refine ge_iconst (v := 5) a_X10_above_32 rfl ?_
          refine ge_goto a_X10_above_33 ?_
          exact ge_iret rfl a_X10_above_37 hyp
      · have hyp := gm_ip hyp c_3
        refine ge_iconst (v := 4) a_X10_above_22 rfl ?_
        refine ge_goto a_X10_above_23 ?_
        exact ge_iret rfl a_X10_above_37 hyp
    · have hyp := gm_ip hyp c_2
      refine ge_iconst (v := 2) a_X10_above_13 rfl ?_
      refine ge_goto a_X10_above_14 ?_
      exact ge_iret rfl a_X10_above_37 hyp
  · have hyp := gm_ip hyp c_1
    refine ge_iconst (v := -1) a_X10_above_4 rfl ?_
    refine ge_goto a_X10_above_5 ?_
    exact ge_iret rfl a_X10_above_37 hyp

theorem a_X10_isUnder_0 : At m_X10_isUnder 0 (.iload_n 0) 1 1 := at_i (by decide +kernel) rfl
theorem a_X10_isUnder_1 : At m_X10_isUnder 1 (.istore_n 2) 1 2 := at_i (by decide +kernel) rfl
theorem a_X10_isUnder_2 : At m_X10_isUnder 2 (.iload_n 2) 1 3 := at_i (by decide +kernel) rfl
theorem a_X10_isUnder_3 : AtJ m_X10_isUnder 3 (.ifCond .lt 16) (16) 19 6 := at_j (by decide +kernel) (by decide) rfl
theorem a_X10_isUnder_6 : At m_X10_isUnder 6 (.iload_n 2) 1 7 := at_i (by decide +kernel) rfl
theorem a_X10_isUnder_7 : At m_X10_isUnder 7 (.iload_n 1) 1 8 := at_i (by decide +kernel) rfl
theorem a_X10_isUnder_8 : AtJ m_X10_isUnder 8 (.if_icmp .eq 11) (11) 19 11 := at_j (by decide +kernel) (by decide) rfl
theorem a_X10_isUnder_11 : At m_X10_isUnder 11 (.iload_n 2) 1 12 := at_i (by decide +kernel) rfl
theorem a_X10_isUnder_12 : At m_X10_isUnder 12 (.invokestatic 92) 3 15 := at_i (by decide +kernel) rfl
theorem a_X10_isUnder_15 : At m_X10_isUnder 15 (.istore_n 2) 1 16 := at_i (by decide +kernel) rfl
theorem a_X10_isUnder_16 : AtJ m_X10_isUnder 16 (.goto (-14)) (-14) 2 19 := at_j (by decide +kernel) (by decide) rfl
theorem a_X10_isUnder_19 : At m_X10_isUnder 19 (.iload_n 2) 1 20 := at_i (by decide +kernel) rfl
theorem a_X10_isUnder_20 : AtJ m_X10_isUnder 20 (.ifCond .lt 7) (7) 27 23 := at_j (by decide +kernel) (by decide) rfl
theorem a_X10_isUnder_23 : At m_X10_isUnder 23 (.iconst 1) 1 24 := at_i (by decide +kernel) rfl
theorem a_X10_isUnder_24 : AtJ m_X10_isUnder 24 (.goto 4) (4) 28 27 := at_j (by decide +kernel) (by decide) rfl
theorem a_X10_isUnder_27 : At m_X10_isUnder 27 (.iconst 0) 1 28 := at_i (by decide +kernel) rfl
theorem a_X10_isUnder_28 : At m_X10_isUnder 28 (.ireturn) 1 29 := at_i (by decide +kernel) rfl
def f_X10_isUnder_b19 (a0 : Int32) (a1 : Int32)  (Q : Int32 → Mem → Prop)  (v2 : Int32) (h : Mem) : Prop :=
  if v2 < 0 then (
    Q (0 : Int32) h)
  else (
    Q (1 : Int32) h)
set_option maxRecDepth 20000 in
theorem t_X10_isUnder_b19 (a0 : Int32) (a1 : Int32)    (Q : Int32 → Mem → Prop)   (v2 : Int32) (h : Mem) (hyp : f_X10_isUnder_b19 a0 a1  Q  v2 h) : EV m_X10_isUnder (GI Q) 19 [(2, .int v2)] [] h := by
  unfold f_X10_isUnder_b19 at hyp
  refine ge_iload_n a_X10_isUnder_19 rfl 0 rfl ?_
  refine ge_if_lt a_X10_isUnder_20 (fun c_2 => ?_) (fun c_2 => ?_)
  · have hyp := gm_ip hyp c_2
    refine ge_iconst (v := 0) a_X10_isUnder_27 rfl ?_
    exact ge_zret rfl rfl a_X10_isUnder_28 hyp
  · have hyp := gm_in hyp c_2
    refine ge_iconst (v := 1) a_X10_isUnder_23 rfl ?_
    refine ge_goto a_X10_isUnder_24 ?_
    exact ge_zret rfl rfl a_X10_isUnder_28 hyp
def f_X10_isUnder_b2 (a0 : Int32) (a1 : Int32)  (Q : Int32 → Mem → Prop)  (K2 : Int32 → Mem → Prop) (v2 : Int32) (h : Mem) : Prop :=
  if v2 < 0 then (
    f_X10_isUnder_b19 a0 a1  Q  v2 h)
  else (
    if v2 = a1 then (
      f_X10_isUnder_b19 a0 a1  Q  v2 h)
    else (
      f_X10_above v2 h fun r_5 h_4 =>
      K2 r_5 h_4))
set_option maxRecDepth 20000 in
theorem t_X10_isUnder_b2 (a0 : Int32) (a1 : Int32)    (Q : Int32 → Mem → Prop)   : ∀ (n : Nat) (v2 : Int32) (h : Mem), gm_it1 (f_X10_isUnder_b2 a0 a1  Q ) n v2 h → EV m_X10_isUnder (GI Q) 2 [(1, .int a1), (2, .int v2)] [] h := by
  refine ge_loop1 (P := fun v2 h => EV m_X10_isUnder (GI Q) 2 [(1, .int a1), (2, .int v2)] [] h) (fun K2 hK2 v2 h hyp => ?_)
  unfold f_X10_isUnder_b2 at hyp
  refine ge_iload_n a_X10_isUnder_2 rfl 1 rfl ?_
  refine ge_if_lt a_X10_isUnder_3 (fun c_1 => ?_) (fun c_1 => ?_)
  · have hyp := gm_ip hyp c_1
    exact ge_sub [1] rfl (t_X10_isUnder_b19 a0 a1    Q   v2 h hyp)
  · have hyp := gm_in hyp c_1
    refine ge_iload_n a_X10_isUnder_6 rfl 1 rfl ?_
    refine ge_iload_n a_X10_isUnder_7 rfl 0 rfl ?_
    refine ge_icmp_eq a_X10_isUnder_8 (fun c_3 => ?_) (fun c_3 => ?_)
    · have hyp := gm_ip hyp c_3
      exact ge_sub [1] rfl (t_X10_isUnder_b19 a0 a1    Q   v2 h hyp)
    · have hyp := gm_in hyp c_3
      refine ge_iload_n a_X10_isUnder_11 rfl 1 rfl ?_
      refine ge_cSI [.int v2] (rest := []) a_X10_isUnder_12 ok_X10_above lk_X10_92 ⟨Nat.le_of_ble_eq_true rfl, Nat.le_of_ble_eq_true rfl⟩ rfl rfl (Nat.le_of_ble_eq_true rfl) (t_X10_above v2  h _ hyp) (fun r_5 h_4 hyp => ?_)
      refine ge_istore_n (lv' := [(2, .int r_5), (1, .int a1)]) a_X10_isUnder_15 rfl (Nat.le_of_ble_eq_true rfl) rfl ?_
      refine ge_goto a_X10_isUnder_16 ?_
      exact ge_sub [1, 0] rfl (hK2 r_5 h_4 hyp)
def f_X10_isUnder (a0 : Int32) (a1 : Int32) (h : Mem) (Q : Int32 → Mem → Prop) : Prop :=
  gm_it1 (f_X10_isUnder_b2 a0 a1  Q ) gm_F a0 h
set_option maxRecDepth 20000 in
theorem t_X10_isUnder (a0 : Int32) (a1 : Int32)  (h : Mem) (Q : Int32 → Mem → Prop) (hyp : f_X10_isUnder a0 a1 h Q) : Cn m_X10_isUnder [.int a0, .int a1] h (GI Q) := by
  refine ge_entry (lv := [(0, .int a0), (1, .int a1)]) pn_X10 (Nat.le_of_ble_eq_true rfl) rfl ?_
  unfold f_X10_isUnder at hyp
  refine ge_iload_n a_X10_isUnder_0 rfl 0 rfl ?_
  refine ge_istore_n (lv' := [(2, .int a0), (0, .int a0), (1, .int a1)]) a_X10_isUnder_1 rfl (Nat.le_of_ble_eq_true rfl) rfl ?_
  exact ge_sub [2, 0] rfl (t_X10_isUnder_b2 a0 a1    Q   gm_F a0 h hyp)

theorem a_X10_takes_0 : At m_X10_takes 0 (.aload_n 0) 1 1 := at_i (by decide +kernel) rfl
theorem a_X10_takes_1 : At m_X10_takes 1 (.iload_n 1) 1 2 := at_i (by decide +kernel) rfl
theorem a_X10_takes_2 : At m_X10_takes 2 (.iconst 1) 1 3 := at_i (by decide +kernel) rfl
theorem a_X10_takes_3 : At m_X10_takes 3 (.invokevirtual 95) 3 6 := at_i (by decide +kernel) rfl
theorem a_X10_takes_6 : At m_X10_takes 6 (.aload_n 0) 1 7 := at_i (by decide +kernel) rfl
theorem a_X10_takes_7 : At m_X10_takes 7 (.getfield 9) 3 10 := at_i (by decide +kernel) rfl
theorem a_X10_takes_10 : At m_X10_takes 10 (.bipush 6) 2 12 := at_i (by decide +kernel) rfl
theorem a_X10_takes_12 : At m_X10_takes 12 (.iaload) 1 13 := at_i (by decide +kernel) rfl
theorem a_X10_takes_13 : At m_X10_takes 13 (.imul) 1 14 := at_i (by decide +kernel) rfl
theorem a_X10_takes_14 : At m_X10_takes 14 (.istore_n 2) 1 15 := at_i (by decide +kernel) rfl
theorem a_X10_takes_15 : At m_X10_takes 15 (.aload_n 0) 1 16 := at_i (by decide +kernel) rfl
theorem a_X10_takes_16 : At m_X10_takes 16 (.iload_n 1) 1 17 := at_i (by decide +kernel) rfl
theorem a_X10_takes_17 : At m_X10_takes 17 (.iconst 2) 1 18 := at_i (by decide +kernel) rfl
theorem a_X10_takes_18 : At m_X10_takes 18 (.invokevirtual 95) 3 21 := at_i (by decide +kernel) rfl
theorem a_X10_takes_21 : At m_X10_takes 21 (.istore_n 3) 1 22 := at_i (by decide +kernel) rfl
theorem a_X10_takes_22 : At m_X10_takes 22 (.aload_n 0) 1 23 := at_i (by decide +kernel) rfl
theorem a_X10_takes_23 : At m_X10_takes 23 (.iload_n 1) 1 24 := at_i (by decide +kernel) rfl
theorem a_X10_takes_24 : At m_X10_takes 24 (.iconst 0) 1 25 := at_i (by decide +kernel) rfl
theorem a_X10_takes_25 : At m_X10_takes 25 (.invokevirtual 95) 3 28 := at_i (by decide +kernel) rfl
theorem a_X10_takes_28 : decode cX10_takes 28 = .ok (.tableswitch 86 1 6 #[40, 48, 52, 60, 66, 75], 40) := by decide +kernel
theorem a_X10_takes_68 : At m_X10_takes 68 (.iconst 1) 1 69 := at_i (by decide +kernel) rfl
theorem a_X10_takes_69 : At m_X10_takes 69 (.iload_n 2) 1 70 := at_i (by decide +kernel) rfl
theorem a_X10_takes_70 : At m_X10_takes 70 (.iconst 1) 1 71 := at_i (by decide +kernel) rfl
theorem a_X10_takes_71 : At m_X10_takes 71 (.isub) 1 72 := at_i (by decide +kernel) rfl
theorem a_X10_takes_72 : At m_X10_takes 72 (.invokestatic 98) 3 75 := at_i (by decide +kernel) rfl
theorem a_X10_takes_75 : At m_X10_takes 75 (.ireturn) 1 76 := at_i (by decide +kernel) rfl
theorem a_X10_takes_76 : At m_X10_takes 76 (.iload_n 2) 1 77 := at_i (by decide +kernel) rfl
theorem a_X10_takes_77 : At m_X10_takes 77 (.iload_n 3) 1 78 := at_i (by decide +kernel) rfl
theorem a_X10_takes_78 : At m_X10_takes 78 (.iadd) 1 79 := at_i (by decide +kernel) rfl
theorem a_X10_takes_79 : At m_X10_takes 79 (.ireturn) 1 80 := at_i (by decide +kernel) rfl
theorem a_X10_takes_80 : At m_X10_takes 80 (.iload_n 2) 1 81 := at_i (by decide +kernel) rfl
theorem a_X10_takes_81 : At m_X10_takes 81 (.iload_n 3) 1 82 := at_i (by decide +kernel) rfl
theorem a_X10_takes_82 : At m_X10_takes 82 (.iadd) 1 83 := at_i (by decide +kernel) rfl
theorem a_X10_takes_83 : At m_X10_takes 83 (.iload_n 3) 1 84 := at_i (by decide +kernel) rfl
theorem a_X10_takes_84 : At m_X10_takes 84 (.iconst 2) 1 85 := at_i (by decide +kernel) rfl
theorem a_X10_takes_85 : At m_X10_takes 85 (.idiv) 1 86 := at_i (by decide +kernel) rfl
theorem a_X10_takes_86 : At m_X10_takes 86 (.iadd) 1 87 := at_i (by decide +kernel) rfl
theorem a_X10_takes_87 : At m_X10_takes 87 (.ireturn) 1 88 := at_i (by decide +kernel) rfl
theorem a_X10_takes_88 : At m_X10_takes 88 (.iload_n 2) 1 89 := at_i (by decide +kernel) rfl
theorem a_X10_takes_89 : At m_X10_takes 89 (.iconst 5) 1 90 := at_i (by decide +kernel) rfl
theorem a_X10_takes_90 : At m_X10_takes 90 (.iload_n 3) 1 91 := at_i (by decide +kernel) rfl
theorem a_X10_takes_91 : At m_X10_takes 91 (.imul) 1 92 := at_i (by decide +kernel) rfl
theorem a_X10_takes_92 : At m_X10_takes 92 (.iadd) 1 93 := at_i (by decide +kernel) rfl
theorem a_X10_takes_93 : At m_X10_takes 93 (.ireturn) 1 94 := at_i (by decide +kernel) rfl
theorem a_X10_takes_94 : At m_X10_takes 94 (.iload_n 2) 1 95 := at_i (by decide +kernel) rfl
theorem a_X10_takes_95 : At m_X10_takes 95 (.iconst 5) 1 96 := at_i (by decide +kernel) rfl
theorem a_X10_takes_96 : At m_X10_takes 96 (.iload_n 3) 1 97 := at_i (by decide +kernel) rfl
theorem a_X10_takes_97 : At m_X10_takes 97 (.imul) 1 98 := at_i (by decide +kernel) rfl
theorem a_X10_takes_98 : At m_X10_takes 98 (.iadd) 1 99 := at_i (by decide +kernel) rfl
theorem a_X10_takes_99 : At m_X10_takes 99 (.bipush 10) 2 101 := at_i (by decide +kernel) rfl
theorem a_X10_takes_101 : At m_X10_takes 101 (.iadd) 1 102 := at_i (by decide +kernel) rfl
theorem a_X10_takes_102 : At m_X10_takes 102 (.ireturn) 1 103 := at_i (by decide +kernel) rfl
theorem a_X10_takes_103 : At m_X10_takes 103 (.iload_n 2) 1 104 := at_i (by decide +kernel) rfl
theorem a_X10_takes_104 : At m_X10_takes 104 (.iconst 5) 1 105 := at_i (by decide +kernel) rfl
theorem a_X10_takes_105 : At m_X10_takes 105 (.iload_n 3) 1 106 := at_i (by decide +kernel) rfl
theorem a_X10_takes_106 : At m_X10_takes 106 (.imul) 1 107 := at_i (by decide +kernel) rfl
theorem a_X10_takes_107 : At m_X10_takes 107 (.iadd) 1 108 := at_i (by decide +kernel) rfl
theorem a_X10_takes_108 : At m_X10_takes 108 (.bipush 10) 2 110 := at_i (by decide +kernel) rfl
theorem a_X10_takes_110 : At m_X10_takes 110 (.iadd) 1 111 := at_i (by decide +kernel) rfl
theorem a_X10_takes_111 : At m_X10_takes 111 (.iconst 2) 1 112 := at_i (by decide +kernel) rfl
theorem a_X10_takes_112 : At m_X10_takes 112 (.idiv) 1 113 := at_i (by decide +kernel) rfl
theorem a_X10_takes_113 : At m_X10_takes 113 (.ireturn) 1 114 := at_i (by decide +kernel) rfl
theorem a_X10_takes_114 : At m_X10_takes 114 (.iload_n 2) 1 115 := at_i (by decide +kernel) rfl
theorem a_X10_takes_115 : At m_X10_takes 115 (.ireturn) 1 116 := at_i (by decide +kernel) rfl
def f_X10_takes (a1 : Int32) (h : Mem) (Q : Int32 → Mem → Prop) : Prop :=
  f_X10_lineIs a1 (1 : Int32) h fun r_2 h_1 =>
  ∀ v_3 : Int32, v_3 = r_2 * (h_1 44 6) →
  f_X10_lineIs a1 (2 : Int32) h_1 fun r_5 h_4 =>
  f_X10_lineIs a1 (0 : Int32) h_4 fun r_7 h_6 =>
  if r_7 = 1 then (
    ∀ v_9 : Int32, v_9 = (if (1 : Int32) < v_3 - (1 : Int32) then v_3 - (1 : Int32) else (1 : Int32)) →
    Q v_9 h_6)
  else (
  if r_7 = 2 then (
    Q (v_3 + r_5) h_6)
  else (
  if r_7 = 3 then (
    Q ((v_3 + r_5) + (r_5 / (2 : Int32))) h_6)
  else (
  if r_7 = 4 then (
    Q (v_3 + ((5 : Int32) * r_5)) h_6)
  else (
  if r_7 = 5 then (
    Q ((v_3 + ((5 : Int32) * r_5)) + (10 : Int32)) h_6)
  else (
  if r_7 = 6 then (
    Q (((v_3 + ((5 : Int32) * r_5)) + (10 : Int32)) / (2 : Int32)) h_6)
  else (
    Q v_3 h_6))))))
set_option maxRecDepth 20000 in
theorem t_X10_takes (a1 : Int32)  (h : Mem) (Q : Int32 → Mem → Prop) (hyp : f_X10_takes a1 h Q) : Cn m_X10_takes [.ref 43, .int a1] h (GI Q) := by
  refine ge_entry (lv := [(0, .ref 43), (1, .int a1)]) pn_X10 (Nat.le_of_ble_eq_true rfl) rfl ?_
  unfold f_X10_takes at hyp
  refine ge_aload_n a_X10_takes_0 rfl 0 rfl ?_
  refine ge_iload_n a_X10_takes_1 rfl 1 rfl ?_
  refine ge_iconst (v := 1) a_X10_takes_2 rfl ?_
  refine ge_cVI [.int a1, .int (1 : Int32)] (rest := []) a_X10_takes_3 ok_X10_lineIs lk_X10_95 ⟨Nat.le_of_ble_eq_true rfl, Nat.le_of_ble_eq_true rfl⟩ (rfl : gm_cls 43 = 9) vc_9 (by decide) rfl rfl (Nat.le_of_ble_eq_true rfl) (t_X10_lineIs a1 (1 : Int32)  h _ hyp) (fun r_2 h_1 hyp => ?_)
  refine ge_aload_n a_X10_takes_6 rfl 0 rfl ?_
  refine ge_getR (q := 44) a_X10_takes_7 fd_X10_9 (rfl : gm_cls 43 = 9) rfl ?_
  refine ge_bipush (v := 6) a_X10_takes_10 rfl ?_
  refine ge_iald (j := 6) a_X10_takes_12 ga_44 li_6_62.1 li_6_62.2 ?_
  refine ge_imul a_X10_takes_13 ?_
  refine ge_topi (fun v_3 ev_3 => ?_)
  have hyp := hyp v_3 ev_3
  refine ge_istore_n (lv' := [(2, .int v_3), (0, .ref 43), (1, .int a1)]) a_X10_takes_14 rfl (Nat.le_of_ble_eq_true rfl) rfl ?_
  refine ge_aload_n a_X10_takes_15 rfl 1 rfl ?_
  refine ge_iload_n a_X10_takes_16 rfl 2 rfl ?_
  refine ge_iconst (v := 2) a_X10_takes_17 rfl ?_
  refine ge_cVI [.int a1, .int (2 : Int32)] (rest := []) a_X10_takes_18 ok_X10_lineIs lk_X10_95 ⟨Nat.le_of_ble_eq_true rfl, Nat.le_of_ble_eq_true rfl⟩ (rfl : gm_cls 43 = 9) vc_9 (by decide) rfl rfl (Nat.le_of_ble_eq_true rfl) (t_X10_lineIs a1 (2 : Int32)  h_1 _ hyp) (fun r_5 h_4 hyp => ?_)
  refine ge_istore_n (lv' := [(3, .int r_5), (2, .int v_3), (0, .ref 43), (1, .int a1)]) a_X10_takes_21 rfl (Nat.le_of_ble_eq_true rfl) rfl ?_
  refine ge_aload_n a_X10_takes_22 rfl 2 rfl ?_
  refine ge_iload_n a_X10_takes_23 rfl 3 rfl ?_
  refine ge_iconst (v := 0) a_X10_takes_24 rfl ?_
  refine ge_cVI [.int a1, .int (0 : Int32)] (rest := []) a_X10_takes_25 ok_X10_lineIs lk_X10_95 ⟨Nat.le_of_ble_eq_true rfl, Nat.le_of_ble_eq_true rfl⟩ (rfl : gm_cls 43 = 9) vc_9 (by decide) rfl rfl (Nat.le_of_ble_eq_true rfl) (t_X10_lineIs a1 (0 : Int32)  h_4 _ hyp) (fun r_7 h_6 hyp => ?_)
  refine ge_sw (dt := 114) [(1, 68), (2, 76), (3, 80), (4, 88), (5, 94), (6, 103)] a_X10_takes_28 (by decide +kernel) (by decide) ?_
  refine ge_ite (fun c_8 => ?_) (fun c_8 => ?_)
  · have hyp := gm_ip hyp c_8
    refine ge_iconst (v := 1) a_X10_takes_68 rfl ?_
    refine ge_iload_n a_X10_takes_69 rfl 1 rfl ?_
    refine ge_iconst (v := 1) a_X10_takes_70 rfl ?_
    refine ge_isub a_X10_takes_71 ?_
    refine ge_mmax (rest := []) a_X10_takes_72 lk_X10_98 (Nat.le_of_ble_eq_true rfl) (Nat.le_of_ble_eq_true rfl) ?_
    refine ge_topi (fun v_9 ev_9 => ?_)
    have hyp := hyp v_9 ev_9
    exact ge_iret rfl a_X10_takes_75 hyp
  have hyp := gm_in hyp c_8
  refine ge_ite (fun c_10 => ?_) (fun c_10 => ?_)
  · have hyp := gm_ip hyp c_10
    refine ge_iload_n a_X10_takes_76 rfl 1 rfl ?_
    refine ge_iload_n a_X10_takes_77 rfl 0 rfl ?_
    refine ge_iadd a_X10_takes_78 ?_
    exact ge_iret rfl a_X10_takes_79 hyp
  have hyp := gm_in hyp c_10
  refine ge_ite (fun c_11 => ?_) (fun c_11 => ?_)
  · have hyp := gm_ip hyp c_11
    refine ge_iload_n a_X10_takes_80 rfl 1 rfl ?_
    refine ge_iload_n a_X10_takes_81 rfl 0 rfl ?_
    refine ge_iadd a_X10_takes_82 ?_
    refine ge_iload_n a_X10_takes_83 rfl 0 rfl ?_
    refine ge_iconst (v := 2) a_X10_takes_84 rfl ?_
    refine ge_idiv a_X10_takes_85 (by decide) ?_
    refine ge_iadd a_X10_takes_86 ?_
    exact ge_iret rfl a_X10_takes_87 hyp
  have hyp := gm_in hyp c_11
  refine ge_ite (fun c_12 => ?_) (fun c_12 => ?_)
  · have hyp := gm_ip hyp c_12
    refine ge_iload_n a_X10_takes_88 rfl 1 rfl ?_
    refine ge_iconst (v := 5) a_X10_takes_89 rfl ?_
    refine ge_iload_n a_X10_takes_90 rfl 0 rfl ?_
    refine ge_imul a_X10_takes_91 ?_
    refine ge_iadd a_X10_takes_92 ?_
    exact ge_iret rfl a_X10_takes_93 hyp
  have hyp := gm_in hyp c_12
  refine ge_ite (fun c_13 => ?_) (fun c_13 => ?_)
  · have hyp := gm_ip hyp c_13
    refine ge_iload_n a_X10_takes_94 rfl 1 rfl ?_
    refine ge_iconst (v := 5) a_X10_takes_95 rfl ?_
    refine ge_iload_n a_X10_takes_96 rfl 0 rfl ?_
    refine ge_imul a_X10_takes_97 ?_
    refine ge_iadd a_X10_takes_98 ?_
    refine ge_bipush (v := 10) a_X10_takes_99 rfl ?_
    refine ge_iadd a_X10_takes_101 ?_
    exact ge_iret rfl a_X10_takes_102 hyp
  have hyp := gm_in hyp c_13
  refine ge_ite (fun c_14 => ?_) (fun c_14 => ?_)
  · have hyp := gm_ip hyp c_14
    refine ge_iload_n a_X10_takes_103 rfl 1 rfl ?_
    refine ge_iconst (v := 5) a_X10_takes_104 rfl ?_
    refine ge_iload_n a_X10_takes_105 rfl 0 rfl ?_
    refine ge_imul a_X10_takes_106 ?_
    refine ge_iadd a_X10_takes_107 ?_
    refine ge_bipush (v := 10) a_X10_takes_108 rfl ?_
    refine ge_iadd a_X10_takes_110 ?_
    refine ge_iconst (v := 2) a_X10_takes_111 rfl ?_
    refine ge_idiv a_X10_takes_112 (by decide) ?_
    exact ge_iret rfl a_X10_takes_113 hyp
  have hyp := gm_in hyp c_14
  show EV _ _ 114 _ _ _
  refine ge_iload_n a_X10_takes_114 rfl 1 rfl ?_
  exact ge_iret rfl a_X10_takes_115 hyp

theorem a_X10_trips_0 : At m_X10_trips 0 (.aload_n 0) 1 1 := at_i (by decide +kernel) rfl
theorem a_X10_trips_1 : At m_X10_trips 1 (.iload_n 1) 1 2 := at_i (by decide +kernel) rfl
theorem a_X10_trips_2 : At m_X10_trips 2 (.iconst 2) 1 3 := at_i (by decide +kernel) rfl
theorem a_X10_trips_3 : At m_X10_trips 3 (.invokevirtual 95) 3 6 := at_i (by decide +kernel) rfl
theorem a_X10_trips_6 : At m_X10_trips 6 (.istore_n 2) 1 7 := at_i (by decide +kernel) rfl
theorem a_X10_trips_7 : At m_X10_trips 7 (.iconst 0) 1 8 := at_i (by decide +kernel) rfl
theorem a_X10_trips_8 : At m_X10_trips 8 (.iload_n 2) 1 9 := at_i (by decide +kernel) rfl
theorem a_X10_trips_9 : At m_X10_trips 9 (.aload_n 0) 1 10 := at_i (by decide +kernel) rfl
theorem a_X10_trips_10 : At m_X10_trips 10 (.getfield 9) 3 13 := at_i (by decide +kernel) rfl
theorem a_X10_trips_13 : At m_X10_trips 13 (.bipush 12) 2 15 := at_i (by decide +kernel) rfl
theorem a_X10_trips_15 : At m_X10_trips 15 (.iaload) 1 16 := at_i (by decide +kernel) rfl
theorem a_X10_trips_16 : At m_X10_trips 16 (.isub) 1 17 := at_i (by decide +kernel) rfl
theorem a_X10_trips_17 : At m_X10_trips 17 (.aload_n 0) 1 18 := at_i (by decide +kernel) rfl
theorem a_X10_trips_18 : At m_X10_trips 18 (.getfield 9) 3 21 := at_i (by decide +kernel) rfl
theorem a_X10_trips_21 : At m_X10_trips 21 (.bipush 13) 2 23 := at_i (by decide +kernel) rfl
theorem a_X10_trips_23 : At m_X10_trips 23 (.iaload) 1 24 := at_i (by decide +kernel) rfl
theorem a_X10_trips_24 : At m_X10_trips 24 (.isub) 1 25 := at_i (by decide +kernel) rfl
theorem a_X10_trips_25 : At m_X10_trips 25 (.invokestatic 98) 3 28 := at_i (by decide +kernel) rfl
theorem a_X10_trips_28 : At m_X10_trips 28 (.istore_n 3) 1 29 := at_i (by decide +kernel) rfl
theorem a_X10_trips_29 : At m_X10_trips 29 (.aload_n 0) 1 30 := at_i (by decide +kernel) rfl
theorem a_X10_trips_30 : At m_X10_trips 30 (.iload_n 1) 1 31 := at_i (by decide +kernel) rfl
theorem a_X10_trips_31 : At m_X10_trips 31 (.iconst 0) 1 32 := at_i (by decide +kernel) rfl
theorem a_X10_trips_32 : At m_X10_trips 32 (.invokevirtual 95) 3 35 := at_i (by decide +kernel) rfl
theorem a_X10_trips_35 : decode cX10_trips 35 = .ok (.tableswitch 53 2 6 #[33, 37, 43, 47, 47], 33) := by decide +kernel
theorem a_X10_trips_68 : At m_X10_trips 68 (.iload_n 3) 1 69 := at_i (by decide +kernel) rfl
theorem a_X10_trips_69 : At m_X10_trips 69 (.iconst 1) 1 70 := at_i (by decide +kernel) rfl
theorem a_X10_trips_70 : At m_X10_trips 70 (.iadd) 1 71 := at_i (by decide +kernel) rfl
theorem a_X10_trips_71 : At m_X10_trips 71 (.ireturn) 1 72 := at_i (by decide +kernel) rfl
theorem a_X10_trips_72 : At m_X10_trips 72 (.iconst 2) 1 73 := at_i (by decide +kernel) rfl
theorem a_X10_trips_73 : At m_X10_trips 73 (.iload_n 3) 1 74 := at_i (by decide +kernel) rfl
theorem a_X10_trips_74 : At m_X10_trips 74 (.iconst 1) 1 75 := at_i (by decide +kernel) rfl
theorem a_X10_trips_75 : At m_X10_trips 75 (.iadd) 1 76 := at_i (by decide +kernel) rfl
theorem a_X10_trips_76 : At m_X10_trips 76 (.imul) 1 77 := at_i (by decide +kernel) rfl
theorem a_X10_trips_77 : At m_X10_trips 77 (.ireturn) 1 78 := at_i (by decide +kernel) rfl
theorem a_X10_trips_78 : At m_X10_trips 78 (.iload_n 3) 1 79 := at_i (by decide +kernel) rfl
theorem a_X10_trips_79 : At m_X10_trips 79 (.iload_n 2) 1 80 := at_i (by decide +kernel) rfl
theorem a_X10_trips_80 : At m_X10_trips 80 (.iadd) 1 81 := at_i (by decide +kernel) rfl
theorem a_X10_trips_81 : At m_X10_trips 81 (.ireturn) 1 82 := at_i (by decide +kernel) rfl
theorem a_X10_trips_82 : At m_X10_trips 82 (.iload_n 3) 1 83 := at_i (by decide +kernel) rfl
theorem a_X10_trips_83 : At m_X10_trips 83 (.iload_n 2) 1 84 := at_i (by decide +kernel) rfl
theorem a_X10_trips_84 : At m_X10_trips 84 (.iadd) 1 85 := at_i (by decide +kernel) rfl
theorem a_X10_trips_85 : At m_X10_trips 85 (.iconst 2) 1 86 := at_i (by decide +kernel) rfl
theorem a_X10_trips_86 : At m_X10_trips 86 (.idiv) 1 87 := at_i (by decide +kernel) rfl
theorem a_X10_trips_87 : At m_X10_trips 87 (.ireturn) 1 88 := at_i (by decide +kernel) rfl
theorem a_X10_trips_88 : At m_X10_trips 88 (.iload_n 3) 1 89 := at_i (by decide +kernel) rfl
theorem a_X10_trips_89 : At m_X10_trips 89 (.ireturn) 1 90 := at_i (by decide +kernel) rfl
def f_X10_trips (a1 : Int32) (h : Mem) (Q : Int32 → Mem → Prop) : Prop :=
  f_X10_lineIs a1 (2 : Int32) h fun r_2 h_1 =>
  ∀ v_3 : Int32, v_3 = (if (0 : Int32) < (r_2 - (h_1 44 12)) - (h_1 44 13) then (r_2 - (h_1 44 12)) - (h_1 44 13) else (0 : Int32)) →
  f_X10_lineIs a1 (0 : Int32) h_1 fun r_5 h_4 =>
  if r_5 = 2 then (
    Q (v_3 + (1 : Int32)) h_4)
  else (
  if r_5 = 3 then (
    Q ((2 : Int32) * (v_3 + (1 : Int32))) h_4)
  else (
  if r_5 = 4 then (
    Q (v_3 + r_2) h_4)
  else (
  if r_5 = 5 then (
    Q ((v_3 + r_2) / (2 : Int32)) h_4)
  else (
  if r_5 = 6 then (
    Q ((v_3 + r_2) / (2 : Int32)) h_4)
  else (
    Q v_3 h_4)))))
set_option maxRecDepth 20000 in
theorem t_X10_trips (a1 : Int32)  (h : Mem) (Q : Int32 → Mem → Prop) (hyp : f_X10_trips a1 h Q) : Cn m_X10_trips [.ref 43, .int a1] h (GI Q) := by
  refine ge_entry (lv := [(0, .ref 43), (1, .int a1)]) pn_X10 (Nat.le_of_ble_eq_true rfl) rfl ?_
  unfold f_X10_trips at hyp
  refine ge_aload_n a_X10_trips_0 rfl 0 rfl ?_
  refine ge_iload_n a_X10_trips_1 rfl 1 rfl ?_
  refine ge_iconst (v := 2) a_X10_trips_2 rfl ?_
  refine ge_cVI [.int a1, .int (2 : Int32)] (rest := []) a_X10_trips_3 ok_X10_lineIs lk_X10_95 ⟨Nat.le_of_ble_eq_true rfl, Nat.le_of_ble_eq_true rfl⟩ (rfl : gm_cls 43 = 9) vc_9 (by decide) rfl rfl (Nat.le_of_ble_eq_true rfl) (t_X10_lineIs a1 (2 : Int32)  h _ hyp) (fun r_2 h_1 hyp => ?_)
  refine ge_istore_n (lv' := [(2, .int r_2), (0, .ref 43), (1, .int a1)]) a_X10_trips_6 rfl (Nat.le_of_ble_eq_true rfl) rfl ?_
  refine ge_iconst (v := 0) a_X10_trips_7 rfl ?_
  refine ge_iload_n a_X10_trips_8 rfl 0 rfl ?_
  refine ge_aload_n a_X10_trips_9 rfl 1 rfl ?_
  refine ge_getR (q := 44) a_X10_trips_10 fd_X10_9 (rfl : gm_cls 43 = 9) rfl ?_
  refine ge_bipush (v := 12) a_X10_trips_13 rfl ?_
  refine ge_iald (j := 12) a_X10_trips_15 ga_44 li_12_62.1 li_12_62.2 ?_
  refine ge_isub a_X10_trips_16 ?_
  refine ge_aload_n a_X10_trips_17 rfl 1 rfl ?_
  refine ge_getR (q := 44) a_X10_trips_18 fd_X10_9 (rfl : gm_cls 43 = 9) rfl ?_
  refine ge_bipush (v := 13) a_X10_trips_21 rfl ?_
  refine ge_iald (j := 13) a_X10_trips_23 ga_44 li_13_62.1 li_13_62.2 ?_
  refine ge_isub a_X10_trips_24 ?_
  refine ge_mmax (rest := []) a_X10_trips_25 lk_X10_98 (Nat.le_of_ble_eq_true rfl) (Nat.le_of_ble_eq_true rfl) ?_
  refine ge_topi (fun v_3 ev_3 => ?_)
  have hyp := hyp v_3 ev_3
  refine ge_istore_n (lv' := [(3, .int v_3), (2, .int r_2), (0, .ref 43), (1, .int a1)]) a_X10_trips_28 rfl (Nat.le_of_ble_eq_true rfl) rfl ?_
  refine ge_aload_n a_X10_trips_29 rfl 2 rfl ?_
  refine ge_iload_n a_X10_trips_30 rfl 3 rfl ?_
  refine ge_iconst (v := 0) a_X10_trips_31 rfl ?_
  refine ge_cVI [.int a1, .int (0 : Int32)] (rest := []) a_X10_trips_32 ok_X10_lineIs lk_X10_95 ⟨Nat.le_of_ble_eq_true rfl, Nat.le_of_ble_eq_true rfl⟩ (rfl : gm_cls 43 = 9) vc_9 (by decide) rfl rfl (Nat.le_of_ble_eq_true rfl) (t_X10_lineIs a1 (0 : Int32)  h_1 _ hyp) (fun r_5 h_4 hyp => ?_)
  refine ge_sw (dt := 88) [(2, 68), (3, 72), (4, 78), (5, 82), (6, 82)] a_X10_trips_35 (by decide +kernel) (by decide) ?_
  refine ge_ite (fun c_6 => ?_) (fun c_6 => ?_)
  · have hyp := gm_ip hyp c_6
    refine ge_iload_n a_X10_trips_68 rfl 0 rfl ?_
    refine ge_iconst (v := 1) a_X10_trips_69 rfl ?_
    refine ge_iadd a_X10_trips_70 ?_
    exact ge_iret rfl a_X10_trips_71 hyp
  have hyp := gm_in hyp c_6
  refine ge_ite (fun c_7 => ?_) (fun c_7 => ?_)
  · have hyp := gm_ip hyp c_7
    refine ge_iconst (v := 2) a_X10_trips_72 rfl ?_
    refine ge_iload_n a_X10_trips_73 rfl 0 rfl ?_
    refine ge_iconst (v := 1) a_X10_trips_74 rfl ?_
    refine ge_iadd a_X10_trips_75 ?_
    refine ge_imul a_X10_trips_76 ?_
    exact ge_iret rfl a_X10_trips_77 hyp
  have hyp := gm_in hyp c_7
  refine ge_ite (fun c_8 => ?_) (fun c_8 => ?_)
  · have hyp := gm_ip hyp c_8
    refine ge_iload_n a_X10_trips_78 rfl 0 rfl ?_
    refine ge_iload_n a_X10_trips_79 rfl 1 rfl ?_
    refine ge_iadd a_X10_trips_80 ?_
    exact ge_iret rfl a_X10_trips_81 hyp
  have hyp := gm_in hyp c_8
  refine ge_ite (fun c_9 => ?_) (fun c_9 => ?_)
  · have hyp := gm_ip hyp c_9
    refine ge_iload_n a_X10_trips_82 rfl 0 rfl ?_
    refine ge_iload_n a_X10_trips_83 rfl 1 rfl ?_
    refine ge_iadd a_X10_trips_84 ?_
    refine ge_iconst (v := 2) a_X10_trips_85 rfl ?_
    refine ge_idiv a_X10_trips_86 (by decide) ?_
    exact ge_iret rfl a_X10_trips_87 hyp
  have hyp := gm_in hyp c_9
  refine ge_ite (fun c_10 => ?_) (fun c_10 => ?_)
  · have hyp := gm_ip hyp c_10
    refine ge_iload_n a_X10_trips_82 rfl 0 rfl ?_
    refine ge_iload_n a_X10_trips_83 rfl 1 rfl ?_
    refine ge_iadd a_X10_trips_84 ?_
    refine ge_iconst (v := 2) a_X10_trips_85 rfl ?_
    refine ge_idiv a_X10_trips_86 (by decide) ?_
    exact ge_iret rfl a_X10_trips_87 hyp
  have hyp := gm_in hyp c_10
  show EV _ _ 88 _ _ _
  refine ge_iload_n a_X10_trips_88 rfl 0 rfl ?_
  exact ge_iret rfl a_X10_trips_89 hyp

theorem a_X10_seen_0 : At m_X10_seen 0 (.aload_n 0) 1 1 := at_i (by decide +kernel) rfl
theorem a_X10_seen_1 : At m_X10_seen 1 (.getfield 9) 3 4 := at_i (by decide +kernel) rfl
theorem a_X10_seen_4 : At m_X10_seen 4 (.bipush 12) 2 6 := at_i (by decide +kernel) rfl
theorem a_X10_seen_6 : At m_X10_seen 6 (.iaload) 1 7 := at_i (by decide +kernel) rfl
theorem a_X10_seen_7 : At m_X10_seen 7 (.iconst 2) 1 8 := at_i (by decide +kernel) rfl
theorem a_X10_seen_8 : At m_X10_seen 8 (.aload_n 0) 1 9 := at_i (by decide +kernel) rfl
theorem a_X10_seen_9 : At m_X10_seen 9 (.getfield 9) 3 12 := at_i (by decide +kernel) rfl
theorem a_X10_seen_12 : At m_X10_seen 12 (.bipush 13) 2 14 := at_i (by decide +kernel) rfl
theorem a_X10_seen_14 : At m_X10_seen 14 (.iaload) 1 15 := at_i (by decide +kernel) rfl
theorem a_X10_seen_15 : At m_X10_seen 15 (.imul) 1 16 := at_i (by decide +kernel) rfl
theorem a_X10_seen_16 : At m_X10_seen 16 (.iadd) 1 17 := at_i (by decide +kernel) rfl
theorem a_X10_seen_17 : At m_X10_seen 17 (.iconst 3) 1 18 := at_i (by decide +kernel) rfl
theorem a_X10_seen_18 : At m_X10_seen 18 (.idiv) 1 19 := at_i (by decide +kernel) rfl
theorem a_X10_seen_19 : At m_X10_seen 19 (.istore_n 2) 1 20 := at_i (by decide +kernel) rfl
theorem a_X10_seen_20 : At m_X10_seen 20 (.aload_n 0) 1 21 := at_i (by decide +kernel) rfl
theorem a_X10_seen_21 : At m_X10_seen 21 (.iload_n 1) 1 22 := at_i (by decide +kernel) rfl
theorem a_X10_seen_22 : At m_X10_seen 22 (.iconst 0) 1 23 := at_i (by decide +kernel) rfl
theorem a_X10_seen_23 : At m_X10_seen 23 (.invokevirtual 95) 3 26 := at_i (by decide +kernel) rfl
theorem a_X10_seen_26 : decode cX10_seen 26 = .ok (.tableswitch 56 1 6 #[38, 46, 50, 56, 56, 54], 38) := by decide +kernel
theorem a_X10_seen_64 : At m_X10_seen 64 (.iconst 0) 1 65 := at_i (by decide +kernel) rfl
theorem a_X10_seen_65 : At m_X10_seen 65 (.iload_n 2) 1 66 := at_i (by decide +kernel) rfl
theorem a_X10_seen_66 : At m_X10_seen 66 (.iconst 1) 1 67 := at_i (by decide +kernel) rfl
theorem a_X10_seen_67 : At m_X10_seen 67 (.isub) 1 68 := at_i (by decide +kernel) rfl
theorem a_X10_seen_68 : At m_X10_seen 68 (.invokestatic 98) 3 71 := at_i (by decide +kernel) rfl
theorem a_X10_seen_71 : At m_X10_seen 71 (.ireturn) 1 72 := at_i (by decide +kernel) rfl
theorem a_X10_seen_72 : At m_X10_seen 72 (.iload_n 2) 1 73 := at_i (by decide +kernel) rfl
theorem a_X10_seen_73 : At m_X10_seen 73 (.iconst 2) 1 74 := at_i (by decide +kernel) rfl
theorem a_X10_seen_74 : At m_X10_seen 74 (.iadd) 1 75 := at_i (by decide +kernel) rfl
theorem a_X10_seen_75 : At m_X10_seen 75 (.ireturn) 1 76 := at_i (by decide +kernel) rfl
theorem a_X10_seen_76 : At m_X10_seen 76 (.iload_n 2) 1 77 := at_i (by decide +kernel) rfl
theorem a_X10_seen_77 : At m_X10_seen 77 (.iconst 3) 1 78 := at_i (by decide +kernel) rfl
theorem a_X10_seen_78 : At m_X10_seen 78 (.iadd) 1 79 := at_i (by decide +kernel) rfl
theorem a_X10_seen_79 : At m_X10_seen 79 (.ireturn) 1 80 := at_i (by decide +kernel) rfl
theorem a_X10_seen_80 : At m_X10_seen 80 (.iconst 5) 1 81 := at_i (by decide +kernel) rfl
theorem a_X10_seen_81 : At m_X10_seen 81 (.ireturn) 1 82 := at_i (by decide +kernel) rfl
theorem a_X10_seen_82 : At m_X10_seen 82 (.iload_n 2) 1 83 := at_i (by decide +kernel) rfl
theorem a_X10_seen_83 : At m_X10_seen 83 (.ireturn) 1 84 := at_i (by decide +kernel) rfl
def f_X10_seen (a1 : Int32) (h : Mem) (Q : Int32 → Mem → Prop) : Prop :=
  ∀ v_1 : Int32, v_1 = ((h 44 12) + ((2 : Int32) * (h 44 13))) / (3 : Int32) →
  f_X10_lineIs a1 (0 : Int32) h fun r_3 h_2 =>
  if r_3 = 1 then (
    ∀ v_5 : Int32, v_5 = (if (0 : Int32) < v_1 - (1 : Int32) then v_1 - (1 : Int32) else (0 : Int32)) →
    Q v_5 h_2)
  else (
  if r_3 = 2 then (
    Q (v_1 + (2 : Int32)) h_2)
  else (
  if r_3 = 3 then (
    Q (v_1 + (3 : Int32)) h_2)
  else (
  if r_3 = 4 then (
    Q v_1 h_2)
  else (
  if r_3 = 5 then (
    Q v_1 h_2)
  else (
  if r_3 = 6 then (
    Q (5 : Int32) h_2)
  else (
    Q v_1 h_2))))))
set_option maxRecDepth 20000 in
theorem t_X10_seen (a1 : Int32)  (h : Mem) (Q : Int32 → Mem → Prop) (hyp : f_X10_seen a1 h Q) : Cn m_X10_seen [.ref 43, .int a1] h (GI Q) := by
  refine ge_entry (lv := [(0, .ref 43), (1, .int a1)]) pn_X10 (Nat.le_of_ble_eq_true rfl) rfl ?_
  unfold f_X10_seen at hyp
  refine ge_aload_n a_X10_seen_0 rfl 0 rfl ?_
  refine ge_getR (q := 44) a_X10_seen_1 fd_X10_9 (rfl : gm_cls 43 = 9) rfl ?_
  refine ge_bipush (v := 12) a_X10_seen_4 rfl ?_
  refine ge_iald (j := 12) a_X10_seen_6 ga_44 li_12_62.1 li_12_62.2 ?_
  refine ge_iconst (v := 2) a_X10_seen_7 rfl ?_
  refine ge_aload_n a_X10_seen_8 rfl 0 rfl ?_
  refine ge_getR (q := 44) a_X10_seen_9 fd_X10_9 (rfl : gm_cls 43 = 9) rfl ?_
  refine ge_bipush (v := 13) a_X10_seen_12 rfl ?_
  refine ge_iald (j := 13) a_X10_seen_14 ga_44 li_13_62.1 li_13_62.2 ?_
  refine ge_imul a_X10_seen_15 ?_
  refine ge_iadd a_X10_seen_16 ?_
  refine ge_iconst (v := 3) a_X10_seen_17 rfl ?_
  refine ge_idiv a_X10_seen_18 (by decide) ?_
  refine ge_topi (fun v_1 ev_1 => ?_)
  have hyp := hyp v_1 ev_1
  refine ge_istore_n (lv' := [(2, .int v_1), (0, .ref 43), (1, .int a1)]) a_X10_seen_19 rfl (Nat.le_of_ble_eq_true rfl) rfl ?_
  refine ge_aload_n a_X10_seen_20 rfl 1 rfl ?_
  refine ge_iload_n a_X10_seen_21 rfl 2 rfl ?_
  refine ge_iconst (v := 0) a_X10_seen_22 rfl ?_
  refine ge_cVI [.int a1, .int (0 : Int32)] (rest := []) a_X10_seen_23 ok_X10_lineIs lk_X10_95 ⟨Nat.le_of_ble_eq_true rfl, Nat.le_of_ble_eq_true rfl⟩ (rfl : gm_cls 43 = 9) vc_9 (by decide) rfl rfl (Nat.le_of_ble_eq_true rfl) (t_X10_lineIs a1 (0 : Int32)  h _ hyp) (fun r_3 h_2 hyp => ?_)
  refine ge_sw (dt := 82) [(1, 64), (2, 72), (3, 76), (4, 82), (5, 82), (6, 80)] a_X10_seen_26 (by decide +kernel) (by decide) ?_
  refine ge_ite (fun c_4 => ?_) (fun c_4 => ?_)
  · have hyp := gm_ip hyp c_4
    refine ge_iconst (v := 0) a_X10_seen_64 rfl ?_
    refine ge_iload_n a_X10_seen_65 rfl 0 rfl ?_
    refine ge_iconst (v := 1) a_X10_seen_66 rfl ?_
    refine ge_isub a_X10_seen_67 ?_
    refine ge_mmax (rest := []) a_X10_seen_68 lk_X10_98 (Nat.le_of_ble_eq_true rfl) (Nat.le_of_ble_eq_true rfl) ?_
    refine ge_topi (fun v_5 ev_5 => ?_)
    have hyp := hyp v_5 ev_5
    exact ge_iret rfl a_X10_seen_71 hyp
  have hyp := gm_in hyp c_4
  refine ge_ite (fun c_6 => ?_) (fun c_6 => ?_)
  · have hyp := gm_ip hyp c_6
    refine ge_iload_n a_X10_seen_72 rfl 0 rfl ?_
    refine ge_iconst (v := 2) a_X10_seen_73 rfl ?_
    refine ge_iadd a_X10_seen_74 ?_
    exact ge_iret rfl a_X10_seen_75 hyp
  have hyp := gm_in hyp c_6
  refine ge_ite (fun c_7 => ?_) (fun c_7 => ?_)
  · have hyp := gm_ip hyp c_7
    refine ge_iload_n a_X10_seen_76 rfl 0 rfl ?_
    refine ge_iconst (v := 3) a_X10_seen_77 rfl ?_
    refine ge_iadd a_X10_seen_78 ?_
    exact ge_iret rfl a_X10_seen_79 hyp
  have hyp := gm_in hyp c_7
  refine ge_ite (fun c_8 => ?_) (fun c_8 => ?_)
  · have hyp := gm_ip hyp c_8
    refine ge_iload_n a_X10_seen_82 rfl 0 rfl ?_
    exact ge_iret rfl a_X10_seen_83 hyp
  have hyp := gm_in hyp c_8
  refine ge_ite (fun c_9 => ?_) (fun c_9 => ?_)
  · have hyp := gm_ip hyp c_9
    refine ge_iload_n a_X10_seen_82 rfl 0 rfl ?_
    exact ge_iret rfl a_X10_seen_83 hyp
  have hyp := gm_in hyp c_9
  refine ge_ite (fun c_10 => ?_) (fun c_10 => ?_)
  · have hyp := gm_ip hyp c_10
    refine ge_iconst (v := 5) a_X10_seen_80 rfl ?_
    exact ge_iret rfl a_X10_seen_81 hyp
  have hyp := gm_in hyp c_10
  show EV _ _ 82 _ _ _
  refine ge_iload_n a_X10_seen_82 rfl 0 rfl ?_
  exact ge_iret rfl a_X10_seen_83 hyp

theorem a_X10_of_0 : At m_X10_of 0 (.aload_n 0) 1 1 := at_i (by decide +kernel) rfl
theorem a_X10_of_1 : At m_X10_of 1 (.iload_n 1) 1 2 := at_i (by decide +kernel) rfl
theorem a_X10_of_2 : At m_X10_of 2 (.invokevirtual 103) 3 5 := at_i (by decide +kernel) rfl
theorem a_X10_of_5 : AtJ m_X10_of 5 (.ifCond .eq 12) (12) 17 8 := at_j (by decide +kernel) (by decide) rfl
theorem a_X10_of_8 : At m_X10_of 8 (.iload_n 2) 1 9 := at_i (by decide +kernel) rfl
theorem a_X10_of_9 : At m_X10_of 9 (.iconst 0) 1 10 := at_i (by decide +kernel) rfl
theorem a_X10_of_10 : At m_X10_of 10 (.iconst 5) 1 11 := at_i (by decide +kernel) rfl
theorem a_X10_of_11 : At m_X10_of 11 (.invokestatic 71) 3 14 := at_i (by decide +kernel) rfl
theorem a_X10_of_14 : AtJ m_X10_of 14 (.ifCond .ne 10) (10) 24 17 := at_j (by decide +kernel) (by decide) rfl
theorem a_X10_of_17 : At m_X10_of 17 (.aload_n 0) 1 18 := at_i (by decide +kernel) rfl
theorem a_X10_of_18 : At m_X10_of 18 (.ldc 66) 2 20 := at_i (by decide +kernel) rfl
theorem a_X10_of_20 : At m_X10_of 20 (.invokevirtual 83) 3 23 := at_i (by decide +kernel) rfl
theorem a_X10_of_23 : At m_X10_of 23 (.ireturn) 1 24 := at_i (by decide +kernel) rfl
theorem a_X10_of_24 : At m_X10_of 24 (.iload_n 2) 1 25 := at_i (by decide +kernel) rfl
theorem a_X10_of_25 : At m_X10_of 25 (.iconst 3) 1 26 := at_i (by decide +kernel) rfl
theorem a_X10_of_26 : AtJ m_X10_of 26 (.if_icmp .ge 12) (12) 38 29 := at_j (by decide +kernel) (by decide) rfl
theorem a_X10_of_29 : At m_X10_of 29 (.aload_n 0) 1 30 := at_i (by decide +kernel) rfl
theorem a_X10_of_30 : At m_X10_of 30 (.iload_n 1) 1 31 := at_i (by decide +kernel) rfl
theorem a_X10_of_31 : At m_X10_of 31 (.iload_n 2) 1 32 := at_i (by decide +kernel) rfl
theorem a_X10_of_32 : At m_X10_of 32 (.invokevirtual 95) 3 35 := at_i (by decide +kernel) rfl
theorem a_X10_of_35 : AtJ m_X10_of 35 (.goto 34) (34) 69 38 := at_j (by decide +kernel) (by decide) rfl
theorem a_X10_of_38 : At m_X10_of 38 (.iload_n 2) 1 39 := at_i (by decide +kernel) rfl
theorem a_X10_of_39 : At m_X10_of 39 (.iconst 3) 1 40 := at_i (by decide +kernel) rfl
theorem a_X10_of_40 : AtJ m_X10_of 40 (.if_icmp .ne 11) (11) 51 43 := at_j (by decide +kernel) (by decide) rfl
theorem a_X10_of_43 : At m_X10_of 43 (.aload_n 0) 1 44 := at_i (by decide +kernel) rfl
theorem a_X10_of_44 : At m_X10_of 44 (.iload_n 1) 1 45 := at_i (by decide +kernel) rfl
theorem a_X10_of_45 : At m_X10_of 45 (.invokevirtual 106) 3 48 := at_i (by decide +kernel) rfl
theorem a_X10_of_48 : AtJ m_X10_of 48 (.goto 21) (21) 69 51 := at_j (by decide +kernel) (by decide) rfl
theorem a_X10_of_51 : At m_X10_of 51 (.iload_n 2) 1 52 := at_i (by decide +kernel) rfl
theorem a_X10_of_52 : At m_X10_of 52 (.iconst 4) 1 53 := at_i (by decide +kernel) rfl
theorem a_X10_of_53 : AtJ m_X10_of 53 (.if_icmp .ne 11) (11) 64 56 := at_j (by decide +kernel) (by decide) rfl
theorem a_X10_of_56 : At m_X10_of 56 (.aload_n 0) 1 57 := at_i (by decide +kernel) rfl
theorem a_X10_of_57 : At m_X10_of 57 (.iload_n 1) 1 58 := at_i (by decide +kernel) rfl
theorem a_X10_of_58 : At m_X10_of 58 (.invokevirtual 109) 3 61 := at_i (by decide +kernel) rfl
theorem a_X10_of_61 : AtJ m_X10_of 61 (.goto 8) (8) 69 64 := at_j (by decide +kernel) (by decide) rfl
theorem a_X10_of_64 : At m_X10_of 64 (.aload_n 0) 1 65 := at_i (by decide +kernel) rfl
theorem a_X10_of_65 : At m_X10_of 65 (.iload_n 1) 1 66 := at_i (by decide +kernel) rfl
theorem a_X10_of_66 : At m_X10_of 66 (.invokevirtual 112) 3 69 := at_i (by decide +kernel) rfl
theorem a_X10_of_69 : At m_X10_of 69 (.ireturn) 1 70 := at_i (by decide +kernel) rfl
def f_X10_of (a1 : Int32) (a2 : Int32) (h : Mem) (Q : Int32 → Mem → Prop) : Prop :=
  f_X10_isLine a1 h fun r_2 h_1 =>
  if r_2 = 0 then (
    f_X10_finding (-1000001 : Int32) h_1 fun r_5 h_4 =>
    Q r_5 h_4)
  else (
    f_X10_within a2 (0 : Int32) (5 : Int32) h_1 fun r_7 h_6 =>
    if r_7 = 0 then (
      f_X10_finding (-1000001 : Int32) h_6 fun r_21 h_20 =>
      Q r_21 h_20)
    else (
      if (3 : Int32) ≤ a2 then (
        if a2 = (3 : Int32) then (
          f_X10_takes a1 h_6 fun r_17 h_16 =>
          Q r_17 h_16)
        else (
          if a2 = (4 : Int32) then (
            f_X10_trips a1 h_6 fun r_15 h_14 =>
            Q r_15 h_14)
          else (
            f_X10_seen a1 h_6 fun r_13 h_12 =>
            Q r_13 h_12)))
      else (
        f_X10_lineIs a1 a2 h_6 fun r_19 h_18 =>
        Q r_19 h_18)))
set_option maxRecDepth 20000 in
theorem t_X10_of (a1 : Int32) (a2 : Int32)  (h : Mem) (Q : Int32 → Mem → Prop) (hyp : f_X10_of a1 a2 h Q) : Cn m_X10_of [.ref 43, .int a1, .int a2] h (GI Q) := by
  refine ge_entry (lv := [(0, .ref 43), (1, .int a1), (2, .int a2)]) pn_X10 (Nat.le_of_ble_eq_true rfl) rfl ?_
  unfold f_X10_of at hyp
  refine ge_aload_n a_X10_of_0 rfl 0 rfl ?_
  refine ge_iload_n a_X10_of_1 rfl 1 rfl ?_
  refine ge_cVI [.int a1] (rest := []) a_X10_of_2 ok_X10_isLine lk_X10_103 ⟨Nat.le_of_ble_eq_true rfl, Nat.le_of_ble_eq_true rfl⟩ (rfl : gm_cls 43 = 9) vc_9 (by decide) rfl rfl (Nat.le_of_ble_eq_true rfl) (t_X10_isLine a1  h _ hyp) (fun r_2 h_1 hyp => ?_)
  refine ge_if_eq a_X10_of_5 (fun c_3 => ?_) (fun c_3 => ?_)
  · have hyp := gm_ip hyp c_3
    refine ge_aload_n a_X10_of_17 rfl 0 rfl ?_
    refine ge_ldc (v := -1000001) a_X10_of_18 ct_X10_66 ?_
    refine ge_cVI [.int (-1000001 : Int32)] (rest := []) a_X10_of_20 ok_X10_finding lk_X10_83 ⟨Nat.le_of_ble_eq_true rfl, Nat.le_of_ble_eq_true rfl⟩ (rfl : gm_cls 43 = 9) vc_9 (by decide) rfl rfl (Nat.le_of_ble_eq_true rfl) (t_X10_finding (-1000001 : Int32)  h_1 _ hyp) (fun r_5 h_4 hyp => ?_)
    exact ge_iret rfl a_X10_of_23 hyp
  · have hyp := gm_in hyp c_3
    refine ge_iload_n a_X10_of_8 rfl 2 rfl ?_
    refine ge_iconst (v := 0) a_X10_of_9 rfl ?_
    refine ge_iconst (v := 5) a_X10_of_10 rfl ?_
    refine ge_cSI [.int a2, .int (0 : Int32), .int (5 : Int32)] (rest := []) a_X10_of_11 ok_X10_within lk_X10_71 ⟨Nat.le_of_ble_eq_true rfl, Nat.le_of_ble_eq_true rfl⟩ rfl rfl (Nat.le_of_ble_eq_true rfl) (t_X10_within a2 (0 : Int32) (5 : Int32)  h_1 _ hyp) (fun r_7 h_6 hyp => ?_)
    refine ge_if_ne a_X10_of_14 (fun c_8 => ?_) (fun c_8 => ?_)
    · have hyp := gm_in hyp c_8
      refine ge_iload_n a_X10_of_24 rfl 2 rfl ?_
      refine ge_iconst (v := 3) a_X10_of_25 rfl ?_
      refine ge_icmp_ge a_X10_of_26 (fun c_9 => ?_) (fun c_9 => ?_)
      · have hyp := gm_ip hyp c_9
        refine ge_iload_n a_X10_of_38 rfl 2 rfl ?_
        refine ge_iconst (v := 3) a_X10_of_39 rfl ?_
        refine ge_icmp_ne a_X10_of_40 (fun c_10 => ?_) (fun c_10 => ?_)
        · have hyp := gm_in hyp c_10
          refine ge_iload_n a_X10_of_51 rfl 2 rfl ?_
          refine ge_iconst (v := 4) a_X10_of_52 rfl ?_
          refine ge_icmp_ne a_X10_of_53 (fun c_11 => ?_) (fun c_11 => ?_)
          · have hyp := gm_in hyp c_11
            refine ge_aload_n a_X10_of_64 rfl 0 rfl ?_
            refine ge_iload_n a_X10_of_65 rfl 1 rfl ?_
            refine ge_cVI [.int a1] (rest := []) a_X10_of_66 ok_X10_seen lk_X10_112 ⟨Nat.le_of_ble_eq_true rfl, Nat.le_of_ble_eq_true rfl⟩ (rfl : gm_cls 43 = 9) vc_9 (by decide) rfl rfl (Nat.le_of_ble_eq_true rfl) (t_X10_seen a1  h_6 _ hyp) (fun r_13 h_12 hyp => ?_)
            exact ge_iret rfl a_X10_of_69 hyp
          · have hyp := gm_ip hyp c_11
            refine ge_aload_n a_X10_of_56 rfl 0 rfl ?_
            refine ge_iload_n a_X10_of_57 rfl 1 rfl ?_
            refine ge_cVI [.int a1] (rest := []) a_X10_of_58 ok_X10_trips lk_X10_109 ⟨Nat.le_of_ble_eq_true rfl, Nat.le_of_ble_eq_true rfl⟩ (rfl : gm_cls 43 = 9) vc_9 (by decide) rfl rfl (Nat.le_of_ble_eq_true rfl) (t_X10_trips a1  h_6 _ hyp) (fun r_15 h_14 hyp => ?_)
            refine ge_goto a_X10_of_61 ?_
            exact ge_iret rfl a_X10_of_69 hyp
        · have hyp := gm_ip hyp c_10
          refine ge_aload_n a_X10_of_43 rfl 0 rfl ?_
          refine ge_iload_n a_X10_of_44 rfl 1 rfl ?_
          refine ge_cVI [.int a1] (rest := []) a_X10_of_45 ok_X10_takes lk_X10_106 ⟨Nat.le_of_ble_eq_true rfl, Nat.le_of_ble_eq_true rfl⟩ (rfl : gm_cls 43 = 9) vc_9 (by decide) rfl rfl (Nat.le_of_ble_eq_true rfl) (t_X10_takes a1  h_6 _ hyp) (fun r_17 h_16 hyp => ?_)
          refine ge_goto a_X10_of_48 ?_
          exact ge_iret rfl a_X10_of_69 hyp
      · have hyp := gm_in hyp c_9
        refine ge_aload_n a_X10_of_29 rfl 0 rfl ?_
        refine ge_iload_n a_X10_of_30 rfl 1 rfl ?_
        refine ge_iload_n a_X10_of_31 rfl 2 rfl ?_
        refine ge_cVI [.int a1, .int a2] (rest := []) a_X10_of_32 ok_X10_lineIs lk_X10_95 ⟨Nat.le_of_ble_eq_true rfl, Nat.le_of_ble_eq_true rfl⟩ (rfl : gm_cls 43 = 9) vc_9 (by decide) rfl rfl (Nat.le_of_ble_eq_true rfl) (t_X10_lineIs a1 a2  h_6 _ hyp) (fun r_19 h_18 hyp => ?_)
        refine ge_goto a_X10_of_35 ?_
        exact ge_iret rfl a_X10_of_69 hyp
    · have hyp := gm_ip hyp c_8
      refine ge_aload_n a_X10_of_17 rfl 0 rfl ?_
      refine ge_ldc (v := -1000001) a_X10_of_18 ct_X10_66 ?_
      refine ge_cVI [.int (-1000001 : Int32)] (rest := []) a_X10_of_20 ok_X10_finding lk_X10_83 ⟨Nat.le_of_ble_eq_true rfl, Nat.le_of_ble_eq_true rfl⟩ (rfl : gm_cls 43 = 9) vc_9 (by decide) rfl rfl (Nat.le_of_ble_eq_true rfl) (t_X10_finding (-1000001 : Int32)  h_6 _ hyp) (fun r_21 h_20 hyp => ?_)
      exact ge_iret rfl a_X10_of_23 hyp

theorem a_X10_change_0 : At m_X10_change 0 (.iload_n 2) 1 1 := at_i (by decide +kernel) rfl
theorem a_X10_change_1 : AtJ m_X10_change 1 (.ifCond .ne 10) (10) 11 4 := at_j (by decide +kernel) (by decide) rfl
theorem a_X10_change_4 : At m_X10_change 4 (.iload_n 3) 1 5 := at_i (by decide +kernel) rfl
theorem a_X10_change_5 : At m_X10_change 5 (.invokestatic 79) 3 8 := at_i (by decide +kernel) rfl
theorem a_X10_change_8 : AtJ m_X10_change 8 (.ifCond .ne 33) (33) 41 11 := at_j (by decide +kernel) (by decide) rfl
theorem a_X10_change_11 : At m_X10_change 11 (.iload_n 2) 1 12 := at_i (by decide +kernel) rfl
theorem a_X10_change_12 : At m_X10_change 12 (.iconst 1) 1 13 := at_i (by decide +kernel) rfl
theorem a_X10_change_13 : AtJ m_X10_change 13 (.if_icmp .ne 13) (13) 26 16 := at_j (by decide +kernel) (by decide) rfl
theorem a_X10_change_16 : At m_X10_change 16 (.iload_n 3) 1 17 := at_i (by decide +kernel) rfl
theorem a_X10_change_17 : At m_X10_change 17 (.iconst 1) 1 18 := at_i (by decide +kernel) rfl
theorem a_X10_change_18 : At m_X10_change 18 (.bipush 20) 2 20 := at_i (by decide +kernel) rfl
theorem a_X10_change_20 : At m_X10_change 20 (.invokestatic 71) 3 23 := at_i (by decide +kernel) rfl
theorem a_X10_change_23 : AtJ m_X10_change 23 (.ifCond .ne 18) (18) 41 26 := at_j (by decide +kernel) (by decide) rfl
theorem a_X10_change_26 : At m_X10_change 26 (.iload_n 2) 1 27 := at_i (by decide +kernel) rfl
theorem a_X10_change_27 : At m_X10_change 27 (.iconst 2) 1 28 := at_i (by decide +kernel) rfl
theorem a_X10_change_28 : AtJ m_X10_change 28 (.if_icmp .ne 17) (17) 45 31 := at_j (by decide +kernel) (by decide) rfl
theorem a_X10_change_31 : At m_X10_change 31 (.iload_n 3) 1 32 := at_i (by decide +kernel) rfl
theorem a_X10_change_32 : At m_X10_change 32 (.iconst 0) 1 33 := at_i (by decide +kernel) rfl
theorem a_X10_change_33 : At m_X10_change 33 (.bipush 9) 2 35 := at_i (by decide +kernel) rfl
theorem a_X10_change_35 : At m_X10_change 35 (.invokestatic 71) 3 38 := at_i (by decide +kernel) rfl
theorem a_X10_change_38 : AtJ m_X10_change 38 (.ifCond .eq 7) (7) 45 41 := at_j (by decide +kernel) (by decide) rfl
theorem a_X10_change_41 : At m_X10_change 41 (.iconst 1) 1 42 := at_i (by decide +kernel) rfl
theorem a_X10_change_42 : AtJ m_X10_change 42 (.goto 4) (4) 46 45 := at_j (by decide +kernel) (by decide) rfl
theorem a_X10_change_45 : At m_X10_change 45 (.iconst 0) 1 46 := at_i (by decide +kernel) rfl
theorem a_X10_change_46 : At m_X10_change 46 (.istore 4) 2 48 := at_i (by decide +kernel) rfl
theorem a_X10_change_48 : At m_X10_change 48 (.aload_n 0) 1 49 := at_i (by decide +kernel) rfl
theorem a_X10_change_49 : At m_X10_change 49 (.iload_n 1) 1 50 := at_i (by decide +kernel) rfl
theorem a_X10_change_50 : At m_X10_change 50 (.invokevirtual 103) 3 53 := at_i (by decide +kernel) rfl
theorem a_X10_change_53 : AtJ m_X10_change 53 (.ifCond .eq 21) (21) 74 56 := at_j (by decide +kernel) (by decide) rfl
theorem a_X10_change_56 : At m_X10_change 56 (.iload 4) 2 58 := at_i (by decide +kernel) rfl
theorem a_X10_change_58 : AtJ m_X10_change 58 (.ifCond .eq 16) (16) 74 61 := at_j (by decide +kernel) (by decide) rfl
theorem a_X10_change_61 : At m_X10_change 61 (.aload_n 0) 1 62 := at_i (by decide +kernel) rfl
theorem a_X10_change_62 : At m_X10_change 62 (.iload_n 1) 1 63 := at_i (by decide +kernel) rfl
theorem a_X10_change_63 : At m_X10_change 63 (.iload_n 2) 1 64 := at_i (by decide +kernel) rfl
theorem a_X10_change_64 : At m_X10_change 64 (.invokestatic 75) 3 67 := at_i (by decide +kernel) rfl
theorem a_X10_change_67 : At m_X10_change 67 (.iload_n 3) 1 68 := at_i (by decide +kernel) rfl
theorem a_X10_change_68 : At m_X10_change 68 (.invokevirtual 115) 3 71 := at_i (by decide +kernel) rfl
theorem a_X10_change_71 : AtJ m_X10_change 71 (.goto 9) (9) 80 74 := at_j (by decide +kernel) (by decide) rfl
theorem a_X10_change_74 : At m_X10_change 74 (.aload_n 0) 1 75 := at_i (by decide +kernel) rfl
theorem a_X10_change_75 : At m_X10_change 75 (.ldc 66) 2 77 := at_i (by decide +kernel) rfl
theorem a_X10_change_77 : At m_X10_change 77 (.invokevirtual 83) 3 80 := at_i (by decide +kernel) rfl
theorem a_X10_change_80 : At m_X10_change 80 (.ireturn) 1 81 := at_i (by decide +kernel) rfl
def f_X10_change_b46 (a1 : Int32) (a2 : Int32) (a3 : Int32)  (Q : Int32 → Mem → Prop)  (s0 : Int32) (h : Mem) : Prop :=
  f_X10_isLine a1 h fun r_5 h_4 =>
  if r_5 = 0 then (
    f_X10_finding (-1000001 : Int32) h_4 fun r_8 h_7 =>
    Q r_8 h_7)
  else (
    if s0 = 0 then (
      f_X10_finding (-1000001 : Int32) h_4 fun r_11 h_10 =>
      Q r_11 h_10)
    else (
      f_X10_at a1 a2 h_4 fun r_13 h_12 =>
      f_X10_become r_13 a3 h_12 fun r_15 h_14 =>
      Q r_15 h_14))
set_option maxRecDepth 20000 in
theorem t_X10_change_b46 (a1 : Int32) (a2 : Int32) (a3 : Int32)    (Q : Int32 → Mem → Prop)   (s0 : Int32) (h : Mem) (hyp : f_X10_change_b46 a1 a2 a3  Q  s0 h) : EV m_X10_change (GI Q) 46 [(0, .ref 43), (1, .int a1), (2, .int a2), (3, .int a3)] [.int s0] h := by
  unfold f_X10_change_b46 at hyp
  refine ge_istore (lv' := [(4, .int s0), (0, .ref 43), (1, .int a1), (2, .int a2), (3, .int a3)]) a_X10_change_46 (Nat.le_of_ble_eq_true rfl) rfl ?_
  refine ge_aload_n a_X10_change_48 rfl 1 rfl ?_
  refine ge_iload_n a_X10_change_49 rfl 2 rfl ?_
  refine ge_cVI [.int a1] (rest := []) a_X10_change_50 ok_X10_isLine lk_X10_103 ⟨Nat.le_of_ble_eq_true rfl, Nat.le_of_ble_eq_true rfl⟩ (rfl : gm_cls 43 = 9) vc_9 (by decide) rfl rfl (Nat.le_of_ble_eq_true rfl) (t_X10_isLine a1  h _ hyp) (fun r_5 h_4 hyp => ?_)
  refine ge_if_eq a_X10_change_53 (fun c_6 => ?_) (fun c_6 => ?_)
  · have hyp := gm_ip hyp c_6
    refine ge_aload_n a_X10_change_74 rfl 1 rfl ?_
    refine ge_ldc (v := -1000001) a_X10_change_75 ct_X10_66 ?_
    refine ge_cVI [.int (-1000001 : Int32)] (rest := []) a_X10_change_77 ok_X10_finding lk_X10_83 ⟨Nat.le_of_ble_eq_true rfl, Nat.le_of_ble_eq_true rfl⟩ (rfl : gm_cls 43 = 9) vc_9 (by decide) rfl rfl (Nat.le_of_ble_eq_true rfl) (t_X10_finding (-1000001 : Int32)  h_4 _ hyp) (fun r_8 h_7 hyp => ?_)
    exact ge_iret rfl a_X10_change_80 hyp
  · have hyp := gm_in hyp c_6
    refine ge_iload a_X10_change_56 0 rfl ?_
    refine ge_if_eq a_X10_change_58 (fun c_9 => ?_) (fun c_9 => ?_)
    · have hyp := gm_ip hyp c_9
      refine ge_aload_n a_X10_change_74 rfl 1 rfl ?_
      refine ge_ldc (v := -1000001) a_X10_change_75 ct_X10_66 ?_
      refine ge_cVI [.int (-1000001 : Int32)] (rest := []) a_X10_change_77 ok_X10_finding lk_X10_83 ⟨Nat.le_of_ble_eq_true rfl, Nat.le_of_ble_eq_true rfl⟩ (rfl : gm_cls 43 = 9) vc_9 (by decide) rfl rfl (Nat.le_of_ble_eq_true rfl) (t_X10_finding (-1000001 : Int32)  h_4 _ hyp) (fun r_11 h_10 hyp => ?_)
      exact ge_iret rfl a_X10_change_80 hyp
    · have hyp := gm_in hyp c_9
      refine ge_aload_n a_X10_change_61 rfl 1 rfl ?_
      refine ge_iload_n a_X10_change_62 rfl 2 rfl ?_
      refine ge_iload_n a_X10_change_63 rfl 3 rfl ?_
      refine ge_cSI [.int a1, .int a2] (rest := [.ref 43]) a_X10_change_64 ok_X10_at lk_X10_75 ⟨Nat.le_of_ble_eq_true rfl, Nat.le_of_ble_eq_true rfl⟩ rfl rfl (Nat.le_of_ble_eq_true rfl) (t_X10_at a1 a2  h_4 _ hyp) (fun r_13 h_12 hyp => ?_)
      refine ge_iload_n a_X10_change_67 rfl 4 rfl ?_
      refine ge_cVI [.int r_13, .int a3] (rest := []) a_X10_change_68 ok_X10_become lk_X10_115 ⟨Nat.le_of_ble_eq_true rfl, Nat.le_of_ble_eq_true rfl⟩ (rfl : gm_cls 43 = 9) vc_9 (by decide) rfl rfl (Nat.le_of_ble_eq_true rfl) (t_X10_become r_13 a3  h_12 _ hyp) (fun r_15 h_14 hyp => ?_)
      refine ge_goto a_X10_change_71 ?_
      exact ge_iret rfl a_X10_change_80 hyp
def f_X10_change_b45 (a1 : Int32) (a2 : Int32) (a3 : Int32)  (Q : Int32 → Mem → Prop)   (h : Mem) : Prop :=
  f_X10_change_b46 a1 a2 a3  Q  (0 : Int32) h
set_option maxRecDepth 20000 in
theorem t_X10_change_b45 (a1 : Int32) (a2 : Int32) (a3 : Int32)    (Q : Int32 → Mem → Prop)    (h : Mem) (hyp : f_X10_change_b45 a1 a2 a3  Q   h) : EV m_X10_change (GI Q) 45 [(0, .ref 43), (1, .int a1), (2, .int a2), (3, .int a3)] [] h := by
  unfold f_X10_change_b45 at hyp
  refine ge_iconst (v := 0) a_X10_change_45 rfl ?_
  exact ge_sub [0, 1, 2, 3] rfl (t_X10_change_b46 a1 a2 a3    Q   (0 : Int32) h hyp)
def f_X10_change_b41 (a1 : Int32) (a2 : Int32) (a3 : Int32)  (Q : Int32 → Mem → Prop)   (h : Mem) : Prop :=
  f_X10_change_b46 a1 a2 a3  Q  (1 : Int32) h
set_option maxRecDepth 20000 in
theorem t_X10_change_b41 (a1 : Int32) (a2 : Int32) (a3 : Int32)    (Q : Int32 → Mem → Prop)    (h : Mem) (hyp : f_X10_change_b41 a1 a2 a3  Q   h) : EV m_X10_change (GI Q) 41 [(0, .ref 43), (1, .int a1), (2, .int a2), (3, .int a3)] [] h := by
  unfold f_X10_change_b41 at hyp
  refine ge_iconst (v := 1) a_X10_change_41 rfl ?_
  refine ge_goto a_X10_change_42 ?_
  exact ge_sub [0, 1, 2, 3] rfl (t_X10_change_b46 a1 a2 a3    Q   (1 : Int32) h hyp)
def f_X10_change_b26 (a1 : Int32) (a2 : Int32) (a3 : Int32)  (Q : Int32 → Mem → Prop)   (h : Mem) : Prop :=
  if a2 = (2 : Int32) then (
    f_X10_within a3 (0 : Int32) (9 : Int32) h fun r_17 h_16 =>
    if r_17 = 0 then (
      f_X10_change_b45 a1 a2 a3  Q   h_16)
    else (
      f_X10_change_b41 a1 a2 a3  Q   h_16))
  else (
    f_X10_change_b45 a1 a2 a3  Q   h)
set_option maxRecDepth 20000 in
theorem t_X10_change_b26 (a1 : Int32) (a2 : Int32) (a3 : Int32)    (Q : Int32 → Mem → Prop)    (h : Mem) (hyp : f_X10_change_b26 a1 a2 a3  Q   h) : EV m_X10_change (GI Q) 26 [(0, .ref 43), (1, .int a1), (2, .int a2), (3, .int a3)] [] h := by
  unfold f_X10_change_b26 at hyp
  refine ge_iload_n a_X10_change_26 rfl 2 rfl ?_
  refine ge_iconst (v := 2) a_X10_change_27 rfl ?_
  refine ge_icmp_ne a_X10_change_28 (fun c_3 => ?_) (fun c_3 => ?_)
  · have hyp := gm_in hyp c_3
    exact ge_sub [0, 1, 2, 3] rfl (t_X10_change_b45 a1 a2 a3    Q    h hyp)
  · have hyp := gm_ip hyp c_3
    refine ge_iload_n a_X10_change_31 rfl 3 rfl ?_
    refine ge_iconst (v := 0) a_X10_change_32 rfl ?_
    refine ge_bipush (v := 9) a_X10_change_33 rfl ?_
    refine ge_cSI [.int a3, .int (0 : Int32), .int (9 : Int32)] (rest := []) a_X10_change_35 ok_X10_within lk_X10_71 ⟨Nat.le_of_ble_eq_true rfl, Nat.le_of_ble_eq_true rfl⟩ rfl rfl (Nat.le_of_ble_eq_true rfl) (t_X10_within a3 (0 : Int32) (9 : Int32)  h _ hyp) (fun r_17 h_16 hyp => ?_)
    refine ge_if_eq a_X10_change_38 (fun c_18 => ?_) (fun c_18 => ?_)
    · have hyp := gm_ip hyp c_18
      exact ge_sub [0, 1, 2, 3] rfl (t_X10_change_b45 a1 a2 a3    Q    h_16 hyp)
    · have hyp := gm_in hyp c_18
      exact ge_sub [0, 1, 2, 3] rfl (t_X10_change_b41 a1 a2 a3    Q    h_16 hyp)
def f_X10_change_b11 (a1 : Int32) (a2 : Int32) (a3 : Int32)  (Q : Int32 → Mem → Prop)   (h : Mem) : Prop :=
  if a2 = (1 : Int32) then (
    f_X10_within a3 (1 : Int32) (20 : Int32) h fun r_20 h_19 =>
    if r_20 = 0 then (
      f_X10_change_b26 a1 a2 a3  Q   h_19)
    else (
      f_X10_change_b41 a1 a2 a3  Q   h_19))
  else (
    f_X10_change_b26 a1 a2 a3  Q   h)
set_option maxRecDepth 20000 in
theorem t_X10_change_b11 (a1 : Int32) (a2 : Int32) (a3 : Int32)    (Q : Int32 → Mem → Prop)    (h : Mem) (hyp : f_X10_change_b11 a1 a2 a3  Q   h) : EV m_X10_change (GI Q) 11 [(0, .ref 43), (1, .int a1), (2, .int a2), (3, .int a3)] [] h := by
  unfold f_X10_change_b11 at hyp
  refine ge_iload_n a_X10_change_11 rfl 2 rfl ?_
  refine ge_iconst (v := 1) a_X10_change_12 rfl ?_
  refine ge_icmp_ne a_X10_change_13 (fun c_2 => ?_) (fun c_2 => ?_)
  · have hyp := gm_in hyp c_2
    exact ge_sub [0, 1, 2, 3] rfl (t_X10_change_b26 a1 a2 a3    Q    h hyp)
  · have hyp := gm_ip hyp c_2
    refine ge_iload_n a_X10_change_16 rfl 3 rfl ?_
    refine ge_iconst (v := 1) a_X10_change_17 rfl ?_
    refine ge_bipush (v := 20) a_X10_change_18 rfl ?_
    refine ge_cSI [.int a3, .int (1 : Int32), .int (20 : Int32)] (rest := []) a_X10_change_20 ok_X10_within lk_X10_71 ⟨Nat.le_of_ble_eq_true rfl, Nat.le_of_ble_eq_true rfl⟩ rfl rfl (Nat.le_of_ble_eq_true rfl) (t_X10_within a3 (1 : Int32) (20 : Int32)  h _ hyp) (fun r_20 h_19 hyp => ?_)
    refine ge_if_ne a_X10_change_23 (fun c_21 => ?_) (fun c_21 => ?_)
    · have hyp := gm_in hyp c_21
      exact ge_sub [0, 1, 2, 3] rfl (t_X10_change_b41 a1 a2 a3    Q    h_19 hyp)
    · have hyp := gm_ip hyp c_21
      exact ge_sub [0, 1, 2, 3] rfl (t_X10_change_b26 a1 a2 a3    Q    h_19 hyp)
def f_X10_change (a1 : Int32) (a2 : Int32) (a3 : Int32) (h : Mem) (Q : Int32 → Mem → Prop) : Prop :=
  if a2 = 0 then (
    f_X10_isKind a3 h fun r_23 h_22 =>
    if r_23 = 0 then (
      f_X10_change_b11 a1 a2 a3  Q   h_22)
    else (
      f_X10_change_b41 a1 a2 a3  Q   h_22))
  else (
    f_X10_change_b11 a1 a2 a3  Q   h)
set_option maxRecDepth 20000 in
theorem t_X10_change (a1 : Int32) (a2 : Int32) (a3 : Int32)  (h : Mem) (Q : Int32 → Mem → Prop) (hyp : f_X10_change a1 a2 a3 h Q) : Cn m_X10_change [.ref 43, .int a1, .int a2, .int a3] h (GI Q) := by
  refine ge_entry (lv := [(0, .ref 43), (1, .int a1), (2, .int a2), (3, .int a3)]) pn_X10 (Nat.le_of_ble_eq_true rfl) rfl ?_
  unfold f_X10_change at hyp
  refine ge_iload_n a_X10_change_0 rfl 2 rfl ?_
  refine ge_if_ne a_X10_change_1 (fun c_1 => ?_) (fun c_1 => ?_)
  · have hyp := gm_in hyp c_1
    exact ge_sub [0, 1, 2, 3] rfl (t_X10_change_b11 a1 a2 a3    Q    h hyp)
  · have hyp := gm_ip hyp c_1
    refine ge_iload_n a_X10_change_4 rfl 3 rfl ?_
    refine ge_cSI [.int a3] (rest := []) a_X10_change_5 ok_X10_isKind lk_X10_79 ⟨Nat.le_of_ble_eq_true rfl, Nat.le_of_ble_eq_true rfl⟩ rfl rfl (Nat.le_of_ble_eq_true rfl) (t_X10_isKind a3  h _ hyp) (fun r_23 h_22 hyp => ?_)
    refine ge_if_ne a_X10_change_8 (fun c_24 => ?_) (fun c_24 => ?_)
    · have hyp := gm_in hyp c_24
      exact ge_sub [0, 1, 2, 3] rfl (t_X10_change_b41 a1 a2 a3    Q    h_22 hyp)
    · have hyp := gm_ip hyp c_24
      exact ge_sub [0, 1, 2, 3] rfl (t_X10_change_b11 a1 a2 a3    Q    h_22 hyp)

theorem a_X10_isRule_0 : At m_X10_isRule 0 (.iload_n 0) 1 1 := at_i (by decide +kernel) rfl
theorem a_X10_isRule_1 : At m_X10_isRule 1 (.iconst 0) 1 2 := at_i (by decide +kernel) rfl
theorem a_X10_isRule_2 : At m_X10_isRule 2 (.bipush 9) 2 4 := at_i (by decide +kernel) rfl
theorem a_X10_isRule_4 : At m_X10_isRule 4 (.invokestatic 71) 3 7 := at_i (by decide +kernel) rfl
theorem a_X10_isRule_7 : At m_X10_isRule 7 (.ireturn) 1 8 := at_i (by decide +kernel) rfl
def f_X10_isRule (a0 : Int32) (h : Mem) (Q : Int32 → Mem → Prop) : Prop :=
  f_X10_within a0 (0 : Int32) (9 : Int32) h fun r_2 h_1 =>
  gm_b r_2 ∧ Q r_2 h_1
set_option maxRecDepth 20000 in
theorem t_X10_isRule (a0 : Int32)  (h : Mem) (Q : Int32 → Mem → Prop) (hyp : f_X10_isRule a0 h Q) : Cn m_X10_isRule [.int a0] h (GI Q) := by
  refine ge_entry (lv := [(0, .int a0)]) pn_X10 (Nat.le_of_ble_eq_true rfl) rfl ?_
  unfold f_X10_isRule at hyp
  refine ge_iload_n a_X10_isRule_0 rfl 0 rfl ?_
  refine ge_iconst (v := 0) a_X10_isRule_1 rfl ?_
  refine ge_bipush (v := 9) a_X10_isRule_2 rfl ?_
  refine ge_cSI [.int a0, .int (0 : Int32), .int (9 : Int32)] (rest := []) a_X10_isRule_4 ok_X10_within lk_X10_71 ⟨Nat.le_of_ble_eq_true rfl, Nat.le_of_ble_eq_true rfl⟩ rfl rfl (Nat.le_of_ble_eq_true rfl) (t_X10_within a0 (0 : Int32) (9 : Int32)  h _ hyp) (fun r_2 h_1 hyp => ?_)
  exact ge_zret rfl (gm_b_nar hyp.1) a_X10_isRule_7 hyp.2

theorem a_X10_least_0 : At m_X10_least 0 (.iload_n 0) 1 1 := at_i (by decide +kernel) rfl
theorem a_X10_least_1 : At m_X10_least 1 (.iconst 2) 1 2 := at_i (by decide +kernel) rfl
theorem a_X10_least_2 : AtJ m_X10_least 2 (.if_icmp .lt 9) (9) 11 5 := at_j (by decide +kernel) (by decide) rfl
theorem a_X10_least_5 : At m_X10_least 5 (.iload_n 0) 1 6 := at_i (by decide +kernel) rfl
theorem a_X10_least_6 : At m_X10_least 6 (.bipush 7) 2 8 := at_i (by decide +kernel) rfl
theorem a_X10_least_8 : AtJ m_X10_least 8 (.if_icmp .ne 7) (7) 15 11 := at_j (by decide +kernel) (by decide) rfl
theorem a_X10_least_11 : At m_X10_least 11 (.iconst 1) 1 12 := at_i (by decide +kernel) rfl
theorem a_X10_least_12 : AtJ m_X10_least 12 (.goto 19) (19) 31 15 := at_j (by decide +kernel) (by decide) rfl
theorem a_X10_least_15 : At m_X10_least 15 (.iload_n 0) 1 16 := at_i (by decide +kernel) rfl
theorem a_X10_least_16 : At m_X10_least 16 (.iconst 4) 1 17 := at_i (by decide +kernel) rfl
theorem a_X10_least_17 : AtJ m_X10_least 17 (.if_icmp .eq 8) (8) 25 20 := at_j (by decide +kernel) (by decide) rfl
theorem a_X10_least_20 : At m_X10_least 20 (.iload_n 0) 1 21 := at_i (by decide +kernel) rfl
theorem a_X10_least_21 : At m_X10_least 21 (.iconst 5) 1 22 := at_i (by decide +kernel) rfl
theorem a_X10_least_22 : AtJ m_X10_least 22 (.if_icmp .ne 8) (8) 30 25 := at_j (by decide +kernel) (by decide) rfl
theorem a_X10_least_25 : At m_X10_least 25 (.bipush (-9)) 2 27 := at_i (by decide +kernel) rfl
theorem a_X10_least_27 : AtJ m_X10_least 27 (.goto 4) (4) 31 30 := at_j (by decide +kernel) (by decide) rfl
theorem a_X10_least_30 : At m_X10_least 30 (.iconst 0) 1 31 := at_i (by decide +kernel) rfl
theorem a_X10_least_31 : At m_X10_least 31 (.ireturn) 1 32 := at_i (by decide +kernel) rfl
def f_X10_least (a0 : Int32) (h : Mem) (Q : Int32 → Mem → Prop) : Prop :=
  if a0 < (2 : Int32) then (
    Q (1 : Int32) h)
  else (
    if a0 = (7 : Int32) then (
      Q (1 : Int32) h)
    else (
      if a0 = (4 : Int32) then (
        Q (-9 : Int32) h)
      else (
        if a0 = (5 : Int32) then (
          Q (-9 : Int32) h)
        else (
          Q (0 : Int32) h))))
set_option maxRecDepth 20000 in
theorem t_X10_least (a0 : Int32)  (h : Mem) (Q : Int32 → Mem → Prop) (hyp : f_X10_least a0 h Q) : Cn m_X10_least [.int a0] h (GI Q) := by
  refine ge_entry (lv := [(0, .int a0)]) pn_X10 (Nat.le_of_ble_eq_true rfl) rfl ?_
  unfold f_X10_least at hyp
  refine ge_iload_n a_X10_least_0 rfl 0 rfl ?_
  refine ge_iconst (v := 2) a_X10_least_1 rfl ?_
  refine ge_icmp_lt a_X10_least_2 (fun c_1 => ?_) (fun c_1 => ?_)
  · have hyp := gm_ip hyp c_1
    refine ge_iconst (v := 1) a_X10_least_11 rfl ?_
    refine ge_goto a_X10_least_12 ?_
    exact ge_iret rfl a_X10_least_31 hyp
  · have hyp := gm_in hyp c_1
    refine ge_iload_n a_X10_least_5 rfl 0 rfl ?_
    refine ge_bipush (v := 7) a_X10_least_6 rfl ?_
    refine ge_icmp_ne a_X10_least_8 (fun c_2 => ?_) (fun c_2 => ?_)
    · have hyp := gm_in hyp c_2
      refine ge_iload_n a_X10_least_15 rfl 0 rfl ?_
      refine ge_iconst (v := 4) a_X10_least_16 rfl ?_
      refine ge_icmp_eq a_X10_least_17 (fun c_3 => ?_) (fun c_3 => ?_)
      · have hyp := gm_ip hyp c_3
        refine ge_bipush (v := -9) a_X10_least_25 rfl ?_
        refine ge_goto a_X10_least_27 ?_
        exact ge_iret rfl a_X10_least_31 hyp
      · have hyp := gm_in hyp c_3
        refine ge_iload_n a_X10_least_20 rfl 0 rfl ?_
        refine ge_iconst (v := 5) a_X10_least_21 rfl ?_
        refine ge_icmp_ne a_X10_least_22 (fun c_4 => ?_) (fun c_4 => ?_)
        · have hyp := gm_in hyp c_4
          refine ge_iconst (v := 0) a_X10_least_30 rfl ?_
          exact ge_iret rfl a_X10_least_31 hyp
        · have hyp := gm_ip hyp c_4
          refine ge_bipush (v := -9) a_X10_least_25 rfl ?_
          refine ge_goto a_X10_least_27 ?_
          exact ge_iret rfl a_X10_least_31 hyp
    · have hyp := gm_ip hyp c_2
      refine ge_iconst (v := 1) a_X10_least_11 rfl ?_
      refine ge_goto a_X10_least_12 ?_
      exact ge_iret rfl a_X10_least_31 hyp

theorem a_X10_most_0 : At m_X10_most 0 (.iload_n 0) 1 1 := at_i (by decide +kernel) rfl
theorem a_X10_most_1 : At m_X10_most 1 (.bipush 6) 2 3 := at_i (by decide +kernel) rfl
theorem a_X10_most_3 : At m_X10_most 3 (.iadd) 1 4 := at_i (by decide +kernel) rfl
theorem a_X10_most_4 : decode cX10_most 4 = .ok (.tableswitch 68 6 15 #[56, 56, 59, 59, 68, 68, 68, 62, 59, 65], 56) := by decide +kernel
theorem a_X10_most_60 : At m_X10_most 60 (.bipush 99) 2 62 := at_i (by decide +kernel) rfl
theorem a_X10_most_62 : At m_X10_most 62 (.ireturn) 1 63 := at_i (by decide +kernel) rfl
theorem a_X10_most_63 : At m_X10_most 63 (.bipush 10) 2 65 := at_i (by decide +kernel) rfl
theorem a_X10_most_65 : At m_X10_most 65 (.ireturn) 1 66 := at_i (by decide +kernel) rfl
theorem a_X10_most_66 : At m_X10_most 66 (.bipush 6) 2 68 := at_i (by decide +kernel) rfl
theorem a_X10_most_68 : At m_X10_most 68 (.ireturn) 1 69 := at_i (by decide +kernel) rfl
theorem a_X10_most_69 : At m_X10_most 69 (.ldc 118) 2 71 := at_i (by decide +kernel) rfl
theorem a_X10_most_71 : At m_X10_most 71 (.ireturn) 1 72 := at_i (by decide +kernel) rfl
theorem a_X10_most_72 : At m_X10_most 72 (.bipush 9) 2 74 := at_i (by decide +kernel) rfl
theorem a_X10_most_74 : At m_X10_most 74 (.ireturn) 1 75 := at_i (by decide +kernel) rfl
def f_X10_most (a0 : Int32) (h : Mem) (Q : Int32 → Mem → Prop) : Prop :=
  if a0 + (6 : Int32) = 6 then (
    Q (99 : Int32) h)
  else (
  if a0 + (6 : Int32) = 7 then (
    Q (99 : Int32) h)
  else (
  if a0 + (6 : Int32) = 8 then (
    Q (10 : Int32) h)
  else (
  if a0 + (6 : Int32) = 9 then (
    Q (10 : Int32) h)
  else (
  if a0 + (6 : Int32) = 10 then (
    Q (9 : Int32) h)
  else (
  if a0 + (6 : Int32) = 11 then (
    Q (9 : Int32) h)
  else (
  if a0 + (6 : Int32) = 12 then (
    Q (9 : Int32) h)
  else (
  if a0 + (6 : Int32) = 13 then (
    Q (6 : Int32) h)
  else (
  if a0 + (6 : Int32) = 14 then (
    Q (10 : Int32) h)
  else (
  if a0 + (6 : Int32) = 15 then (
    Q (99999 : Int32) h)
  else (
    Q (9 : Int32) h))))))))))
set_option maxRecDepth 20000 in
theorem t_X10_most (a0 : Int32)  (h : Mem) (Q : Int32 → Mem → Prop) (hyp : f_X10_most a0 h Q) : Cn m_X10_most [.int a0] h (GI Q) := by
  refine ge_entry (lv := [(0, .int a0)]) pn_X10 (Nat.le_of_ble_eq_true rfl) rfl ?_
  unfold f_X10_most at hyp
  refine ge_iload_n a_X10_most_0 rfl 0 rfl ?_
  refine ge_bipush (v := 6) a_X10_most_1 rfl ?_
  refine ge_iadd a_X10_most_3 ?_
  refine ge_sw (dt := 72) [(6, 60), (7, 60), (8, 63), (9, 63), (10, 72), (11, 72), (12, 72), (13, 66), (14, 63), (15, 69)] a_X10_most_4 (by decide +kernel) (by decide) ?_
  refine ge_ite (fun c_1 => ?_) (fun c_1 => ?_)
  · have hyp := gm_ip hyp c_1
    refine ge_bipush (v := 99) a_X10_most_60 rfl ?_
    exact ge_iret rfl a_X10_most_62 hyp
  have hyp := gm_in hyp c_1
  refine ge_ite (fun c_2 => ?_) (fun c_2 => ?_)
  · have hyp := gm_ip hyp c_2
    refine ge_bipush (v := 99) a_X10_most_60 rfl ?_
    exact ge_iret rfl a_X10_most_62 hyp
  have hyp := gm_in hyp c_2
  refine ge_ite (fun c_3 => ?_) (fun c_3 => ?_)
  · have hyp := gm_ip hyp c_3
    refine ge_bipush (v := 10) a_X10_most_63 rfl ?_
    exact ge_iret rfl a_X10_most_65 hyp
  have hyp := gm_in hyp c_3
  refine ge_ite (fun c_4 => ?_) (fun c_4 => ?_)
  · have hyp := gm_ip hyp c_4
    refine ge_bipush (v := 10) a_X10_most_63 rfl ?_
    exact ge_iret rfl a_X10_most_65 hyp
  have hyp := gm_in hyp c_4
  refine ge_ite (fun c_5 => ?_) (fun c_5 => ?_)
  · have hyp := gm_ip hyp c_5
    refine ge_bipush (v := 9) a_X10_most_72 rfl ?_
    exact ge_iret rfl a_X10_most_74 hyp
  have hyp := gm_in hyp c_5
  refine ge_ite (fun c_6 => ?_) (fun c_6 => ?_)
  · have hyp := gm_ip hyp c_6
    refine ge_bipush (v := 9) a_X10_most_72 rfl ?_
    exact ge_iret rfl a_X10_most_74 hyp
  have hyp := gm_in hyp c_6
  refine ge_ite (fun c_7 => ?_) (fun c_7 => ?_)
  · have hyp := gm_ip hyp c_7
    refine ge_bipush (v := 9) a_X10_most_72 rfl ?_
    exact ge_iret rfl a_X10_most_74 hyp
  have hyp := gm_in hyp c_7
  refine ge_ite (fun c_8 => ?_) (fun c_8 => ?_)
  · have hyp := gm_ip hyp c_8
    refine ge_bipush (v := 6) a_X10_most_66 rfl ?_
    exact ge_iret rfl a_X10_most_68 hyp
  have hyp := gm_in hyp c_8
  refine ge_ite (fun c_9 => ?_) (fun c_9 => ?_)
  · have hyp := gm_ip hyp c_9
    refine ge_bipush (v := 10) a_X10_most_63 rfl ?_
    exact ge_iret rfl a_X10_most_65 hyp
  have hyp := gm_in hyp c_9
  refine ge_ite (fun c_10 => ?_) (fun c_10 => ?_)
  · have hyp := gm_ip hyp c_10
    refine ge_ldc (v := 99999) a_X10_most_69 ct_X10_118 ?_
    exact ge_iret rfl a_X10_most_71 hyp
  have hyp := gm_in hyp c_10
  show EV _ _ 72 _ _ _
  refine ge_bipush (v := 9) a_X10_most_72 rfl ?_
  exact ge_iret rfl a_X10_most_74 hyp

theorem a_X10_rule_0 : At m_X10_rule 0 (.iload_n 1) 1 1 := at_i (by decide +kernel) rfl
theorem a_X10_rule_1 : At m_X10_rule 1 (.invokestatic 119) 3 4 := at_i (by decide +kernel) rfl
theorem a_X10_rule_4 : AtJ m_X10_rule 4 (.ifCond .eq 30) (30) 34 7 := at_j (by decide +kernel) (by decide) rfl
theorem a_X10_rule_7 : At m_X10_rule 7 (.iload_n 2) 1 8 := at_i (by decide +kernel) rfl
theorem a_X10_rule_8 : At m_X10_rule 8 (.iload_n 1) 1 9 := at_i (by decide +kernel) rfl
theorem a_X10_rule_9 : At m_X10_rule 9 (.invokestatic 122) 3 12 := at_i (by decide +kernel) rfl
theorem a_X10_rule_12 : At m_X10_rule 12 (.iload_n 1) 1 13 := at_i (by decide +kernel) rfl
theorem a_X10_rule_13 : At m_X10_rule 13 (.invokestatic 125) 3 16 := at_i (by decide +kernel) rfl
theorem a_X10_rule_16 : At m_X10_rule 16 (.invokestatic 71) 3 19 := at_i (by decide +kernel) rfl
theorem a_X10_rule_19 : AtJ m_X10_rule 19 (.ifCond .eq 15) (15) 34 22 := at_j (by decide +kernel) (by decide) rfl
theorem a_X10_rule_22 : At m_X10_rule 22 (.aload_n 0) 1 23 := at_i (by decide +kernel) rfl
theorem a_X10_rule_23 : At m_X10_rule 23 (.bipush 6) 2 25 := at_i (by decide +kernel) rfl
theorem a_X10_rule_25 : At m_X10_rule 25 (.iload_n 1) 1 26 := at_i (by decide +kernel) rfl
theorem a_X10_rule_26 : At m_X10_rule 26 (.iadd) 1 27 := at_i (by decide +kernel) rfl
theorem a_X10_rule_27 : At m_X10_rule 27 (.iload_n 2) 1 28 := at_i (by decide +kernel) rfl
theorem a_X10_rule_28 : At m_X10_rule 28 (.invokevirtual 115) 3 31 := at_i (by decide +kernel) rfl
theorem a_X10_rule_31 : AtJ m_X10_rule 31 (.goto 9) (9) 40 34 := at_j (by decide +kernel) (by decide) rfl
theorem a_X10_rule_34 : At m_X10_rule 34 (.aload_n 0) 1 35 := at_i (by decide +kernel) rfl
theorem a_X10_rule_35 : At m_X10_rule 35 (.ldc 66) 2 37 := at_i (by decide +kernel) rfl
theorem a_X10_rule_37 : At m_X10_rule 37 (.invokevirtual 83) 3 40 := at_i (by decide +kernel) rfl
theorem a_X10_rule_40 : At m_X10_rule 40 (.ireturn) 1 41 := at_i (by decide +kernel) rfl
def f_X10_rule (a1 : Int32) (a2 : Int32) (h : Mem) (Q : Int32 → Mem → Prop) : Prop :=
  f_X10_isRule a1 h fun r_2 h_1 =>
  if r_2 = 0 then (
    f_X10_finding (-1000001 : Int32) h_1 fun r_5 h_4 =>
    Q r_5 h_4)
  else (
    f_X10_least a1 h_1 fun r_7 h_6 =>
    f_X10_most a1 h_6 fun r_9 h_8 =>
    f_X10_within a2 r_7 r_9 h_8 fun r_11 h_10 =>
    if r_11 = 0 then (
      f_X10_finding (-1000001 : Int32) h_10 fun r_14 h_13 =>
      Q r_14 h_13)
    else (
      f_X10_become ((6 : Int32) + a1) a2 h_10 fun r_16 h_15 =>
      Q r_16 h_15))
set_option maxRecDepth 20000 in
theorem t_X10_rule (a1 : Int32) (a2 : Int32)  (h : Mem) (Q : Int32 → Mem → Prop) (hyp : f_X10_rule a1 a2 h Q) : Cn m_X10_rule [.ref 43, .int a1, .int a2] h (GI Q) := by
  refine ge_entry (lv := [(0, .ref 43), (1, .int a1), (2, .int a2)]) pn_X10 (Nat.le_of_ble_eq_true rfl) rfl ?_
  unfold f_X10_rule at hyp
  refine ge_iload_n a_X10_rule_0 rfl 1 rfl ?_
  refine ge_cSI [.int a1] (rest := []) a_X10_rule_1 ok_X10_isRule lk_X10_119 ⟨Nat.le_of_ble_eq_true rfl, Nat.le_of_ble_eq_true rfl⟩ rfl rfl (Nat.le_of_ble_eq_true rfl) (t_X10_isRule a1  h _ hyp) (fun r_2 h_1 hyp => ?_)
  refine ge_if_eq a_X10_rule_4 (fun c_3 => ?_) (fun c_3 => ?_)
  · have hyp := gm_ip hyp c_3
    refine ge_aload_n a_X10_rule_34 rfl 0 rfl ?_
    refine ge_ldc (v := -1000001) a_X10_rule_35 ct_X10_66 ?_
    refine ge_cVI [.int (-1000001 : Int32)] (rest := []) a_X10_rule_37 ok_X10_finding lk_X10_83 ⟨Nat.le_of_ble_eq_true rfl, Nat.le_of_ble_eq_true rfl⟩ (rfl : gm_cls 43 = 9) vc_9 (by decide) rfl rfl (Nat.le_of_ble_eq_true rfl) (t_X10_finding (-1000001 : Int32)  h_1 _ hyp) (fun r_5 h_4 hyp => ?_)
    exact ge_iret rfl a_X10_rule_40 hyp
  · have hyp := gm_in hyp c_3
    refine ge_iload_n a_X10_rule_7 rfl 2 rfl ?_
    refine ge_iload_n a_X10_rule_8 rfl 1 rfl ?_
    refine ge_cSI [.int a1] (rest := [.int a2]) a_X10_rule_9 ok_X10_least lk_X10_122 ⟨Nat.le_of_ble_eq_true rfl, Nat.le_of_ble_eq_true rfl⟩ rfl rfl (Nat.le_of_ble_eq_true rfl) (t_X10_least a1  h_1 _ hyp) (fun r_7 h_6 hyp => ?_)
    refine ge_iload_n a_X10_rule_12 rfl 1 rfl ?_
    refine ge_cSI [.int a1] (rest := [.int r_7, .int a2]) a_X10_rule_13 ok_X10_most lk_X10_125 ⟨Nat.le_of_ble_eq_true rfl, Nat.le_of_ble_eq_true rfl⟩ rfl rfl (Nat.le_of_ble_eq_true rfl) (t_X10_most a1  h_6 _ hyp) (fun r_9 h_8 hyp => ?_)
    refine ge_cSI [.int a2, .int r_7, .int r_9] (rest := []) a_X10_rule_16 ok_X10_within lk_X10_71 ⟨Nat.le_of_ble_eq_true rfl, Nat.le_of_ble_eq_true rfl⟩ rfl rfl (Nat.le_of_ble_eq_true rfl) (t_X10_within a2 r_7 r_9  h_8 _ hyp) (fun r_11 h_10 hyp => ?_)
    refine ge_if_eq a_X10_rule_19 (fun c_12 => ?_) (fun c_12 => ?_)
    · have hyp := gm_ip hyp c_12
      refine ge_aload_n a_X10_rule_34 rfl 0 rfl ?_
      refine ge_ldc (v := -1000001) a_X10_rule_35 ct_X10_66 ?_
      refine ge_cVI [.int (-1000001 : Int32)] (rest := []) a_X10_rule_37 ok_X10_finding lk_X10_83 ⟨Nat.le_of_ble_eq_true rfl, Nat.le_of_ble_eq_true rfl⟩ (rfl : gm_cls 43 = 9) vc_9 (by decide) rfl rfl (Nat.le_of_ble_eq_true rfl) (t_X10_finding (-1000001 : Int32)  h_10 _ hyp) (fun r_14 h_13 hyp => ?_)
      exact ge_iret rfl a_X10_rule_40 hyp
    · have hyp := gm_in hyp c_12
      refine ge_aload_n a_X10_rule_22 rfl 0 rfl ?_
      refine ge_bipush (v := 6) a_X10_rule_23 rfl ?_
      refine ge_iload_n a_X10_rule_25 rfl 1 rfl ?_
      refine ge_iadd a_X10_rule_26 ?_
      refine ge_iload_n a_X10_rule_27 rfl 2 rfl ?_
      refine ge_cVI [.int ((6 : Int32) + a1), .int a2] (rest := []) a_X10_rule_28 ok_X10_become lk_X10_115 ⟨Nat.le_of_ble_eq_true rfl, Nat.le_of_ble_eq_true rfl⟩ (rfl : gm_cls 43 = 9) vc_9 (by decide) rfl rfl (Nat.le_of_ble_eq_true rfl) (t_X10_become ((6 : Int32) + a1) a2  h_10 _ hyp) (fun r_16 h_15 hyp => ?_)
      refine ge_goto a_X10_rule_31 ?_
      exact ge_iret rfl a_X10_rule_40 hyp

theorem a_X10_ruled_0 : At m_X10_ruled 0 (.iload_n 1) 1 1 := at_i (by decide +kernel) rfl
theorem a_X10_ruled_1 : At m_X10_ruled 1 (.invokestatic 119) 3 4 := at_i (by decide +kernel) rfl
theorem a_X10_ruled_4 : AtJ m_X10_ruled 4 (.ifCond .eq 15) (15) 19 7 := at_j (by decide +kernel) (by decide) rfl
theorem a_X10_ruled_7 : At m_X10_ruled 7 (.aload_n 0) 1 8 := at_i (by decide +kernel) rfl
theorem a_X10_ruled_8 : At m_X10_ruled 8 (.getfield 9) 3 11 := at_i (by decide +kernel) rfl
theorem a_X10_ruled_11 : At m_X10_ruled 11 (.bipush 6) 2 13 := at_i (by decide +kernel) rfl
theorem a_X10_ruled_13 : At m_X10_ruled 13 (.iload_n 1) 1 14 := at_i (by decide +kernel) rfl
theorem a_X10_ruled_14 : At m_X10_ruled 14 (.iadd) 1 15 := at_i (by decide +kernel) rfl
theorem a_X10_ruled_15 : At m_X10_ruled 15 (.iaload) 1 16 := at_i (by decide +kernel) rfl
theorem a_X10_ruled_16 : AtJ m_X10_ruled 16 (.goto 9) (9) 25 19 := at_j (by decide +kernel) (by decide) rfl
theorem a_X10_ruled_19 : At m_X10_ruled 19 (.aload_n 0) 1 20 := at_i (by decide +kernel) rfl
theorem a_X10_ruled_20 : At m_X10_ruled 20 (.ldc 66) 2 22 := at_i (by decide +kernel) rfl
theorem a_X10_ruled_22 : At m_X10_ruled 22 (.invokevirtual 83) 3 25 := at_i (by decide +kernel) rfl
theorem a_X10_ruled_25 : At m_X10_ruled 25 (.ireturn) 1 26 := at_i (by decide +kernel) rfl
def f_X10_ruled (a1 : Int32) (h : Mem) (Q : Int32 → Mem → Prop) : Prop :=
  f_X10_isRule a1 h fun r_2 h_1 =>
  if r_2 = 0 then (
    f_X10_finding (-1000001 : Int32) h_1 fun r_5 h_4 =>
    Q r_5 h_4)
  else (
    vp_in ((6 : Int32) + a1) 62 ∧
    Q (h_1 44 (((6 : Int32) + a1).toNatClampNeg)) h_1)
set_option maxRecDepth 20000 in
theorem t_X10_ruled (a1 : Int32)  (h : Mem) (Q : Int32 → Mem → Prop) (hyp : f_X10_ruled a1 h Q) : Cn m_X10_ruled [.ref 43, .int a1] h (GI Q) := by
  refine ge_entry (lv := [(0, .ref 43), (1, .int a1)]) pn_X10 (Nat.le_of_ble_eq_true rfl) rfl ?_
  unfold f_X10_ruled at hyp
  refine ge_iload_n a_X10_ruled_0 rfl 1 rfl ?_
  refine ge_cSI [.int a1] (rest := []) a_X10_ruled_1 ok_X10_isRule lk_X10_119 ⟨Nat.le_of_ble_eq_true rfl, Nat.le_of_ble_eq_true rfl⟩ rfl rfl (Nat.le_of_ble_eq_true rfl) (t_X10_isRule a1  h _ hyp) (fun r_2 h_1 hyp => ?_)
  refine ge_if_eq a_X10_ruled_4 (fun c_3 => ?_) (fun c_3 => ?_)
  · have hyp := gm_ip hyp c_3
    refine ge_aload_n a_X10_ruled_19 rfl 0 rfl ?_
    refine ge_ldc (v := -1000001) a_X10_ruled_20 ct_X10_66 ?_
    refine ge_cVI [.int (-1000001 : Int32)] (rest := []) a_X10_ruled_22 ok_X10_finding lk_X10_83 ⟨Nat.le_of_ble_eq_true rfl, Nat.le_of_ble_eq_true rfl⟩ (rfl : gm_cls 43 = 9) vc_9 (by decide) rfl rfl (Nat.le_of_ble_eq_true rfl) (t_X10_finding (-1000001 : Int32)  h_1 _ hyp) (fun r_5 h_4 hyp => ?_)
    exact ge_iret rfl a_X10_ruled_25 hyp
  · have hyp := gm_in hyp c_3
    refine ge_aload_n a_X10_ruled_7 rfl 0 rfl ?_
    refine ge_getR (q := 44) a_X10_ruled_8 fd_X10_9 (rfl : gm_cls 43 = 9) rfl ?_
    refine ge_bipush (v := 6) a_X10_ruled_11 rfl ?_
    refine ge_iload_n a_X10_ruled_13 rfl 1 rfl ?_
    refine ge_iadd a_X10_ruled_14 ?_
    obtain ⟨b_6, hyp⟩ := hyp
    refine ge_iald (j := ((6 : Int32) + a1).toNatClampNeg) a_X10_ruled_15 ga_44 b_6 rfl ?_
    refine ge_goto a_X10_ruled_16 ?_
    exact ge_iret rfl a_X10_ruled_25 hyp

theorem a_X10_held_0 : At m_X10_held 0 (.iconst 1) 1 1 := at_i (by decide +kernel) rfl
theorem a_X10_held_1 : At m_X10_held 1 (.bipush 99) 2 3 := at_i (by decide +kernel) rfl
theorem a_X10_held_3 : At m_X10_held 3 (.iload_n 0) 1 4 := at_i (by decide +kernel) rfl
theorem a_X10_held_4 : At m_X10_held 4 (.invokestatic 128) 3 7 := at_i (by decide +kernel) rfl
theorem a_X10_held_7 : At m_X10_held 7 (.invokestatic 98) 3 10 := at_i (by decide +kernel) rfl
theorem a_X10_held_10 : At m_X10_held 10 (.ireturn) 1 11 := at_i (by decide +kernel) rfl
def f_X10_held (a0 : Int32) (h : Mem) (Q : Int32 → Mem → Prop) : Prop :=
  ∀ v_1 : Int32, v_1 = (if a0 < (99 : Int32) then a0 else (99 : Int32)) →
  ∀ v_2 : Int32, v_2 = (if (1 : Int32) < v_1 then v_1 else (1 : Int32)) →
  Q v_2 h
set_option maxRecDepth 20000 in
theorem t_X10_held (a0 : Int32)  (h : Mem) (Q : Int32 → Mem → Prop) (hyp : f_X10_held a0 h Q) : Cn m_X10_held [.int a0] h (GI Q) := by
  refine ge_entry (lv := [(0, .int a0)]) pn_X10 (Nat.le_of_ble_eq_true rfl) rfl ?_
  unfold f_X10_held at hyp
  refine ge_iconst (v := 1) a_X10_held_0 rfl ?_
  refine ge_bipush (v := 99) a_X10_held_1 rfl ?_
  refine ge_iload_n a_X10_held_3 rfl 0 rfl ?_
  refine ge_mmin (rest := [.int (1 : Int32)]) a_X10_held_4 lk_X10_128 (Nat.le_of_ble_eq_true rfl) (Nat.le_of_ble_eq_true rfl) ?_
  refine ge_topi (fun v_1 ev_1 => ?_)
  have hyp := hyp v_1 ev_1
  refine ge_mmax (rest := []) a_X10_held_7 lk_X10_98 (Nat.le_of_ble_eq_true rfl) (Nat.le_of_ble_eq_true rfl) ?_
  refine ge_topi (fun v_2 ev_2 => ?_)
  have hyp := hyp v_2 ev_2
  exact ge_iret rfl a_X10_held_10 hyp

theorem a_X10_turns_0 : At m_X10_turns 0 (.aload_n 0) 1 1 := at_i (by decide +kernel) rfl
theorem a_X10_turns_1 : At m_X10_turns 1 (.getfield 9) 3 4 := at_i (by decide +kernel) rfl
theorem a_X10_turns_4 : At m_X10_turns 4 (.bipush 6) 2 6 := at_i (by decide +kernel) rfl
theorem a_X10_turns_6 : At m_X10_turns 6 (.iaload) 1 7 := at_i (by decide +kernel) rfl
theorem a_X10_turns_7 : At m_X10_turns 7 (.istore_n 1) 1 8 := at_i (by decide +kernel) rfl
theorem a_X10_turns_8 : At m_X10_turns 8 (.aload_n 0) 1 9 := at_i (by decide +kernel) rfl
theorem a_X10_turns_9 : At m_X10_turns 9 (.getfield 9) 3 12 := at_i (by decide +kernel) rfl
theorem a_X10_turns_12 : At m_X10_turns 12 (.bipush 7) 2 14 := at_i (by decide +kernel) rfl
theorem a_X10_turns_14 : At m_X10_turns 14 (.iaload) 1 15 := at_i (by decide +kernel) rfl
theorem a_X10_turns_15 : At m_X10_turns 15 (.istore_n 2) 1 16 := at_i (by decide +kernel) rfl
theorem a_X10_turns_16 : At m_X10_turns 16 (.aload_n 0) 1 17 := at_i (by decide +kernel) rfl
theorem a_X10_turns_17 : At m_X10_turns 17 (.getfield 9) 3 20 := at_i (by decide +kernel) rfl
theorem a_X10_turns_20 : At m_X10_turns 20 (.bipush 6) 2 22 := at_i (by decide +kernel) rfl
theorem a_X10_turns_22 : At m_X10_turns 22 (.iload_n 1) 1 23 := at_i (by decide +kernel) rfl
theorem a_X10_turns_23 : At m_X10_turns 23 (.aload_n 0) 1 24 := at_i (by decide +kernel) rfl
theorem a_X10_turns_24 : At m_X10_turns 24 (.getfield 9) 3 27 := at_i (by decide +kernel) rfl
theorem a_X10_turns_27 : At m_X10_turns 27 (.bipush 8) 2 29 := at_i (by decide +kernel) rfl
theorem a_X10_turns_29 : At m_X10_turns 29 (.iaload) 1 30 := at_i (by decide +kernel) rfl
theorem a_X10_turns_30 : At m_X10_turns 30 (.iload_n 2) 1 31 := at_i (by decide +kernel) rfl
theorem a_X10_turns_31 : At m_X10_turns 31 (.iload_n 1) 1 32 := at_i (by decide +kernel) rfl
theorem a_X10_turns_32 : At m_X10_turns 32 (.isub) 1 33 := at_i (by decide +kernel) rfl
theorem a_X10_turns_33 : At m_X10_turns 33 (.imul) 1 34 := at_i (by decide +kernel) rfl
theorem a_X10_turns_34 : At m_X10_turns 34 (.bipush 10) 2 36 := at_i (by decide +kernel) rfl
theorem a_X10_turns_36 : At m_X10_turns 36 (.idiv) 1 37 := at_i (by decide +kernel) rfl
theorem a_X10_turns_37 : At m_X10_turns 37 (.iadd) 1 38 := at_i (by decide +kernel) rfl
theorem a_X10_turns_38 : At m_X10_turns 38 (.aload_n 0) 1 39 := at_i (by decide +kernel) rfl
theorem a_X10_turns_39 : At m_X10_turns 39 (.getfield 9) 3 42 := at_i (by decide +kernel) rfl
theorem a_X10_turns_42 : At m_X10_turns 42 (.bipush 10) 2 44 := at_i (by decide +kernel) rfl
theorem a_X10_turns_44 : At m_X10_turns 44 (.iaload) 1 45 := at_i (by decide +kernel) rfl
theorem a_X10_turns_45 : At m_X10_turns 45 (.iadd) 1 46 := at_i (by decide +kernel) rfl
theorem a_X10_turns_46 : At m_X10_turns 46 (.invokestatic 131) 3 49 := at_i (by decide +kernel) rfl
theorem a_X10_turns_49 : At m_X10_turns 49 (.iastore) 1 50 := at_i (by decide +kernel) rfl
theorem a_X10_turns_50 : At m_X10_turns 50 (.aload_n 0) 1 51 := at_i (by decide +kernel) rfl
theorem a_X10_turns_51 : At m_X10_turns 51 (.getfield 9) 3 54 := at_i (by decide +kernel) rfl
theorem a_X10_turns_54 : At m_X10_turns 54 (.bipush 7) 2 56 := at_i (by decide +kernel) rfl
theorem a_X10_turns_56 : At m_X10_turns 56 (.iload_n 2) 1 57 := at_i (by decide +kernel) rfl
theorem a_X10_turns_57 : At m_X10_turns 57 (.aload_n 0) 1 58 := at_i (by decide +kernel) rfl
theorem a_X10_turns_58 : At m_X10_turns 58 (.getfield 9) 3 61 := at_i (by decide +kernel) rfl
theorem a_X10_turns_61 : At m_X10_turns 61 (.bipush 9) 2 63 := at_i (by decide +kernel) rfl
theorem a_X10_turns_63 : At m_X10_turns 63 (.iaload) 1 64 := at_i (by decide +kernel) rfl
theorem a_X10_turns_64 : At m_X10_turns 64 (.iload_n 1) 1 65 := at_i (by decide +kernel) rfl
theorem a_X10_turns_65 : At m_X10_turns 65 (.iload_n 2) 1 66 := at_i (by decide +kernel) rfl
theorem a_X10_turns_66 : At m_X10_turns 66 (.isub) 1 67 := at_i (by decide +kernel) rfl
theorem a_X10_turns_67 : At m_X10_turns 67 (.imul) 1 68 := at_i (by decide +kernel) rfl
theorem a_X10_turns_68 : At m_X10_turns 68 (.bipush 10) 2 70 := at_i (by decide +kernel) rfl
theorem a_X10_turns_70 : At m_X10_turns 70 (.idiv) 1 71 := at_i (by decide +kernel) rfl
theorem a_X10_turns_71 : At m_X10_turns 71 (.iadd) 1 72 := at_i (by decide +kernel) rfl
theorem a_X10_turns_72 : At m_X10_turns 72 (.aload_n 0) 1 73 := at_i (by decide +kernel) rfl
theorem a_X10_turns_73 : At m_X10_turns 73 (.getfield 9) 3 76 := at_i (by decide +kernel) rfl
theorem a_X10_turns_76 : At m_X10_turns 76 (.bipush 11) 2 78 := at_i (by decide +kernel) rfl
theorem a_X10_turns_78 : At m_X10_turns 78 (.iaload) 1 79 := at_i (by decide +kernel) rfl
theorem a_X10_turns_79 : At m_X10_turns 79 (.iadd) 1 80 := at_i (by decide +kernel) rfl
theorem a_X10_turns_80 : At m_X10_turns 80 (.invokestatic 131) 3 83 := at_i (by decide +kernel) rfl
theorem a_X10_turns_83 : At m_X10_turns 83 (.iastore) 1 84 := at_i (by decide +kernel) rfl
theorem a_X10_turns_84 : At m_X10_turns 84 (.aload_n 0) 1 85 := at_i (by decide +kernel) rfl
theorem a_X10_turns_85 : At m_X10_turns 85 (.getfield 9) 3 88 := at_i (by decide +kernel) rfl
theorem a_X10_turns_88 : At m_X10_turns 88 (.bipush 6) 2 90 := at_i (by decide +kernel) rfl
theorem a_X10_turns_90 : At m_X10_turns 90 (.iaload) 1 91 := at_i (by decide +kernel) rfl
theorem a_X10_turns_91 : At m_X10_turns 91 (.ireturn) 1 92 := at_i (by decide +kernel) rfl
def f_X10_turns  (h : Mem) (Q : Int32 → Mem → Prop) : Prop :=
  ∀ v_1 : Int32, v_1 = h 44 6 →
  ∀ v_2 : Int32, v_2 = h 44 7 →
  f_X10_held ((v_1 + (((h 44 8) * (v_2 - v_1)) / (10 : Int32))) + (h 44 10)) h fun r_4 h_3 =>
  ∀ h_5 : Mem, h_5 = gm_st h_3 44 6 r_4 →
  f_X10_held ((v_2 + (((h_5 44 9) * (v_1 - v_2)) / (10 : Int32))) + (h_5 44 11)) h_5 fun r_7 h_6 =>
  ∀ h_8 : Mem, h_8 = gm_st h_6 44 7 r_7 →
  Q (h_8 44 6) h_8
set_option maxRecDepth 20000 in
theorem t_X10_turns   (h : Mem) (Q : Int32 → Mem → Prop) (hyp : f_X10_turns  h Q) : Cn m_X10_turns [.ref 43] h (GI Q) := by
  refine ge_entry (lv := [(0, .ref 43)]) pn_X10 (Nat.le_of_ble_eq_true rfl) rfl ?_
  unfold f_X10_turns at hyp
  refine ge_aload_n a_X10_turns_0 rfl 0 rfl ?_
  refine ge_getR (q := 44) a_X10_turns_1 fd_X10_9 (rfl : gm_cls 43 = 9) rfl ?_
  refine ge_bipush (v := 6) a_X10_turns_4 rfl ?_
  refine ge_iald (j := 6) a_X10_turns_6 ga_44 li_6_62.1 li_6_62.2 ?_
  refine ge_topi (fun v_1 ev_1 => ?_)
  have hyp := hyp v_1 ev_1
  refine ge_istore_n (lv' := [(1, .int v_1), (0, .ref 43)]) a_X10_turns_7 rfl (Nat.le_of_ble_eq_true rfl) rfl ?_
  refine ge_aload_n a_X10_turns_8 rfl 1 rfl ?_
  refine ge_getR (q := 44) a_X10_turns_9 fd_X10_9 (rfl : gm_cls 43 = 9) rfl ?_
  refine ge_bipush (v := 7) a_X10_turns_12 rfl ?_
  refine ge_iald (j := 7) a_X10_turns_14 ga_44 li_7_62.1 li_7_62.2 ?_
  refine ge_topi (fun v_2 ev_2 => ?_)
  have hyp := hyp v_2 ev_2
  refine ge_istore_n (lv' := [(2, .int v_2), (1, .int v_1), (0, .ref 43)]) a_X10_turns_15 rfl (Nat.le_of_ble_eq_true rfl) rfl ?_
  refine ge_aload_n a_X10_turns_16 rfl 2 rfl ?_
  refine ge_getR (q := 44) a_X10_turns_17 fd_X10_9 (rfl : gm_cls 43 = 9) rfl ?_
  refine ge_bipush (v := 6) a_X10_turns_20 rfl ?_
  refine ge_iload_n a_X10_turns_22 rfl 1 rfl ?_
  refine ge_aload_n a_X10_turns_23 rfl 2 rfl ?_
  refine ge_getR (q := 44) a_X10_turns_24 fd_X10_9 (rfl : gm_cls 43 = 9) rfl ?_
  refine ge_bipush (v := 8) a_X10_turns_27 rfl ?_
  refine ge_iald (j := 8) a_X10_turns_29 ga_44 li_8_62.1 li_8_62.2 ?_
  refine ge_iload_n a_X10_turns_30 rfl 0 rfl ?_
  refine ge_iload_n a_X10_turns_31 rfl 1 rfl ?_
  refine ge_isub a_X10_turns_32 ?_
  refine ge_imul a_X10_turns_33 ?_
  refine ge_bipush (v := 10) a_X10_turns_34 rfl ?_
  refine ge_idiv a_X10_turns_36 (by decide) ?_
  refine ge_iadd a_X10_turns_37 ?_
  refine ge_aload_n a_X10_turns_38 rfl 2 rfl ?_
  refine ge_getR (q := 44) a_X10_turns_39 fd_X10_9 (rfl : gm_cls 43 = 9) rfl ?_
  refine ge_bipush (v := 10) a_X10_turns_42 rfl ?_
  refine ge_iald (j := 10) a_X10_turns_44 ga_44 li_10_62.1 li_10_62.2 ?_
  refine ge_iadd a_X10_turns_45 ?_
  refine ge_cSI [.int ((v_1 + (((h 44 8) * (v_2 - v_1)) / (10 : Int32))) + (h 44 10))] (rest := [.int (6 : Int32), .ref 44]) a_X10_turns_46 ok_X10_held lk_X10_131 ⟨Nat.le_of_ble_eq_true rfl, Nat.le_of_ble_eq_true rfl⟩ rfl rfl (Nat.le_of_ble_eq_true rfl) (t_X10_held ((v_1 + (((h 44 8) * (v_2 - v_1)) / (10 : Int32))) + (h 44 10))  h _ hyp) (fun r_4 h_3 hyp => ?_)
  refine ge_iast (j := 6) a_X10_turns_49 ga_44 li_6_62.1 li_6_62.2 ?_
  refine ge_nm (fun h_5 eh_5 => ?_)
  have hyp := hyp h_5 eh_5
  refine ge_aload_n a_X10_turns_50 rfl 2 rfl ?_
  refine ge_getR (q := 44) a_X10_turns_51 fd_X10_9 (rfl : gm_cls 43 = 9) rfl ?_
  refine ge_bipush (v := 7) a_X10_turns_54 rfl ?_
  refine ge_iload_n a_X10_turns_56 rfl 0 rfl ?_
  refine ge_aload_n a_X10_turns_57 rfl 2 rfl ?_
  refine ge_getR (q := 44) a_X10_turns_58 fd_X10_9 (rfl : gm_cls 43 = 9) rfl ?_
  refine ge_bipush (v := 9) a_X10_turns_61 rfl ?_
  refine ge_iald (j := 9) a_X10_turns_63 ga_44 li_9_62.1 li_9_62.2 ?_
  refine ge_iload_n a_X10_turns_64 rfl 1 rfl ?_
  refine ge_iload_n a_X10_turns_65 rfl 0 rfl ?_
  refine ge_isub a_X10_turns_66 ?_
  refine ge_imul a_X10_turns_67 ?_
  refine ge_bipush (v := 10) a_X10_turns_68 rfl ?_
  refine ge_idiv a_X10_turns_70 (by decide) ?_
  refine ge_iadd a_X10_turns_71 ?_
  refine ge_aload_n a_X10_turns_72 rfl 2 rfl ?_
  refine ge_getR (q := 44) a_X10_turns_73 fd_X10_9 (rfl : gm_cls 43 = 9) rfl ?_
  refine ge_bipush (v := 11) a_X10_turns_76 rfl ?_
  refine ge_iald (j := 11) a_X10_turns_78 ga_44 li_11_62.1 li_11_62.2 ?_
  refine ge_iadd a_X10_turns_79 ?_
  refine ge_cSI [.int ((v_2 + (((h_5 44 9) * (v_1 - v_2)) / (10 : Int32))) + (h_5 44 11))] (rest := [.int (7 : Int32), .ref 44]) a_X10_turns_80 ok_X10_held lk_X10_131 ⟨Nat.le_of_ble_eq_true rfl, Nat.le_of_ble_eq_true rfl⟩ rfl rfl (Nat.le_of_ble_eq_true rfl) (t_X10_held ((v_2 + (((h_5 44 9) * (v_1 - v_2)) / (10 : Int32))) + (h_5 44 11))  h_5 _ hyp) (fun r_7 h_6 hyp => ?_)
  refine ge_iast (j := 7) a_X10_turns_83 ga_44 li_7_62.1 li_7_62.2 ?_
  refine ge_nm (fun h_8 eh_8 => ?_)
  have hyp := hyp h_8 eh_8
  refine ge_aload_n a_X10_turns_84 rfl 2 rfl ?_
  refine ge_getR (q := 44) a_X10_turns_85 fd_X10_9 (rfl : gm_cls 43 = 9) rfl ?_
  refine ge_bipush (v := 6) a_X10_turns_88 rfl ?_
  refine ge_iald (j := 6) a_X10_turns_90 ga_44 li_6_62.1 li_6_62.2 ?_
  exact ge_iret rfl a_X10_turns_91 hyp

theorem a_X10_reads_0 : At m_X10_reads 0 (.aload_n 0) 1 1 := at_i (by decide +kernel) rfl
theorem a_X10_reads_1 : At m_X10_reads 1 (.getfield 9) 3 4 := at_i (by decide +kernel) rfl
theorem a_X10_reads_4 : At m_X10_reads 4 (.iconst 0) 1 5 := at_i (by decide +kernel) rfl
theorem a_X10_reads_5 : At m_X10_reads 5 (.iaload) 1 6 := at_i (by decide +kernel) rfl
theorem a_X10_reads_6 : At m_X10_reads 6 (.istore_n 1) 1 7 := at_i (by decide +kernel) rfl
theorem a_X10_reads_7 : At m_X10_reads 7 (.aload_n 0) 1 8 := at_i (by decide +kernel) rfl
theorem a_X10_reads_8 : At m_X10_reads 8 (.iload_n 1) 1 9 := at_i (by decide +kernel) rfl
theorem a_X10_reads_9 : At m_X10_reads 9 (.invokevirtual 106) 3 12 := at_i (by decide +kernel) rfl
theorem a_X10_reads_12 : At m_X10_reads 12 (.istore_n 2) 1 13 := at_i (by decide +kernel) rfl
theorem a_X10_reads_13 : At m_X10_reads 13 (.aload_n 0) 1 14 := at_i (by decide +kernel) rfl
theorem a_X10_reads_14 : At m_X10_reads 14 (.getfield 9) 3 17 := at_i (by decide +kernel) rfl
theorem a_X10_reads_17 : At m_X10_reads 17 (.iconst 1) 1 18 := at_i (by decide +kernel) rfl
theorem a_X10_reads_18 : At m_X10_reads 18 (.dup2) 1 19 := at_i (by decide +kernel) rfl
theorem a_X10_reads_19 : At m_X10_reads 19 (.iaload) 1 20 := at_i (by decide +kernel) rfl
theorem a_X10_reads_20 : At m_X10_reads 20 (.iload_n 2) 1 21 := at_i (by decide +kernel) rfl
theorem a_X10_reads_21 : At m_X10_reads 21 (.iadd) 1 22 := at_i (by decide +kernel) rfl
theorem a_X10_reads_22 : At m_X10_reads 22 (.iastore) 1 23 := at_i (by decide +kernel) rfl
theorem a_X10_reads_23 : At m_X10_reads 23 (.aload_n 0) 1 24 := at_i (by decide +kernel) rfl
theorem a_X10_reads_24 : At m_X10_reads 24 (.getfield 9) 3 27 := at_i (by decide +kernel) rfl
theorem a_X10_reads_27 : At m_X10_reads 27 (.iconst 2) 1 28 := at_i (by decide +kernel) rfl
theorem a_X10_reads_28 : At m_X10_reads 28 (.dup2) 1 29 := at_i (by decide +kernel) rfl
theorem a_X10_reads_29 : At m_X10_reads 29 (.iaload) 1 30 := at_i (by decide +kernel) rfl
theorem a_X10_reads_30 : At m_X10_reads 30 (.aload_n 0) 1 31 := at_i (by decide +kernel) rfl
theorem a_X10_reads_31 : At m_X10_reads 31 (.iload_n 1) 1 32 := at_i (by decide +kernel) rfl
theorem a_X10_reads_32 : At m_X10_reads 32 (.invokevirtual 109) 3 35 := at_i (by decide +kernel) rfl
theorem a_X10_reads_35 : At m_X10_reads 35 (.iadd) 1 36 := at_i (by decide +kernel) rfl
theorem a_X10_reads_36 : At m_X10_reads 36 (.iastore) 1 37 := at_i (by decide +kernel) rfl
theorem a_X10_reads_37 : At m_X10_reads 37 (.aload_n 0) 1 38 := at_i (by decide +kernel) rfl
theorem a_X10_reads_38 : At m_X10_reads 38 (.getfield 9) 3 41 := at_i (by decide +kernel) rfl
theorem a_X10_reads_41 : At m_X10_reads 41 (.iconst 3) 1 42 := at_i (by decide +kernel) rfl
theorem a_X10_reads_42 : At m_X10_reads 42 (.dup2) 1 43 := at_i (by decide +kernel) rfl
theorem a_X10_reads_43 : At m_X10_reads 43 (.iaload) 1 44 := at_i (by decide +kernel) rfl
theorem a_X10_reads_44 : At m_X10_reads 44 (.aload_n 0) 1 45 := at_i (by decide +kernel) rfl
theorem a_X10_reads_45 : At m_X10_reads 45 (.iload_n 1) 1 46 := at_i (by decide +kernel) rfl
theorem a_X10_reads_46 : At m_X10_reads 46 (.invokevirtual 112) 3 49 := at_i (by decide +kernel) rfl
theorem a_X10_reads_49 : At m_X10_reads 49 (.iadd) 1 50 := at_i (by decide +kernel) rfl
theorem a_X10_reads_50 : At m_X10_reads 50 (.iastore) 1 51 := at_i (by decide +kernel) rfl
theorem a_X10_reads_51 : At m_X10_reads 51 (.aload_n 0) 1 52 := at_i (by decide +kernel) rfl
theorem a_X10_reads_52 : At m_X10_reads 52 (.getfield 9) 3 55 := at_i (by decide +kernel) rfl
theorem a_X10_reads_55 : At m_X10_reads 55 (.iconst 0) 1 56 := at_i (by decide +kernel) rfl
theorem a_X10_reads_56 : At m_X10_reads 56 (.dup2) 1 57 := at_i (by decide +kernel) rfl
theorem a_X10_reads_57 : At m_X10_reads 57 (.iaload) 1 58 := at_i (by decide +kernel) rfl
theorem a_X10_reads_58 : At m_X10_reads 58 (.aload_n 0) 1 59 := at_i (by decide +kernel) rfl
theorem a_X10_reads_59 : At m_X10_reads 59 (.invokevirtual 134) 3 62 := at_i (by decide +kernel) rfl
theorem a_X10_reads_62 : AtJ m_X10_reads 62 (.ifCond .ge 7) (7) 69 65 := at_j (by decide +kernel) (by decide) rfl
theorem a_X10_reads_65 : At m_X10_reads 65 (.iconst 0) 1 66 := at_i (by decide +kernel) rfl
theorem a_X10_reads_66 : AtJ m_X10_reads 66 (.goto 4) (4) 70 69 := at_j (by decide +kernel) (by decide) rfl
theorem a_X10_reads_69 : At m_X10_reads 69 (.iconst 1) 1 70 := at_i (by decide +kernel) rfl
theorem a_X10_reads_70 : At m_X10_reads 70 (.iadd) 1 71 := at_i (by decide +kernel) rfl
theorem a_X10_reads_71 : At m_X10_reads 71 (.iastore) 1 72 := at_i (by decide +kernel) rfl
theorem a_X10_reads_72 : At m_X10_reads 72 (.iload_n 2) 1 73 := at_i (by decide +kernel) rfl
theorem a_X10_reads_73 : At m_X10_reads 73 (.ireturn) 1 74 := at_i (by decide +kernel) rfl
def f_X10_reads  (h : Mem) (Q : Int32 → Mem → Prop) : Prop :=
  ∀ v_1 : Int32, v_1 = h 44 0 →
  f_X10_takes v_1 h fun r_3 h_2 =>
  ∀ h_4 : Mem, h_4 = gm_st h_2 44 1 ((h_2 44 1) + r_3) →
  f_X10_trips v_1 h_4 fun r_6 h_5 =>
  ∀ h_7 : Mem, h_7 = gm_st h_5 44 2 ((h_4 44 2) + r_6) →
  f_X10_seen v_1 h_7 fun r_9 h_8 =>
  ∀ h_10 : Mem, h_10 = gm_st h_8 44 3 ((h_7 44 3) + r_9) →
  f_X10_turns  h_10 fun r_12 h_11 =>
  if 0 ≤ r_12 then (
    ∀ h_14 : Mem, h_14 = gm_st h_11 44 0 ((h_10 44 0) + (1 : Int32)) →
    Q r_3 h_14)
  else (
    ∀ h_15 : Mem, h_15 = gm_st h_11 44 0 ((h_10 44 0) + (0 : Int32)) →
    Q r_3 h_15)
set_option maxRecDepth 20000 in
theorem t_X10_reads   (h : Mem) (Q : Int32 → Mem → Prop) (hyp : f_X10_reads  h Q) : Cn m_X10_reads [.ref 43] h (GI Q) := by
  refine ge_entry (lv := [(0, .ref 43)]) pn_X10 (Nat.le_of_ble_eq_true rfl) rfl ?_
  unfold f_X10_reads at hyp
  refine ge_aload_n a_X10_reads_0 rfl 0 rfl ?_
  refine ge_getR (q := 44) a_X10_reads_1 fd_X10_9 (rfl : gm_cls 43 = 9) rfl ?_
  refine ge_iconst (v := 0) a_X10_reads_4 rfl ?_
  refine ge_iald (j := 0) a_X10_reads_5 ga_44 li_0_62.1 li_0_62.2 ?_
  refine ge_topi (fun v_1 ev_1 => ?_)
  have hyp := hyp v_1 ev_1
  refine ge_istore_n (lv' := [(1, .int v_1), (0, .ref 43)]) a_X10_reads_6 rfl (Nat.le_of_ble_eq_true rfl) rfl ?_
  refine ge_aload_n a_X10_reads_7 rfl 1 rfl ?_
  refine ge_iload_n a_X10_reads_8 rfl 0 rfl ?_
  refine ge_cVI [.int v_1] (rest := []) a_X10_reads_9 ok_X10_takes lk_X10_106 ⟨Nat.le_of_ble_eq_true rfl, Nat.le_of_ble_eq_true rfl⟩ (rfl : gm_cls 43 = 9) vc_9 (by decide) rfl rfl (Nat.le_of_ble_eq_true rfl) (t_X10_takes v_1  h _ hyp) (fun r_3 h_2 hyp => ?_)
  refine ge_istore_n (lv' := [(2, .int r_3), (1, .int v_1), (0, .ref 43)]) a_X10_reads_12 rfl (Nat.le_of_ble_eq_true rfl) rfl ?_
  refine ge_aload_n a_X10_reads_13 rfl 2 rfl ?_
  refine ge_getR (q := 44) a_X10_reads_14 fd_X10_9 (rfl : gm_cls 43 = 9) rfl ?_
  refine ge_iconst (v := 1) a_X10_reads_17 rfl ?_
  refine ge_dup2 a_X10_reads_18 rfl rfl ?_
  refine ge_iald (j := 1) a_X10_reads_19 ga_44 li_1_62.1 li_1_62.2 ?_
  refine ge_iload_n a_X10_reads_20 rfl 0 rfl ?_
  refine ge_iadd a_X10_reads_21 ?_
  refine ge_iast (j := 1) a_X10_reads_22 ga_44 li_1_62.1 li_1_62.2 ?_
  refine ge_nm (fun h_4 eh_4 => ?_)
  have hyp := hyp h_4 eh_4
  refine ge_aload_n a_X10_reads_23 rfl 2 rfl ?_
  refine ge_getR (q := 44) a_X10_reads_24 fd_X10_9 (rfl : gm_cls 43 = 9) rfl ?_
  refine ge_iconst (v := 2) a_X10_reads_27 rfl ?_
  refine ge_dup2 a_X10_reads_28 rfl rfl ?_
  refine ge_iald (j := 2) a_X10_reads_29 ga_44 li_2_62.1 li_2_62.2 ?_
  refine ge_aload_n a_X10_reads_30 rfl 2 rfl ?_
  refine ge_iload_n a_X10_reads_31 rfl 1 rfl ?_
  refine ge_cVI [.int v_1] (rest := [.int (h_4 44 2), .int (2 : Int32), .ref 44]) a_X10_reads_32 ok_X10_trips lk_X10_109 ⟨Nat.le_of_ble_eq_true rfl, Nat.le_of_ble_eq_true rfl⟩ (rfl : gm_cls 43 = 9) vc_9 (by decide) rfl rfl (Nat.le_of_ble_eq_true rfl) (t_X10_trips v_1  h_4 _ hyp) (fun r_6 h_5 hyp => ?_)
  refine ge_iadd a_X10_reads_35 ?_
  refine ge_iast (j := 2) a_X10_reads_36 ga_44 li_2_62.1 li_2_62.2 ?_
  refine ge_nm (fun h_7 eh_7 => ?_)
  have hyp := hyp h_7 eh_7
  refine ge_aload_n a_X10_reads_37 rfl 2 rfl ?_
  refine ge_getR (q := 44) a_X10_reads_38 fd_X10_9 (rfl : gm_cls 43 = 9) rfl ?_
  refine ge_iconst (v := 3) a_X10_reads_41 rfl ?_
  refine ge_dup2 a_X10_reads_42 rfl rfl ?_
  refine ge_iald (j := 3) a_X10_reads_43 ga_44 li_3_62.1 li_3_62.2 ?_
  refine ge_aload_n a_X10_reads_44 rfl 2 rfl ?_
  refine ge_iload_n a_X10_reads_45 rfl 1 rfl ?_
  refine ge_cVI [.int v_1] (rest := [.int (h_7 44 3), .int (3 : Int32), .ref 44]) a_X10_reads_46 ok_X10_seen lk_X10_112 ⟨Nat.le_of_ble_eq_true rfl, Nat.le_of_ble_eq_true rfl⟩ (rfl : gm_cls 43 = 9) vc_9 (by decide) rfl rfl (Nat.le_of_ble_eq_true rfl) (t_X10_seen v_1  h_7 _ hyp) (fun r_9 h_8 hyp => ?_)
  refine ge_iadd a_X10_reads_49 ?_
  refine ge_iast (j := 3) a_X10_reads_50 ga_44 li_3_62.1 li_3_62.2 ?_
  refine ge_nm (fun h_10 eh_10 => ?_)
  have hyp := hyp h_10 eh_10
  refine ge_aload_n a_X10_reads_51 rfl 2 rfl ?_
  refine ge_getR (q := 44) a_X10_reads_52 fd_X10_9 (rfl : gm_cls 43 = 9) rfl ?_
  refine ge_iconst (v := 0) a_X10_reads_55 rfl ?_
  refine ge_dup2 a_X10_reads_56 rfl rfl ?_
  refine ge_iald (j := 0) a_X10_reads_57 ga_44 li_0_62.1 li_0_62.2 ?_
  refine ge_aload_n a_X10_reads_58 rfl 2 rfl ?_
  refine ge_cVI [] (rest := [.int (h_10 44 0), .int (0 : Int32), .ref 44]) a_X10_reads_59 ok_X10_turns lk_X10_134 ⟨Nat.le_of_ble_eq_true rfl, Nat.le_of_ble_eq_true rfl⟩ (rfl : gm_cls 43 = 9) vc_9 (by decide) rfl rfl (Nat.le_of_ble_eq_true rfl) (t_X10_turns   h_10 _ hyp) (fun r_12 h_11 hyp => ?_)
  refine ge_if_ge a_X10_reads_62 (fun c_13 => ?_) (fun c_13 => ?_)
  · have hyp := gm_ip hyp c_13
    refine ge_iconst (v := 1) a_X10_reads_69 rfl ?_
    refine ge_iadd a_X10_reads_70 ?_
    refine ge_iast (j := 0) a_X10_reads_71 ga_44 li_0_62.1 li_0_62.2 ?_
    refine ge_nm (fun h_14 eh_14 => ?_)
    have hyp := hyp h_14 eh_14
    refine ge_iload_n a_X10_reads_72 rfl 0 rfl ?_
    exact ge_iret rfl a_X10_reads_73 hyp
  · have hyp := gm_in hyp c_13
    refine ge_iconst (v := 0) a_X10_reads_65 rfl ?_
    refine ge_goto a_X10_reads_66 ?_
    refine ge_iadd a_X10_reads_70 ?_
    refine ge_iast (j := 0) a_X10_reads_71 ga_44 li_0_62.1 li_0_62.2 ?_
    refine ge_nm (fun h_15 eh_15 => ?_)
    have hyp := hyp h_15 eh_15
    refine ge_iload_n a_X10_reads_72 rfl 0 rfl ?_
    exact ge_iret rfl a_X10_reads_73 hyp

theorem a_X10_readsOn_0 : At m_X10_readsOn 0 (.iconst 0) 1 1 := at_i (by decide +kernel) rfl
theorem a_X10_readsOn_1 : At m_X10_readsOn 1 (.istore_n 2) 1 2 := at_i (by decide +kernel) rfl
theorem a_X10_readsOn_2 : At m_X10_readsOn 2 (.iconst 0) 1 3 := at_i (by decide +kernel) rfl
theorem a_X10_readsOn_3 : At m_X10_readsOn 3 (.istore_n 3) 1 4 := at_i (by decide +kernel) rfl
theorem a_X10_readsOn_4 : At m_X10_readsOn 4 (.iload_n 3) 1 5 := at_i (by decide +kernel) rfl
theorem a_X10_readsOn_5 : At m_X10_readsOn 5 (.iload_n 1) 1 6 := at_i (by decide +kernel) rfl
theorem a_X10_readsOn_6 : AtJ m_X10_readsOn 6 (.if_icmp .ge 16) (16) 22 9 := at_j (by decide +kernel) (by decide) rfl
theorem a_X10_readsOn_9 : At m_X10_readsOn 9 (.iload_n 2) 1 10 := at_i (by decide +kernel) rfl
theorem a_X10_readsOn_10 : At m_X10_readsOn 10 (.aload_n 0) 1 11 := at_i (by decide +kernel) rfl
theorem a_X10_readsOn_11 : At m_X10_readsOn 11 (.invokevirtual 138) 3 14 := at_i (by decide +kernel) rfl
theorem a_X10_readsOn_14 : At m_X10_readsOn 14 (.iadd) 1 15 := at_i (by decide +kernel) rfl
theorem a_X10_readsOn_15 : At m_X10_readsOn 15 (.istore_n 2) 1 16 := at_i (by decide +kernel) rfl
theorem a_X10_readsOn_16 : At m_X10_readsOn 16 (.iinc 3 1) 3 19 := at_i (by decide +kernel) rfl
theorem a_X10_readsOn_19 : AtJ m_X10_readsOn 19 (.goto (-15)) (-15) 4 22 := at_j (by decide +kernel) (by decide) rfl
theorem a_X10_readsOn_22 : At m_X10_readsOn 22 (.iload_n 2) 1 23 := at_i (by decide +kernel) rfl
theorem a_X10_readsOn_23 : At m_X10_readsOn 23 (.ireturn) 1 24 := at_i (by decide +kernel) rfl
def f_X10_readsOn_b4 (a1 : Int32)  (Q : Int32 → Mem → Prop)  (K4 : Int32 → Int32 → Mem → Prop) (v2 : Int32) (v3 : Int32) (h : Mem) : Prop :=
  if a1 ≤ v3 then (
    Q v2 h)
  else (
    f_X10_reads  h fun r_3 h_2 =>
    ∀ v_4 : Int32, v_4 = v2 + r_3 →
    ∀ v_5 : Int32, v_5 = v3 + (1 : Int32) →
    K4 v_4 v_5 h_2)
set_option maxRecDepth 20000 in
theorem t_X10_readsOn_b4 (a1 : Int32)    (Q : Int32 → Mem → Prop)   : ∀ (n : Nat) (v2 : Int32) (v3 : Int32) (h : Mem), gm_it2 (f_X10_readsOn_b4 a1  Q ) n v2 v3 h → EV m_X10_readsOn (GI Q) 4 [(0, .ref 43), (1, .int a1), (2, .int v2), (3, .int v3)] [] h := by
  refine ge_loop2 (P := fun v2 v3 h => EV m_X10_readsOn (GI Q) 4 [(0, .ref 43), (1, .int a1), (2, .int v2), (3, .int v3)] [] h) (fun K4 hK4 v2 v3 h hyp => ?_)
  unfold f_X10_readsOn_b4 at hyp
  refine ge_iload_n a_X10_readsOn_4 rfl 3 rfl ?_
  refine ge_iload_n a_X10_readsOn_5 rfl 1 rfl ?_
  refine ge_icmp_ge a_X10_readsOn_6 (fun c_1 => ?_) (fun c_1 => ?_)
  · have hyp := gm_ip hyp c_1
    refine ge_iload_n a_X10_readsOn_22 rfl 2 rfl ?_
    exact ge_iret rfl a_X10_readsOn_23 hyp
  · have hyp := gm_in hyp c_1
    refine ge_iload_n a_X10_readsOn_9 rfl 2 rfl ?_
    refine ge_aload_n a_X10_readsOn_10 rfl 0 rfl ?_
    refine ge_cVI [] (rest := [.int v2]) a_X10_readsOn_11 ok_X10_reads lk_X10_138 ⟨Nat.le_of_ble_eq_true rfl, Nat.le_of_ble_eq_true rfl⟩ (rfl : gm_cls 43 = 9) vc_9 (by decide) rfl rfl (Nat.le_of_ble_eq_true rfl) (t_X10_reads   h _ hyp) (fun r_3 h_2 hyp => ?_)
    refine ge_iadd a_X10_readsOn_14 ?_
    refine ge_topi (fun v_4 ev_4 => ?_)
    have hyp := hyp v_4 ev_4
    refine ge_istore_n (lv' := [(2, .int v_4), (0, .ref 43), (1, .int a1), (3, .int v3)]) a_X10_readsOn_15 rfl (Nat.le_of_ble_eq_true rfl) rfl ?_
    obtain ⟨v_5, ev_5⟩ : ∃ y : Int32, y = v3 + (1 : Int32) := ⟨_, rfl⟩
    have hyp := hyp v_5 ev_5
    refine ge_iinc (v := v_5) (lv' := [(3, .int v_5), (2, .int v_4), (0, .ref 43), (1, .int a1)]) a_X10_readsOn_16 3 rfl ev_5.symm (Nat.le_of_ble_eq_true rfl) rfl ?_
    refine ge_goto a_X10_readsOn_19 ?_
    exact ge_sub [2, 3, 1, 0] rfl (hK4 v_4 v_5 h_2 hyp)
def f_X10_readsOn (a1 : Int32) (h : Mem) (Q : Int32 → Mem → Prop) : Prop :=
  gm_it2 (f_X10_readsOn_b4 a1  Q ) gm_F (0 : Int32) (0 : Int32) h
set_option maxRecDepth 20000 in
theorem t_X10_readsOn (a1 : Int32)  (h : Mem) (Q : Int32 → Mem → Prop) (hyp : f_X10_readsOn a1 h Q) : Cn m_X10_readsOn [.ref 43, .int a1] h (GI Q) := by
  refine ge_entry (lv := [(0, .ref 43), (1, .int a1)]) pn_X10 (Nat.le_of_ble_eq_true rfl) rfl ?_
  unfold f_X10_readsOn at hyp
  refine ge_iconst (v := 0) a_X10_readsOn_0 rfl ?_
  refine ge_istore_n (lv' := [(2, .int (0 : Int32)), (0, .ref 43), (1, .int a1)]) a_X10_readsOn_1 rfl (Nat.le_of_ble_eq_true rfl) rfl ?_
  refine ge_iconst (v := 0) a_X10_readsOn_2 rfl ?_
  refine ge_istore_n (lv' := [(3, .int (0 : Int32)), (2, .int (0 : Int32)), (0, .ref 43), (1, .int a1)]) a_X10_readsOn_3 rfl (Nat.le_of_ble_eq_true rfl) rfl ?_
  exact ge_sub [2, 3, 1, 0] rfl (t_X10_readsOn_b4 a1    Q   gm_F (0 : Int32) (0 : Int32) h hyp)

theorem a_X10_left_0 : At m_X10_left 0 (.aload_n 0) 1 1 := at_i (by decide +kernel) rfl
theorem a_X10_left_1 : At m_X10_left 1 (.getfield 9) 3 4 := at_i (by decide +kernel) rfl
theorem a_X10_left_4 : At m_X10_left 4 (.iconst 4) 1 5 := at_i (by decide +kernel) rfl
theorem a_X10_left_5 : At m_X10_left 5 (.iaload) 1 6 := at_i (by decide +kernel) rfl
theorem a_X10_left_6 : At m_X10_left 6 (.aload_n 0) 1 7 := at_i (by decide +kernel) rfl
theorem a_X10_left_7 : At m_X10_left 7 (.getfield 9) 3 10 := at_i (by decide +kernel) rfl
theorem a_X10_left_10 : At m_X10_left 10 (.iconst 0) 1 11 := at_i (by decide +kernel) rfl
theorem a_X10_left_11 : At m_X10_left 11 (.iaload) 1 12 := at_i (by decide +kernel) rfl
theorem a_X10_left_12 : At m_X10_left 12 (.isub) 1 13 := at_i (by decide +kernel) rfl
theorem a_X10_left_13 : At m_X10_left 13 (.ireturn) 1 14 := at_i (by decide +kernel) rfl
def f_X10_left  (h : Mem) (Q : Int32 → Mem → Prop) : Prop :=
  Q ((h 44 4) - (h 44 0)) h
set_option maxRecDepth 20000 in
theorem t_X10_left   (h : Mem) (Q : Int32 → Mem → Prop) (hyp : f_X10_left  h Q) : Cn m_X10_left [.ref 43] h (GI Q) := by
  refine ge_entry (lv := [(0, .ref 43)]) pn_X10 (Nat.le_of_ble_eq_true rfl) rfl ?_
  unfold f_X10_left at hyp
  refine ge_aload_n a_X10_left_0 rfl 0 rfl ?_
  refine ge_getR (q := 44) a_X10_left_1 fd_X10_9 (rfl : gm_cls 43 = 9) rfl ?_
  refine ge_iconst (v := 4) a_X10_left_4 rfl ?_
  refine ge_iald (j := 4) a_X10_left_5 ga_44 li_4_62.1 li_4_62.2 ?_
  refine ge_aload_n a_X10_left_6 rfl 0 rfl ?_
  refine ge_getR (q := 44) a_X10_left_7 fd_X10_9 (rfl : gm_cls 43 = 9) rfl ?_
  refine ge_iconst (v := 0) a_X10_left_10 rfl ?_
  refine ge_iald (j := 0) a_X10_left_11 ga_44 li_0_62.1 li_0_62.2 ?_
  refine ge_isub a_X10_left_12 ?_
  exact ge_iret rfl a_X10_left_13 hyp
