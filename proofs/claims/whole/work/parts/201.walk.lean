theorem a_X3_takePace_0 : At m_X3_takePace 0 (.aload_n 0) 1 1 := at_i (by decide +kernel) rfl
theorem a_X3_takePace_1 : At m_X3_takePace 1 (.iconst 0) 1 2 := at_i (by decide +kernel) rfl
theorem a_X3_takePace_2 : At m_X3_takePace 2 (.iload_n 1) 1 3 := at_i (by decide +kernel) rfl
theorem a_X3_takePace_3 : At m_X3_takePace 3 (.iadd) 1 4 := at_i (by decide +kernel) rfl
theorem a_X3_takePace_4 : At m_X3_takePace 4 (.invokevirtual 57) 3 7 := at_i (by decide +kernel) rfl
theorem a_X3_takePace_7 : AtJ m_X3_takePace 7 (.ifCond .ne 5) (5) 12 10 := at_j (by decide +kernel) (by decide) rfl
theorem a_X3_takePace_10 : At m_X3_takePace 10 (.iconst 0) 1 11 := at_i (by decide +kernel) rfl
theorem a_X3_takePace_11 : At m_X3_takePace 11 (.ireturn) 1 12 := at_i (by decide +kernel) rfl
theorem a_X3_takePace_12 : At m_X3_takePace 12 (.aload_n 0) 1 13 := at_i (by decide +kernel) rfl
theorem a_X3_takePace_13 : At m_X3_takePace 13 (.ldc 101) 2 15 := at_i (by decide +kernel) rfl
theorem a_X3_takePace_15 : At m_X3_takePace 15 (.invokevirtual 40) 3 18 := at_i (by decide +kernel) rfl
theorem a_X3_takePace_18 : AtJ m_X3_takePace 18 (.ifCond .eq 15) (15) 33 21 := at_j (by decide +kernel) (by decide) rfl
theorem a_X3_takePace_21 : At m_X3_takePace 21 (.aload_n 0) 1 22 := at_i (by decide +kernel) rfl
theorem a_X3_takePace_22 : At m_X3_takePace 22 (.iconst 2) 1 23 := at_i (by decide +kernel) rfl
theorem a_X3_takePace_23 : At m_X3_takePace 23 (.iload_n 1) 1 24 := at_i (by decide +kernel) rfl
theorem a_X3_takePace_24 : At m_X3_takePace 24 (.iadd) 1 25 := at_i (by decide +kernel) rfl
theorem a_X3_takePace_25 : At m_X3_takePace 25 (.invokevirtual 57) 3 28 := at_i (by decide +kernel) rfl
theorem a_X3_takePace_28 : AtJ m_X3_takePace 28 (.ifCond .ne 5) (5) 33 31 := at_j (by decide +kernel) (by decide) rfl
theorem a_X3_takePace_31 : At m_X3_takePace 31 (.iconst 0) 1 32 := at_i (by decide +kernel) rfl
theorem a_X3_takePace_32 : At m_X3_takePace 32 (.ireturn) 1 33 := at_i (by decide +kernel) rfl
theorem a_X3_takePace_33 : At m_X3_takePace 33 (.aload_n 0) 1 34 := at_i (by decide +kernel) rfl
theorem a_X3_takePace_34 : At m_X3_takePace 34 (.ldc 103) 2 36 := at_i (by decide +kernel) rfl
theorem a_X3_takePace_36 : At m_X3_takePace 36 (.invokevirtual 40) 3 39 := at_i (by decide +kernel) rfl
theorem a_X3_takePace_39 : AtJ m_X3_takePace 39 (.ifCond .eq 13) (13) 52 42 := at_j (by decide +kernel) (by decide) rfl
theorem a_X3_takePace_42 : At m_X3_takePace 42 (.aload_n 0) 1 43 := at_i (by decide +kernel) rfl
theorem a_X3_takePace_43 : At m_X3_takePace 43 (.iconst 4) 1 44 := at_i (by decide +kernel) rfl
theorem a_X3_takePace_44 : At m_X3_takePace 44 (.iload_n 1) 1 45 := at_i (by decide +kernel) rfl
theorem a_X3_takePace_45 : At m_X3_takePace 45 (.iadd) 1 46 := at_i (by decide +kernel) rfl
theorem a_X3_takePace_46 : At m_X3_takePace 46 (.invokevirtual 105) 3 49 := at_i (by decide +kernel) rfl
theorem a_X3_takePace_49 : AtJ m_X3_takePace 49 (.ifCond .eq 7) (7) 56 52 := at_j (by decide +kernel) (by decide) rfl
theorem a_X3_takePace_52 : At m_X3_takePace 52 (.iconst 1) 1 53 := at_i (by decide +kernel) rfl
theorem a_X3_takePace_53 : AtJ m_X3_takePace 53 (.goto 4) (4) 57 56 := at_j (by decide +kernel) (by decide) rfl
theorem a_X3_takePace_56 : At m_X3_takePace 56 (.iconst 0) 1 57 := at_i (by decide +kernel) rfl
theorem a_X3_takePace_57 : At m_X3_takePace 57 (.ireturn) 1 58 := at_i (by decide +kernel) rfl
def f_X3_takePace_b33 (a1 : Int32)  (Q : Int32 → Mem → Prop)   (h : Mem) : Prop :=
  f_X3_isWord 16 h fun r_8 h_7 =>
  if r_8 = 0 then (
    Q (1 : Int32) h_7)
  else (
    f_X3_takeDrift ((4 : Int32) + a1) h_7 fun r_11 h_10 =>
    if r_11 = 0 then (
      Q (0 : Int32) h_10)
    else (
      Q (1 : Int32) h_10))
set_option maxRecDepth 20000 in
theorem t_X3_takePace_b33 (a1 : Int32)    (Q : Int32 → Mem → Prop)    (h : Mem) (hyp : f_X3_takePace_b33 a1  Q   h) : EV m_X3_takePace (GI Q) 33 [(0, .ref 32), (1, .int a1)] [] h := by
  unfold f_X3_takePace_b33 at hyp
  refine ge_aload_n a_X3_takePace_33 rfl 0 rfl ?_
  refine ge_ldcS (i := 16) a_X3_takePace_34 sl_X3_103 ?_
  refine ge_cVI [.ref (100 + 16)] (rest := []) a_X3_takePace_36 ok_X3_isWord lk_X3_40 ⟨Nat.le_of_ble_eq_true rfl, Nat.le_of_ble_eq_true rfl⟩ (rfl : gm_cls 32 = 2) vc_2 (by decide) rfl rfl (Nat.le_of_ble_eq_true rfl) (t_X3_isWord 16 (by decide) h _ hyp) (fun r_8 h_7 hyp => ?_)
  refine ge_if_eq a_X3_takePace_39 (fun c_9 => ?_) (fun c_9 => ?_)
  · have hyp := gm_ip hyp c_9
    refine ge_iconst (v := 1) a_X3_takePace_52 rfl ?_
    refine ge_goto a_X3_takePace_53 ?_
    exact ge_zret rfl rfl a_X3_takePace_57 hyp
  · have hyp := gm_in hyp c_9
    refine ge_aload_n a_X3_takePace_42 rfl 0 rfl ?_
    refine ge_iconst (v := 4) a_X3_takePace_43 rfl ?_
    refine ge_iload_n a_X3_takePace_44 rfl 1 rfl ?_
    refine ge_iadd a_X3_takePace_45 ?_
    refine ge_cVI [.int ((4 : Int32) + a1)] (rest := []) a_X3_takePace_46 ok_X3_takeDrift lk_X3_105 ⟨Nat.le_of_ble_eq_true rfl, Nat.le_of_ble_eq_true rfl⟩ (rfl : gm_cls 32 = 2) vc_2 (by decide) rfl rfl (Nat.le_of_ble_eq_true rfl) (t_X3_takeDrift ((4 : Int32) + a1)  h_7 _ hyp) (fun r_11 h_10 hyp => ?_)
    refine ge_if_eq a_X3_takePace_49 (fun c_12 => ?_) (fun c_12 => ?_)
    · have hyp := gm_ip hyp c_12
      refine ge_iconst (v := 0) a_X3_takePace_56 rfl ?_
      exact ge_zret rfl rfl a_X3_takePace_57 hyp
    · have hyp := gm_in hyp c_12
      refine ge_iconst (v := 1) a_X3_takePace_52 rfl ?_
      refine ge_goto a_X3_takePace_53 ?_
      exact ge_zret rfl rfl a_X3_takePace_57 hyp
def f_X3_takePace (a1 : Int32) (h : Mem) (Q : Int32 → Mem → Prop) : Prop :=
  f_X3_takeRule ((0 : Int32) + a1) h fun r_2 h_1 =>
  if r_2 = 0 then (
    Q (0 : Int32) h_1)
  else (
    f_X3_isWord 15 h_1 fun r_5 h_4 =>
    if r_5 = 0 then (
      f_X3_takePace_b33 a1  Q   h_4)
    else (
      f_X3_takeRule ((2 : Int32) + a1) h_4 fun r_14 h_13 =>
      if r_14 = 0 then (
        Q (0 : Int32) h_13)
      else (
        f_X3_takePace_b33 a1  Q   h_13)))
set_option maxRecDepth 20000 in
theorem t_X3_takePace (a1 : Int32)  (h : Mem) (Q : Int32 → Mem → Prop) (hyp : f_X3_takePace a1 h Q) : Cn m_X3_takePace [.ref 32, .int a1] h (GI Q) := by
  refine ge_entry (lv := [(0, .ref 32), (1, .int a1)]) pn_X3 (Nat.le_of_ble_eq_true rfl) rfl ?_
  unfold f_X3_takePace at hyp
  refine ge_aload_n a_X3_takePace_0 rfl 0 rfl ?_
  refine ge_iconst (v := 0) a_X3_takePace_1 rfl ?_
  refine ge_iload_n a_X3_takePace_2 rfl 1 rfl ?_
  refine ge_iadd a_X3_takePace_3 ?_
  refine ge_cVI [.int ((0 : Int32) + a1)] (rest := []) a_X3_takePace_4 ok_X3_takeRule lk_X3_57 ⟨Nat.le_of_ble_eq_true rfl, Nat.le_of_ble_eq_true rfl⟩ (rfl : gm_cls 32 = 2) vc_2 (by decide) rfl rfl (Nat.le_of_ble_eq_true rfl) (t_X3_takeRule ((0 : Int32) + a1)  h _ hyp) (fun r_2 h_1 hyp => ?_)
  refine ge_if_ne a_X3_takePace_7 (fun c_3 => ?_) (fun c_3 => ?_)
  · have hyp := gm_in hyp c_3
    refine ge_aload_n a_X3_takePace_12 rfl 0 rfl ?_
    refine ge_ldcS (i := 15) a_X3_takePace_13 sl_X3_101 ?_
    refine ge_cVI [.ref (100 + 15)] (rest := []) a_X3_takePace_15 ok_X3_isWord lk_X3_40 ⟨Nat.le_of_ble_eq_true rfl, Nat.le_of_ble_eq_true rfl⟩ (rfl : gm_cls 32 = 2) vc_2 (by decide) rfl rfl (Nat.le_of_ble_eq_true rfl) (t_X3_isWord 15 (by decide) h_1 _ hyp) (fun r_5 h_4 hyp => ?_)
    refine ge_if_eq a_X3_takePace_18 (fun c_6 => ?_) (fun c_6 => ?_)
    · have hyp := gm_ip hyp c_6
      exact ge_sub [0, 1] rfl (t_X3_takePace_b33 a1    Q    h_4 hyp)
    · have hyp := gm_in hyp c_6
      refine ge_aload_n a_X3_takePace_21 rfl 0 rfl ?_
      refine ge_iconst (v := 2) a_X3_takePace_22 rfl ?_
      refine ge_iload_n a_X3_takePace_23 rfl 1 rfl ?_
      refine ge_iadd a_X3_takePace_24 ?_
      refine ge_cVI [.int ((2 : Int32) + a1)] (rest := []) a_X3_takePace_25 ok_X3_takeRule lk_X3_57 ⟨Nat.le_of_ble_eq_true rfl, Nat.le_of_ble_eq_true rfl⟩ (rfl : gm_cls 32 = 2) vc_2 (by decide) rfl rfl (Nat.le_of_ble_eq_true rfl) (t_X3_takeRule ((2 : Int32) + a1)  h_4 _ hyp) (fun r_14 h_13 hyp => ?_)
      refine ge_if_ne a_X3_takePace_28 (fun c_15 => ?_) (fun c_15 => ?_)
      · have hyp := gm_in hyp c_15
        exact ge_sub [0, 1] rfl (t_X3_takePace_b33 a1    Q    h_13 hyp)
      · have hyp := gm_ip hyp c_15
        refine ge_iconst (v := 0) a_X3_takePace_31 rfl ?_
        exact ge_zret rfl rfl a_X3_takePace_32 hyp
  · have hyp := gm_ip hyp c_3
    refine ge_iconst (v := 0) a_X3_takePace_10 rfl ?_
    exact ge_zret rfl rfl a_X3_takePace_11 hyp

theorem a_X3_takeItem_0 : At m_X3_takeItem 0 (.aload_n 0) 1 1 := at_i (by decide +kernel) rfl
theorem a_X3_takeItem_1 : At m_X3_takeItem 1 (.getfield 33) 3 4 := at_i (by decide +kernel) rfl
theorem a_X3_takeItem_4 : At m_X3_takeItem 4 (.iconst 1) 1 5 := at_i (by decide +kernel) rfl
theorem a_X3_takeItem_5 : AtJ m_X3_takeItem 5 (.if_icmp .eq 5) (5) 10 8 := at_j (by decide +kernel) (by decide) rfl
theorem a_X3_takeItem_8 : At m_X3_takeItem 8 (.iconst 0) 1 9 := at_i (by decide +kernel) rfl
theorem a_X3_takeItem_9 : At m_X3_takeItem 9 (.ireturn) 1 10 := at_i (by decide +kernel) rfl
theorem a_X3_takeItem_10 : At m_X3_takeItem 10 (.iconst 0) 1 11 := at_i (by decide +kernel) rfl
theorem a_X3_takeItem_11 : At m_X3_takeItem 11 (.istore_n 1) 1 12 := at_i (by decide +kernel) rfl
theorem a_X3_takeItem_12 : At m_X3_takeItem 12 (.iload_n 1) 1 13 := at_i (by decide +kernel) rfl
theorem a_X3_takeItem_13 : At m_X3_takeItem 13 (.bipush 6) 2 15 := at_i (by decide +kernel) rfl
theorem a_X3_takeItem_15 : AtJ m_X3_takeItem 15 (.if_icmp .gt 26) (26) 41 18 := at_j (by decide +kernel) (by decide) rfl
theorem a_X3_takeItem_18 : At m_X3_takeItem 18 (.aload_n 0) 1 19 := at_i (by decide +kernel) rfl
theorem a_X3_takeItem_19 : At m_X3_takeItem 19 (.iload_n 1) 1 20 := at_i (by decide +kernel) rfl
theorem a_X3_takeItem_20 : At m_X3_takeItem 20 (.invokestatic 36) 3 23 := at_i (by decide +kernel) rfl
theorem a_X3_takeItem_23 : At m_X3_takeItem 23 (.invokevirtual 40) 3 26 := at_i (by decide +kernel) rfl
theorem a_X3_takeItem_26 : AtJ m_X3_takeItem 26 (.ifCond .eq 9) (9) 35 29 := at_j (by decide +kernel) (by decide) rfl
theorem a_X3_takeItem_29 : At m_X3_takeItem 29 (.aload_n 0) 1 30 := at_i (by decide +kernel) rfl
theorem a_X3_takeItem_30 : At m_X3_takeItem 30 (.iload_n 1) 1 31 := at_i (by decide +kernel) rfl
theorem a_X3_takeItem_31 : At m_X3_takeItem 31 (.invokevirtual 44) 3 34 := at_i (by decide +kernel) rfl
theorem a_X3_takeItem_34 : At m_X3_takeItem 34 (.ireturn) 1 35 := at_i (by decide +kernel) rfl
theorem a_X3_takeItem_35 : At m_X3_takeItem 35 (.iinc 1 1) 3 38 := at_i (by decide +kernel) rfl
theorem a_X3_takeItem_38 : AtJ m_X3_takeItem 38 (.goto (-26)) (-26) 12 41 := at_j (by decide +kernel) (by decide) rfl
theorem a_X3_takeItem_41 : At m_X3_takeItem 41 (.aload_n 0) 1 42 := at_i (by decide +kernel) rfl
theorem a_X3_takeItem_42 : At m_X3_takeItem 42 (.ldc 48) 2 44 := at_i (by decide +kernel) rfl
theorem a_X3_takeItem_44 : At m_X3_takeItem 44 (.invokevirtual 40) 3 47 := at_i (by decide +kernel) rfl
theorem a_X3_takeItem_47 : AtJ m_X3_takeItem 47 (.ifCond .eq 9) (9) 56 50 := at_j (by decide +kernel) (by decide) rfl
theorem a_X3_takeItem_50 : At m_X3_takeItem 50 (.aload_n 0) 1 51 := at_i (by decide +kernel) rfl
theorem a_X3_takeItem_51 : At m_X3_takeItem 51 (.iconst 0) 1 52 := at_i (by decide +kernel) rfl
theorem a_X3_takeItem_52 : At m_X3_takeItem 52 (.invokevirtual 50) 3 55 := at_i (by decide +kernel) rfl
theorem a_X3_takeItem_55 : At m_X3_takeItem 55 (.ireturn) 1 56 := at_i (by decide +kernel) rfl
theorem a_X3_takeItem_56 : At m_X3_takeItem 56 (.aload_n 0) 1 57 := at_i (by decide +kernel) rfl
theorem a_X3_takeItem_57 : At m_X3_takeItem 57 (.ldc 53) 2 59 := at_i (by decide +kernel) rfl
theorem a_X3_takeItem_59 : At m_X3_takeItem 59 (.invokevirtual 40) 3 62 := at_i (by decide +kernel) rfl
theorem a_X3_takeItem_62 : AtJ m_X3_takeItem 62 (.ifCond .eq 9) (9) 71 65 := at_j (by decide +kernel) (by decide) rfl
theorem a_X3_takeItem_65 : At m_X3_takeItem 65 (.aload_n 0) 1 66 := at_i (by decide +kernel) rfl
theorem a_X3_takeItem_66 : At m_X3_takeItem 66 (.iconst 1) 1 67 := at_i (by decide +kernel) rfl
theorem a_X3_takeItem_67 : At m_X3_takeItem 67 (.invokevirtual 50) 3 70 := at_i (by decide +kernel) rfl
theorem a_X3_takeItem_70 : At m_X3_takeItem 70 (.ireturn) 1 71 := at_i (by decide +kernel) rfl
theorem a_X3_takeItem_71 : At m_X3_takeItem 71 (.aload_n 0) 1 72 := at_i (by decide +kernel) rfl
theorem a_X3_takeItem_72 : At m_X3_takeItem 72 (.ldc 55) 2 74 := at_i (by decide +kernel) rfl
theorem a_X3_takeItem_74 : At m_X3_takeItem 74 (.invokevirtual 40) 3 77 := at_i (by decide +kernel) rfl
theorem a_X3_takeItem_77 : AtJ m_X3_takeItem 77 (.ifCond .eq 10) (10) 87 80 := at_j (by decide +kernel) (by decide) rfl
theorem a_X3_takeItem_80 : At m_X3_takeItem 80 (.aload_n 0) 1 81 := at_i (by decide +kernel) rfl
theorem a_X3_takeItem_81 : At m_X3_takeItem 81 (.bipush 7) 2 83 := at_i (by decide +kernel) rfl
theorem a_X3_takeItem_83 : At m_X3_takeItem 83 (.invokevirtual 57) 3 86 := at_i (by decide +kernel) rfl
theorem a_X3_takeItem_86 : At m_X3_takeItem 86 (.ireturn) 1 87 := at_i (by decide +kernel) rfl
theorem a_X3_takeItem_87 : At m_X3_takeItem 87 (.aload_n 0) 1 88 := at_i (by decide +kernel) rfl
theorem a_X3_takeItem_88 : At m_X3_takeItem 88 (.ldc 60) 2 90 := at_i (by decide +kernel) rfl
theorem a_X3_takeItem_90 : At m_X3_takeItem 90 (.invokevirtual 40) 3 93 := at_i (by decide +kernel) rfl
theorem a_X3_takeItem_93 : AtJ m_X3_takeItem 93 (.ifCond .eq 10) (10) 103 96 := at_j (by decide +kernel) (by decide) rfl
theorem a_X3_takeItem_96 : At m_X3_takeItem 96 (.aload_n 0) 1 97 := at_i (by decide +kernel) rfl
theorem a_X3_takeItem_97 : At m_X3_takeItem 97 (.bipush 6) 2 99 := at_i (by decide +kernel) rfl
theorem a_X3_takeItem_99 : At m_X3_takeItem 99 (.invokevirtual 57) 3 102 := at_i (by decide +kernel) rfl
theorem a_X3_takeItem_102 : At m_X3_takeItem 102 (.ireturn) 1 103 := at_i (by decide +kernel) rfl
theorem a_X3_takeItem_103 : At m_X3_takeItem 103 (.aload_n 0) 1 104 := at_i (by decide +kernel) rfl
theorem a_X3_takeItem_104 : At m_X3_takeItem 104 (.ldc 62) 2 106 := at_i (by decide +kernel) rfl
theorem a_X3_takeItem_106 : At m_X3_takeItem 106 (.invokevirtual 40) 3 109 := at_i (by decide +kernel) rfl
theorem a_X3_takeItem_109 : AtJ m_X3_takeItem 109 (.ifCond .eq 10) (10) 119 112 := at_j (by decide +kernel) (by decide) rfl
theorem a_X3_takeItem_112 : At m_X3_takeItem 112 (.aload_n 0) 1 113 := at_i (by decide +kernel) rfl
theorem a_X3_takeItem_113 : At m_X3_takeItem 113 (.bipush 8) 2 115 := at_i (by decide +kernel) rfl
theorem a_X3_takeItem_115 : At m_X3_takeItem 115 (.invokevirtual 57) 3 118 := at_i (by decide +kernel) rfl
theorem a_X3_takeItem_118 : At m_X3_takeItem 118 (.ireturn) 1 119 := at_i (by decide +kernel) rfl
theorem a_X3_takeItem_119 : At m_X3_takeItem 119 (.aload_n 0) 1 120 := at_i (by decide +kernel) rfl
theorem a_X3_takeItem_120 : At m_X3_takeItem 120 (.ldc 64) 2 122 := at_i (by decide +kernel) rfl
theorem a_X3_takeItem_122 : At m_X3_takeItem 122 (.invokevirtual 40) 3 125 := at_i (by decide +kernel) rfl
theorem a_X3_takeItem_125 : AtJ m_X3_takeItem 125 (.ifCond .eq 16) (16) 141 128 := at_j (by decide +kernel) (by decide) rfl
theorem a_X3_takeItem_128 : At m_X3_takeItem 128 (.aload_n 0) 1 129 := at_i (by decide +kernel) rfl
theorem a_X3_takeItem_129 : At m_X3_takeItem 129 (.bipush 9) 2 131 := at_i (by decide +kernel) rfl
theorem a_X3_takeItem_131 : At m_X3_takeItem 131 (.invokevirtual 57) 3 134 := at_i (by decide +kernel) rfl
theorem a_X3_takeItem_134 : AtJ m_X3_takeItem 134 (.ifCond .eq 7) (7) 141 137 := at_j (by decide +kernel) (by decide) rfl
theorem a_X3_takeItem_137 : At m_X3_takeItem 137 (.iconst 1) 1 138 := at_i (by decide +kernel) rfl
theorem a_X3_takeItem_138 : AtJ m_X3_takeItem 138 (.goto 4) (4) 142 141 := at_j (by decide +kernel) (by decide) rfl
theorem a_X3_takeItem_141 : At m_X3_takeItem 141 (.iconst 0) 1 142 := at_i (by decide +kernel) rfl
theorem a_X3_takeItem_142 : At m_X3_takeItem 142 (.ireturn) 1 143 := at_i (by decide +kernel) rfl
def f_X3_takeItem_b12   (Q : Int32 → Mem → Prop)  (K12 : Int32 → Mem → Prop) (v1 : Int32) (h : Mem) : Prop :=
  if (6 : Int32) < v1 then (
    f_X3_isWord 7 h fun r_4 h_3 =>
    if r_4 = 0 then (
      f_X3_isWord 8 h_3 fun r_7 h_6 =>
      if r_7 = 0 then (
        f_X3_isWord 9 h_6 fun r_10 h_9 =>
        if r_10 = 0 then (
          f_X3_isWord 10 h_9 fun r_13 h_12 =>
          if r_13 = 0 then (
            f_X3_isWord 11 h_12 fun r_16 h_15 =>
            if r_16 = 0 then (
              f_X3_isWord 12 h_15 fun r_19 h_18 =>
              if r_19 = 0 then (
                Q (0 : Int32) h_18)
              else (
                f_X3_takeRule (9 : Int32) h_18 fun r_22 h_21 =>
                if r_22 = 0 then (
                  Q (0 : Int32) h_21)
                else (
                  Q (1 : Int32) h_21)))
            else (
              f_X3_takeRule (8 : Int32) h_15 fun r_25 h_24 =>
              gm_b r_25 ∧ Q r_25 h_24))
          else (
            f_X3_takeRule (6 : Int32) h_12 fun r_27 h_26 =>
            gm_b r_27 ∧ Q r_27 h_26))
        else (
          f_X3_takeRule (7 : Int32) h_9 fun r_29 h_28 =>
          gm_b r_29 ∧ Q r_29 h_28))
      else (
        f_X3_takePace (1 : Int32) h_6 fun r_31 h_30 =>
        gm_b r_31 ∧ Q r_31 h_30))
    else (
      f_X3_takePace (0 : Int32) h_3 fun r_33 h_32 =>
      gm_b r_33 ∧ Q r_33 h_32))
  else (
    f_X3_nameOf v1 h fun r_35 h_34 =>
    ∃ i_37, (i_37 < 17 ∧ r_35 = 100 + i_37) ∧
    f_X3_isWord i_37 h_34 fun r_39 h_38 =>
    if r_39 = 0 then (
      ∀ v_41 : Int32, v_41 = v1 + (1 : Int32) →
      K12 v_41 h_38)
    else (
      f_X3_takeLine v1 h_38 fun r_43 h_42 =>
      gm_b r_43 ∧ Q r_43 h_42))
set_option maxRecDepth 20000 in
theorem t_X3_takeItem_b12     (Q : Int32 → Mem → Prop)   : ∀ (n : Nat) (v1 : Int32) (h : Mem), gm_it1 (f_X3_takeItem_b12   Q ) n v1 h → EV m_X3_takeItem (GI Q) 12 [(0, .ref 32), (1, .int v1)] [] h := by
  refine ge_loop1 (P := fun v1 h => EV m_X3_takeItem (GI Q) 12 [(0, .ref 32), (1, .int v1)] [] h) (fun K12 hK12 v1 h hyp => ?_)
  unfold f_X3_takeItem_b12 at hyp
  refine ge_iload_n a_X3_takeItem_12 rfl 1 rfl ?_
  refine ge_bipush (v := 6) a_X3_takeItem_13 rfl ?_
  refine ge_icmp_gt a_X3_takeItem_15 (fun c_2 => ?_) (fun c_2 => ?_)
  · have hyp := gm_ip hyp c_2
    refine ge_aload_n a_X3_takeItem_41 rfl 0 rfl ?_
    refine ge_ldcS (i := 7) a_X3_takeItem_42 sl_X3_48 ?_
    refine ge_cVI [.ref (100 + 7)] (rest := []) a_X3_takeItem_44 ok_X3_isWord lk_X3_40 ⟨Nat.le_of_ble_eq_true rfl, Nat.le_of_ble_eq_true rfl⟩ (rfl : gm_cls 32 = 2) vc_2 (by decide) rfl rfl (Nat.le_of_ble_eq_true rfl) (t_X3_isWord 7 (by decide) h _ hyp) (fun r_4 h_3 hyp => ?_)
    refine ge_if_eq a_X3_takeItem_47 (fun c_5 => ?_) (fun c_5 => ?_)
    · have hyp := gm_ip hyp c_5
      refine ge_aload_n a_X3_takeItem_56 rfl 0 rfl ?_
      refine ge_ldcS (i := 8) a_X3_takeItem_57 sl_X3_53 ?_
      refine ge_cVI [.ref (100 + 8)] (rest := []) a_X3_takeItem_59 ok_X3_isWord lk_X3_40 ⟨Nat.le_of_ble_eq_true rfl, Nat.le_of_ble_eq_true rfl⟩ (rfl : gm_cls 32 = 2) vc_2 (by decide) rfl rfl (Nat.le_of_ble_eq_true rfl) (t_X3_isWord 8 (by decide) h_3 _ hyp) (fun r_7 h_6 hyp => ?_)
      refine ge_if_eq a_X3_takeItem_62 (fun c_8 => ?_) (fun c_8 => ?_)
      · have hyp := gm_ip hyp c_8
        refine ge_aload_n a_X3_takeItem_71 rfl 0 rfl ?_
        refine ge_ldcS (i := 9) a_X3_takeItem_72 sl_X3_55 ?_
        refine ge_cVI [.ref (100 + 9)] (rest := []) a_X3_takeItem_74 ok_X3_isWord lk_X3_40 ⟨Nat.le_of_ble_eq_true rfl, Nat.le_of_ble_eq_true rfl⟩ (rfl : gm_cls 32 = 2) vc_2 (by decide) rfl rfl (Nat.le_of_ble_eq_true rfl) (t_X3_isWord 9 (by decide) h_6 _ hyp) (fun r_10 h_9 hyp => ?_)
        refine ge_if_eq a_X3_takeItem_77 (fun c_11 => ?_) (fun c_11 => ?_)
        · have hyp := gm_ip hyp c_11
          refine ge_aload_n a_X3_takeItem_87 rfl 0 rfl ?_
          refine ge_ldcS (i := 10) a_X3_takeItem_88 sl_X3_60 ?_
          refine ge_cVI [.ref (100 + 10)] (rest := []) a_X3_takeItem_90 ok_X3_isWord lk_X3_40 ⟨Nat.le_of_ble_eq_true rfl, Nat.le_of_ble_eq_true rfl⟩ (rfl : gm_cls 32 = 2) vc_2 (by decide) rfl rfl (Nat.le_of_ble_eq_true rfl) (t_X3_isWord 10 (by decide) h_9 _ hyp) (fun r_13 h_12 hyp => ?_)
          refine ge_if_eq a_X3_takeItem_93 (fun c_14 => ?_) (fun c_14 => ?_)
          · have hyp := gm_ip hyp c_14
            refine ge_aload_n a_X3_takeItem_103 rfl 0 rfl ?_
            refine ge_ldcS (i := 11) a_X3_takeItem_104 sl_X3_62 ?_
            refine ge_cVI [.ref (100 + 11)] (rest := []) a_X3_takeItem_106 ok_X3_isWord lk_X3_40 ⟨Nat.le_of_ble_eq_true rfl, Nat.le_of_ble_eq_true rfl⟩ (rfl : gm_cls 32 = 2) vc_2 (by decide) rfl rfl (Nat.le_of_ble_eq_true rfl) (t_X3_isWord 11 (by decide) h_12 _ hyp) (fun r_16 h_15 hyp => ?_)
            refine ge_if_eq a_X3_takeItem_109 (fun c_17 => ?_) (fun c_17 => ?_)
            · have hyp := gm_ip hyp c_17
              refine ge_aload_n a_X3_takeItem_119 rfl 0 rfl ?_
              refine ge_ldcS (i := 12) a_X3_takeItem_120 sl_X3_64 ?_
              refine ge_cVI [.ref (100 + 12)] (rest := []) a_X3_takeItem_122 ok_X3_isWord lk_X3_40 ⟨Nat.le_of_ble_eq_true rfl, Nat.le_of_ble_eq_true rfl⟩ (rfl : gm_cls 32 = 2) vc_2 (by decide) rfl rfl (Nat.le_of_ble_eq_true rfl) (t_X3_isWord 12 (by decide) h_15 _ hyp) (fun r_19 h_18 hyp => ?_)
              refine ge_if_eq a_X3_takeItem_125 (fun c_20 => ?_) (fun c_20 => ?_)
              · have hyp := gm_ip hyp c_20
                refine ge_iconst (v := 0) a_X3_takeItem_141 rfl ?_
                exact ge_zret rfl rfl a_X3_takeItem_142 hyp
              · have hyp := gm_in hyp c_20
                refine ge_aload_n a_X3_takeItem_128 rfl 0 rfl ?_
                refine ge_bipush (v := 9) a_X3_takeItem_129 rfl ?_
                refine ge_cVI [.int (9 : Int32)] (rest := []) a_X3_takeItem_131 ok_X3_takeRule lk_X3_57 ⟨Nat.le_of_ble_eq_true rfl, Nat.le_of_ble_eq_true rfl⟩ (rfl : gm_cls 32 = 2) vc_2 (by decide) rfl rfl (Nat.le_of_ble_eq_true rfl) (t_X3_takeRule (9 : Int32)  h_18 _ hyp) (fun r_22 h_21 hyp => ?_)
                refine ge_if_eq a_X3_takeItem_134 (fun c_23 => ?_) (fun c_23 => ?_)
                · have hyp := gm_ip hyp c_23
                  refine ge_iconst (v := 0) a_X3_takeItem_141 rfl ?_
                  exact ge_zret rfl rfl a_X3_takeItem_142 hyp
                · have hyp := gm_in hyp c_23
                  refine ge_iconst (v := 1) a_X3_takeItem_137 rfl ?_
                  refine ge_goto a_X3_takeItem_138 ?_
                  exact ge_zret rfl rfl a_X3_takeItem_142 hyp
            · have hyp := gm_in hyp c_17
              refine ge_aload_n a_X3_takeItem_112 rfl 0 rfl ?_
              refine ge_bipush (v := 8) a_X3_takeItem_113 rfl ?_
              refine ge_cVI [.int (8 : Int32)] (rest := []) a_X3_takeItem_115 ok_X3_takeRule lk_X3_57 ⟨Nat.le_of_ble_eq_true rfl, Nat.le_of_ble_eq_true rfl⟩ (rfl : gm_cls 32 = 2) vc_2 (by decide) rfl rfl (Nat.le_of_ble_eq_true rfl) (t_X3_takeRule (8 : Int32)  h_15 _ hyp) (fun r_25 h_24 hyp => ?_)
              exact ge_zret rfl (gm_b_nar hyp.1) a_X3_takeItem_118 hyp.2
          · have hyp := gm_in hyp c_14
            refine ge_aload_n a_X3_takeItem_96 rfl 0 rfl ?_
            refine ge_bipush (v := 6) a_X3_takeItem_97 rfl ?_
            refine ge_cVI [.int (6 : Int32)] (rest := []) a_X3_takeItem_99 ok_X3_takeRule lk_X3_57 ⟨Nat.le_of_ble_eq_true rfl, Nat.le_of_ble_eq_true rfl⟩ (rfl : gm_cls 32 = 2) vc_2 (by decide) rfl rfl (Nat.le_of_ble_eq_true rfl) (t_X3_takeRule (6 : Int32)  h_12 _ hyp) (fun r_27 h_26 hyp => ?_)
            exact ge_zret rfl (gm_b_nar hyp.1) a_X3_takeItem_102 hyp.2
        · have hyp := gm_in hyp c_11
          refine ge_aload_n a_X3_takeItem_80 rfl 0 rfl ?_
          refine ge_bipush (v := 7) a_X3_takeItem_81 rfl ?_
          refine ge_cVI [.int (7 : Int32)] (rest := []) a_X3_takeItem_83 ok_X3_takeRule lk_X3_57 ⟨Nat.le_of_ble_eq_true rfl, Nat.le_of_ble_eq_true rfl⟩ (rfl : gm_cls 32 = 2) vc_2 (by decide) rfl rfl (Nat.le_of_ble_eq_true rfl) (t_X3_takeRule (7 : Int32)  h_9 _ hyp) (fun r_29 h_28 hyp => ?_)
          exact ge_zret rfl (gm_b_nar hyp.1) a_X3_takeItem_86 hyp.2
      · have hyp := gm_in hyp c_8
        refine ge_aload_n a_X3_takeItem_65 rfl 0 rfl ?_
        refine ge_iconst (v := 1) a_X3_takeItem_66 rfl ?_
        refine ge_cVI [.int (1 : Int32)] (rest := []) a_X3_takeItem_67 ok_X3_takePace lk_X3_50 ⟨Nat.le_of_ble_eq_true rfl, Nat.le_of_ble_eq_true rfl⟩ (rfl : gm_cls 32 = 2) vc_2 (by decide) rfl rfl (Nat.le_of_ble_eq_true rfl) (t_X3_takePace (1 : Int32)  h_6 _ hyp) (fun r_31 h_30 hyp => ?_)
        exact ge_zret rfl (gm_b_nar hyp.1) a_X3_takeItem_70 hyp.2
    · have hyp := gm_in hyp c_5
      refine ge_aload_n a_X3_takeItem_50 rfl 0 rfl ?_
      refine ge_iconst (v := 0) a_X3_takeItem_51 rfl ?_
      refine ge_cVI [.int (0 : Int32)] (rest := []) a_X3_takeItem_52 ok_X3_takePace lk_X3_50 ⟨Nat.le_of_ble_eq_true rfl, Nat.le_of_ble_eq_true rfl⟩ (rfl : gm_cls 32 = 2) vc_2 (by decide) rfl rfl (Nat.le_of_ble_eq_true rfl) (t_X3_takePace (0 : Int32)  h_3 _ hyp) (fun r_33 h_32 hyp => ?_)
      exact ge_zret rfl (gm_b_nar hyp.1) a_X3_takeItem_55 hyp.2
  · have hyp := gm_in hyp c_2
    refine ge_aload_n a_X3_takeItem_18 rfl 0 rfl ?_
    refine ge_iload_n a_X3_takeItem_19 rfl 1 rfl ?_
    refine ge_cSR [.int v1] (rest := [.ref 32]) a_X3_takeItem_20 ok_X3_nameOf lk_X3_36 ⟨Nat.le_of_ble_eq_true rfl, Nat.le_of_ble_eq_true rfl⟩ rfl rfl (Nat.le_of_ble_eq_true rfl) (t_X3_nameOf v1  h _ hyp) (fun r_35 h_34 hyp => ?_)
    obtain ⟨i_37, ⟨z_36, er_35⟩, hyp⟩ := hyp
    subst er_35
    refine ge_cVI [.ref (100 + i_37)] (rest := []) a_X3_takeItem_23 ok_X3_isWord lk_X3_40 ⟨Nat.le_of_ble_eq_true rfl, Nat.le_of_ble_eq_true rfl⟩ (rfl : gm_cls 32 = 2) vc_2 (by decide) rfl rfl (Nat.le_of_ble_eq_true rfl) (t_X3_isWord i_37 z_36 h_34 _ hyp) (fun r_39 h_38 hyp => ?_)
    refine ge_if_eq a_X3_takeItem_26 (fun c_40 => ?_) (fun c_40 => ?_)
    · have hyp := gm_ip hyp c_40
      obtain ⟨v_41, ev_41⟩ : ∃ y : Int32, y = v1 + (1 : Int32) := ⟨_, rfl⟩
      have hyp := hyp v_41 ev_41
      refine ge_iinc (v := v_41) (lv' := [(1, .int v_41), (0, .ref 32)]) a_X3_takeItem_35 1 rfl ev_41.symm (Nat.le_of_ble_eq_true rfl) rfl ?_
      refine ge_goto a_X3_takeItem_38 ?_
      exact ge_sub [1, 0] rfl (hK12 v_41 h_38 hyp)
    · have hyp := gm_in hyp c_40
      refine ge_aload_n a_X3_takeItem_29 rfl 0 rfl ?_
      refine ge_iload_n a_X3_takeItem_30 rfl 1 rfl ?_
      refine ge_cVI [.int v1] (rest := []) a_X3_takeItem_31 ok_X3_takeLine lk_X3_44 ⟨Nat.le_of_ble_eq_true rfl, Nat.le_of_ble_eq_true rfl⟩ (rfl : gm_cls 32 = 2) vc_2 (by decide) rfl rfl (Nat.le_of_ble_eq_true rfl) (t_X3_takeLine v1  h_38 _ hyp) (fun r_43 h_42 hyp => ?_)
      exact ge_zret rfl (gm_b_nar hyp.1) a_X3_takeItem_34 hyp.2
def f_X3_takeItem  (h : Mem) (Q : Int32 → Mem → Prop) : Prop :=
  if h 32 2 = (1 : Int32) then (
    gm_it1 (f_X3_takeItem_b12   Q ) gm_F (0 : Int32) h)
  else (
    Q (0 : Int32) h)
set_option maxRecDepth 20000 in
theorem t_X3_takeItem   (h : Mem) (Q : Int32 → Mem → Prop) (hyp : f_X3_takeItem  h Q) : Cn m_X3_takeItem [.ref 32] h (GI Q) := by
  refine ge_entry (lv := [(0, .ref 32)]) pn_X3 (Nat.le_of_ble_eq_true rfl) rfl ?_
  unfold f_X3_takeItem at hyp
  refine ge_aload_n a_X3_takeItem_0 rfl 0 rfl ?_
  refine ge_getI a_X3_takeItem_1 fd_X3_33 (rfl : gm_cls 32 = 2) ?_
  refine ge_iconst (v := 1) a_X3_takeItem_4 rfl ?_
  refine ge_icmp_eq a_X3_takeItem_5 (fun c_1 => ?_) (fun c_1 => ?_)
  · have hyp := gm_ip hyp c_1
    refine ge_iconst (v := 0) a_X3_takeItem_10 rfl ?_
    refine ge_istore_n (lv' := [(1, .int (0 : Int32)), (0, .ref 32)]) a_X3_takeItem_11 rfl (Nat.le_of_ble_eq_true rfl) rfl ?_
    exact ge_sub [1, 0] rfl (t_X3_takeItem_b12     Q   gm_F (0 : Int32) h hyp)
  · have hyp := gm_in hyp c_1
    refine ge_iconst (v := 0) a_X3_takeItem_8 rfl ?_
    exact ge_zret rfl rfl a_X3_takeItem_9 hyp

theorem a_X3_tellTo_0 : At m_X3_tellTo 0 (.aload_n 0) 1 1 := at_i (by decide +kernel) rfl
theorem a_X3_tellTo_1 : At m_X3_tellTo 1 (.aload_n 1) 1 2 := at_i (by decide +kernel) rfl
theorem a_X3_tellTo_2 : At m_X3_tellTo 2 (.putfield 9) 3 5 := at_i (by decide +kernel) rfl
theorem a_X3_tellTo_5 : At m_X3_tellTo 5 (.aload_n 0) 1 6 := at_i (by decide +kernel) rfl
theorem a_X3_tellTo_6 : At m_X3_tellTo 6 (.aload_n 2) 1 7 := at_i (by decide +kernel) rfl
theorem a_X3_tellTo_7 : At m_X3_tellTo 7 (.putfield 15) 3 10 := at_i (by decide +kernel) rfl
theorem a_X3_tellTo_10 : At m_X3_tellTo 10 (.aload_n 0) 1 11 := at_i (by decide +kernel) rfl
theorem a_X3_tellTo_11 : At m_X3_tellTo 11 (.iconst 0) 1 12 := at_i (by decide +kernel) rfl
theorem a_X3_tellTo_12 : At m_X3_tellTo 12 (.putfield 19) 3 15 := at_i (by decide +kernel) rfl
theorem a_X3_tellTo_15 : At m_X3_tellTo 15 (.aload_n 0) 1 16 := at_i (by decide +kernel) rfl
theorem a_X3_tellTo_16 : At m_X3_tellTo 16 (.invokevirtual 23) 3 19 := at_i (by decide +kernel) rfl
theorem a_X3_tellTo_19 : At m_X3_tellTo 19 (.iconst 1) 1 20 := at_i (by decide +kernel) rfl
theorem a_X3_tellTo_20 : At m_X3_tellTo 20 (.istore_n 3) 1 21 := at_i (by decide +kernel) rfl
theorem a_X3_tellTo_21 : At m_X3_tellTo 21 (.iload_n 3) 1 22 := at_i (by decide +kernel) rfl
theorem a_X3_tellTo_22 : At m_X3_tellTo 22 (.bipush 120) 2 24 := at_i (by decide +kernel) rfl
theorem a_X3_tellTo_24 : AtJ m_X3_tellTo 24 (.if_icmp .gt 51) (51) 75 27 := at_j (by decide +kernel) (by decide) rfl
theorem a_X3_tellTo_27 : At m_X3_tellTo 27 (.aload_n 0) 1 28 := at_i (by decide +kernel) rfl
theorem a_X3_tellTo_28 : At m_X3_tellTo 28 (.invokevirtual 26) 3 31 := at_i (by decide +kernel) rfl
theorem a_X3_tellTo_31 : AtJ m_X3_tellTo 31 (.ifCond .ne 10) (10) 41 34 := at_j (by decide +kernel) (by decide) rfl
theorem a_X3_tellTo_34 : At m_X3_tellTo 34 (.iconst (-1)) 1 35 := at_i (by decide +kernel) rfl
theorem a_X3_tellTo_35 : At m_X3_tellTo 35 (.aload_n 0) 1 36 := at_i (by decide +kernel) rfl
theorem a_X3_tellTo_36 : At m_X3_tellTo 36 (.getfield 30) 3 39 := at_i (by decide +kernel) rfl
theorem a_X3_tellTo_39 : At m_X3_tellTo 39 (.isub) 1 40 := at_i (by decide +kernel) rfl
theorem a_X3_tellTo_40 : At m_X3_tellTo 40 (.ireturn) 1 41 := at_i (by decide +kernel) rfl
theorem a_X3_tellTo_41 : At m_X3_tellTo 41 (.aload_n 0) 1 42 := at_i (by decide +kernel) rfl
theorem a_X3_tellTo_42 : At m_X3_tellTo 42 (.getfield 33) 3 45 := at_i (by decide +kernel) rfl
theorem a_X3_tellTo_45 : AtJ m_X3_tellTo 45 (.ifCond .ne 5) (5) 50 48 := at_j (by decide +kernel) (by decide) rfl
theorem a_X3_tellTo_48 : At m_X3_tellTo 48 (.iload_n 3) 1 49 := at_i (by decide +kernel) rfl
theorem a_X3_tellTo_49 : At m_X3_tellTo 49 (.ireturn) 1 50 := at_i (by decide +kernel) rfl
theorem a_X3_tellTo_50 : At m_X3_tellTo 50 (.aload_n 0) 1 51 := at_i (by decide +kernel) rfl
theorem a_X3_tellTo_51 : At m_X3_tellTo 51 (.getfield 33) 3 54 := at_i (by decide +kernel) rfl
theorem a_X3_tellTo_54 : At m_X3_tellTo 54 (.iconst 3) 1 55 := at_i (by decide +kernel) rfl
theorem a_X3_tellTo_55 : AtJ m_X3_tellTo 55 (.if_icmp .eq 10) (10) 65 58 := at_j (by decide +kernel) (by decide) rfl
theorem a_X3_tellTo_58 : At m_X3_tellTo 58 (.iconst (-1)) 1 59 := at_i (by decide +kernel) rfl
theorem a_X3_tellTo_59 : At m_X3_tellTo 59 (.aload_n 0) 1 60 := at_i (by decide +kernel) rfl
theorem a_X3_tellTo_60 : At m_X3_tellTo 60 (.getfield 30) 3 63 := at_i (by decide +kernel) rfl
theorem a_X3_tellTo_63 : At m_X3_tellTo 63 (.isub) 1 64 := at_i (by decide +kernel) rfl
theorem a_X3_tellTo_64 : At m_X3_tellTo 64 (.ireturn) 1 65 := at_i (by decide +kernel) rfl
theorem a_X3_tellTo_65 : At m_X3_tellTo 65 (.aload_n 0) 1 66 := at_i (by decide +kernel) rfl
theorem a_X3_tellTo_66 : At m_X3_tellTo 66 (.invokevirtual 23) 3 69 := at_i (by decide +kernel) rfl
theorem a_X3_tellTo_69 : At m_X3_tellTo 69 (.iinc 3 1) 3 72 := at_i (by decide +kernel) rfl
theorem a_X3_tellTo_72 : AtJ m_X3_tellTo 72 (.goto (-51)) (-51) 21 75 := at_j (by decide +kernel) (by decide) rfl
theorem a_X3_tellTo_75 : At m_X3_tellTo 75 (.iconst (-1)) 1 76 := at_i (by decide +kernel) rfl
theorem a_X3_tellTo_76 : At m_X3_tellTo 76 (.aload_n 0) 1 77 := at_i (by decide +kernel) rfl
theorem a_X3_tellTo_77 : At m_X3_tellTo 77 (.getfield 30) 3 80 := at_i (by decide +kernel) rfl
theorem a_X3_tellTo_80 : At m_X3_tellTo 80 (.isub) 1 81 := at_i (by decide +kernel) rfl
theorem a_X3_tellTo_81 : At m_X3_tellTo 81 (.ireturn) 1 82 := at_i (by decide +kernel) rfl
def f_X3_tellTo_b21   (Q : Int32 → Mem → Prop)  (K21 : Int32 → Mem → Prop) (v3 : Int32) (h : Mem) : Prop :=
  if (120 : Int32) < v3 then (
    Q ((-1 : Int32) - (h 32 3)) h)
  else (
    f_X3_takeItem  h fun r_7 h_6 =>
    if r_7 = 0 then (
      Q ((-1 : Int32) - (h_6 32 3)) h_6)
    else (
      if h_6 32 2 = 0 then (
        Q v3 h_6)
      else (
        if h_6 32 2 = (3 : Int32) then (
          f_X3_lookOn  h_6 fun h_11 =>
          ∀ v_12 : Int32, v_12 = v3 + (1 : Int32) →
          K21 v_12 h_11)
        else (
          Q ((-1 : Int32) - (h_6 32 3)) h_6))))
set_option maxRecDepth 20000 in
theorem t_X3_tellTo_b21     (Q : Int32 → Mem → Prop)   : ∀ (n : Nat) (v3 : Int32) (h : Mem), gm_it1 (f_X3_tellTo_b21   Q ) n v3 h → EV m_X3_tellTo (GI Q) 21 [(0, .ref 32), (3, .int v3)] [] h := by
  refine ge_loop1 (P := fun v3 h => EV m_X3_tellTo (GI Q) 21 [(0, .ref 32), (3, .int v3)] [] h) (fun K21 hK21 v3 h hyp => ?_)
  unfold f_X3_tellTo_b21 at hyp
  refine ge_iload_n a_X3_tellTo_21 rfl 1 rfl ?_
  refine ge_bipush (v := 120) a_X3_tellTo_22 rfl ?_
  refine ge_icmp_gt a_X3_tellTo_24 (fun c_5 => ?_) (fun c_5 => ?_)
  · have hyp := gm_ip hyp c_5
    refine ge_iconst (v := -1) a_X3_tellTo_75 rfl ?_
    refine ge_aload_n a_X3_tellTo_76 rfl 0 rfl ?_
    refine ge_getI a_X3_tellTo_77 fd_X3_30 (rfl : gm_cls 32 = 2) ?_
    refine ge_isub a_X3_tellTo_80 ?_
    exact ge_iret rfl a_X3_tellTo_81 hyp
  · have hyp := gm_in hyp c_5
    refine ge_aload_n a_X3_tellTo_27 rfl 0 rfl ?_
    refine ge_cVI [] (rest := []) a_X3_tellTo_28 ok_X3_takeItem lk_X3_26 ⟨Nat.le_of_ble_eq_true rfl, Nat.le_of_ble_eq_true rfl⟩ (rfl : gm_cls 32 = 2) vc_2 (by decide) rfl rfl (Nat.le_of_ble_eq_true rfl) (t_X3_takeItem   h _ hyp) (fun r_7 h_6 hyp => ?_)
    refine ge_if_ne a_X3_tellTo_31 (fun c_8 => ?_) (fun c_8 => ?_)
    · have hyp := gm_in hyp c_8
      refine ge_aload_n a_X3_tellTo_41 rfl 0 rfl ?_
      refine ge_getI a_X3_tellTo_42 fd_X3_33 (rfl : gm_cls 32 = 2) ?_
      refine ge_if_ne a_X3_tellTo_45 (fun c_9 => ?_) (fun c_9 => ?_)
      · have hyp := gm_in hyp c_9
        refine ge_aload_n a_X3_tellTo_50 rfl 0 rfl ?_
        refine ge_getI a_X3_tellTo_51 fd_X3_33 (rfl : gm_cls 32 = 2) ?_
        refine ge_iconst (v := 3) a_X3_tellTo_54 rfl ?_
        refine ge_icmp_eq a_X3_tellTo_55 (fun c_10 => ?_) (fun c_10 => ?_)
        · have hyp := gm_ip hyp c_10
          refine ge_aload_n a_X3_tellTo_65 rfl 0 rfl ?_
          refine ge_cVV [] (rest := []) a_X3_tellTo_66 ok_X3_lookOn lk_X3_23 ⟨Nat.le_of_ble_eq_true rfl, Nat.le_of_ble_eq_true rfl⟩ (rfl : gm_cls 32 = 2) vc_2 (by decide) rfl rfl (Nat.le_of_ble_eq_true rfl) (t_X3_lookOn   h_6 _ hyp) (fun h_11 hyp => ?_)
          obtain ⟨v_12, ev_12⟩ : ∃ y : Int32, y = v3 + (1 : Int32) := ⟨_, rfl⟩
          have hyp := hyp v_12 ev_12
          refine ge_iinc (v := v_12) (lv' := [(3, .int v_12), (0, .ref 32)]) a_X3_tellTo_69 1 rfl ev_12.symm (Nat.le_of_ble_eq_true rfl) rfl ?_
          refine ge_goto a_X3_tellTo_72 ?_
          exact ge_sub [1, 0] rfl (hK21 v_12 h_11 hyp)
        · have hyp := gm_in hyp c_10
          refine ge_iconst (v := -1) a_X3_tellTo_58 rfl ?_
          refine ge_aload_n a_X3_tellTo_59 rfl 0 rfl ?_
          refine ge_getI a_X3_tellTo_60 fd_X3_30 (rfl : gm_cls 32 = 2) ?_
          refine ge_isub a_X3_tellTo_63 ?_
          exact ge_iret rfl a_X3_tellTo_64 hyp
      · have hyp := gm_ip hyp c_9
        refine ge_iload_n a_X3_tellTo_48 rfl 1 rfl ?_
        exact ge_iret rfl a_X3_tellTo_49 hyp
    · have hyp := gm_ip hyp c_8
      refine ge_iconst (v := -1) a_X3_tellTo_34 rfl ?_
      refine ge_aload_n a_X3_tellTo_35 rfl 0 rfl ?_
      refine ge_getI a_X3_tellTo_36 fd_X3_30 (rfl : gm_cls 32 = 2) ?_
      refine ge_isub a_X3_tellTo_39 ?_
      exact ge_iret rfl a_X3_tellTo_40 hyp
def f_X3_tellTo  (h : Mem) (Q : Int32 → Mem → Prop) : Prop :=
  ∀ h_1 : Mem, h_1 = gm_st h 32 1 1 →
  ∀ h_2 : Mem, h_2 = gm_st h_1 32 0 1 →
  ∀ h_3 : Mem, h_3 = gm_st h_2 32 4 (0 : Int32) →
  f_X3_lookOn  h_3 fun h_4 =>
  gm_it1 (f_X3_tellTo_b21   Q ) gm_F (1 : Int32) h_4
set_option maxRecDepth 20000 in
theorem t_X3_tellTo   (h : Mem) (Q : Int32 → Mem → Prop) (hyp : f_X3_tellTo  h Q) : Cn m_X3_tellTo [.ref 32, .ref 13, .ref 30] h (GI Q) := by
  refine ge_entry (lv := [(0, .ref 32), (1, .ref 13), (2, .ref 30)]) pn_X3 (Nat.le_of_ble_eq_true rfl) rfl ?_
  unfold f_X3_tellTo at hyp
  refine ge_aload_n a_X3_tellTo_0 rfl 0 rfl ?_
  refine ge_aload_n a_X3_tellTo_1 rfl 1 rfl ?_
  refine ge_putR a_X3_tellTo_2 pd_X3_9 (rfl : gm_cls 32 = 2) rfl ?_
  refine ge_nm (fun h_1 eh_1 => ?_)
  have hyp := hyp h_1 eh_1
  refine ge_aload_n a_X3_tellTo_5 rfl 0 rfl ?_
  refine ge_aload_n a_X3_tellTo_6 rfl 2 rfl ?_
  refine ge_putR a_X3_tellTo_7 pd_X3_15 (rfl : gm_cls 32 = 2) rfl ?_
  refine ge_nm (fun h_2 eh_2 => ?_)
  have hyp := hyp h_2 eh_2
  refine ge_aload_n a_X3_tellTo_10 rfl 0 rfl ?_
  refine ge_iconst (v := 0) a_X3_tellTo_11 rfl ?_
  refine ge_putI a_X3_tellTo_12 pd_X3_19 (rfl : gm_cls 32 = 2) ?_
  refine ge_nm (fun h_3 eh_3 => ?_)
  have hyp := hyp h_3 eh_3
  refine ge_aload_n a_X3_tellTo_15 rfl 0 rfl ?_
  refine ge_cVV [] (rest := []) a_X3_tellTo_16 ok_X3_lookOn lk_X3_23 ⟨Nat.le_of_ble_eq_true rfl, Nat.le_of_ble_eq_true rfl⟩ (rfl : gm_cls 32 = 2) vc_2 (by decide) rfl rfl (Nat.le_of_ble_eq_true rfl) (t_X3_lookOn   h_3 _ hyp) (fun h_4 hyp => ?_)
  refine ge_iconst (v := 1) a_X3_tellTo_19 rfl ?_
  refine ge_istore_n (lv' := [(3, .int (1 : Int32)), (0, .ref 32), (1, .ref 13), (2, .ref 30)]) a_X3_tellTo_20 rfl (Nat.le_of_ble_eq_true rfl) rfl ?_
  exact ge_sub [1, 0] rfl (t_X3_tellTo_b21     Q   gm_F (1 : Int32) h_4 hyp)

theorem a_X4_weigh_0 : At m_X4_weigh 0 (.aload_n 0) 1 1 := at_i (by decide +kernel) rfl
theorem a_X4_weigh_1 : At m_X4_weigh 1 (.getfield 12) 3 4 := at_i (by decide +kernel) rfl
theorem a_X4_weigh_4 : At m_X4_weigh 4 (.aload_n 1) 1 5 := at_i (by decide +kernel) rfl
theorem a_X4_weigh_5 : At m_X4_weigh 5 (.getfield 40) 3 8 := at_i (by decide +kernel) rfl
theorem a_X4_weigh_8 : At m_X4_weigh 8 (.invokevirtual 49) 3 11 := at_i (by decide +kernel) rfl
theorem a_X4_weigh_11 : At m_X4_weigh 11 (.aload_n 0) 1 12 := at_i (by decide +kernel) rfl
theorem a_X4_weigh_12 : At m_X4_weigh 12 (.getfield 12) 3 15 := at_i (by decide +kernel) rfl
theorem a_X4_weigh_15 : At m_X4_weigh 15 (.iload_n 2) 1 16 := at_i (by decide +kernel) rfl
theorem a_X4_weigh_16 : At m_X4_weigh 16 (.bipush 11) 2 18 := at_i (by decide +kernel) rfl
theorem a_X4_weigh_18 : At m_X4_weigh 18 (.idiv) 1 19 := at_i (by decide +kernel) rfl
theorem a_X4_weigh_19 : At m_X4_weigh 19 (.putfield 53) 3 22 := at_i (by decide +kernel) rfl
theorem a_X4_weigh_22 : At m_X4_weigh 22 (.aload_n 0) 1 23 := at_i (by decide +kernel) rfl
theorem a_X4_weigh_23 : At m_X4_weigh 23 (.getfield 12) 3 26 := at_i (by decide +kernel) rfl
theorem a_X4_weigh_26 : At m_X4_weigh 26 (.iload_n 2) 1 27 := at_i (by decide +kernel) rfl
theorem a_X4_weigh_27 : At m_X4_weigh 27 (.bipush 11) 2 29 := at_i (by decide +kernel) rfl
theorem a_X4_weigh_29 : At m_X4_weigh 29 (.irem) 1 30 := at_i (by decide +kernel) rfl
theorem a_X4_weigh_30 : At m_X4_weigh 30 (.putfield 57) 3 33 := at_i (by decide +kernel) rfl
theorem a_X4_weigh_33 : At m_X4_weigh 33 (.return_) 1 34 := at_i (by decide +kernel) rfl
def f_X4_weigh (a2 : Int32) (h : Mem) (Q : Mem → Prop) : Prop :=
  f_X1_takeFrom 24 5 10 h fun h_1 =>
  ∀ h_2 : Mem, h_2 = gm_st h_1 24 2 (a2 / (11 : Int32)) →
  ∀ h_3 : Mem, h_3 = gm_st h_2 24 3 (a2 - a2 / (11 : Int32) * (11 : Int32)) →
  Q h_3
set_option maxRecDepth 20000 in
theorem t_X4_weigh (a2 : Int32)  (h : Mem) (Q : Mem → Prop) (hyp : f_X4_weigh a2 h Q) : Cn m_X4_weigh [.ref 23, .ref 1, .int a2] h (GV Q) := by
  refine ge_entry (lv := [(0, .ref 23), (1, .ref 1), (2, .int a2)]) pn_X4 (Nat.le_of_ble_eq_true rfl) rfl ?_
  unfold f_X4_weigh at hyp
  refine ge_aload_n a_X4_weigh_0 rfl 0 rfl ?_
  refine ge_getR (q := 24) a_X4_weigh_1 fd_X4_12 (rfl : gm_cls 23 = 3) rfl ?_
  refine ge_aload_n a_X4_weigh_4 rfl 1 rfl ?_
  refine ge_getR (q := 5) a_X4_weigh_5 fd_X4_40 (rfl : gm_cls 1 = 5) rfl ?_
  refine ge_cVV [.ref 5] (rest := []) a_X4_weigh_8 ok_X1_takeFrom lk_X4_49 ⟨Nat.le_of_ble_eq_true rfl, Nat.le_of_ble_eq_true rfl⟩ (rfl : gm_cls 24 = 0) vc_0 (by decide) rfl rfl (Nat.le_of_ble_eq_true rfl) (t_X1_takeFrom 24 5 10 (rfl : gm_cls 24 = 0) ga_5 h _ hyp) (fun h_1 hyp => ?_)
  refine ge_aload_n a_X4_weigh_11 rfl 0 rfl ?_
  refine ge_getR (q := 24) a_X4_weigh_12 fd_X4_12 (rfl : gm_cls 23 = 3) rfl ?_
  refine ge_iload_n a_X4_weigh_15 rfl 2 rfl ?_
  refine ge_bipush (v := 11) a_X4_weigh_16 rfl ?_
  refine ge_idiv a_X4_weigh_18 (by decide) ?_
  refine ge_putI a_X4_weigh_19 pd_X4_53 (rfl : gm_cls 24 = 0) ?_
  refine ge_nm (fun h_2 eh_2 => ?_)
  have hyp := hyp h_2 eh_2
  refine ge_aload_n a_X4_weigh_22 rfl 0 rfl ?_
  refine ge_getR (q := 24) a_X4_weigh_23 fd_X4_12 (rfl : gm_cls 23 = 3) rfl ?_
  refine ge_iload_n a_X4_weigh_26 rfl 2 rfl ?_
  refine ge_bipush (v := 11) a_X4_weigh_27 rfl ?_
  refine ge_irem a_X4_weigh_29 (by decide) ?_
  refine ge_putI a_X4_weigh_30 pd_X4_57 (rfl : gm_cls 24 = 0) ?_
  refine ge_nm (fun h_3 eh_3 => ?_)
  have hyp := hyp h_3 eh_3
  exact ge_vret rfl a_X4_weigh_33 hyp

theorem a_X6_linesAhead_0 : At m_X6_linesAhead 0 (.aload_n 0) 1 1 := at_i (by decide +kernel) rfl
theorem a_X6_linesAhead_1 : At m_X6_linesAhead 1 (.getfield 46) 3 4 := at_i (by decide +kernel) rfl
theorem a_X6_linesAhead_4 : At m_X6_linesAhead 4 (.aload_n 0) 1 5 := at_i (by decide +kernel) rfl
theorem a_X6_linesAhead_5 : At m_X6_linesAhead 5 (.getfield 49) 3 8 := at_i (by decide +kernel) rfl
theorem a_X6_linesAhead_8 : At m_X6_linesAhead 8 (.isub) 1 9 := at_i (by decide +kernel) rfl
theorem a_X6_linesAhead_9 : At m_X6_linesAhead 9 (.ireturn) 1 10 := at_i (by decide +kernel) rfl
def f_X6_linesAhead (k0 : Nat) (h : Mem) (Q : Int32 → Mem → Prop) : Prop :=
  Q ((h k0 5) - (h k0 6)) h
set_option maxRecDepth 20000 in
theorem t_X6_linesAhead (k0 : Nat) (hk0 : gm_cls k0 = 5) (h : Mem) (Q : Int32 → Mem → Prop) (hyp : f_X6_linesAhead k0 h Q) : Cn m_X6_linesAhead [.ref k0] h (GI Q) := by
  refine ge_entry (lv := [(0, .ref k0)]) pn_X6 (Nat.le_of_ble_eq_true rfl) rfl ?_
  unfold f_X6_linesAhead at hyp
  refine ge_aload_n a_X6_linesAhead_0 rfl 0 rfl ?_
  refine ge_getI a_X6_linesAhead_1 fd_X6_46 hk0 ?_
  refine ge_aload_n a_X6_linesAhead_4 rfl 0 rfl ?_
  refine ge_getI a_X6_linesAhead_5 fd_X6_49 hk0 ?_
  refine ge_isub a_X6_linesAhead_8 ?_
  exact ge_iret rfl a_X6_linesAhead_9 hyp

theorem a_X6_takesOf_0 : At m_X6_takesOf 0 (.aload_n 0) 1 1 := at_i (by decide +kernel) rfl
theorem a_X6_takesOf_1 : At m_X6_takesOf 1 (.getfield 9) 3 4 := at_i (by decide +kernel) rfl
theorem a_X6_takesOf_4 : At m_X6_takesOf 4 (.iload_n 1) 1 5 := at_i (by decide +kernel) rfl
theorem a_X6_takesOf_5 : At m_X6_takesOf 5 (.iaload) 1 6 := at_i (by decide +kernel) rfl
theorem a_X6_takesOf_6 : At m_X6_takesOf 6 (.aload_n 0) 1 7 := at_i (by decide +kernel) rfl
theorem a_X6_takesOf_7 : At m_X6_takesOf 7 (.getfield 15) 3 10 := at_i (by decide +kernel) rfl
theorem a_X6_takesOf_10 : At m_X6_takesOf 10 (.iload_n 1) 1 11 := at_i (by decide +kernel) rfl
theorem a_X6_takesOf_11 : At m_X6_takesOf 11 (.iaload) 1 12 := at_i (by decide +kernel) rfl
theorem a_X6_takesOf_12 : At m_X6_takesOf 12 (.aload_n 0) 1 13 := at_i (by decide +kernel) rfl
theorem a_X6_takesOf_13 : At m_X6_takesOf 13 (.getfield 18) 3 16 := at_i (by decide +kernel) rfl
theorem a_X6_takesOf_16 : At m_X6_takesOf 16 (.iload_n 1) 1 17 := at_i (by decide +kernel) rfl
theorem a_X6_takesOf_17 : At m_X6_takesOf 17 (.iaload) 1 18 := at_i (by decide +kernel) rfl
theorem a_X6_takesOf_18 : At m_X6_takesOf 18 (.iload_n 2) 1 19 := at_i (by decide +kernel) rfl
theorem a_X6_takesOf_19 : At m_X6_takesOf 19 (.invokestatic 61) 3 22 := at_i (by decide +kernel) rfl
theorem a_X6_takesOf_22 : At m_X6_takesOf 22 (.ireturn) 1 23 := at_i (by decide +kernel) rfl
def f_X6_takesOf (k0 : Nat) (a1 : Int32) (a2 : Int32) (h : Mem) (Q : Int32 → Mem → Prop) : Prop :=
  vp_in a1 12 ∧
  vp_in a1 12 ∧
  vp_in a1 12 ∧
  f_X0_takes (h (k0 + 1) a1.toNatClampNeg) (h (k0 + 2) a1.toNatClampNeg) (h (k0 + 3) a1.toNatClampNeg) a2 h fun r_5 h_4 =>
  Q r_5 h_4
set_option maxRecDepth 20000 in
theorem t_X6_takesOf (k0 : Nat) (a1 : Int32) (a2 : Int32) (hk0 : gm_cls k0 = 5) (h : Mem) (Q : Int32 → Mem → Prop) (hyp : f_X6_takesOf k0 a1 a2 h Q) : Cn m_X6_takesOf [.ref k0, .int a1, .int a2] h (GI Q) := by
  refine ge_entry (lv := [(0, .ref k0), (1, .int a1), (2, .int a2)]) pn_X6 (Nat.le_of_ble_eq_true rfl) rfl ?_
  unfold f_X6_takesOf at hyp
  refine ge_aload_n a_X6_takesOf_0 rfl 0 rfl ?_
  refine ge_getR (q := k0 + 1) a_X6_takesOf_1 fd_X6_9 hk0 (kr5_0 hk0) ?_
  refine ge_iload_n a_X6_takesOf_4 rfl 1 rfl ?_
  obtain ⟨b_1, hyp⟩ := hyp
  refine ge_iald (j := a1.toNatClampNeg) a_X6_takesOf_5 (ka5_0 hk0) b_1 rfl ?_
  refine ge_aload_n a_X6_takesOf_6 rfl 0 rfl ?_
  refine ge_getR (q := k0 + 2) a_X6_takesOf_7 fd_X6_15 hk0 (kr5_1 hk0) ?_
  refine ge_iload_n a_X6_takesOf_10 rfl 1 rfl ?_
  obtain ⟨b_2, hyp⟩ := hyp
  refine ge_iald (j := a1.toNatClampNeg) a_X6_takesOf_11 (ka5_1 hk0) b_2 rfl ?_
  refine ge_aload_n a_X6_takesOf_12 rfl 0 rfl ?_
  refine ge_getR (q := k0 + 3) a_X6_takesOf_13 fd_X6_18 hk0 (kr5_2 hk0) ?_
  refine ge_iload_n a_X6_takesOf_16 rfl 1 rfl ?_
  obtain ⟨b_3, hyp⟩ := hyp
  refine ge_iald (j := a1.toNatClampNeg) a_X6_takesOf_17 (ka5_2 hk0) b_3 rfl ?_
  refine ge_iload_n a_X6_takesOf_18 rfl 2 rfl ?_
  refine ge_cSI [.int (h (k0 + 1) a1.toNatClampNeg), .int (h (k0 + 2) a1.toNatClampNeg), .int (h (k0 + 3) a1.toNatClampNeg), .int a2] (rest := []) a_X6_takesOf_19 ok_X0_takes lk_X6_61 ⟨Nat.le_of_ble_eq_true rfl, Nat.le_of_ble_eq_true rfl⟩ rfl rfl (Nat.le_of_ble_eq_true rfl) (t_X0_takes (h (k0 + 1) a1.toNatClampNeg) (h (k0 + 2) a1.toNatClampNeg) (h (k0 + 3) a1.toNatClampNeg) a2  h _ hyp) (fun r_5 h_4 hyp => ?_)
  exact ge_iret rfl a_X6_takesOf_22 hyp

theorem a_X6_takesAhead_0 : At m_X6_takesAhead 0 (.iconst 0) 1 1 := at_i (by decide +kernel) rfl
theorem a_X6_takesAhead_1 : At m_X6_takesAhead 1 (.istore_n 3) 1 2 := at_i (by decide +kernel) rfl
theorem a_X6_takesAhead_2 : At m_X6_takesAhead 2 (.aload_n 0) 1 3 := at_i (by decide +kernel) rfl
theorem a_X6_takesAhead_3 : At m_X6_takesAhead 3 (.getfield 49) 3 6 := at_i (by decide +kernel) rfl
theorem a_X6_takesAhead_6 : At m_X6_takesAhead 6 (.istore 4) 2 8 := at_i (by decide +kernel) rfl
theorem a_X6_takesAhead_8 : At m_X6_takesAhead 8 (.iload 4) 2 10 := at_i (by decide +kernel) rfl
theorem a_X6_takesAhead_10 : At m_X6_takesAhead 10 (.aload_n 0) 1 11 := at_i (by decide +kernel) rfl
theorem a_X6_takesAhead_11 : At m_X6_takesAhead 11 (.getfield 49) 3 14 := at_i (by decide +kernel) rfl
theorem a_X6_takesAhead_14 : At m_X6_takesAhead 14 (.iload_n 1) 1 15 := at_i (by decide +kernel) rfl
theorem a_X6_takesAhead_15 : At m_X6_takesAhead 15 (.iadd) 1 16 := at_i (by decide +kernel) rfl
theorem a_X6_takesAhead_16 : AtJ m_X6_takesAhead 16 (.if_icmp .ge 27) (27) 43 19 := at_j (by decide +kernel) (by decide) rfl
theorem a_X6_takesAhead_19 : At m_X6_takesAhead 19 (.iload_n 3) 1 20 := at_i (by decide +kernel) rfl
theorem a_X6_takesAhead_20 : At m_X6_takesAhead 20 (.aload_n 0) 1 21 := at_i (by decide +kernel) rfl
theorem a_X6_takesAhead_21 : At m_X6_takesAhead 21 (.iload 4) 2 23 := at_i (by decide +kernel) rfl
theorem a_X6_takesAhead_23 : At m_X6_takesAhead 23 (.aload_n 2) 1 24 := at_i (by decide +kernel) rfl
theorem a_X6_takesAhead_24 : At m_X6_takesAhead 24 (.getfield 74) 3 27 := at_i (by decide +kernel) rfl
theorem a_X6_takesAhead_27 : At m_X6_takesAhead 27 (.invokevirtual 79) 3 30 := at_i (by decide +kernel) rfl
theorem a_X6_takesAhead_30 : At m_X6_takesAhead 30 (.iadd) 1 31 := at_i (by decide +kernel) rfl
theorem a_X6_takesAhead_31 : At m_X6_takesAhead 31 (.istore_n 3) 1 32 := at_i (by decide +kernel) rfl
theorem a_X6_takesAhead_32 : At m_X6_takesAhead 32 (.aload_n 2) 1 33 := at_i (by decide +kernel) rfl
theorem a_X6_takesAhead_33 : At m_X6_takesAhead 33 (.iconst 1) 1 34 := at_i (by decide +kernel) rfl
theorem a_X6_takesAhead_34 : At m_X6_takesAhead 34 (.invokevirtual 83) 3 37 := at_i (by decide +kernel) rfl
theorem a_X6_takesAhead_37 : At m_X6_takesAhead 37 (.iinc 4 1) 3 40 := at_i (by decide +kernel) rfl
theorem a_X6_takesAhead_40 : AtJ m_X6_takesAhead 40 (.goto (-32)) (-32) 8 43 := at_j (by decide +kernel) (by decide) rfl
theorem a_X6_takesAhead_43 : At m_X6_takesAhead 43 (.iload_n 3) 1 44 := at_i (by decide +kernel) rfl
theorem a_X6_takesAhead_44 : At m_X6_takesAhead 44 (.ireturn) 1 45 := at_i (by decide +kernel) rfl
def f_X6_takesAhead_b8 (k0 : Nat) (a1 : Int32) (q2 : Nat)  (Q : Int32 → Mem → Prop)  (K8 : Int32 → Int32 → Mem → Prop) (v3 : Int32) (v4 : Int32) (h : Mem) : Prop :=
  if (h k0 6) + a1 ≤ v4 then (
    Q v3 h)
  else (
    f_X6_takesOf k0 v4 (h q2 0) h fun r_4 h_3 =>
    ∀ v_5 : Int32, v_5 = v3 + r_4 →
    f_X1_step q2 (1 : Int32) h_3 fun h_6 =>
    ∀ v_7 : Int32, v_7 = v4 + (1 : Int32) →
    K8 v_5 v_7 h_6)
set_option maxRecDepth 20000 in
theorem t_X6_takesAhead_b8 (k0 : Nat) (a1 : Int32) (q2 : Nat)  (hk0 : gm_cls k0 = 5) (hq2 : gm_cls q2 = 0)  (Q : Int32 → Mem → Prop)   : ∀ (n : Nat) (v3 : Int32) (v4 : Int32) (h : Mem), gm_it2 (f_X6_takesAhead_b8 k0 a1 q2  Q ) n v3 v4 h → EV m_X6_takesAhead (GI Q) 8 [(0, .ref k0), (1, .int a1), (2, .ref q2), (3, .int v3), (4, .int v4)] [] h := by
  refine ge_loop2 (P := fun v3 v4 h => EV m_X6_takesAhead (GI Q) 8 [(0, .ref k0), (1, .int a1), (2, .ref q2), (3, .int v3), (4, .int v4)] [] h) (fun K8 hK8 v3 v4 h hyp => ?_)
  unfold f_X6_takesAhead_b8 at hyp
  refine ge_iload a_X6_takesAhead_8 4 rfl ?_
  refine ge_aload_n a_X6_takesAhead_10 rfl 0 rfl ?_
  refine ge_getI a_X6_takesAhead_11 fd_X6_49 hk0 ?_
  refine ge_iload_n a_X6_takesAhead_14 rfl 1 rfl ?_
  refine ge_iadd a_X6_takesAhead_15 ?_
  refine ge_icmp_ge a_X6_takesAhead_16 (fun c_2 => ?_) (fun c_2 => ?_)
  · have hyp := gm_ip hyp c_2
    refine ge_iload_n a_X6_takesAhead_43 rfl 3 rfl ?_
    exact ge_iret rfl a_X6_takesAhead_44 hyp
  · have hyp := gm_in hyp c_2
    refine ge_iload_n a_X6_takesAhead_19 rfl 3 rfl ?_
    refine ge_aload_n a_X6_takesAhead_20 rfl 0 rfl ?_
    refine ge_iload a_X6_takesAhead_21 4 rfl ?_
    refine ge_aload_n a_X6_takesAhead_23 rfl 2 rfl ?_
    refine ge_getI a_X6_takesAhead_24 fd_X6_74 hq2 ?_
    refine ge_cVI [.int v4, .int (h q2 0)] (rest := [.int v3]) a_X6_takesAhead_27 ok_X6_takesOf lk_X6_79 ⟨Nat.le_of_ble_eq_true rfl, Nat.le_of_ble_eq_true rfl⟩ hk0 vc_5 (by decide) rfl rfl (Nat.le_of_ble_eq_true rfl) (t_X6_takesOf k0 v4 (h q2 0) hk0 h _ hyp) (fun r_4 h_3 hyp => ?_)
    refine ge_iadd a_X6_takesAhead_30 ?_
    refine ge_topi (fun v_5 ev_5 => ?_)
    have hyp := hyp v_5 ev_5
    refine ge_istore_n (lv' := [(3, .int v_5), (0, .ref k0), (1, .int a1), (2, .ref q2), (4, .int v4)]) a_X6_takesAhead_31 rfl (Nat.le_of_ble_eq_true rfl) rfl ?_
    refine ge_aload_n a_X6_takesAhead_32 rfl 3 rfl ?_
    refine ge_iconst (v := 1) a_X6_takesAhead_33 rfl ?_
    refine ge_cVV [.int (1 : Int32)] (rest := []) a_X6_takesAhead_34 ok_X1_step lk_X6_83 ⟨Nat.le_of_ble_eq_true rfl, Nat.le_of_ble_eq_true rfl⟩ hq2 vc_0 (by decide) rfl rfl (Nat.le_of_ble_eq_true rfl) (t_X1_step q2 (1 : Int32) hq2 h_3 _ hyp) (fun h_6 hyp => ?_)
    obtain ⟨v_7, ev_7⟩ : ∃ y : Int32, y = v4 + (1 : Int32) := ⟨_, rfl⟩
    have hyp := hyp v_7 ev_7
    refine ge_iinc (v := v_7) (lv' := [(4, .int v_7), (3, .int v_5), (0, .ref k0), (1, .int a1), (2, .ref q2)]) a_X6_takesAhead_37 4 rfl ev_7.symm (Nat.le_of_ble_eq_true rfl) rfl ?_
    refine ge_goto a_X6_takesAhead_40 ?_
    exact ge_sub [2, 3, 4, 1, 0] rfl (hK8 v_5 v_7 h_6 hyp)
def f_X6_takesAhead (k0 : Nat) (a1 : Int32) (q2 : Nat) (h : Mem) (Q : Int32 → Mem → Prop) : Prop :=
  ∀ v_1 : Int32, v_1 = h k0 6 →
  gm_it2 (f_X6_takesAhead_b8 k0 a1 q2  Q ) gm_F (0 : Int32) v_1 h
set_option maxRecDepth 20000 in
theorem t_X6_takesAhead (k0 : Nat) (a1 : Int32) (q2 : Nat) (hk0 : gm_cls k0 = 5) (hq2 : gm_cls q2 = 0) (h : Mem) (Q : Int32 → Mem → Prop) (hyp : f_X6_takesAhead k0 a1 q2 h Q) : Cn m_X6_takesAhead [.ref k0, .int a1, .ref q2] h (GI Q) := by
  refine ge_entry (lv := [(0, .ref k0), (1, .int a1), (2, .ref q2)]) pn_X6 (Nat.le_of_ble_eq_true rfl) rfl ?_
  unfold f_X6_takesAhead at hyp
  refine ge_iconst (v := 0) a_X6_takesAhead_0 rfl ?_
  refine ge_istore_n (lv' := [(3, .int (0 : Int32)), (0, .ref k0), (1, .int a1), (2, .ref q2)]) a_X6_takesAhead_1 rfl (Nat.le_of_ble_eq_true rfl) rfl ?_
  refine ge_aload_n a_X6_takesAhead_2 rfl 1 rfl ?_
  refine ge_getI a_X6_takesAhead_3 fd_X6_49 hk0 ?_
  refine ge_topi (fun v_1 ev_1 => ?_)
  have hyp := hyp v_1 ev_1
  refine ge_istore (lv' := [(4, .int v_1), (3, .int (0 : Int32)), (0, .ref k0), (1, .int a1), (2, .ref q2)]) a_X6_takesAhead_6 (Nat.le_of_ble_eq_true rfl) rfl ?_
  exact ge_sub [2, 3, 4, 1, 0] rfl (t_X6_takesAhead_b8 k0 a1 q2  hk0 hq2  Q   gm_F (0 : Int32) v_1 h hyp)

theorem a_X4_offHour_0 : At m_X4_offHour 0 (.aload_n 0) 1 1 := at_i (by decide +kernel) rfl
theorem a_X4_offHour_1 : At m_X4_offHour 1 (.aload_n 1) 1 2 := at_i (by decide +kernel) rfl
theorem a_X4_offHour_2 : At m_X4_offHour 2 (.iload_n 2) 1 3 := at_i (by decide +kernel) rfl
theorem a_X4_offHour_3 : At m_X4_offHour 3 (.invokevirtual 26) 3 6 := at_i (by decide +kernel) rfl
theorem a_X4_offHour_6 : At m_X4_offHour 6 (.aload_n 1) 1 7 := at_i (by decide +kernel) rfl
theorem a_X4_offHour_7 : At m_X4_offHour 7 (.aload_n 1) 1 8 := at_i (by decide +kernel) rfl
theorem a_X4_offHour_8 : At m_X4_offHour 8 (.invokevirtual 30) 3 11 := at_i (by decide +kernel) rfl
theorem a_X4_offHour_11 : At m_X4_offHour 11 (.aload_n 0) 1 12 := at_i (by decide +kernel) rfl
theorem a_X4_offHour_12 : At m_X4_offHour 12 (.getfield 12) 3 15 := at_i (by decide +kernel) rfl
theorem a_X4_offHour_15 : At m_X4_offHour 15 (.invokevirtual 36) 3 18 := at_i (by decide +kernel) rfl
theorem a_X4_offHour_18 : At m_X4_offHour 18 (.aload_n 1) 1 19 := at_i (by decide +kernel) rfl
theorem a_X4_offHour_19 : At m_X4_offHour 19 (.getfield 40) 3 22 := at_i (by decide +kernel) rfl
theorem a_X4_offHour_22 : At m_X4_offHour 22 (.bipush 9) 2 24 := at_i (by decide +kernel) rfl
theorem a_X4_offHour_24 : At m_X4_offHour 24 (.iaload) 1 25 := at_i (by decide +kernel) rfl
theorem a_X4_offHour_25 : At m_X4_offHour 25 (.isub) 1 26 := at_i (by decide +kernel) rfl
theorem a_X4_offHour_26 : At m_X4_offHour 26 (.invokestatic 43) 3 29 := at_i (by decide +kernel) rfl
theorem a_X4_offHour_29 : At m_X4_offHour 29 (.ireturn) 1 30 := at_i (by decide +kernel) rfl
def f_X4_offHour (a2 : Int32) (h : Mem) (Q : Int32 → Mem → Prop) : Prop :=
  f_X4_weigh a2 h fun h_1 =>
  f_X6_linesAhead 1 h_1 fun r_3 h_2 =>
  f_X6_takesAhead 1 r_3 24 h_2 fun r_5 h_4 =>
  ∀ v_6 : Int32, v_6 = (if 0 ≤ r_5 - (h_4 5 9) then r_5 - (h_4 5 9) else 0 - (r_5 - (h_4 5 9))) →
  Q v_6 h_4
set_option maxRecDepth 20000 in
theorem t_X4_offHour (a2 : Int32)  (h : Mem) (Q : Int32 → Mem → Prop) (hyp : f_X4_offHour a2 h Q) : Cn m_X4_offHour [.ref 23, .ref 1, .int a2] h (GI Q) := by
  refine ge_entry (lv := [(0, .ref 23), (1, .ref 1), (2, .int a2)]) pn_X4 (Nat.le_of_ble_eq_true rfl) rfl ?_
  unfold f_X4_offHour at hyp
  refine ge_aload_n a_X4_offHour_0 rfl 0 rfl ?_
  refine ge_aload_n a_X4_offHour_1 rfl 1 rfl ?_
  refine ge_iload_n a_X4_offHour_2 rfl 2 rfl ?_
  refine ge_cVV [.ref 1, .int a2] (rest := []) a_X4_offHour_3 ok_X4_weigh lk_X4_26 ⟨Nat.le_of_ble_eq_true rfl, Nat.le_of_ble_eq_true rfl⟩ (rfl : gm_cls 23 = 3) vc_3 (by decide) rfl rfl (Nat.le_of_ble_eq_true rfl) (t_X4_weigh a2  h _ hyp) (fun h_1 hyp => ?_)
  refine ge_aload_n a_X4_offHour_6 rfl 1 rfl ?_
  refine ge_aload_n a_X4_offHour_7 rfl 1 rfl ?_
  refine ge_cVI [] (rest := [.ref 1]) a_X4_offHour_8 ok_X6_linesAhead lk_X4_30 ⟨Nat.le_of_ble_eq_true rfl, Nat.le_of_ble_eq_true rfl⟩ (rfl : gm_cls 1 = 5) vc_5 (by decide) rfl rfl (Nat.le_of_ble_eq_true rfl) (t_X6_linesAhead 1 (rfl : gm_cls 1 = 5) h_1 _ hyp) (fun r_3 h_2 hyp => ?_)
  refine ge_aload_n a_X4_offHour_11 rfl 0 rfl ?_
  refine ge_getR (q := 24) a_X4_offHour_12 fd_X4_12 (rfl : gm_cls 23 = 3) rfl ?_
  refine ge_cVI [.int r_3, .ref 24] (rest := []) a_X4_offHour_15 ok_X6_takesAhead lk_X4_36 ⟨Nat.le_of_ble_eq_true rfl, Nat.le_of_ble_eq_true rfl⟩ (rfl : gm_cls 1 = 5) vc_5 (by decide) rfl rfl (Nat.le_of_ble_eq_true rfl) (t_X6_takesAhead 1 r_3 24 (rfl : gm_cls 1 = 5) (rfl : gm_cls 24 = 0) h_2 _ hyp) (fun r_5 h_4 hyp => ?_)
  refine ge_aload_n a_X4_offHour_18 rfl 1 rfl ?_
  refine ge_getR (q := 5) a_X4_offHour_19 fd_X4_40 (rfl : gm_cls 1 = 5) rfl ?_
  refine ge_bipush (v := 9) a_X4_offHour_22 rfl ?_
  refine ge_iald (j := 9) a_X4_offHour_24 ga_5 li_9_10.1 li_9_10.2 ?_
  refine ge_isub a_X4_offHour_25 ?_
  refine ge_mabs (rest := []) a_X4_offHour_26 lk_X4_43 (Nat.le_of_ble_eq_true rfl) (Nat.le_of_ble_eq_true rfl) ?_
  refine ge_topi (fun v_6 ev_6 => ?_)
  have hyp := hyp v_6 ev_6
  exact ge_iret rfl a_X4_offHour_29 hyp

theorem a_X4_nearestWeights_0 : At m_X4_nearestWeights 0 (.iconst 0) 1 1 := at_i (by decide +kernel) rfl
theorem a_X4_nearestWeights_1 : At m_X4_nearestWeights 1 (.istore_n 2) 1 2 := at_i (by decide +kernel) rfl
theorem a_X4_nearestWeights_2 : At m_X4_nearestWeights 2 (.aload_n 0) 1 3 := at_i (by decide +kernel) rfl
theorem a_X4_nearestWeights_3 : At m_X4_nearestWeights 3 (.aload_n 1) 1 4 := at_i (by decide +kernel) rfl
theorem a_X4_nearestWeights_4 : At m_X4_nearestWeights 4 (.iconst 0) 1 5 := at_i (by decide +kernel) rfl
theorem a_X4_nearestWeights_5 : At m_X4_nearestWeights 5 (.invokevirtual 22) 3 8 := at_i (by decide +kernel) rfl
theorem a_X4_nearestWeights_8 : At m_X4_nearestWeights 8 (.istore_n 3) 1 9 := at_i (by decide +kernel) rfl
theorem a_X4_nearestWeights_9 : At m_X4_nearestWeights 9 (.iconst 1) 1 10 := at_i (by decide +kernel) rfl
theorem a_X4_nearestWeights_10 : At m_X4_nearestWeights 10 (.istore 4) 2 12 := at_i (by decide +kernel) rfl
theorem a_X4_nearestWeights_12 : At m_X4_nearestWeights 12 (.iload 4) 2 14 := at_i (by decide +kernel) rfl
theorem a_X4_nearestWeights_14 : At m_X4_nearestWeights 14 (.bipush 121) 2 16 := at_i (by decide +kernel) rfl
theorem a_X4_nearestWeights_16 : AtJ m_X4_nearestWeights 16 (.if_icmp .ge 30) (30) 46 19 := at_j (by decide +kernel) (by decide) rfl
theorem a_X4_nearestWeights_19 : At m_X4_nearestWeights 19 (.aload_n 0) 1 20 := at_i (by decide +kernel) rfl
theorem a_X4_nearestWeights_20 : At m_X4_nearestWeights 20 (.aload_n 1) 1 21 := at_i (by decide +kernel) rfl
theorem a_X4_nearestWeights_21 : At m_X4_nearestWeights 21 (.iload 4) 2 23 := at_i (by decide +kernel) rfl
theorem a_X4_nearestWeights_23 : At m_X4_nearestWeights 23 (.invokevirtual 22) 3 26 := at_i (by decide +kernel) rfl
theorem a_X4_nearestWeights_26 : At m_X4_nearestWeights 26 (.istore 5) 2 28 := at_i (by decide +kernel) rfl
theorem a_X4_nearestWeights_28 : At m_X4_nearestWeights 28 (.iload 5) 2 30 := at_i (by decide +kernel) rfl
theorem a_X4_nearestWeights_30 : At m_X4_nearestWeights 30 (.iload_n 3) 1 31 := at_i (by decide +kernel) rfl
theorem a_X4_nearestWeights_31 : AtJ m_X4_nearestWeights 31 (.if_icmp .ge 9) (9) 40 34 := at_j (by decide +kernel) (by decide) rfl
theorem a_X4_nearestWeights_34 : At m_X4_nearestWeights 34 (.iload 5) 2 36 := at_i (by decide +kernel) rfl
theorem a_X4_nearestWeights_36 : At m_X4_nearestWeights 36 (.istore_n 3) 1 37 := at_i (by decide +kernel) rfl
theorem a_X4_nearestWeights_37 : At m_X4_nearestWeights 37 (.iload 4) 2 39 := at_i (by decide +kernel) rfl
theorem a_X4_nearestWeights_39 : At m_X4_nearestWeights 39 (.istore_n 2) 1 40 := at_i (by decide +kernel) rfl
theorem a_X4_nearestWeights_40 : At m_X4_nearestWeights 40 (.iinc 4 1) 3 43 := at_i (by decide +kernel) rfl
theorem a_X4_nearestWeights_43 : AtJ m_X4_nearestWeights 43 (.goto (-31)) (-31) 12 46 := at_j (by decide +kernel) (by decide) rfl
theorem a_X4_nearestWeights_46 : At m_X4_nearestWeights 46 (.iload_n 2) 1 47 := at_i (by decide +kernel) rfl
theorem a_X4_nearestWeights_47 : At m_X4_nearestWeights 47 (.ireturn) 1 48 := at_i (by decide +kernel) rfl
def f_X4_nearestWeights_b12   (Q : Int32 → Mem → Prop)  (K12 : Int32 → Int32 → Int32 → Mem → Prop) (v2 : Int32) (v3 : Int32) (v4 : Int32) (h : Mem) : Prop :=
  if (121 : Int32) ≤ v4 then (
    Q v2 h)
  else (
    f_X4_offHour v4 h fun r_5 h_4 =>
    if v3 ≤ r_5 then (
      ∀ v_7 : Int32, v_7 = v4 + (1 : Int32) →
      K12 v2 v3 v_7 h_4)
    else (
      ∀ v_8 : Int32, v_8 = v4 + (1 : Int32) →
      K12 v4 r_5 v_8 h_4))
set_option maxRecDepth 20000 in
theorem t_X4_nearestWeights_b12     (Q : Int32 → Mem → Prop)   : ∀ (n : Nat) (v2 : Int32) (v3 : Int32) (v4 : Int32) (h : Mem), gm_it3 (f_X4_nearestWeights_b12   Q ) n v2 v3 v4 h → EV m_X4_nearestWeights (GI Q) 12 [(0, .ref 23), (1, .ref 1), (2, .int v2), (3, .int v3), (4, .int v4)] [] h := by
  refine ge_loop3 (P := fun v2 v3 v4 h => EV m_X4_nearestWeights (GI Q) 12 [(0, .ref 23), (1, .ref 1), (2, .int v2), (3, .int v3), (4, .int v4)] [] h) (fun K12 hK12 v2 v3 v4 h hyp => ?_)
  unfold f_X4_nearestWeights_b12 at hyp
  refine ge_iload a_X4_nearestWeights_12 4 rfl ?_
  refine ge_bipush (v := 121) a_X4_nearestWeights_14 rfl ?_
  refine ge_icmp_ge a_X4_nearestWeights_16 (fun c_3 => ?_) (fun c_3 => ?_)
  · have hyp := gm_ip hyp c_3
    refine ge_iload_n a_X4_nearestWeights_46 rfl 2 rfl ?_
    exact ge_iret rfl a_X4_nearestWeights_47 hyp
  · have hyp := gm_in hyp c_3
    refine ge_aload_n a_X4_nearestWeights_19 rfl 0 rfl ?_
    refine ge_aload_n a_X4_nearestWeights_20 rfl 1 rfl ?_
    refine ge_iload a_X4_nearestWeights_21 4 rfl ?_
    refine ge_cVI [.ref 1, .int v4] (rest := []) a_X4_nearestWeights_23 ok_X4_offHour lk_X4_22 ⟨Nat.le_of_ble_eq_true rfl, Nat.le_of_ble_eq_true rfl⟩ (rfl : gm_cls 23 = 3) vc_3 (by decide) rfl rfl (Nat.le_of_ble_eq_true rfl) (t_X4_offHour v4  h _ hyp) (fun r_5 h_4 hyp => ?_)
    refine ge_istore (lv' := [(5, .int r_5), (0, .ref 23), (1, .ref 1), (2, .int v2), (3, .int v3), (4, .int v4)]) a_X4_nearestWeights_26 (Nat.le_of_ble_eq_true rfl) rfl ?_
    refine ge_iload a_X4_nearestWeights_28 0 rfl ?_
    refine ge_iload_n a_X4_nearestWeights_30 rfl 4 rfl ?_
    refine ge_icmp_ge a_X4_nearestWeights_31 (fun c_6 => ?_) (fun c_6 => ?_)
    · have hyp := gm_ip hyp c_6
      obtain ⟨v_7, ev_7⟩ : ∃ y : Int32, y = v4 + (1 : Int32) := ⟨_, rfl⟩
      have hyp := hyp v_7 ev_7
      refine ge_iinc (v := v_7) (lv' := [(4, .int v_7), (5, .int r_5), (0, .ref 23), (1, .ref 1), (2, .int v2), (3, .int v3)]) a_X4_nearestWeights_40 5 rfl ev_7.symm (Nat.le_of_ble_eq_true rfl) rfl ?_
      refine ge_goto a_X4_nearestWeights_43 ?_
      exact ge_sub [2, 3, 4, 5, 0] rfl (hK12 v2 v3 v_7 h_4 hyp)
    · have hyp := gm_in hyp c_6
      refine ge_iload a_X4_nearestWeights_34 0 rfl ?_
      refine ge_istore_n (lv' := [(3, .int r_5), (5, .int r_5), (0, .ref 23), (1, .ref 1), (2, .int v2), (4, .int v4)]) a_X4_nearestWeights_36 rfl (Nat.le_of_ble_eq_true rfl) rfl ?_
      refine ge_iload a_X4_nearestWeights_37 5 rfl ?_
      refine ge_istore_n (lv' := [(2, .int v4), (3, .int r_5), (5, .int r_5), (0, .ref 23), (1, .ref 1), (4, .int v4)]) a_X4_nearestWeights_39 rfl (Nat.le_of_ble_eq_true rfl) rfl ?_
      obtain ⟨v_8, ev_8⟩ : ∃ y : Int32, y = v4 + (1 : Int32) := ⟨_, rfl⟩
      have hyp := hyp v_8 ev_8
      refine ge_iinc (v := v_8) (lv' := [(4, .int v_8), (2, .int v4), (3, .int r_5), (5, .int r_5), (0, .ref 23), (1, .ref 1)]) a_X4_nearestWeights_40 5 rfl ev_8.symm (Nat.le_of_ble_eq_true rfl) rfl ?_
      refine ge_goto a_X4_nearestWeights_43 ?_
      exact ge_sub [4, 5, 1, 2, 0] rfl (hK12 v4 r_5 v_8 h_4 hyp)
def f_X4_nearestWeights  (h : Mem) (Q : Int32 → Mem → Prop) : Prop :=
  f_X4_offHour (0 : Int32) h fun r_2 h_1 =>
  gm_it3 (f_X4_nearestWeights_b12   Q ) gm_F (0 : Int32) r_2 (1 : Int32) h_1
set_option maxRecDepth 20000 in
theorem t_X4_nearestWeights   (h : Mem) (Q : Int32 → Mem → Prop) (hyp : f_X4_nearestWeights  h Q) : Cn m_X4_nearestWeights [.ref 23, .ref 1] h (GI Q) := by
  refine ge_entry (lv := [(0, .ref 23), (1, .ref 1)]) pn_X4 (Nat.le_of_ble_eq_true rfl) rfl ?_
  unfold f_X4_nearestWeights at hyp
  refine ge_iconst (v := 0) a_X4_nearestWeights_0 rfl ?_
  refine ge_istore_n (lv' := [(2, .int (0 : Int32)), (0, .ref 23), (1, .ref 1)]) a_X4_nearestWeights_1 rfl (Nat.le_of_ble_eq_true rfl) rfl ?_
  refine ge_aload_n a_X4_nearestWeights_2 rfl 1 rfl ?_
  refine ge_aload_n a_X4_nearestWeights_3 rfl 2 rfl ?_
  refine ge_iconst (v := 0) a_X4_nearestWeights_4 rfl ?_
  refine ge_cVI [.ref 1, .int (0 : Int32)] (rest := []) a_X4_nearestWeights_5 ok_X4_offHour lk_X4_22 ⟨Nat.le_of_ble_eq_true rfl, Nat.le_of_ble_eq_true rfl⟩ (rfl : gm_cls 23 = 3) vc_3 (by decide) rfl rfl (Nat.le_of_ble_eq_true rfl) (t_X4_offHour (0 : Int32)  h _ hyp) (fun r_2 h_1 hyp => ?_)
  refine ge_istore_n (lv' := [(3, .int r_2), (2, .int (0 : Int32)), (0, .ref 23), (1, .ref 1)]) a_X4_nearestWeights_8 rfl (Nat.le_of_ble_eq_true rfl) rfl ?_
  refine ge_iconst (v := 1) a_X4_nearestWeights_9 rfl ?_
  refine ge_istore (lv' := [(4, .int (1 : Int32)), (3, .int r_2), (2, .int (0 : Int32)), (0, .ref 23), (1, .ref 1)]) a_X4_nearestWeights_10 (Nat.le_of_ble_eq_true rfl) rfl ?_
  exact ge_sub [3, 4, 2, 1, 0] rfl (t_X4_nearestWeights_b12     Q   gm_F (0 : Int32) r_2 (1 : Int32) h_1 hyp)

theorem a_X6_unrestAhead_0 : At m_X6_unrestAhead 0 (.iconst 0) 1 1 := at_i (by decide +kernel) rfl
theorem a_X6_unrestAhead_1 : At m_X6_unrestAhead 1 (.istore_n 3) 1 2 := at_i (by decide +kernel) rfl
theorem a_X6_unrestAhead_2 : At m_X6_unrestAhead 2 (.aload_n 0) 1 3 := at_i (by decide +kernel) rfl
theorem a_X6_unrestAhead_3 : At m_X6_unrestAhead 3 (.getfield 49) 3 6 := at_i (by decide +kernel) rfl
theorem a_X6_unrestAhead_6 : At m_X6_unrestAhead 6 (.istore 4) 2 8 := at_i (by decide +kernel) rfl
theorem a_X6_unrestAhead_8 : At m_X6_unrestAhead 8 (.iload 4) 2 10 := at_i (by decide +kernel) rfl
theorem a_X6_unrestAhead_10 : At m_X6_unrestAhead 10 (.aload_n 0) 1 11 := at_i (by decide +kernel) rfl
theorem a_X6_unrestAhead_11 : At m_X6_unrestAhead 11 (.getfield 46) 3 14 := at_i (by decide +kernel) rfl
theorem a_X6_unrestAhead_14 : AtJ m_X6_unrestAhead 14 (.if_icmp .ge 46) (46) 60 17 := at_j (by decide +kernel) (by decide) rfl
theorem a_X6_unrestAhead_17 : At m_X6_unrestAhead 17 (.iload_n 3) 1 18 := at_i (by decide +kernel) rfl
theorem a_X6_unrestAhead_18 : At m_X6_unrestAhead 18 (.aload_n 0) 1 19 := at_i (by decide +kernel) rfl
theorem a_X6_unrestAhead_19 : At m_X6_unrestAhead 19 (.getfield 9) 3 22 := at_i (by decide +kernel) rfl
theorem a_X6_unrestAhead_22 : At m_X6_unrestAhead 22 (.iload 4) 2 24 := at_i (by decide +kernel) rfl
theorem a_X6_unrestAhead_24 : At m_X6_unrestAhead 24 (.iaload) 1 25 := at_i (by decide +kernel) rfl
theorem a_X6_unrestAhead_25 : At m_X6_unrestAhead 25 (.aload_n 0) 1 26 := at_i (by decide +kernel) rfl
theorem a_X6_unrestAhead_26 : At m_X6_unrestAhead 26 (.getfield 18) 3 29 := at_i (by decide +kernel) rfl
theorem a_X6_unrestAhead_29 : At m_X6_unrestAhead 29 (.iload 4) 2 31 := at_i (by decide +kernel) rfl
theorem a_X6_unrestAhead_31 : At m_X6_unrestAhead 31 (.iaload) 1 32 := at_i (by decide +kernel) rfl
theorem a_X6_unrestAhead_32 : At m_X6_unrestAhead 32 (.iload_n 1) 1 33 := at_i (by decide +kernel) rfl
theorem a_X6_unrestAhead_33 : At m_X6_unrestAhead 33 (.iload_n 2) 1 34 := at_i (by decide +kernel) rfl
theorem a_X6_unrestAhead_34 : At m_X6_unrestAhead 34 (.invokestatic 67) 3 37 := at_i (by decide +kernel) rfl
theorem a_X6_unrestAhead_37 : At m_X6_unrestAhead 37 (.iadd) 1 38 := at_i (by decide +kernel) rfl
theorem a_X6_unrestAhead_38 : At m_X6_unrestAhead 38 (.istore_n 3) 1 39 := at_i (by decide +kernel) rfl
theorem a_X6_unrestAhead_39 : At m_X6_unrestAhead 39 (.iload_n 3) 1 40 := at_i (by decide +kernel) rfl
theorem a_X6_unrestAhead_40 : At m_X6_unrestAhead 40 (.aload_n 0) 1 41 := at_i (by decide +kernel) rfl
theorem a_X6_unrestAhead_41 : At m_X6_unrestAhead 41 (.getfield 9) 3 44 := at_i (by decide +kernel) rfl
theorem a_X6_unrestAhead_44 : At m_X6_unrestAhead 44 (.iload 4) 2 46 := at_i (by decide +kernel) rfl
theorem a_X6_unrestAhead_46 : At m_X6_unrestAhead 46 (.iaload) 1 47 := at_i (by decide +kernel) rfl
theorem a_X6_unrestAhead_47 : At m_X6_unrestAhead 47 (.iload_n 1) 1 48 := at_i (by decide +kernel) rfl
theorem a_X6_unrestAhead_48 : At m_X6_unrestAhead 48 (.iload_n 2) 1 49 := at_i (by decide +kernel) rfl
theorem a_X6_unrestAhead_49 : At m_X6_unrestAhead 49 (.invokestatic 70) 3 52 := at_i (by decide +kernel) rfl
theorem a_X6_unrestAhead_52 : At m_X6_unrestAhead 52 (.iadd) 1 53 := at_i (by decide +kernel) rfl
theorem a_X6_unrestAhead_53 : At m_X6_unrestAhead 53 (.istore_n 3) 1 54 := at_i (by decide +kernel) rfl
theorem a_X6_unrestAhead_54 : At m_X6_unrestAhead 54 (.iinc 4 1) 3 57 := at_i (by decide +kernel) rfl
theorem a_X6_unrestAhead_57 : AtJ m_X6_unrestAhead 57 (.goto (-49)) (-49) 8 60 := at_j (by decide +kernel) (by decide) rfl
theorem a_X6_unrestAhead_60 : At m_X6_unrestAhead 60 (.iload_n 3) 1 61 := at_i (by decide +kernel) rfl
theorem a_X6_unrestAhead_61 : At m_X6_unrestAhead 61 (.ireturn) 1 62 := at_i (by decide +kernel) rfl
def f_X6_unrestAhead_b8 (k0 : Nat) (a1 : Int32) (a2 : Int32)  (Q : Int32 → Mem → Prop)  (K8 : Int32 → Int32 → Mem → Prop) (v3 : Int32) (v4 : Int32) (h : Mem) : Prop :=
  if h k0 5 ≤ v4 then (
    Q v3 h)
  else (
    vp_in v4 12 ∧
    vp_in v4 12 ∧
    f_X0_tripsBy (h (k0 + 1) v4.toNatClampNeg) (h (k0 + 3) v4.toNatClampNeg) a1 a2 h fun r_6 h_5 =>
    ∀ v_7 : Int32, v_7 = v3 + r_6 →
    vp_in v4 12 ∧
    f_X0_seenBy (h_5 (k0 + 1) v4.toNatClampNeg) a1 a2 h_5 fun r_10 h_9 =>
    ∀ v_11 : Int32, v_11 = v_7 + r_10 →
    ∀ v_12 : Int32, v_12 = v4 + (1 : Int32) →
    K8 v_11 v_12 h_9)
set_option maxRecDepth 20000 in
theorem t_X6_unrestAhead_b8 (k0 : Nat) (a1 : Int32) (a2 : Int32)  (hk0 : gm_cls k0 = 5)  (Q : Int32 → Mem → Prop)   : ∀ (n : Nat) (v3 : Int32) (v4 : Int32) (h : Mem), gm_it2 (f_X6_unrestAhead_b8 k0 a1 a2  Q ) n v3 v4 h → EV m_X6_unrestAhead (GI Q) 8 [(0, .ref k0), (1, .int a1), (2, .int a2), (3, .int v3), (4, .int v4)] [] h := by
  refine ge_loop2 (P := fun v3 v4 h => EV m_X6_unrestAhead (GI Q) 8 [(0, .ref k0), (1, .int a1), (2, .int a2), (3, .int v3), (4, .int v4)] [] h) (fun K8 hK8 v3 v4 h hyp => ?_)
  unfold f_X6_unrestAhead_b8 at hyp
  refine ge_iload a_X6_unrestAhead_8 4 rfl ?_
  refine ge_aload_n a_X6_unrestAhead_10 rfl 0 rfl ?_
  refine ge_getI a_X6_unrestAhead_11 fd_X6_46 hk0 ?_
  refine ge_icmp_ge a_X6_unrestAhead_14 (fun c_2 => ?_) (fun c_2 => ?_)
  · have hyp := gm_ip hyp c_2
    refine ge_iload_n a_X6_unrestAhead_60 rfl 3 rfl ?_
    exact ge_iret rfl a_X6_unrestAhead_61 hyp
  · have hyp := gm_in hyp c_2
    refine ge_iload_n a_X6_unrestAhead_17 rfl 3 rfl ?_
    refine ge_aload_n a_X6_unrestAhead_18 rfl 0 rfl ?_
    refine ge_getR (q := k0 + 1) a_X6_unrestAhead_19 fd_X6_9 hk0 (kr5_0 hk0) ?_
    refine ge_iload a_X6_unrestAhead_22 4 rfl ?_
    obtain ⟨b_3, hyp⟩ := hyp
    refine ge_iald (j := v4.toNatClampNeg) a_X6_unrestAhead_24 (ka5_0 hk0) b_3 rfl ?_
    refine ge_aload_n a_X6_unrestAhead_25 rfl 0 rfl ?_
    refine ge_getR (q := k0 + 3) a_X6_unrestAhead_26 fd_X6_18 hk0 (kr5_2 hk0) ?_
    refine ge_iload a_X6_unrestAhead_29 4 rfl ?_
    obtain ⟨b_4, hyp⟩ := hyp
    refine ge_iald (j := v4.toNatClampNeg) a_X6_unrestAhead_31 (ka5_2 hk0) b_4 rfl ?_
    refine ge_iload_n a_X6_unrestAhead_32 rfl 1 rfl ?_
    refine ge_iload_n a_X6_unrestAhead_33 rfl 2 rfl ?_
    refine ge_cSI [.int (h (k0 + 1) v4.toNatClampNeg), .int (h (k0 + 3) v4.toNatClampNeg), .int a1, .int a2] (rest := [.int v3]) a_X6_unrestAhead_34 ok_X0_tripsBy lk_X6_67 ⟨Nat.le_of_ble_eq_true rfl, Nat.le_of_ble_eq_true rfl⟩ rfl rfl (Nat.le_of_ble_eq_true rfl) (t_X0_tripsBy (h (k0 + 1) v4.toNatClampNeg) (h (k0 + 3) v4.toNatClampNeg) a1 a2  h _ hyp) (fun r_6 h_5 hyp => ?_)
    refine ge_iadd a_X6_unrestAhead_37 ?_
    refine ge_topi (fun v_7 ev_7 => ?_)
    have hyp := hyp v_7 ev_7
    refine ge_istore_n (lv' := [(3, .int v_7), (0, .ref k0), (1, .int a1), (2, .int a2), (4, .int v4)]) a_X6_unrestAhead_38 rfl (Nat.le_of_ble_eq_true rfl) rfl ?_
    refine ge_iload_n a_X6_unrestAhead_39 rfl 0 rfl ?_
    refine ge_aload_n a_X6_unrestAhead_40 rfl 1 rfl ?_
    refine ge_getR (q := k0 + 1) a_X6_unrestAhead_41 fd_X6_9 hk0 (kr5_0 hk0) ?_
    refine ge_iload a_X6_unrestAhead_44 4 rfl ?_
    obtain ⟨b_8, hyp⟩ := hyp
    refine ge_iald (j := v4.toNatClampNeg) a_X6_unrestAhead_46 (ka5_0 hk0) b_8 rfl ?_
    refine ge_iload_n a_X6_unrestAhead_47 rfl 2 rfl ?_
    refine ge_iload_n a_X6_unrestAhead_48 rfl 3 rfl ?_
    refine ge_cSI [.int (h_5 (k0 + 1) v4.toNatClampNeg), .int a1, .int a2] (rest := [.int v_7]) a_X6_unrestAhead_49 ok_X0_seenBy lk_X6_70 ⟨Nat.le_of_ble_eq_true rfl, Nat.le_of_ble_eq_true rfl⟩ rfl rfl (Nat.le_of_ble_eq_true rfl) (t_X0_seenBy (h_5 (k0 + 1) v4.toNatClampNeg) a1 a2  h_5 _ hyp) (fun r_10 h_9 hyp => ?_)
    refine ge_iadd a_X6_unrestAhead_52 ?_
    refine ge_topi (fun v_11 ev_11 => ?_)
    have hyp := hyp v_11 ev_11
    refine ge_istore_n (lv' := [(3, .int v_11), (0, .ref k0), (1, .int a1), (2, .int a2), (4, .int v4)]) a_X6_unrestAhead_53 rfl (Nat.le_of_ble_eq_true rfl) rfl ?_
    obtain ⟨v_12, ev_12⟩ : ∃ y : Int32, y = v4 + (1 : Int32) := ⟨_, rfl⟩
    have hyp := hyp v_12 ev_12
    refine ge_iinc (v := v_12) (lv' := [(4, .int v_12), (3, .int v_11), (0, .ref k0), (1, .int a1), (2, .int a2)]) a_X6_unrestAhead_54 4 rfl ev_12.symm (Nat.le_of_ble_eq_true rfl) rfl ?_
    refine ge_goto a_X6_unrestAhead_57 ?_
    exact ge_sub [2, 3, 4, 1, 0] rfl (hK8 v_11 v_12 h_9 hyp)
def f_X6_unrestAhead (k0 : Nat) (a1 : Int32) (a2 : Int32) (h : Mem) (Q : Int32 → Mem → Prop) : Prop :=
  ∀ v_1 : Int32, v_1 = h k0 6 →
  gm_it2 (f_X6_unrestAhead_b8 k0 a1 a2  Q ) gm_F (0 : Int32) v_1 h
set_option maxRecDepth 20000 in
theorem t_X6_unrestAhead (k0 : Nat) (a1 : Int32) (a2 : Int32) (hk0 : gm_cls k0 = 5) (h : Mem) (Q : Int32 → Mem → Prop) (hyp : f_X6_unrestAhead k0 a1 a2 h Q) : Cn m_X6_unrestAhead [.ref k0, .int a1, .int a2] h (GI Q) := by
  refine ge_entry (lv := [(0, .ref k0), (1, .int a1), (2, .int a2)]) pn_X6 (Nat.le_of_ble_eq_true rfl) rfl ?_
  unfold f_X6_unrestAhead at hyp
  refine ge_iconst (v := 0) a_X6_unrestAhead_0 rfl ?_
  refine ge_istore_n (lv' := [(3, .int (0 : Int32)), (0, .ref k0), (1, .int a1), (2, .int a2)]) a_X6_unrestAhead_1 rfl (Nat.le_of_ble_eq_true rfl) rfl ?_
  refine ge_aload_n a_X6_unrestAhead_2 rfl 1 rfl ?_
  refine ge_getI a_X6_unrestAhead_3 fd_X6_49 hk0 ?_
  refine ge_topi (fun v_1 ev_1 => ?_)
  have hyp := hyp v_1 ev_1
  refine ge_istore (lv' := [(4, .int v_1), (3, .int (0 : Int32)), (0, .ref k0), (1, .int a1), (2, .int a2)]) a_X6_unrestAhead_6 (Nat.le_of_ble_eq_true rfl) rfl ?_
  exact ge_sub [2, 3, 4, 1, 0] rfl (t_X6_unrestAhead_b8 k0 a1 a2  hk0  Q   gm_F (0 : Int32) v_1 h hyp)

theorem a_X4_calmestEyes_0 : At m_X4_calmestEyes 0 (.bipush 10) 2 2 := at_i (by decide +kernel) rfl
theorem a_X4_calmestEyes_2 : At m_X4_calmestEyes 2 (.getstatic 60) 3 5 := at_i (by decide +kernel) rfl
theorem a_X4_calmestEyes_5 : At m_X4_calmestEyes 5 (.bipush 7) 2 7 := at_i (by decide +kernel) rfl
theorem a_X4_calmestEyes_7 : At m_X4_calmestEyes 7 (.iaload) 1 8 := at_i (by decide +kernel) rfl
theorem a_X4_calmestEyes_8 : At m_X4_calmestEyes 8 (.imul) 1 9 := at_i (by decide +kernel) rfl
theorem a_X4_calmestEyes_9 : At m_X4_calmestEyes 9 (.getstatic 60) 3 12 := at_i (by decide +kernel) rfl
theorem a_X4_calmestEyes_12 : At m_X4_calmestEyes 12 (.bipush 6) 2 14 := at_i (by decide +kernel) rfl
theorem a_X4_calmestEyes_14 : At m_X4_calmestEyes 14 (.iaload) 1 15 := at_i (by decide +kernel) rfl
theorem a_X4_calmestEyes_15 : At m_X4_calmestEyes 15 (.iadd) 1 16 := at_i (by decide +kernel) rfl
theorem a_X4_calmestEyes_16 : At m_X4_calmestEyes 16 (.istore_n 2) 1 17 := at_i (by decide +kernel) rfl
theorem a_X4_calmestEyes_17 : At m_X4_calmestEyes 17 (.ldc 63) 2 19 := at_i (by decide +kernel) rfl
theorem a_X4_calmestEyes_19 : At m_X4_calmestEyes 19 (.istore_n 3) 1 20 := at_i (by decide +kernel) rfl
theorem a_X4_calmestEyes_20 : At m_X4_calmestEyes 20 (.getstatic 60) 3 23 := at_i (by decide +kernel) rfl
theorem a_X4_calmestEyes_23 : At m_X4_calmestEyes 23 (.bipush 7) 2 25 := at_i (by decide +kernel) rfl
theorem a_X4_calmestEyes_25 : At m_X4_calmestEyes 25 (.iaload) 1 26 := at_i (by decide +kernel) rfl
theorem a_X4_calmestEyes_26 : At m_X4_calmestEyes 26 (.istore 4) 2 28 := at_i (by decide +kernel) rfl
theorem a_X4_calmestEyes_28 : At m_X4_calmestEyes 28 (.iload 4) 2 30 := at_i (by decide +kernel) rfl
theorem a_X4_calmestEyes_30 : At m_X4_calmestEyes 30 (.getstatic 64) 3 33 := at_i (by decide +kernel) rfl
theorem a_X4_calmestEyes_33 : At m_X4_calmestEyes 33 (.bipush 7) 2 35 := at_i (by decide +kernel) rfl
theorem a_X4_calmestEyes_35 : At m_X4_calmestEyes 35 (.iaload) 1 36 := at_i (by decide +kernel) rfl
theorem a_X4_calmestEyes_36 : AtJ m_X4_calmestEyes 36 (.if_icmp .gt 62) (62) 98 39 := at_j (by decide +kernel) (by decide) rfl
theorem a_X4_calmestEyes_39 : At m_X4_calmestEyes 39 (.getstatic 60) 3 42 := at_i (by decide +kernel) rfl
theorem a_X4_calmestEyes_42 : At m_X4_calmestEyes 42 (.bipush 6) 2 44 := at_i (by decide +kernel) rfl
theorem a_X4_calmestEyes_44 : At m_X4_calmestEyes 44 (.iaload) 1 45 := at_i (by decide +kernel) rfl
theorem a_X4_calmestEyes_45 : At m_X4_calmestEyes 45 (.istore 5) 2 47 := at_i (by decide +kernel) rfl
theorem a_X4_calmestEyes_47 : At m_X4_calmestEyes 47 (.iload 5) 2 49 := at_i (by decide +kernel) rfl
theorem a_X4_calmestEyes_49 : At m_X4_calmestEyes 49 (.getstatic 64) 3 52 := at_i (by decide +kernel) rfl
theorem a_X4_calmestEyes_52 : At m_X4_calmestEyes 52 (.bipush 6) 2 54 := at_i (by decide +kernel) rfl
theorem a_X4_calmestEyes_54 : At m_X4_calmestEyes 54 (.iaload) 1 55 := at_i (by decide +kernel) rfl
theorem a_X4_calmestEyes_55 : AtJ m_X4_calmestEyes 55 (.if_icmp .gt 37) (37) 92 58 := at_j (by decide +kernel) (by decide) rfl
theorem a_X4_calmestEyes_58 : At m_X4_calmestEyes 58 (.aload_n 1) 1 59 := at_i (by decide +kernel) rfl
theorem a_X4_calmestEyes_59 : At m_X4_calmestEyes 59 (.iload 4) 2 61 := at_i (by decide +kernel) rfl
theorem a_X4_calmestEyes_61 : At m_X4_calmestEyes 61 (.iload 5) 2 63 := at_i (by decide +kernel) rfl
theorem a_X4_calmestEyes_63 : At m_X4_calmestEyes 63 (.invokevirtual 67) 3 66 := at_i (by decide +kernel) rfl
theorem a_X4_calmestEyes_66 : At m_X4_calmestEyes 66 (.istore 6) 2 68 := at_i (by decide +kernel) rfl
theorem a_X4_calmestEyes_68 : At m_X4_calmestEyes 68 (.iload 6) 2 70 := at_i (by decide +kernel) rfl
theorem a_X4_calmestEyes_70 : At m_X4_calmestEyes 70 (.iload_n 3) 1 71 := at_i (by decide +kernel) rfl
theorem a_X4_calmestEyes_71 : AtJ m_X4_calmestEyes 71 (.if_icmp .ge 15) (15) 86 74 := at_j (by decide +kernel) (by decide) rfl
theorem a_X4_calmestEyes_74 : At m_X4_calmestEyes 74 (.iload 6) 2 76 := at_i (by decide +kernel) rfl
theorem a_X4_calmestEyes_76 : At m_X4_calmestEyes 76 (.istore_n 3) 1 77 := at_i (by decide +kernel) rfl
theorem a_X4_calmestEyes_77 : At m_X4_calmestEyes 77 (.bipush 10) 2 79 := at_i (by decide +kernel) rfl
theorem a_X4_calmestEyes_79 : At m_X4_calmestEyes 79 (.iload 4) 2 81 := at_i (by decide +kernel) rfl
theorem a_X4_calmestEyes_81 : At m_X4_calmestEyes 81 (.imul) 1 82 := at_i (by decide +kernel) rfl
theorem a_X4_calmestEyes_82 : At m_X4_calmestEyes 82 (.iload 5) 2 84 := at_i (by decide +kernel) rfl
theorem a_X4_calmestEyes_84 : At m_X4_calmestEyes 84 (.iadd) 1 85 := at_i (by decide +kernel) rfl
theorem a_X4_calmestEyes_85 : At m_X4_calmestEyes 85 (.istore_n 2) 1 86 := at_i (by decide +kernel) rfl
theorem a_X4_calmestEyes_86 : At m_X4_calmestEyes 86 (.iinc 5 1) 3 89 := at_i (by decide +kernel) rfl
theorem a_X4_calmestEyes_89 : AtJ m_X4_calmestEyes 89 (.goto (-42)) (-42) 47 92 := at_j (by decide +kernel) (by decide) rfl
theorem a_X4_calmestEyes_92 : At m_X4_calmestEyes 92 (.iinc 4 1) 3 95 := at_i (by decide +kernel) rfl
theorem a_X4_calmestEyes_95 : AtJ m_X4_calmestEyes 95 (.goto (-67)) (-67) 28 98 := at_j (by decide +kernel) (by decide) rfl
theorem a_X4_calmestEyes_98 : At m_X4_calmestEyes 98 (.iload_n 2) 1 99 := at_i (by decide +kernel) rfl
theorem a_X4_calmestEyes_99 : At m_X4_calmestEyes 99 (.ireturn) 1 100 := at_i (by decide +kernel) rfl
def f_X4_calmestEyes_b47  (v4 : Int32) (Q : Int32 → Mem → Prop) (K28 : Int32 → Int32 → Int32 → Mem → Prop) (K47 : Int32 → Int32 → Int32 → Mem → Prop) (v2 : Int32) (v3 : Int32) (v5 : Int32) (h : Mem) : Prop :=
  if (9 : Int32) < v5 then (
    ∀ v_4 : Int32, v_4 = v4 + (1 : Int32) →
    K28 v2 v3 v_4 h)
  else (
    f_X6_unrestAhead 1 v4 v5 h fun r_6 h_5 =>
    if v3 ≤ r_6 then (
      ∀ v_8 : Int32, v_8 = v5 + (1 : Int32) →
      K47 v2 v3 v_8 h_5)
    else (
      ∀ v_9 : Int32, v_9 = ((10 : Int32) * v4) + v5 →
      ∀ v_10 : Int32, v_10 = v5 + (1 : Int32) →
      K47 v_9 r_6 v_10 h_5))
set_option maxRecDepth 20000 in
theorem t_X4_calmestEyes_b47  (v4 : Int32)   (Q : Int32 → Mem → Prop) (K28 : Int32 → Int32 → Int32 → Mem → Prop) (hK28 : ∀ (v2 : Int32) (v3 : Int32) (v4 : Int32) h, K28 v2 v3 v4 h → EV m_X4_calmestEyes (GI Q) 28 [(1, .ref 1), (2, .int v2), (3, .int v3), (4, .int v4)] [] h) : ∀ (n : Nat) (v2 : Int32) (v3 : Int32) (v5 : Int32) (h : Mem), gm_it3 (f_X4_calmestEyes_b47  v4 Q K28) n v2 v3 v5 h → EV m_X4_calmestEyes (GI Q) 47 [(1, .ref 1), (2, .int v2), (3, .int v3), (4, .int v4), (5, .int v5)] [] h := by
  refine ge_loop3 (P := fun v2 v3 v5 h => EV m_X4_calmestEyes (GI Q) 47 [(1, .ref 1), (2, .int v2), (3, .int v3), (4, .int v4), (5, .int v5)] [] h) (fun K47 hK47 v2 v3 v5 h hyp => ?_)
  unfold f_X4_calmestEyes_b47 at hyp
  refine ge_iload a_X4_calmestEyes_47 4 rfl ?_
  refine ge_getsN (i := 5) a_X4_calmestEyes_49 (by decide) rfl lk_X4_64 ?_
  refine ge_bipush (v := 6) a_X4_calmestEyes_52 rfl ?_
  refine ge_tldL (i := 5) (v := 9) a_X4_calmestEyes_54 (by decide) rfl li_6_10.1 (by decide) ?_
  refine ge_icmp_gt a_X4_calmestEyes_55 (fun c_3 => ?_) (fun c_3 => ?_)
  · have hyp := gm_ip hyp c_3
    obtain ⟨v_4, ev_4⟩ : ∃ y : Int32, y = v4 + (1 : Int32) := ⟨_, rfl⟩
    have hyp := hyp v_4 ev_4
    refine ge_iinc (v := v_4) (lv' := [(4, .int v_4), (1, .ref 1), (2, .int v2), (3, .int v3), (5, .int v5)]) a_X4_calmestEyes_92 3 rfl ev_4.symm (Nat.le_of_ble_eq_true rfl) rfl ?_
    refine ge_goto a_X4_calmestEyes_95 ?_
    exact ge_sub [1, 2, 3, 0] rfl (hK28 v2 v3 v_4 h hyp)
  · have hyp := gm_in hyp c_3
    refine ge_aload_n a_X4_calmestEyes_58 rfl 0 rfl ?_
    refine ge_iload a_X4_calmestEyes_59 3 rfl ?_
    refine ge_iload a_X4_calmestEyes_61 4 rfl ?_
    refine ge_cVI [.int v4, .int v5] (rest := []) a_X4_calmestEyes_63 ok_X6_unrestAhead lk_X4_67 ⟨Nat.le_of_ble_eq_true rfl, Nat.le_of_ble_eq_true rfl⟩ (rfl : gm_cls 1 = 5) vc_5 (by decide) rfl rfl (Nat.le_of_ble_eq_true rfl) (t_X6_unrestAhead 1 v4 v5 (rfl : gm_cls 1 = 5) h _ hyp) (fun r_6 h_5 hyp => ?_)
    refine ge_istore (lv' := [(6, .int r_6), (1, .ref 1), (2, .int v2), (3, .int v3), (4, .int v4), (5, .int v5)]) a_X4_calmestEyes_66 (Nat.le_of_ble_eq_true rfl) rfl ?_
    refine ge_iload a_X4_calmestEyes_68 0 rfl ?_
    refine ge_iload_n a_X4_calmestEyes_70 rfl 3 rfl ?_
    refine ge_icmp_ge a_X4_calmestEyes_71 (fun c_7 => ?_) (fun c_7 => ?_)
    · have hyp := gm_ip hyp c_7
      obtain ⟨v_8, ev_8⟩ : ∃ y : Int32, y = v5 + (1 : Int32) := ⟨_, rfl⟩
      have hyp := hyp v_8 ev_8
      refine ge_iinc (v := v_8) (lv' := [(5, .int v_8), (6, .int r_6), (1, .ref 1), (2, .int v2), (3, .int v3), (4, .int v4)]) a_X4_calmestEyes_86 5 rfl ev_8.symm (Nat.le_of_ble_eq_true rfl) rfl ?_
      refine ge_goto a_X4_calmestEyes_89 ?_
      exact ge_sub [2, 3, 4, 5, 0] rfl (hK47 v2 v3 v_8 h_5 hyp)
    · have hyp := gm_in hyp c_7
      refine ge_iload a_X4_calmestEyes_74 0 rfl ?_
      refine ge_istore_n (lv' := [(3, .int r_6), (6, .int r_6), (1, .ref 1), (2, .int v2), (4, .int v4), (5, .int v5)]) a_X4_calmestEyes_76 rfl (Nat.le_of_ble_eq_true rfl) rfl ?_
      refine ge_bipush (v := 10) a_X4_calmestEyes_77 rfl ?_
      refine ge_iload a_X4_calmestEyes_79 4 rfl ?_
      refine ge_imul a_X4_calmestEyes_81 ?_
      refine ge_iload a_X4_calmestEyes_82 5 rfl ?_
      refine ge_iadd a_X4_calmestEyes_84 ?_
      refine ge_topi (fun v_9 ev_9 => ?_)
      have hyp := hyp v_9 ev_9
      refine ge_istore_n (lv' := [(2, .int v_9), (3, .int r_6), (6, .int r_6), (1, .ref 1), (4, .int v4), (5, .int v5)]) a_X4_calmestEyes_85 rfl (Nat.le_of_ble_eq_true rfl) rfl ?_
      obtain ⟨v_10, ev_10⟩ : ∃ y : Int32, y = v5 + (1 : Int32) := ⟨_, rfl⟩
      have hyp := hyp v_10 ev_10
      refine ge_iinc (v := v_10) (lv' := [(5, .int v_10), (2, .int v_9), (3, .int r_6), (6, .int r_6), (1, .ref 1), (4, .int v4)]) a_X4_calmestEyes_86 5 rfl ev_10.symm (Nat.le_of_ble_eq_true rfl) rfl ?_
      refine ge_goto a_X4_calmestEyes_89 ?_
      exact ge_sub [4, 1, 2, 5, 0] rfl (hK47 v_9 r_6 v_10 h_5 hyp)
def f_X4_calmestEyes_b28   (Q : Int32 → Mem → Prop)  (K28 : Int32 → Int32 → Int32 → Mem → Prop) (v2 : Int32) (v3 : Int32) (v4 : Int32) (h : Mem) : Prop :=
  if (6 : Int32) < v4 then (
    Q v2 h)
  else (
    gm_it3 (f_X4_calmestEyes_b47  v4 Q K28) gm_F v2 v3 (0 : Int32) h)
set_option maxRecDepth 20000 in
theorem t_X4_calmestEyes_b28     (Q : Int32 → Mem → Prop)   : ∀ (n : Nat) (v2 : Int32) (v3 : Int32) (v4 : Int32) (h : Mem), gm_it3 (f_X4_calmestEyes_b28   Q ) n v2 v3 v4 h → EV m_X4_calmestEyes (GI Q) 28 [(1, .ref 1), (2, .int v2), (3, .int v3), (4, .int v4)] [] h := by
  refine ge_loop3 (P := fun v2 v3 v4 h => EV m_X4_calmestEyes (GI Q) 28 [(1, .ref 1), (2, .int v2), (3, .int v3), (4, .int v4)] [] h) (fun K28 hK28 v2 v3 v4 h hyp => ?_)
  unfold f_X4_calmestEyes_b28 at hyp
  refine ge_iload a_X4_calmestEyes_28 3 rfl ?_
  refine ge_getsN (i := 5) a_X4_calmestEyes_30 (by decide) rfl lk_X4_64 ?_
  refine ge_bipush (v := 7) a_X4_calmestEyes_33 rfl ?_
  refine ge_tldL (i := 5) (v := 6) a_X4_calmestEyes_35 (by decide) rfl li_7_10.1 (by decide) ?_
  refine ge_icmp_gt a_X4_calmestEyes_36 (fun c_2 => ?_) (fun c_2 => ?_)
  · have hyp := gm_ip hyp c_2
    refine ge_iload_n a_X4_calmestEyes_98 rfl 1 rfl ?_
    exact ge_iret rfl a_X4_calmestEyes_99 hyp
  · have hyp := gm_in hyp c_2
    refine ge_getsN (i := 4) a_X4_calmestEyes_39 (by decide) rfl lk_X4_60 ?_
    refine ge_bipush (v := 6) a_X4_calmestEyes_42 rfl ?_
    refine ge_tldL (i := 4) (v := 0) a_X4_calmestEyes_44 (by decide) rfl li_6_10.1 (by decide) ?_
    refine ge_istore (lv' := [(5, .int (0 : Int32)), (1, .ref 1), (2, .int v2), (3, .int v3), (4, .int v4)]) a_X4_calmestEyes_45 (Nat.le_of_ble_eq_true rfl) rfl ?_
    exact ge_sub [1, 2, 3, 4, 0] rfl (t_X4_calmestEyes_b47  v4   Q K28 hK28 gm_F v2 v3 (0 : Int32) h hyp)
def f_X4_calmestEyes  (h : Mem) (Q : Int32 → Mem → Prop) : Prop :=
  ∀ v_1 : Int32, v_1 = ((10 : Int32) * (1 : Int32)) + (0 : Int32) →
  gm_it3 (f_X4_calmestEyes_b28   Q ) gm_F v_1 (1000000 : Int32) (1 : Int32) h
set_option maxRecDepth 20000 in
theorem t_X4_calmestEyes   (h : Mem) (Q : Int32 → Mem → Prop) (hyp : f_X4_calmestEyes  h Q) : Cn m_X4_calmestEyes [.ref 23, .ref 1] h (GI Q) := by
  refine ge_entry (lv := [(0, .ref 23), (1, .ref 1)]) pn_X4 (Nat.le_of_ble_eq_true rfl) rfl ?_
  unfold f_X4_calmestEyes at hyp
  refine ge_bipush (v := 10) a_X4_calmestEyes_0 rfl ?_
  refine ge_getsN (i := 4) a_X4_calmestEyes_2 (by decide) rfl lk_X4_60 ?_
  refine ge_bipush (v := 7) a_X4_calmestEyes_5 rfl ?_
  refine ge_tldL (i := 4) (v := 1) a_X4_calmestEyes_7 (by decide) rfl li_7_10.1 (by decide) ?_
  refine ge_imul a_X4_calmestEyes_8 ?_
  refine ge_getsN (i := 4) a_X4_calmestEyes_9 (by decide) rfl lk_X4_60 ?_
  refine ge_bipush (v := 6) a_X4_calmestEyes_12 rfl ?_
  refine ge_tldL (i := 4) (v := 0) a_X4_calmestEyes_14 (by decide) rfl li_6_10.1 (by decide) ?_
  refine ge_iadd a_X4_calmestEyes_15 ?_
  refine ge_topi (fun v_1 ev_1 => ?_)
  have hyp := hyp v_1 ev_1
  refine ge_istore_n (lv' := [(2, .int v_1), (0, .ref 23), (1, .ref 1)]) a_X4_calmestEyes_16 rfl (Nat.le_of_ble_eq_true rfl) rfl ?_
  refine ge_ldc (v := 1000000) a_X4_calmestEyes_17 ct_X4_63 ?_
  refine ge_istore_n (lv' := [(3, .int (1000000 : Int32)), (2, .int v_1), (0, .ref 23), (1, .ref 1)]) a_X4_calmestEyes_19 rfl (Nat.le_of_ble_eq_true rfl) rfl ?_
  refine ge_getsN (i := 4) a_X4_calmestEyes_20 (by decide) rfl lk_X4_60 ?_
  refine ge_bipush (v := 7) a_X4_calmestEyes_23 rfl ?_
  refine ge_tldL (i := 4) (v := 1) a_X4_calmestEyes_25 (by decide) rfl li_7_10.1 (by decide) ?_
  refine ge_istore (lv' := [(4, .int (1 : Int32)), (3, .int (1000000 : Int32)), (2, .int v_1), (0, .ref 23), (1, .ref 1)]) a_X4_calmestEyes_26 (Nat.le_of_ble_eq_true rfl) rfl ?_
  exact ge_sub [4, 2, 1, 0] rfl (t_X4_calmestEyes_b28     Q   gm_F v_1 (1000000 : Int32) (1 : Int32) h hyp)

theorem a_X6_tripsOf_0 : At m_X6_tripsOf 0 (.aload_n 0) 1 1 := at_i (by decide +kernel) rfl
theorem a_X6_tripsOf_1 : At m_X6_tripsOf 1 (.getfield 9) 3 4 := at_i (by decide +kernel) rfl
theorem a_X6_tripsOf_4 : At m_X6_tripsOf 4 (.iload_n 1) 1 5 := at_i (by decide +kernel) rfl
theorem a_X6_tripsOf_5 : At m_X6_tripsOf 5 (.iaload) 1 6 := at_i (by decide +kernel) rfl
theorem a_X6_tripsOf_6 : At m_X6_tripsOf 6 (.aload_n 0) 1 7 := at_i (by decide +kernel) rfl
theorem a_X6_tripsOf_7 : At m_X6_tripsOf 7 (.getfield 18) 3 10 := at_i (by decide +kernel) rfl
theorem a_X6_tripsOf_10 : At m_X6_tripsOf 10 (.iload_n 1) 1 11 := at_i (by decide +kernel) rfl
theorem a_X6_tripsOf_11 : At m_X6_tripsOf 11 (.iaload) 1 12 := at_i (by decide +kernel) rfl
theorem a_X6_tripsOf_12 : At m_X6_tripsOf 12 (.aload_n 0) 1 13 := at_i (by decide +kernel) rfl
theorem a_X6_tripsOf_13 : At m_X6_tripsOf 13 (.getfield 21) 3 16 := at_i (by decide +kernel) rfl
theorem a_X6_tripsOf_16 : At m_X6_tripsOf 16 (.bipush 7) 2 18 := at_i (by decide +kernel) rfl
theorem a_X6_tripsOf_18 : At m_X6_tripsOf 18 (.iaload) 1 19 := at_i (by decide +kernel) rfl
theorem a_X6_tripsOf_19 : At m_X6_tripsOf 19 (.aload_n 0) 1 20 := at_i (by decide +kernel) rfl
theorem a_X6_tripsOf_20 : At m_X6_tripsOf 20 (.getfield 21) 3 23 := at_i (by decide +kernel) rfl
theorem a_X6_tripsOf_23 : At m_X6_tripsOf 23 (.bipush 6) 2 25 := at_i (by decide +kernel) rfl
theorem a_X6_tripsOf_25 : At m_X6_tripsOf 25 (.iaload) 1 26 := at_i (by decide +kernel) rfl
theorem a_X6_tripsOf_26 : At m_X6_tripsOf 26 (.invokestatic 67) 3 29 := at_i (by decide +kernel) rfl
theorem a_X6_tripsOf_29 : At m_X6_tripsOf 29 (.ireturn) 1 30 := at_i (by decide +kernel) rfl
def f_X6_tripsOf (k0 : Nat) (a1 : Int32) (h : Mem) (Q : Int32 → Mem → Prop) : Prop :=
  vp_in a1 12 ∧
  vp_in a1 12 ∧
  f_X0_tripsBy (h (k0 + 1) a1.toNatClampNeg) (h (k0 + 3) a1.toNatClampNeg) (h (k0 + 4) 7) (h (k0 + 4) 6) h fun r_4 h_3 =>
  Q r_4 h_3
set_option maxRecDepth 20000 in
theorem t_X6_tripsOf (k0 : Nat) (a1 : Int32) (hk0 : gm_cls k0 = 5) (h : Mem) (Q : Int32 → Mem → Prop) (hyp : f_X6_tripsOf k0 a1 h Q) : Cn m_X6_tripsOf [.ref k0, .int a1] h (GI Q) := by
  refine ge_entry (lv := [(0, .ref k0), (1, .int a1)]) pn_X6 (Nat.le_of_ble_eq_true rfl) rfl ?_
  unfold f_X6_tripsOf at hyp
  refine ge_aload_n a_X6_tripsOf_0 rfl 0 rfl ?_
  refine ge_getR (q := k0 + 1) a_X6_tripsOf_1 fd_X6_9 hk0 (kr5_0 hk0) ?_
  refine ge_iload_n a_X6_tripsOf_4 rfl 1 rfl ?_
  obtain ⟨b_1, hyp⟩ := hyp
  refine ge_iald (j := a1.toNatClampNeg) a_X6_tripsOf_5 (ka5_0 hk0) b_1 rfl ?_
  refine ge_aload_n a_X6_tripsOf_6 rfl 0 rfl ?_
  refine ge_getR (q := k0 + 3) a_X6_tripsOf_7 fd_X6_18 hk0 (kr5_2 hk0) ?_
  refine ge_iload_n a_X6_tripsOf_10 rfl 1 rfl ?_
  obtain ⟨b_2, hyp⟩ := hyp
  refine ge_iald (j := a1.toNatClampNeg) a_X6_tripsOf_11 (ka5_2 hk0) b_2 rfl ?_
  refine ge_aload_n a_X6_tripsOf_12 rfl 0 rfl ?_
  refine ge_getR (q := k0 + 4) a_X6_tripsOf_13 fd_X6_21 hk0 (kr5_3 hk0) ?_
  refine ge_bipush (v := 7) a_X6_tripsOf_16 rfl ?_
  refine ge_iald (j := 7) a_X6_tripsOf_18 (ka5_3 hk0) li_7_10.1 li_7_10.2 ?_
  refine ge_aload_n a_X6_tripsOf_19 rfl 0 rfl ?_
  refine ge_getR (q := k0 + 4) a_X6_tripsOf_20 fd_X6_21 hk0 (kr5_3 hk0) ?_
  refine ge_bipush (v := 6) a_X6_tripsOf_23 rfl ?_
  refine ge_iald (j := 6) a_X6_tripsOf_25 (ka5_3 hk0) li_6_10.1 li_6_10.2 ?_
  refine ge_cSI [.int (h (k0 + 1) a1.toNatClampNeg), .int (h (k0 + 3) a1.toNatClampNeg), .int (h (k0 + 4) 7), .int (h (k0 + 4) 6)] (rest := []) a_X6_tripsOf_26 ok_X0_tripsBy lk_X6_67 ⟨Nat.le_of_ble_eq_true rfl, Nat.le_of_ble_eq_true rfl⟩ rfl rfl (Nat.le_of_ble_eq_true rfl) (t_X0_tripsBy (h (k0 + 1) a1.toNatClampNeg) (h (k0 + 3) a1.toNatClampNeg) (h (k0 + 4) 7) (h (k0 + 4) 6)  h _ hyp) (fun r_4 h_3 hyp => ?_)
  exact ge_iret rfl a_X6_tripsOf_29 hyp

theorem a_X4_mostTripping_0 : At m_X4_mostTripping 0 (.iconst 0) 1 1 := at_i (by decide +kernel) rfl
theorem a_X4_mostTripping_1 : At m_X4_mostTripping 1 (.istore_n 2) 1 2 := at_i (by decide +kernel) rfl
theorem a_X4_mostTripping_2 : At m_X4_mostTripping 2 (.iconst (-1)) 1 3 := at_i (by decide +kernel) rfl
theorem a_X4_mostTripping_3 : At m_X4_mostTripping 3 (.istore_n 3) 1 4 := at_i (by decide +kernel) rfl
theorem a_X4_mostTripping_4 : At m_X4_mostTripping 4 (.iconst 0) 1 5 := at_i (by decide +kernel) rfl
theorem a_X4_mostTripping_5 : At m_X4_mostTripping 5 (.istore 4) 2 7 := at_i (by decide +kernel) rfl
theorem a_X4_mostTripping_7 : At m_X4_mostTripping 7 (.iload 4) 2 9 := at_i (by decide +kernel) rfl
theorem a_X4_mostTripping_9 : At m_X4_mostTripping 9 (.aload_n 1) 1 10 := at_i (by decide +kernel) rfl
theorem a_X4_mostTripping_10 : At m_X4_mostTripping 10 (.getfield 71) 3 13 := at_i (by decide +kernel) rfl
theorem a_X4_mostTripping_13 : AtJ m_X4_mostTripping 13 (.if_icmp .ge 29) (29) 42 16 := at_j (by decide +kernel) (by decide) rfl
theorem a_X4_mostTripping_16 : At m_X4_mostTripping 16 (.aload_n 1) 1 17 := at_i (by decide +kernel) rfl
theorem a_X4_mostTripping_17 : At m_X4_mostTripping 17 (.iload 4) 2 19 := at_i (by decide +kernel) rfl
theorem a_X4_mostTripping_19 : At m_X4_mostTripping 19 (.invokevirtual 74) 3 22 := at_i (by decide +kernel) rfl
theorem a_X4_mostTripping_22 : At m_X4_mostTripping 22 (.istore 5) 2 24 := at_i (by decide +kernel) rfl
theorem a_X4_mostTripping_24 : At m_X4_mostTripping 24 (.iload 5) 2 26 := at_i (by decide +kernel) rfl
theorem a_X4_mostTripping_26 : At m_X4_mostTripping 26 (.iload_n 3) 1 27 := at_i (by decide +kernel) rfl
theorem a_X4_mostTripping_27 : AtJ m_X4_mostTripping 27 (.if_icmp .le 9) (9) 36 30 := at_j (by decide +kernel) (by decide) rfl
theorem a_X4_mostTripping_30 : At m_X4_mostTripping 30 (.iload 5) 2 32 := at_i (by decide +kernel) rfl
theorem a_X4_mostTripping_32 : At m_X4_mostTripping 32 (.istore_n 3) 1 33 := at_i (by decide +kernel) rfl
theorem a_X4_mostTripping_33 : At m_X4_mostTripping 33 (.iload 4) 2 35 := at_i (by decide +kernel) rfl
theorem a_X4_mostTripping_35 : At m_X4_mostTripping 35 (.istore_n 2) 1 36 := at_i (by decide +kernel) rfl
theorem a_X4_mostTripping_36 : At m_X4_mostTripping 36 (.iinc 4 1) 3 39 := at_i (by decide +kernel) rfl
theorem a_X4_mostTripping_39 : AtJ m_X4_mostTripping 39 (.goto (-32)) (-32) 7 42 := at_j (by decide +kernel) (by decide) rfl
theorem a_X4_mostTripping_42 : At m_X4_mostTripping 42 (.iload_n 2) 1 43 := at_i (by decide +kernel) rfl
theorem a_X4_mostTripping_43 : At m_X4_mostTripping 43 (.ireturn) 1 44 := at_i (by decide +kernel) rfl
def f_X4_mostTripping_b7   (Q : Int32 → Mem → Prop)  (K7 : Int32 → Int32 → Int32 → Mem → Prop) (v2 : Int32) (v3 : Int32) (v4 : Int32) (h : Mem) : Prop :=
  if h 1 5 ≤ v4 then (
    Q v2 h)
  else (
    f_X6_tripsOf 1 v4 h fun r_3 h_2 =>
    if r_3 ≤ v3 then (
      ∀ v_5 : Int32, v_5 = v4 + (1 : Int32) →
      K7 v2 v3 v_5 h_2)
    else (
      ∀ v_6 : Int32, v_6 = v4 + (1 : Int32) →
      K7 v4 r_3 v_6 h_2))
set_option maxRecDepth 20000 in
theorem t_X4_mostTripping_b7     (Q : Int32 → Mem → Prop)   : ∀ (n : Nat) (v2 : Int32) (v3 : Int32) (v4 : Int32) (h : Mem), gm_it3 (f_X4_mostTripping_b7   Q ) n v2 v3 v4 h → EV m_X4_mostTripping (GI Q) 7 [(1, .ref 1), (2, .int v2), (3, .int v3), (4, .int v4)] [] h := by
  refine ge_loop3 (P := fun v2 v3 v4 h => EV m_X4_mostTripping (GI Q) 7 [(1, .ref 1), (2, .int v2), (3, .int v3), (4, .int v4)] [] h) (fun K7 hK7 v2 v3 v4 h hyp => ?_)
  unfold f_X4_mostTripping_b7 at hyp
  refine ge_iload a_X4_mostTripping_7 3 rfl ?_
  refine ge_aload_n a_X4_mostTripping_9 rfl 0 rfl ?_
  refine ge_getI a_X4_mostTripping_10 fd_X4_71 (rfl : gm_cls 1 = 5) ?_
  refine ge_icmp_ge a_X4_mostTripping_13 (fun c_1 => ?_) (fun c_1 => ?_)
  · have hyp := gm_ip hyp c_1
    refine ge_iload_n a_X4_mostTripping_42 rfl 1 rfl ?_
    exact ge_iret rfl a_X4_mostTripping_43 hyp
  · have hyp := gm_in hyp c_1
    refine ge_aload_n a_X4_mostTripping_16 rfl 0 rfl ?_
    refine ge_iload a_X4_mostTripping_17 3 rfl ?_
    refine ge_cVI [.int v4] (rest := []) a_X4_mostTripping_19 ok_X6_tripsOf lk_X4_74 ⟨Nat.le_of_ble_eq_true rfl, Nat.le_of_ble_eq_true rfl⟩ (rfl : gm_cls 1 = 5) vc_5 (by decide) rfl rfl (Nat.le_of_ble_eq_true rfl) (t_X6_tripsOf 1 v4 (rfl : gm_cls 1 = 5) h _ hyp) (fun r_3 h_2 hyp => ?_)
    refine ge_istore (lv' := [(5, .int r_3), (1, .ref 1), (2, .int v2), (3, .int v3), (4, .int v4)]) a_X4_mostTripping_22 (Nat.le_of_ble_eq_true rfl) rfl ?_
    refine ge_iload a_X4_mostTripping_24 0 rfl ?_
    refine ge_iload_n a_X4_mostTripping_26 rfl 3 rfl ?_
    refine ge_icmp_le a_X4_mostTripping_27 (fun c_4 => ?_) (fun c_4 => ?_)
    · have hyp := gm_ip hyp c_4
      obtain ⟨v_5, ev_5⟩ : ∃ y : Int32, y = v4 + (1 : Int32) := ⟨_, rfl⟩
      have hyp := hyp v_5 ev_5
      refine ge_iinc (v := v_5) (lv' := [(4, .int v_5), (5, .int r_3), (1, .ref 1), (2, .int v2), (3, .int v3)]) a_X4_mostTripping_36 4 rfl ev_5.symm (Nat.le_of_ble_eq_true rfl) rfl ?_
      refine ge_goto a_X4_mostTripping_39 ?_
      exact ge_sub [2, 3, 4, 0] rfl (hK7 v2 v3 v_5 h_2 hyp)
    · have hyp := gm_in hyp c_4
      refine ge_iload a_X4_mostTripping_30 0 rfl ?_
      refine ge_istore_n (lv' := [(3, .int r_3), (5, .int r_3), (1, .ref 1), (2, .int v2), (4, .int v4)]) a_X4_mostTripping_32 rfl (Nat.le_of_ble_eq_true rfl) rfl ?_
      refine ge_iload a_X4_mostTripping_33 4 rfl ?_
      refine ge_istore_n (lv' := [(2, .int v4), (3, .int r_3), (5, .int r_3), (1, .ref 1), (4, .int v4)]) a_X4_mostTripping_35 rfl (Nat.le_of_ble_eq_true rfl) rfl ?_
      obtain ⟨v_6, ev_6⟩ : ∃ y : Int32, y = v4 + (1 : Int32) := ⟨_, rfl⟩
      have hyp := hyp v_6 ev_6
      refine ge_iinc (v := v_6) (lv' := [(4, .int v_6), (2, .int v4), (3, .int r_3), (5, .int r_3), (1, .ref 1)]) a_X4_mostTripping_36 4 rfl ev_6.symm (Nat.le_of_ble_eq_true rfl) rfl ?_
      refine ge_goto a_X4_mostTripping_39 ?_
      exact ge_sub [4, 1, 2, 0] rfl (hK7 v4 r_3 v_6 h_2 hyp)
def f_X4_mostTripping  (h : Mem) (Q : Int32 → Mem → Prop) : Prop :=
  gm_it3 (f_X4_mostTripping_b7   Q ) gm_F (0 : Int32) (-1 : Int32) (0 : Int32) h
set_option maxRecDepth 20000 in
theorem t_X4_mostTripping   (h : Mem) (Q : Int32 → Mem → Prop) (hyp : f_X4_mostTripping  h Q) : Cn m_X4_mostTripping [.ref 23, .ref 1] h (GI Q) := by
  refine ge_entry (lv := [(0, .ref 23), (1, .ref 1)]) pn_X4 (Nat.le_of_ble_eq_true rfl) rfl ?_
  unfold f_X4_mostTripping at hyp
  refine ge_iconst (v := 0) a_X4_mostTripping_0 rfl ?_
  refine ge_istore_n (lv' := [(2, .int (0 : Int32)), (0, .ref 23), (1, .ref 1)]) a_X4_mostTripping_1 rfl (Nat.le_of_ble_eq_true rfl) rfl ?_
  refine ge_iconst (v := -1) a_X4_mostTripping_2 rfl ?_
  refine ge_istore_n (lv' := [(3, .int (-1 : Int32)), (2, .int (0 : Int32)), (0, .ref 23), (1, .ref 1)]) a_X4_mostTripping_3 rfl (Nat.le_of_ble_eq_true rfl) rfl ?_
  refine ge_iconst (v := 0) a_X4_mostTripping_4 rfl ?_
  refine ge_istore (lv' := [(4, .int (0 : Int32)), (3, .int (-1 : Int32)), (2, .int (0 : Int32)), (0, .ref 23), (1, .ref 1)]) a_X4_mostTripping_5 (Nat.le_of_ble_eq_true rfl) rfl ?_
  exact ge_sub [4, 2, 1, 0] rfl (t_X4_mostTripping_b7     Q   gm_F (0 : Int32) (-1 : Int32) (0 : Int32) h hyp)

theorem a_X4_quickestKind_0 : At m_X4_quickestKind 0 (.aload_n 1) 1 1 := at_i (by decide +kernel) rfl
theorem a_X4_quickestKind_1 : At m_X4_quickestKind 1 (.getfield 77) 3 4 := at_i (by decide +kernel) rfl
theorem a_X4_quickestKind_4 : At m_X4_quickestKind 4 (.iload_n 2) 1 5 := at_i (by decide +kernel) rfl
theorem a_X4_quickestKind_5 : At m_X4_quickestKind 5 (.iaload) 1 6 := at_i (by decide +kernel) rfl
theorem a_X4_quickestKind_6 : At m_X4_quickestKind 6 (.istore_n 3) 1 7 := at_i (by decide +kernel) rfl
theorem a_X4_quickestKind_7 : At m_X4_quickestKind 7 (.iconst 0) 1 8 := at_i (by decide +kernel) rfl
theorem a_X4_quickestKind_8 : At m_X4_quickestKind 8 (.istore 4) 2 10 := at_i (by decide +kernel) rfl
theorem a_X4_quickestKind_10 : At m_X4_quickestKind 10 (.ldc 63) 2 12 := at_i (by decide +kernel) rfl
theorem a_X4_quickestKind_12 : At m_X4_quickestKind 12 (.istore 5) 2 14 := at_i (by decide +kernel) rfl
theorem a_X4_quickestKind_14 : At m_X4_quickestKind 14 (.iconst 0) 1 15 := at_i (by decide +kernel) rfl
theorem a_X4_quickestKind_15 : At m_X4_quickestKind 15 (.istore 6) 2 17 := at_i (by decide +kernel) rfl
theorem a_X4_quickestKind_17 : At m_X4_quickestKind 17 (.iload 6) 2 19 := at_i (by decide +kernel) rfl
theorem a_X4_quickestKind_19 : At m_X4_quickestKind 19 (.bipush 6) 2 21 := at_i (by decide +kernel) rfl
theorem a_X4_quickestKind_21 : AtJ m_X4_quickestKind 21 (.if_icmp .gt 57) (57) 78 24 := at_j (by decide +kernel) (by decide) rfl
theorem a_X4_quickestKind_24 : At m_X4_quickestKind 24 (.aload_n 1) 1 25 := at_i (by decide +kernel) rfl
theorem a_X4_quickestKind_25 : At m_X4_quickestKind 25 (.getfield 77) 3 28 := at_i (by decide +kernel) rfl
theorem a_X4_quickestKind_28 : At m_X4_quickestKind 28 (.iload_n 2) 1 29 := at_i (by decide +kernel) rfl
theorem a_X4_quickestKind_29 : At m_X4_quickestKind 29 (.iload 6) 2 31 := at_i (by decide +kernel) rfl
theorem a_X4_quickestKind_31 : At m_X4_quickestKind 31 (.iastore) 1 32 := at_i (by decide +kernel) rfl
theorem a_X4_quickestKind_32 : At m_X4_quickestKind 32 (.aload_n 0) 1 33 := at_i (by decide +kernel) rfl
theorem a_X4_quickestKind_33 : At m_X4_quickestKind 33 (.getfield 12) 3 36 := at_i (by decide +kernel) rfl
theorem a_X4_quickestKind_36 : At m_X4_quickestKind 36 (.aload_n 1) 1 37 := at_i (by decide +kernel) rfl
theorem a_X4_quickestKind_37 : At m_X4_quickestKind 37 (.getfield 40) 3 40 := at_i (by decide +kernel) rfl
theorem a_X4_quickestKind_40 : At m_X4_quickestKind 40 (.invokevirtual 49) 3 43 := at_i (by decide +kernel) rfl
theorem a_X4_quickestKind_43 : At m_X4_quickestKind 43 (.aload_n 1) 1 44 := at_i (by decide +kernel) rfl
theorem a_X4_quickestKind_44 : At m_X4_quickestKind 44 (.aload_n 1) 1 45 := at_i (by decide +kernel) rfl
theorem a_X4_quickestKind_45 : At m_X4_quickestKind 45 (.invokevirtual 30) 3 48 := at_i (by decide +kernel) rfl
theorem a_X4_quickestKind_48 : At m_X4_quickestKind 48 (.aload_n 0) 1 49 := at_i (by decide +kernel) rfl
theorem a_X4_quickestKind_49 : At m_X4_quickestKind 49 (.getfield 12) 3 52 := at_i (by decide +kernel) rfl
theorem a_X4_quickestKind_52 : At m_X4_quickestKind 52 (.invokevirtual 36) 3 55 := at_i (by decide +kernel) rfl
theorem a_X4_quickestKind_55 : At m_X4_quickestKind 55 (.istore 7) 2 57 := at_i (by decide +kernel) rfl
theorem a_X4_quickestKind_57 : At m_X4_quickestKind 57 (.iload 7) 2 59 := at_i (by decide +kernel) rfl
theorem a_X4_quickestKind_59 : At m_X4_quickestKind 59 (.iload 5) 2 61 := at_i (by decide +kernel) rfl
theorem a_X4_quickestKind_61 : AtJ m_X4_quickestKind 61 (.if_icmp .ge 11) (11) 72 64 := at_j (by decide +kernel) (by decide) rfl
theorem a_X4_quickestKind_64 : At m_X4_quickestKind 64 (.iload 7) 2 66 := at_i (by decide +kernel) rfl
theorem a_X4_quickestKind_66 : At m_X4_quickestKind 66 (.istore 5) 2 68 := at_i (by decide +kernel) rfl
theorem a_X4_quickestKind_68 : At m_X4_quickestKind 68 (.iload 6) 2 70 := at_i (by decide +kernel) rfl
theorem a_X4_quickestKind_70 : At m_X4_quickestKind 70 (.istore 4) 2 72 := at_i (by decide +kernel) rfl
theorem a_X4_quickestKind_72 : At m_X4_quickestKind 72 (.iinc 6 1) 3 75 := at_i (by decide +kernel) rfl
theorem a_X4_quickestKind_75 : AtJ m_X4_quickestKind 75 (.goto (-58)) (-58) 17 78 := at_j (by decide +kernel) (by decide) rfl
theorem a_X4_quickestKind_78 : At m_X4_quickestKind 78 (.aload_n 1) 1 79 := at_i (by decide +kernel) rfl
theorem a_X4_quickestKind_79 : At m_X4_quickestKind 79 (.getfield 77) 3 82 := at_i (by decide +kernel) rfl
theorem a_X4_quickestKind_82 : At m_X4_quickestKind 82 (.iload_n 2) 1 83 := at_i (by decide +kernel) rfl
theorem a_X4_quickestKind_83 : At m_X4_quickestKind 83 (.iload_n 3) 1 84 := at_i (by decide +kernel) rfl
theorem a_X4_quickestKind_84 : At m_X4_quickestKind 84 (.iastore) 1 85 := at_i (by decide +kernel) rfl
theorem a_X4_quickestKind_85 : At m_X4_quickestKind 85 (.iload 4) 2 87 := at_i (by decide +kernel) rfl
theorem a_X4_quickestKind_87 : At m_X4_quickestKind 87 (.ireturn) 1 88 := at_i (by decide +kernel) rfl
def f_X4_quickestKind_b17 (a2 : Int32) (v_2 : Int32) (Q : Int32 → Mem → Prop)  (K17 : Int32 → Int32 → Int32 → Mem → Prop) (v4 : Int32) (v5 : Int32) (v6 : Int32) (h : Mem) : Prop :=
  if (6 : Int32) < v6 then (
    vp_in a2 12 ∧
    ∀ h_5 : Mem, h_5 = gm_st h 2 a2.toNatClampNeg v_2 →
    Q v4 h_5)
  else (
    vp_in a2 12 ∧
    ∀ h_7 : Mem, h_7 = gm_st h 2 a2.toNatClampNeg v6 →
    f_X1_takeFrom 24 5 10 h_7 fun h_8 =>
    f_X6_linesAhead 1 h_8 fun r_10 h_9 =>
    f_X6_takesAhead 1 r_10 24 h_9 fun r_12 h_11 =>
    if v5 ≤ r_12 then (
      ∀ v_14 : Int32, v_14 = v6 + (1 : Int32) →
      K17 v4 v5 v_14 h_11)
    else (
      ∀ v_15 : Int32, v_15 = v6 + (1 : Int32) →
      K17 v6 r_12 v_15 h_11))
set_option maxRecDepth 20000 in
theorem t_X4_quickestKind_b17 (a2 : Int32) (v_2 : Int32)   (Q : Int32 → Mem → Prop)   : ∀ (n : Nat) (v4 : Int32) (v5 : Int32) (v6 : Int32) (h : Mem), gm_it3 (f_X4_quickestKind_b17 a2 v_2 Q ) n v4 v5 v6 h → EV m_X4_quickestKind (GI Q) 17 [(0, .ref 23), (1, .ref 1), (2, .int a2), (3, .int v_2), (4, .int v4), (5, .int v5), (6, .int v6)] [] h := by
  refine ge_loop3 (P := fun v4 v5 v6 h => EV m_X4_quickestKind (GI Q) 17 [(0, .ref 23), (1, .ref 1), (2, .int a2), (3, .int v_2), (4, .int v4), (5, .int v5), (6, .int v6)] [] h) (fun K17 hK17 v4 v5 v6 h hyp => ?_)
  unfold f_X4_quickestKind_b17 at hyp
  refine ge_iload a_X4_quickestKind_17 6 rfl ?_
  refine ge_bipush (v := 6) a_X4_quickestKind_19 rfl ?_
  refine ge_icmp_gt a_X4_quickestKind_21 (fun c_3 => ?_) (fun c_3 => ?_)
  · have hyp := gm_ip hyp c_3
    refine ge_aload_n a_X4_quickestKind_78 rfl 1 rfl ?_
    refine ge_getR (q := 2) a_X4_quickestKind_79 fd_X4_77 (rfl : gm_cls 1 = 5) rfl ?_
    refine ge_iload_n a_X4_quickestKind_82 rfl 2 rfl ?_
    refine ge_iload_n a_X4_quickestKind_83 rfl 3 rfl ?_
    obtain ⟨b_4, hyp⟩ := hyp
    refine ge_iast (j := a2.toNatClampNeg) a_X4_quickestKind_84 ga_2 b_4 rfl ?_
    refine ge_nm (fun h_5 eh_5 => ?_)
    have hyp := hyp h_5 eh_5
    refine ge_iload a_X4_quickestKind_85 4 rfl ?_
    exact ge_iret rfl a_X4_quickestKind_87 hyp
  · have hyp := gm_in hyp c_3
    refine ge_aload_n a_X4_quickestKind_24 rfl 1 rfl ?_
    refine ge_getR (q := 2) a_X4_quickestKind_25 fd_X4_77 (rfl : gm_cls 1 = 5) rfl ?_
    refine ge_iload_n a_X4_quickestKind_28 rfl 2 rfl ?_
    refine ge_iload a_X4_quickestKind_29 6 rfl ?_
    obtain ⟨b_6, hyp⟩ := hyp
    refine ge_iast (j := a2.toNatClampNeg) a_X4_quickestKind_31 ga_2 b_6 rfl ?_
    refine ge_nm (fun h_7 eh_7 => ?_)
    have hyp := hyp h_7 eh_7
    refine ge_aload_n a_X4_quickestKind_32 rfl 0 rfl ?_
    refine ge_getR (q := 24) a_X4_quickestKind_33 fd_X4_12 (rfl : gm_cls 23 = 3) rfl ?_
    refine ge_aload_n a_X4_quickestKind_36 rfl 1 rfl ?_
    refine ge_getR (q := 5) a_X4_quickestKind_37 fd_X4_40 (rfl : gm_cls 1 = 5) rfl ?_
    refine ge_cVV [.ref 5] (rest := []) a_X4_quickestKind_40 ok_X1_takeFrom lk_X4_49 ⟨Nat.le_of_ble_eq_true rfl, Nat.le_of_ble_eq_true rfl⟩ (rfl : gm_cls 24 = 0) vc_0 (by decide) rfl rfl (Nat.le_of_ble_eq_true rfl) (t_X1_takeFrom 24 5 10 (rfl : gm_cls 24 = 0) ga_5 h_7 _ hyp) (fun h_8 hyp => ?_)
    refine ge_aload_n a_X4_quickestKind_43 rfl 1 rfl ?_
    refine ge_aload_n a_X4_quickestKind_44 rfl 1 rfl ?_
    refine ge_cVI [] (rest := [.ref 1]) a_X4_quickestKind_45 ok_X6_linesAhead lk_X4_30 ⟨Nat.le_of_ble_eq_true rfl, Nat.le_of_ble_eq_true rfl⟩ (rfl : gm_cls 1 = 5) vc_5 (by decide) rfl rfl (Nat.le_of_ble_eq_true rfl) (t_X6_linesAhead 1 (rfl : gm_cls 1 = 5) h_8 _ hyp) (fun r_10 h_9 hyp => ?_)
    refine ge_aload_n a_X4_quickestKind_48 rfl 0 rfl ?_
    refine ge_getR (q := 24) a_X4_quickestKind_49 fd_X4_12 (rfl : gm_cls 23 = 3) rfl ?_
    refine ge_cVI [.int r_10, .ref 24] (rest := []) a_X4_quickestKind_52 ok_X6_takesAhead lk_X4_36 ⟨Nat.le_of_ble_eq_true rfl, Nat.le_of_ble_eq_true rfl⟩ (rfl : gm_cls 1 = 5) vc_5 (by decide) rfl rfl (Nat.le_of_ble_eq_true rfl) (t_X6_takesAhead 1 r_10 24 (rfl : gm_cls 1 = 5) (rfl : gm_cls 24 = 0) h_9 _ hyp) (fun r_12 h_11 hyp => ?_)
    refine ge_istore (lv' := [(7, .int r_12), (0, .ref 23), (1, .ref 1), (2, .int a2), (3, .int v_2), (4, .int v4), (5, .int v5), (6, .int v6)]) a_X4_quickestKind_55 (Nat.le_of_ble_eq_true rfl) rfl ?_
    refine ge_iload a_X4_quickestKind_57 0 rfl ?_
    refine ge_iload a_X4_quickestKind_59 6 rfl ?_
    refine ge_icmp_ge a_X4_quickestKind_61 (fun c_13 => ?_) (fun c_13 => ?_)
    · have hyp := gm_ip hyp c_13
      obtain ⟨v_14, ev_14⟩ : ∃ y : Int32, y = v6 + (1 : Int32) := ⟨_, rfl⟩
      have hyp := hyp v_14 ev_14
      refine ge_iinc (v := v_14) (lv' := [(6, .int v_14), (7, .int r_12), (0, .ref 23), (1, .ref 1), (2, .int a2), (3, .int v_2), (4, .int v4), (5, .int v5)]) a_X4_quickestKind_72 7 rfl ev_14.symm (Nat.le_of_ble_eq_true rfl) rfl ?_
      refine ge_goto a_X4_quickestKind_75 ?_
      exact ge_sub [2, 3, 4, 5, 6, 7, 0] rfl (hK17 v4 v5 v_14 h_11 hyp)
    · have hyp := gm_in hyp c_13
      refine ge_iload a_X4_quickestKind_64 0 rfl ?_
      refine ge_istore (lv' := [(5, .int r_12), (7, .int r_12), (0, .ref 23), (1, .ref 1), (2, .int a2), (3, .int v_2), (4, .int v4), (6, .int v6)]) a_X4_quickestKind_66 (Nat.le_of_ble_eq_true rfl) rfl ?_
      refine ge_iload a_X4_quickestKind_68 7 rfl ?_
      refine ge_istore (lv' := [(4, .int v6), (5, .int r_12), (7, .int r_12), (0, .ref 23), (1, .ref 1), (2, .int a2), (3, .int v_2), (6, .int v6)]) a_X4_quickestKind_70 (Nat.le_of_ble_eq_true rfl) rfl ?_
      obtain ⟨v_15, ev_15⟩ : ∃ y : Int32, y = v6 + (1 : Int32) := ⟨_, rfl⟩
      have hyp := hyp v_15 ev_15
      refine ge_iinc (v := v_15) (lv' := [(6, .int v_15), (4, .int v6), (5, .int r_12), (7, .int r_12), (0, .ref 23), (1, .ref 1), (2, .int a2), (3, .int v_2)]) a_X4_quickestKind_72 7 rfl ev_15.symm (Nat.le_of_ble_eq_true rfl) rfl ?_
      refine ge_goto a_X4_quickestKind_75 ?_
      exact ge_sub [4, 5, 6, 7, 1, 2, 0] rfl (hK17 v6 r_12 v_15 h_11 hyp)
def f_X4_quickestKind (a2 : Int32) (h : Mem) (Q : Int32 → Mem → Prop) : Prop :=
  vp_in a2 12 ∧
  ∀ v_2 : Int32, v_2 = h 2 a2.toNatClampNeg →
  gm_it3 (f_X4_quickestKind_b17 a2 v_2 Q ) gm_F (0 : Int32) (1000000 : Int32) (0 : Int32) h
set_option maxRecDepth 20000 in
theorem t_X4_quickestKind (a2 : Int32)  (h : Mem) (Q : Int32 → Mem → Prop) (hyp : f_X4_quickestKind a2 h Q) : Cn m_X4_quickestKind [.ref 23, .ref 1, .int a2] h (GI Q) := by
  refine ge_entry (lv := [(0, .ref 23), (1, .ref 1), (2, .int a2)]) pn_X4 (Nat.le_of_ble_eq_true rfl) rfl ?_
  unfold f_X4_quickestKind at hyp
  refine ge_aload_n a_X4_quickestKind_0 rfl 1 rfl ?_
  refine ge_getR (q := 2) a_X4_quickestKind_1 fd_X4_77 (rfl : gm_cls 1 = 5) rfl ?_
  refine ge_iload_n a_X4_quickestKind_4 rfl 2 rfl ?_
  obtain ⟨b_1, hyp⟩ := hyp
  refine ge_iald (j := a2.toNatClampNeg) a_X4_quickestKind_5 ga_2 b_1 rfl ?_
  refine ge_topi (fun v_2 ev_2 => ?_)
  have hyp := hyp v_2 ev_2
  refine ge_istore_n (lv' := [(3, .int v_2), (0, .ref 23), (1, .ref 1), (2, .int a2)]) a_X4_quickestKind_6 rfl (Nat.le_of_ble_eq_true rfl) rfl ?_
  refine ge_iconst (v := 0) a_X4_quickestKind_7 rfl ?_
  refine ge_istore (lv' := [(4, .int (0 : Int32)), (3, .int v_2), (0, .ref 23), (1, .ref 1), (2, .int a2)]) a_X4_quickestKind_8 (Nat.le_of_ble_eq_true rfl) rfl ?_
  refine ge_ldc (v := 1000000) a_X4_quickestKind_10 ct_X4_63 ?_
  refine ge_istore (lv' := [(5, .int (1000000 : Int32)), (4, .int (0 : Int32)), (3, .int v_2), (0, .ref 23), (1, .ref 1), (2, .int a2)]) a_X4_quickestKind_12 (Nat.le_of_ble_eq_true rfl) rfl ?_
  refine ge_iconst (v := 0) a_X4_quickestKind_14 rfl ?_
  refine ge_istore (lv' := [(6, .int (0 : Int32)), (5, .int (1000000 : Int32)), (4, .int (0 : Int32)), (3, .int v_2), (0, .ref 23), (1, .ref 1), (2, .int a2)]) a_X4_quickestKind_15 (Nat.le_of_ble_eq_true rfl) rfl ?_
  exact ge_sub [4, 5, 6, 3, 2, 1, 0] rfl (t_X4_quickestKind_b17 a2 v_2   Q   gm_F (0 : Int32) (1000000 : Int32) (0 : Int32) h hyp)

theorem a_J6_bitCount_0f7a4_0 : At m_J6_bitCount_0f7a4 0 (.iload_n 0) 1 1 := at_i (by decide +kernel) rfl
theorem a_J6_bitCount_0f7a4_1 : At m_J6_bitCount_0f7a4 1 (.iload_n 0) 1 2 := at_i (by decide +kernel) rfl
theorem a_J6_bitCount_0f7a4_2 : At m_J6_bitCount_0f7a4 2 (.iconst 1) 1 3 := at_i (by decide +kernel) rfl
theorem a_J6_bitCount_0f7a4_3 : At m_J6_bitCount_0f7a4 3 (.iushr) 1 4 := at_i (by decide +kernel) rfl
theorem a_J6_bitCount_0f7a4_4 : At m_J6_bitCount_0f7a4 4 (.ldc_w 265) 3 7 := at_i (by decide +kernel) rfl
theorem a_J6_bitCount_0f7a4_7 : At m_J6_bitCount_0f7a4 7 (.iand) 1 8 := at_i (by decide +kernel) rfl
theorem a_J6_bitCount_0f7a4_8 : At m_J6_bitCount_0f7a4 8 (.isub) 1 9 := at_i (by decide +kernel) rfl
theorem a_J6_bitCount_0f7a4_9 : At m_J6_bitCount_0f7a4 9 (.istore_n 0) 1 10 := at_i (by decide +kernel) rfl
theorem a_J6_bitCount_0f7a4_10 : At m_J6_bitCount_0f7a4 10 (.iload_n 0) 1 11 := at_i (by decide +kernel) rfl
theorem a_J6_bitCount_0f7a4_11 : At m_J6_bitCount_0f7a4 11 (.ldc_w 266) 3 14 := at_i (by decide +kernel) rfl
theorem a_J6_bitCount_0f7a4_14 : At m_J6_bitCount_0f7a4 14 (.iand) 1 15 := at_i (by decide +kernel) rfl
theorem a_J6_bitCount_0f7a4_15 : At m_J6_bitCount_0f7a4 15 (.iload_n 0) 1 16 := at_i (by decide +kernel) rfl
theorem a_J6_bitCount_0f7a4_16 : At m_J6_bitCount_0f7a4 16 (.iconst 2) 1 17 := at_i (by decide +kernel) rfl
theorem a_J6_bitCount_0f7a4_17 : At m_J6_bitCount_0f7a4 17 (.iushr) 1 18 := at_i (by decide +kernel) rfl
theorem a_J6_bitCount_0f7a4_18 : At m_J6_bitCount_0f7a4 18 (.ldc_w 266) 3 21 := at_i (by decide +kernel) rfl
theorem a_J6_bitCount_0f7a4_21 : At m_J6_bitCount_0f7a4 21 (.iand) 1 22 := at_i (by decide +kernel) rfl
theorem a_J6_bitCount_0f7a4_22 : At m_J6_bitCount_0f7a4 22 (.iadd) 1 23 := at_i (by decide +kernel) rfl
theorem a_J6_bitCount_0f7a4_23 : At m_J6_bitCount_0f7a4 23 (.istore_n 0) 1 24 := at_i (by decide +kernel) rfl
theorem a_J6_bitCount_0f7a4_24 : At m_J6_bitCount_0f7a4 24 (.iload_n 0) 1 25 := at_i (by decide +kernel) rfl
theorem a_J6_bitCount_0f7a4_25 : At m_J6_bitCount_0f7a4 25 (.iload_n 0) 1 26 := at_i (by decide +kernel) rfl
theorem a_J6_bitCount_0f7a4_26 : At m_J6_bitCount_0f7a4 26 (.iconst 4) 1 27 := at_i (by decide +kernel) rfl
theorem a_J6_bitCount_0f7a4_27 : At m_J6_bitCount_0f7a4 27 (.iushr) 1 28 := at_i (by decide +kernel) rfl
theorem a_J6_bitCount_0f7a4_28 : At m_J6_bitCount_0f7a4 28 (.iadd) 1 29 := at_i (by decide +kernel) rfl
theorem a_J6_bitCount_0f7a4_29 : At m_J6_bitCount_0f7a4 29 (.ldc_w 267) 3 32 := at_i (by decide +kernel) rfl
theorem a_J6_bitCount_0f7a4_32 : At m_J6_bitCount_0f7a4 32 (.iand) 1 33 := at_i (by decide +kernel) rfl
theorem a_J6_bitCount_0f7a4_33 : At m_J6_bitCount_0f7a4 33 (.istore_n 0) 1 34 := at_i (by decide +kernel) rfl
theorem a_J6_bitCount_0f7a4_34 : At m_J6_bitCount_0f7a4 34 (.iload_n 0) 1 35 := at_i (by decide +kernel) rfl
theorem a_J6_bitCount_0f7a4_35 : At m_J6_bitCount_0f7a4 35 (.iload_n 0) 1 36 := at_i (by decide +kernel) rfl
theorem a_J6_bitCount_0f7a4_36 : At m_J6_bitCount_0f7a4 36 (.bipush 8) 2 38 := at_i (by decide +kernel) rfl
theorem a_J6_bitCount_0f7a4_38 : At m_J6_bitCount_0f7a4 38 (.iushr) 1 39 := at_i (by decide +kernel) rfl
theorem a_J6_bitCount_0f7a4_39 : At m_J6_bitCount_0f7a4 39 (.iadd) 1 40 := at_i (by decide +kernel) rfl
theorem a_J6_bitCount_0f7a4_40 : At m_J6_bitCount_0f7a4 40 (.istore_n 0) 1 41 := at_i (by decide +kernel) rfl
theorem a_J6_bitCount_0f7a4_41 : At m_J6_bitCount_0f7a4 41 (.iload_n 0) 1 42 := at_i (by decide +kernel) rfl
theorem a_J6_bitCount_0f7a4_42 : At m_J6_bitCount_0f7a4 42 (.iload_n 0) 1 43 := at_i (by decide +kernel) rfl
theorem a_J6_bitCount_0f7a4_43 : At m_J6_bitCount_0f7a4 43 (.bipush 16) 2 45 := at_i (by decide +kernel) rfl
theorem a_J6_bitCount_0f7a4_45 : At m_J6_bitCount_0f7a4 45 (.iushr) 1 46 := at_i (by decide +kernel) rfl
theorem a_J6_bitCount_0f7a4_46 : At m_J6_bitCount_0f7a4 46 (.iadd) 1 47 := at_i (by decide +kernel) rfl
theorem a_J6_bitCount_0f7a4_47 : At m_J6_bitCount_0f7a4 47 (.istore_n 0) 1 48 := at_i (by decide +kernel) rfl
theorem a_J6_bitCount_0f7a4_48 : At m_J6_bitCount_0f7a4 48 (.iload_n 0) 1 49 := at_i (by decide +kernel) rfl
theorem a_J6_bitCount_0f7a4_49 : At m_J6_bitCount_0f7a4 49 (.bipush 63) 2 51 := at_i (by decide +kernel) rfl
theorem a_J6_bitCount_0f7a4_51 : At m_J6_bitCount_0f7a4 51 (.iand) 1 52 := at_i (by decide +kernel) rfl
theorem a_J6_bitCount_0f7a4_52 : At m_J6_bitCount_0f7a4 52 (.ireturn) 1 53 := at_i (by decide +kernel) rfl
def f_J6_bitCount_0f7a4 (a0 : Int32) (h : Mem) (Q : Int32 → Mem → Prop) : Prop :=
  ∀ v_1 : Int32, v_1 = a0 - (((a0.toUInt32 >>> ((1 : Int32).toUInt32 &&& Int32.toUInt32 31)).toInt32) &&& (1431655765 : Int32)) →
  ∀ v_2 : Int32, v_2 = (v_1 &&& (858993459 : Int32)) + (((v_1.toUInt32 >>> ((2 : Int32).toUInt32 &&& Int32.toUInt32 31)).toInt32) &&& (858993459 : Int32)) →
  ∀ v_3 : Int32, v_3 = (v_2 + ((v_2.toUInt32 >>> ((4 : Int32).toUInt32 &&& Int32.toUInt32 31)).toInt32)) &&& (252645135 : Int32) →
  ∀ v_4 : Int32, v_4 = v_3 + ((v_3.toUInt32 >>> ((8 : Int32).toUInt32 &&& Int32.toUInt32 31)).toInt32) →
  ∀ v_5 : Int32, v_5 = v_4 + ((v_4.toUInt32 >>> ((16 : Int32).toUInt32 &&& Int32.toUInt32 31)).toInt32) →
  Q (v_5 &&& (63 : Int32)) h
set_option maxRecDepth 20000 in
theorem t_J6_bitCount_0f7a4 (a0 : Int32)  (h : Mem) (Q : Int32 → Mem → Prop) (hyp : f_J6_bitCount_0f7a4 a0 h Q) : Cn m_J6_bitCount_0f7a4 [.int a0] h (GI Q) := by
  refine ge_entry (lv := [(0, .int a0)]) pn_J6 (Nat.le_of_ble_eq_true rfl) rfl ?_
  unfold f_J6_bitCount_0f7a4 at hyp
  refine ge_iload_n a_J6_bitCount_0f7a4_0 rfl 0 rfl ?_
  refine ge_iload_n a_J6_bitCount_0f7a4_1 rfl 0 rfl ?_
  refine ge_iconst (v := 1) a_J6_bitCount_0f7a4_2 rfl ?_
  refine ge_iushr a_J6_bitCount_0f7a4_3 ?_
  refine ge_ldcw (v := 1431655765) a_J6_bitCount_0f7a4_4 ct_J6_265 ?_
  refine ge_iand a_J6_bitCount_0f7a4_7 ?_
  refine ge_isub a_J6_bitCount_0f7a4_8 ?_
  refine ge_topi (fun v_1 ev_1 => ?_)
  have hyp := hyp v_1 ev_1
  refine ge_istore_n (lv' := [(0, .int v_1)]) a_J6_bitCount_0f7a4_9 rfl (Nat.le_of_ble_eq_true rfl) rfl ?_
  refine ge_iload_n a_J6_bitCount_0f7a4_10 rfl 0 rfl ?_
  refine ge_ldcw (v := 858993459) a_J6_bitCount_0f7a4_11 ct_J6_266 ?_
  refine ge_iand a_J6_bitCount_0f7a4_14 ?_
  refine ge_iload_n a_J6_bitCount_0f7a4_15 rfl 0 rfl ?_
  refine ge_iconst (v := 2) a_J6_bitCount_0f7a4_16 rfl ?_
  refine ge_iushr a_J6_bitCount_0f7a4_17 ?_
  refine ge_ldcw (v := 858993459) a_J6_bitCount_0f7a4_18 ct_J6_266 ?_
  refine ge_iand a_J6_bitCount_0f7a4_21 ?_
  refine ge_iadd a_J6_bitCount_0f7a4_22 ?_
  refine ge_topi (fun v_2 ev_2 => ?_)
  have hyp := hyp v_2 ev_2
  refine ge_istore_n (lv' := [(0, .int v_2)]) a_J6_bitCount_0f7a4_23 rfl (Nat.le_of_ble_eq_true rfl) rfl ?_
  refine ge_iload_n a_J6_bitCount_0f7a4_24 rfl 0 rfl ?_
  refine ge_iload_n a_J6_bitCount_0f7a4_25 rfl 0 rfl ?_
  refine ge_iconst (v := 4) a_J6_bitCount_0f7a4_26 rfl ?_
  refine ge_iushr a_J6_bitCount_0f7a4_27 ?_
  refine ge_iadd a_J6_bitCount_0f7a4_28 ?_
  refine ge_ldcw (v := 252645135) a_J6_bitCount_0f7a4_29 ct_J6_267 ?_
  refine ge_iand a_J6_bitCount_0f7a4_32 ?_
  refine ge_topi (fun v_3 ev_3 => ?_)
  have hyp := hyp v_3 ev_3
  refine ge_istore_n (lv' := [(0, .int v_3)]) a_J6_bitCount_0f7a4_33 rfl (Nat.le_of_ble_eq_true rfl) rfl ?_
  refine ge_iload_n a_J6_bitCount_0f7a4_34 rfl 0 rfl ?_
  refine ge_iload_n a_J6_bitCount_0f7a4_35 rfl 0 rfl ?_
  refine ge_bipush (v := 8) a_J6_bitCount_0f7a4_36 rfl ?_
  refine ge_iushr a_J6_bitCount_0f7a4_38 ?_
  refine ge_iadd a_J6_bitCount_0f7a4_39 ?_
  refine ge_topi (fun v_4 ev_4 => ?_)
  have hyp := hyp v_4 ev_4
  refine ge_istore_n (lv' := [(0, .int v_4)]) a_J6_bitCount_0f7a4_40 rfl (Nat.le_of_ble_eq_true rfl) rfl ?_
  refine ge_iload_n a_J6_bitCount_0f7a4_41 rfl 0 rfl ?_
  refine ge_iload_n a_J6_bitCount_0f7a4_42 rfl 0 rfl ?_
  refine ge_bipush (v := 16) a_J6_bitCount_0f7a4_43 rfl ?_
  refine ge_iushr a_J6_bitCount_0f7a4_45 ?_
  refine ge_iadd a_J6_bitCount_0f7a4_46 ?_
  refine ge_topi (fun v_5 ev_5 => ?_)
  have hyp := hyp v_5 ev_5
  refine ge_istore_n (lv' := [(0, .int v_5)]) a_J6_bitCount_0f7a4_47 rfl (Nat.le_of_ble_eq_true rfl) rfl ?_
  refine ge_iload_n a_J6_bitCount_0f7a4_48 rfl 0 rfl ?_
  refine ge_bipush (v := 63) a_J6_bitCount_0f7a4_49 rfl ?_
  refine ge_iand a_J6_bitCount_0f7a4_51 ?_
  exact ge_iret rfl a_J6_bitCount_0f7a4_52 hyp

theorem a_X4_easedBy_0 : At m_X4_easedBy 0 (.iconst 0) 1 1 := at_i (by decide +kernel) rfl
theorem a_X4_easedBy_1 : At m_X4_easedBy 1 (.istore_n 3) 1 2 := at_i (by decide +kernel) rfl
theorem a_X4_easedBy_2 : At m_X4_easedBy 2 (.iconst 0) 1 3 := at_i (by decide +kernel) rfl
theorem a_X4_easedBy_3 : At m_X4_easedBy 3 (.istore 4) 2 5 := at_i (by decide +kernel) rfl
theorem a_X4_easedBy_5 : At m_X4_easedBy 5 (.iload 4) 2 7 := at_i (by decide +kernel) rfl
theorem a_X4_easedBy_7 : At m_X4_easedBy 7 (.iload_n 2) 1 8 := at_i (by decide +kernel) rfl
theorem a_X4_easedBy_8 : AtJ m_X4_easedBy 8 (.if_icmp .ge 29) (29) 37 11 := at_j (by decide +kernel) (by decide) rfl
theorem a_X4_easedBy_11 : At m_X4_easedBy 11 (.iload_n 1) 1 12 := at_i (by decide +kernel) rfl
theorem a_X4_easedBy_12 : At m_X4_easedBy 12 (.iload 4) 2 14 := at_i (by decide +kernel) rfl
theorem a_X4_easedBy_14 : At m_X4_easedBy 14 (.ishr) 1 15 := at_i (by decide +kernel) rfl
theorem a_X4_easedBy_15 : At m_X4_easedBy 15 (.iconst 1) 1 16 := at_i (by decide +kernel) rfl
theorem a_X4_easedBy_16 : At m_X4_easedBy 16 (.iand) 1 17 := at_i (by decide +kernel) rfl
theorem a_X4_easedBy_17 : At m_X4_easedBy 17 (.iconst 1) 1 18 := at_i (by decide +kernel) rfl
theorem a_X4_easedBy_18 : AtJ m_X4_easedBy 18 (.if_icmp .ne 13) (13) 31 21 := at_j (by decide +kernel) (by decide) rfl
theorem a_X4_easedBy_21 : At m_X4_easedBy 21 (.iload_n 3) 1 22 := at_i (by decide +kernel) rfl
theorem a_X4_easedBy_22 : At m_X4_easedBy 22 (.aload_n 0) 1 23 := at_i (by decide +kernel) rfl
theorem a_X4_easedBy_23 : At m_X4_easedBy 23 (.getfield 18) 3 26 := at_i (by decide +kernel) rfl
theorem a_X4_easedBy_26 : At m_X4_easedBy 26 (.iload 4) 2 28 := at_i (by decide +kernel) rfl
theorem a_X4_easedBy_28 : At m_X4_easedBy 28 (.iaload) 1 29 := at_i (by decide +kernel) rfl
theorem a_X4_easedBy_29 : At m_X4_easedBy 29 (.iadd) 1 30 := at_i (by decide +kernel) rfl
theorem a_X4_easedBy_30 : At m_X4_easedBy 30 (.istore_n 3) 1 31 := at_i (by decide +kernel) rfl
theorem a_X4_easedBy_31 : At m_X4_easedBy 31 (.iinc 4 1) 3 34 := at_i (by decide +kernel) rfl
theorem a_X4_easedBy_34 : AtJ m_X4_easedBy 34 (.goto (-29)) (-29) 5 37 := at_j (by decide +kernel) (by decide) rfl
theorem a_X4_easedBy_37 : At m_X4_easedBy 37 (.iload_n 3) 1 38 := at_i (by decide +kernel) rfl
theorem a_X4_easedBy_38 : At m_X4_easedBy 38 (.ireturn) 1 39 := at_i (by decide +kernel) rfl
def f_X4_easedBy_b5 (a1 : Int32) (a2 : Int32)  (Q : Int32 → Mem → Prop)  (K5 : Int32 → Int32 → Mem → Prop) (v3 : Int32) (v4 : Int32) (h : Mem) : Prop :=
  if a2 ≤ v4 then (
    Q v3 h)
  else (
    if (a1 >>> (v4 &&& 31)) &&& (1 : Int32) = (1 : Int32) then (
      vp_in v4 12 ∧
      ∀ v_5 : Int32, v_5 = v3 + (h 25 v4.toNatClampNeg) →
      ∀ v_6 : Int32, v_6 = v4 + (1 : Int32) →
      K5 v_5 v_6 h)
    else (
      ∀ v_3 : Int32, v_3 = v4 + (1 : Int32) →
      K5 v3 v_3 h))
set_option maxRecDepth 20000 in
theorem t_X4_easedBy_b5 (a1 : Int32) (a2 : Int32)    (Q : Int32 → Mem → Prop)   : ∀ (n : Nat) (v3 : Int32) (v4 : Int32) (h : Mem), gm_it2 (f_X4_easedBy_b5 a1 a2  Q ) n v3 v4 h → EV m_X4_easedBy (GI Q) 5 [(0, .ref 23), (1, .int a1), (2, .int a2), (3, .int v3), (4, .int v4)] [] h := by
  refine ge_loop2 (P := fun v3 v4 h => EV m_X4_easedBy (GI Q) 5 [(0, .ref 23), (1, .int a1), (2, .int a2), (3, .int v3), (4, .int v4)] [] h) (fun K5 hK5 v3 v4 h hyp => ?_)
  unfold f_X4_easedBy_b5 at hyp
  refine ge_iload a_X4_easedBy_5 4 rfl ?_
  refine ge_iload_n a_X4_easedBy_7 rfl 2 rfl ?_
  refine ge_icmp_ge a_X4_easedBy_8 (fun c_1 => ?_) (fun c_1 => ?_)
  · have hyp := gm_ip hyp c_1
    refine ge_iload_n a_X4_easedBy_37 rfl 3 rfl ?_
    exact ge_iret rfl a_X4_easedBy_38 hyp
  · have hyp := gm_in hyp c_1
    refine ge_iload_n a_X4_easedBy_11 rfl 1 rfl ?_
    refine ge_iload a_X4_easedBy_12 4 rfl ?_
    refine ge_ishr a_X4_easedBy_14 ?_
    refine ge_iconst (v := 1) a_X4_easedBy_15 rfl ?_
    refine ge_iand a_X4_easedBy_16 ?_
    refine ge_iconst (v := 1) a_X4_easedBy_17 rfl ?_
    refine ge_icmp_ne a_X4_easedBy_18 (fun c_2 => ?_) (fun c_2 => ?_)
    · have hyp := gm_in hyp c_2
      obtain ⟨v_3, ev_3⟩ : ∃ y : Int32, y = v4 + (1 : Int32) := ⟨_, rfl⟩
      have hyp := hyp v_3 ev_3
      refine ge_iinc (v := v_3) (lv' := [(4, .int v_3), (0, .ref 23), (1, .int a1), (2, .int a2), (3, .int v3)]) a_X4_easedBy_31 4 rfl ev_3.symm (Nat.le_of_ble_eq_true rfl) rfl ?_
      refine ge_goto a_X4_easedBy_34 ?_
      exact ge_sub [1, 2, 3, 4, 0] rfl (hK5 v3 v_3 h hyp)
    · have hyp := gm_ip hyp c_2
      refine ge_iload_n a_X4_easedBy_21 rfl 3 rfl ?_
      refine ge_aload_n a_X4_easedBy_22 rfl 0 rfl ?_
      refine ge_getR (q := 25) a_X4_easedBy_23 fd_X4_18 (rfl : gm_cls 23 = 3) rfl ?_
      refine ge_iload a_X4_easedBy_26 4 rfl ?_
      obtain ⟨b_4, hyp⟩ := hyp
      refine ge_iald (j := v4.toNatClampNeg) a_X4_easedBy_28 ga_25 b_4 rfl ?_
      refine ge_iadd a_X4_easedBy_29 ?_
      refine ge_topi (fun v_5 ev_5 => ?_)
      have hyp := hyp v_5 ev_5
      refine ge_istore_n (lv' := [(3, .int v_5), (0, .ref 23), (1, .int a1), (2, .int a2), (4, .int v4)]) a_X4_easedBy_30 rfl (Nat.le_of_ble_eq_true rfl) rfl ?_
      obtain ⟨v_6, ev_6⟩ : ∃ y : Int32, y = v4 + (1 : Int32) := ⟨_, rfl⟩
      have hyp := hyp v_6 ev_6
      refine ge_iinc (v := v_6) (lv' := [(4, .int v_6), (3, .int v_5), (0, .ref 23), (1, .int a1), (2, .int a2)]) a_X4_easedBy_31 4 rfl ev_6.symm (Nat.le_of_ble_eq_true rfl) rfl ?_
      refine ge_goto a_X4_easedBy_34 ?_
      exact ge_sub [2, 3, 4, 1, 0] rfl (hK5 v_5 v_6 h hyp)
def f_X4_easedBy (a1 : Int32) (a2 : Int32) (h : Mem) (Q : Int32 → Mem → Prop) : Prop :=
  gm_it2 (f_X4_easedBy_b5 a1 a2  Q ) gm_F (0 : Int32) (0 : Int32) h
set_option maxRecDepth 20000 in
theorem t_X4_easedBy (a1 : Int32) (a2 : Int32)  (h : Mem) (Q : Int32 → Mem → Prop) (hyp : f_X4_easedBy a1 a2 h Q) : Cn m_X4_easedBy [.ref 23, .int a1, .int a2] h (GI Q) := by
  refine ge_entry (lv := [(0, .ref 23), (1, .int a1), (2, .int a2)]) pn_X4 (Nat.le_of_ble_eq_true rfl) rfl ?_
  unfold f_X4_easedBy at hyp
  refine ge_iconst (v := 0) a_X4_easedBy_0 rfl ?_
  refine ge_istore_n (lv' := [(3, .int (0 : Int32)), (0, .ref 23), (1, .int a1), (2, .int a2)]) a_X4_easedBy_1 rfl (Nat.le_of_ble_eq_true rfl) rfl ?_
  refine ge_iconst (v := 0) a_X4_easedBy_2 rfl ?_
  refine ge_istore (lv' := [(4, .int (0 : Int32)), (3, .int (0 : Int32)), (0, .ref 23), (1, .int a1), (2, .int a2)]) a_X4_easedBy_3 (Nat.le_of_ble_eq_true rfl) rfl ?_
  exact ge_sub [2, 3, 4, 1, 0] rfl (t_X4_easedBy_b5 a1 a2    Q   gm_F (0 : Int32) (0 : Int32) h hyp)

theorem a_X6_tripsAhead_0 : At m_X6_tripsAhead 0 (.iconst 0) 1 1 := at_i (by decide +kernel) rfl
theorem a_X6_tripsAhead_1 : At m_X6_tripsAhead 1 (.istore_n 1) 1 2 := at_i (by decide +kernel) rfl
theorem a_X6_tripsAhead_2 : At m_X6_tripsAhead 2 (.aload_n 0) 1 3 := at_i (by decide +kernel) rfl
theorem a_X6_tripsAhead_3 : At m_X6_tripsAhead 3 (.getfield 49) 3 6 := at_i (by decide +kernel) rfl
theorem a_X6_tripsAhead_6 : At m_X6_tripsAhead 6 (.istore_n 2) 1 7 := at_i (by decide +kernel) rfl
theorem a_X6_tripsAhead_7 : At m_X6_tripsAhead 7 (.iload_n 2) 1 8 := at_i (by decide +kernel) rfl
theorem a_X6_tripsAhead_8 : At m_X6_tripsAhead 8 (.aload_n 0) 1 9 := at_i (by decide +kernel) rfl
theorem a_X6_tripsAhead_9 : At m_X6_tripsAhead 9 (.getfield 46) 3 12 := at_i (by decide +kernel) rfl
theorem a_X6_tripsAhead_12 : AtJ m_X6_tripsAhead 12 (.if_icmp .ge 17) (17) 29 15 := at_j (by decide +kernel) (by decide) rfl
theorem a_X6_tripsAhead_15 : At m_X6_tripsAhead 15 (.iload_n 1) 1 16 := at_i (by decide +kernel) rfl
theorem a_X6_tripsAhead_16 : At m_X6_tripsAhead 16 (.aload_n 0) 1 17 := at_i (by decide +kernel) rfl
theorem a_X6_tripsAhead_17 : At m_X6_tripsAhead 17 (.iload_n 2) 1 18 := at_i (by decide +kernel) rfl
theorem a_X6_tripsAhead_18 : At m_X6_tripsAhead 18 (.invokevirtual 87) 3 21 := at_i (by decide +kernel) rfl
theorem a_X6_tripsAhead_21 : At m_X6_tripsAhead 21 (.iadd) 1 22 := at_i (by decide +kernel) rfl
theorem a_X6_tripsAhead_22 : At m_X6_tripsAhead 22 (.istore_n 1) 1 23 := at_i (by decide +kernel) rfl
theorem a_X6_tripsAhead_23 : At m_X6_tripsAhead 23 (.iinc 2 1) 3 26 := at_i (by decide +kernel) rfl
theorem a_X6_tripsAhead_26 : AtJ m_X6_tripsAhead 26 (.goto (-19)) (-19) 7 29 := at_j (by decide +kernel) (by decide) rfl
theorem a_X6_tripsAhead_29 : At m_X6_tripsAhead 29 (.iload_n 1) 1 30 := at_i (by decide +kernel) rfl
theorem a_X6_tripsAhead_30 : At m_X6_tripsAhead 30 (.ireturn) 1 31 := at_i (by decide +kernel) rfl
def f_X6_tripsAhead_b7 (k0 : Nat)  (Q : Int32 → Mem → Prop)  (K7 : Int32 → Int32 → Mem → Prop) (v1 : Int32) (v2 : Int32) (h : Mem) : Prop :=
  if h k0 5 ≤ v2 then (
    Q v1 h)
  else (
    f_X6_tripsOf k0 v2 h fun r_4 h_3 =>
    ∀ v_5 : Int32, v_5 = v1 + r_4 →
    ∀ v_6 : Int32, v_6 = v2 + (1 : Int32) →
    K7 v_5 v_6 h_3)
set_option maxRecDepth 20000 in
theorem t_X6_tripsAhead_b7 (k0 : Nat)  (hk0 : gm_cls k0 = 5)  (Q : Int32 → Mem → Prop)   : ∀ (n : Nat) (v1 : Int32) (v2 : Int32) (h : Mem), gm_it2 (f_X6_tripsAhead_b7 k0  Q ) n v1 v2 h → EV m_X6_tripsAhead (GI Q) 7 [(0, .ref k0), (1, .int v1), (2, .int v2)] [] h := by
  refine ge_loop2 (P := fun v1 v2 h => EV m_X6_tripsAhead (GI Q) 7 [(0, .ref k0), (1, .int v1), (2, .int v2)] [] h) (fun K7 hK7 v1 v2 h hyp => ?_)
  unfold f_X6_tripsAhead_b7 at hyp
  refine ge_iload_n a_X6_tripsAhead_7 rfl 2 rfl ?_
  refine ge_aload_n a_X6_tripsAhead_8 rfl 0 rfl ?_
  refine ge_getI a_X6_tripsAhead_9 fd_X6_46 hk0 ?_
  refine ge_icmp_ge a_X6_tripsAhead_12 (fun c_2 => ?_) (fun c_2 => ?_)
  · have hyp := gm_ip hyp c_2
    refine ge_iload_n a_X6_tripsAhead_29 rfl 1 rfl ?_
    exact ge_iret rfl a_X6_tripsAhead_30 hyp
  · have hyp := gm_in hyp c_2
    refine ge_iload_n a_X6_tripsAhead_15 rfl 1 rfl ?_
    refine ge_aload_n a_X6_tripsAhead_16 rfl 0 rfl ?_
    refine ge_iload_n a_X6_tripsAhead_17 rfl 2 rfl ?_
    refine ge_cVI [.int v2] (rest := [.int v1]) a_X6_tripsAhead_18 ok_X6_tripsOf lk_X6_87 ⟨Nat.le_of_ble_eq_true rfl, Nat.le_of_ble_eq_true rfl⟩ hk0 vc_5 (by decide) rfl rfl (Nat.le_of_ble_eq_true rfl) (t_X6_tripsOf k0 v2 hk0 h _ hyp) (fun r_4 h_3 hyp => ?_)
    refine ge_iadd a_X6_tripsAhead_21 ?_
    refine ge_topi (fun v_5 ev_5 => ?_)
    have hyp := hyp v_5 ev_5
    refine ge_istore_n (lv' := [(1, .int v_5), (0, .ref k0), (2, .int v2)]) a_X6_tripsAhead_22 rfl (Nat.le_of_ble_eq_true rfl) rfl ?_
    obtain ⟨v_6, ev_6⟩ : ∃ y : Int32, y = v2 + (1 : Int32) := ⟨_, rfl⟩
    have hyp := hyp v_6 ev_6
    refine ge_iinc (v := v_6) (lv' := [(2, .int v_6), (1, .int v_5), (0, .ref k0)]) a_X6_tripsAhead_23 2 rfl ev_6.symm (Nat.le_of_ble_eq_true rfl) rfl ?_
    refine ge_goto a_X6_tripsAhead_26 ?_
    exact ge_sub [2, 1, 0] rfl (hK7 v_5 v_6 h_3 hyp)
def f_X6_tripsAhead (k0 : Nat) (h : Mem) (Q : Int32 → Mem → Prop) : Prop :=
  ∀ v_1 : Int32, v_1 = h k0 6 →
  gm_it2 (f_X6_tripsAhead_b7 k0  Q ) gm_F (0 : Int32) v_1 h
set_option maxRecDepth 20000 in
theorem t_X6_tripsAhead (k0 : Nat) (hk0 : gm_cls k0 = 5) (h : Mem) (Q : Int32 → Mem → Prop) (hyp : f_X6_tripsAhead k0 h Q) : Cn m_X6_tripsAhead [.ref k0] h (GI Q) := by
  refine ge_entry (lv := [(0, .ref k0)]) pn_X6 (Nat.le_of_ble_eq_true rfl) rfl ?_
  unfold f_X6_tripsAhead at hyp
  refine ge_iconst (v := 0) a_X6_tripsAhead_0 rfl ?_
  refine ge_istore_n (lv' := [(1, .int (0 : Int32)), (0, .ref k0)]) a_X6_tripsAhead_1 rfl (Nat.le_of_ble_eq_true rfl) rfl ?_
  refine ge_aload_n a_X6_tripsAhead_2 rfl 1 rfl ?_
  refine ge_getI a_X6_tripsAhead_3 fd_X6_49 hk0 ?_
  refine ge_topi (fun v_1 ev_1 => ?_)
  have hyp := hyp v_1 ev_1
  refine ge_istore_n (lv' := [(2, .int v_1), (1, .int (0 : Int32)), (0, .ref k0)]) a_X6_tripsAhead_6 rfl (Nat.le_of_ble_eq_true rfl) rfl ?_
  exact ge_sub [2, 1, 0] rfl (t_X6_tripsAhead_b7 k0  hk0  Q   gm_F (0 : Int32) v_1 h hyp)

theorem a_X4_fewestEased_0 : At m_X4_fewestEased 0 (.aload_n 1) 1 1 := at_i (by decide +kernel) rfl
theorem a_X4_fewestEased_1 : At m_X4_fewestEased 1 (.invokevirtual 30) 3 4 := at_i (by decide +kernel) rfl
theorem a_X4_fewestEased_4 : At m_X4_fewestEased 4 (.istore_n 3) 1 5 := at_i (by decide +kernel) rfl
theorem a_X4_fewestEased_5 : At m_X4_fewestEased 5 (.iconst 0) 1 6 := at_i (by decide +kernel) rfl
theorem a_X4_fewestEased_6 : At m_X4_fewestEased 6 (.istore 4) 2 8 := at_i (by decide +kernel) rfl
theorem a_X4_fewestEased_8 : At m_X4_fewestEased 8 (.iload 4) 2 10 := at_i (by decide +kernel) rfl
theorem a_X4_fewestEased_10 : At m_X4_fewestEased 10 (.iload_n 3) 1 11 := at_i (by decide +kernel) rfl
theorem a_X4_fewestEased_11 : AtJ m_X4_fewestEased 11 (.if_icmp .ge 65) (65) 76 14 := at_j (by decide +kernel) (by decide) rfl
theorem a_X4_fewestEased_14 : At m_X4_fewestEased 14 (.aload_n 1) 1 15 := at_i (by decide +kernel) rfl
theorem a_X4_fewestEased_15 : At m_X4_fewestEased 15 (.getfield 80) 3 18 := at_i (by decide +kernel) rfl
theorem a_X4_fewestEased_18 : At m_X4_fewestEased 18 (.iload 4) 2 20 := at_i (by decide +kernel) rfl
theorem a_X4_fewestEased_20 : At m_X4_fewestEased 20 (.iadd) 1 21 := at_i (by decide +kernel) rfl
theorem a_X4_fewestEased_21 : At m_X4_fewestEased 21 (.istore 5) 2 23 := at_i (by decide +kernel) rfl
theorem a_X4_fewestEased_23 : At m_X4_fewestEased 23 (.aload_n 1) 1 24 := at_i (by decide +kernel) rfl
theorem a_X4_fewestEased_24 : At m_X4_fewestEased 24 (.getfield 40) 3 27 := at_i (by decide +kernel) rfl
theorem a_X4_fewestEased_27 : At m_X4_fewestEased 27 (.bipush 7) 2 29 := at_i (by decide +kernel) rfl
theorem a_X4_fewestEased_29 : At m_X4_fewestEased 29 (.iaload) 1 30 := at_i (by decide +kernel) rfl
theorem a_X4_fewestEased_30 : At m_X4_fewestEased 30 (.istore 6) 2 32 := at_i (by decide +kernel) rfl
theorem a_X4_fewestEased_32 : At m_X4_fewestEased 32 (.aload_n 1) 1 33 := at_i (by decide +kernel) rfl
theorem a_X4_fewestEased_33 : At m_X4_fewestEased 33 (.getfield 40) 3 36 := at_i (by decide +kernel) rfl
theorem a_X4_fewestEased_36 : At m_X4_fewestEased 36 (.bipush 6) 2 38 := at_i (by decide +kernel) rfl
theorem a_X4_fewestEased_38 : At m_X4_fewestEased 38 (.iaload) 1 39 := at_i (by decide +kernel) rfl
theorem a_X4_fewestEased_39 : At m_X4_fewestEased 39 (.istore 7) 2 41 := at_i (by decide +kernel) rfl
theorem a_X4_fewestEased_41 : At m_X4_fewestEased 41 (.aload_n 0) 1 42 := at_i (by decide +kernel) rfl
theorem a_X4_fewestEased_42 : At m_X4_fewestEased 42 (.getfield 18) 3 45 := at_i (by decide +kernel) rfl
theorem a_X4_fewestEased_45 : At m_X4_fewestEased 45 (.iload 4) 2 47 := at_i (by decide +kernel) rfl
theorem a_X4_fewestEased_47 : At m_X4_fewestEased 47 (.aload_n 1) 1 48 := at_i (by decide +kernel) rfl
theorem a_X4_fewestEased_48 : At m_X4_fewestEased 48 (.iload 5) 2 50 := at_i (by decide +kernel) rfl
theorem a_X4_fewestEased_50 : At m_X4_fewestEased 50 (.invokevirtual 74) 3 53 := at_i (by decide +kernel) rfl
theorem a_X4_fewestEased_53 : At m_X4_fewestEased 53 (.aload_n 1) 1 54 := at_i (by decide +kernel) rfl
theorem a_X4_fewestEased_54 : At m_X4_fewestEased 54 (.getfield 77) 3 57 := at_i (by decide +kernel) rfl
theorem a_X4_fewestEased_57 : At m_X4_fewestEased 57 (.iload 5) 2 59 := at_i (by decide +kernel) rfl
theorem a_X4_fewestEased_59 : At m_X4_fewestEased 59 (.iaload) 1 60 := at_i (by decide +kernel) rfl
theorem a_X4_fewestEased_60 : At m_X4_fewestEased 60 (.iconst 0) 1 61 := at_i (by decide +kernel) rfl
theorem a_X4_fewestEased_61 : At m_X4_fewestEased 61 (.iload 6) 2 63 := at_i (by decide +kernel) rfl
theorem a_X4_fewestEased_63 : At m_X4_fewestEased 63 (.iload 7) 2 65 := at_i (by decide +kernel) rfl
theorem a_X4_fewestEased_65 : At m_X4_fewestEased 65 (.invokestatic 83) 3 68 := at_i (by decide +kernel) rfl
theorem a_X4_fewestEased_68 : At m_X4_fewestEased 68 (.isub) 1 69 := at_i (by decide +kernel) rfl
theorem a_X4_fewestEased_69 : At m_X4_fewestEased 69 (.iastore) 1 70 := at_i (by decide +kernel) rfl
theorem a_X4_fewestEased_70 : At m_X4_fewestEased 70 (.iinc 4 1) 3 73 := at_i (by decide +kernel) rfl
theorem a_X4_fewestEased_73 : AtJ m_X4_fewestEased 73 (.goto (-65)) (-65) 8 76 := at_j (by decide +kernel) (by decide) rfl
theorem a_X4_fewestEased_76 : At m_X4_fewestEased 76 (.aload_n 1) 1 77 := at_i (by decide +kernel) rfl
theorem a_X4_fewestEased_77 : At m_X4_fewestEased 77 (.invokevirtual 89) 3 80 := at_i (by decide +kernel) rfl
theorem a_X4_fewestEased_80 : At m_X4_fewestEased 80 (.iload_n 2) 1 81 := at_i (by decide +kernel) rfl
theorem a_X4_fewestEased_81 : At m_X4_fewestEased 81 (.isub) 1 82 := at_i (by decide +kernel) rfl
theorem a_X4_fewestEased_82 : At m_X4_fewestEased 82 (.istore 4) 2 84 := at_i (by decide +kernel) rfl
theorem a_X4_fewestEased_84 : At m_X4_fewestEased 84 (.iconst (-1)) 1 85 := at_i (by decide +kernel) rfl
theorem a_X4_fewestEased_85 : At m_X4_fewestEased 85 (.istore 5) 2 87 := at_i (by decide +kernel) rfl
theorem a_X4_fewestEased_87 : At m_X4_fewestEased 87 (.iload_n 3) 1 88 := at_i (by decide +kernel) rfl
theorem a_X4_fewestEased_88 : At m_X4_fewestEased 88 (.iconst 1) 1 89 := at_i (by decide +kernel) rfl
theorem a_X4_fewestEased_89 : At m_X4_fewestEased 89 (.iadd) 1 90 := at_i (by decide +kernel) rfl
theorem a_X4_fewestEased_90 : At m_X4_fewestEased 90 (.istore 6) 2 92 := at_i (by decide +kernel) rfl
theorem a_X4_fewestEased_92 : At m_X4_fewestEased 92 (.iconst 0) 1 93 := at_i (by decide +kernel) rfl
theorem a_X4_fewestEased_93 : At m_X4_fewestEased 93 (.istore 7) 2 95 := at_i (by decide +kernel) rfl
theorem a_X4_fewestEased_95 : At m_X4_fewestEased 95 (.iload 7) 2 97 := at_i (by decide +kernel) rfl
theorem a_X4_fewestEased_97 : At m_X4_fewestEased 97 (.iconst 1) 1 98 := at_i (by decide +kernel) rfl
theorem a_X4_fewestEased_98 : At m_X4_fewestEased 98 (.iload_n 3) 1 99 := at_i (by decide +kernel) rfl
theorem a_X4_fewestEased_99 : At m_X4_fewestEased 99 (.ishl) 1 100 := at_i (by decide +kernel) rfl
theorem a_X4_fewestEased_100 : AtJ m_X4_fewestEased 100 (.if_icmp .ge 48) (48) 148 103 := at_j (by decide +kernel) (by decide) rfl
theorem a_X4_fewestEased_103 : At m_X4_fewestEased 103 (.iload 7) 2 105 := at_i (by decide +kernel) rfl
theorem a_X4_fewestEased_105 : At m_X4_fewestEased 105 (.invokestatic 92) 3 108 := at_i (by decide +kernel) rfl
theorem a_X4_fewestEased_108 : At m_X4_fewestEased 108 (.istore 8) 2 110 := at_i (by decide +kernel) rfl
theorem a_X4_fewestEased_110 : At m_X4_fewestEased 110 (.iload 8) 2 112 := at_i (by decide +kernel) rfl
theorem a_X4_fewestEased_112 : At m_X4_fewestEased 112 (.iload 6) 2 114 := at_i (by decide +kernel) rfl
theorem a_X4_fewestEased_114 : AtJ m_X4_fewestEased 114 (.if_icmp .ge 28) (28) 142 117 := at_j (by decide +kernel) (by decide) rfl
theorem a_X4_fewestEased_117 : At m_X4_fewestEased 117 (.aload_n 0) 1 118 := at_i (by decide +kernel) rfl
theorem a_X4_fewestEased_118 : At m_X4_fewestEased 118 (.iload 7) 2 120 := at_i (by decide +kernel) rfl
theorem a_X4_fewestEased_120 : At m_X4_fewestEased 120 (.iload_n 3) 1 121 := at_i (by decide +kernel) rfl
theorem a_X4_fewestEased_121 : At m_X4_fewestEased 121 (.invokevirtual 97) 3 124 := at_i (by decide +kernel) rfl
theorem a_X4_fewestEased_124 : At m_X4_fewestEased 124 (.iload 4) 2 126 := at_i (by decide +kernel) rfl
theorem a_X4_fewestEased_126 : AtJ m_X4_fewestEased 126 (.if_icmp .lt 16) (16) 142 129 := at_j (by decide +kernel) (by decide) rfl
theorem a_X4_fewestEased_129 : At m_X4_fewestEased 129 (.iload 8) 2 131 := at_i (by decide +kernel) rfl
theorem a_X4_fewestEased_131 : At m_X4_fewestEased 131 (.istore 6) 2 133 := at_i (by decide +kernel) rfl
theorem a_X4_fewestEased_133 : At m_X4_fewestEased 133 (.iload 7) 2 135 := at_i (by decide +kernel) rfl
theorem a_X4_fewestEased_135 : At m_X4_fewestEased 135 (.aload_n 1) 1 136 := at_i (by decide +kernel) rfl
theorem a_X4_fewestEased_136 : At m_X4_fewestEased 136 (.getfield 80) 3 139 := at_i (by decide +kernel) rfl
theorem a_X4_fewestEased_139 : At m_X4_fewestEased 139 (.ishl) 1 140 := at_i (by decide +kernel) rfl
theorem a_X4_fewestEased_140 : At m_X4_fewestEased 140 (.istore 5) 2 142 := at_i (by decide +kernel) rfl
theorem a_X4_fewestEased_142 : At m_X4_fewestEased 142 (.iinc 7 1) 3 145 := at_i (by decide +kernel) rfl
theorem a_X4_fewestEased_145 : AtJ m_X4_fewestEased 145 (.goto (-50)) (-50) 95 148 := at_j (by decide +kernel) (by decide) rfl
theorem a_X4_fewestEased_148 : At m_X4_fewestEased 148 (.iload 5) 2 150 := at_i (by decide +kernel) rfl
theorem a_X4_fewestEased_150 : At m_X4_fewestEased 150 (.ireturn) 1 151 := at_i (by decide +kernel) rfl
def f_X4_fewestEased_b95 (a2 : Int32) (r_2 : Int32) (v_6 : Int32) (Q : Int32 → Mem → Prop)  (K95 : Int32 → Int32 → Int32 → Mem → Prop) (v5 : Int32) (v6 : Int32) (v7 : Int32) (h : Mem) : Prop :=
  if (1 : Int32) <<< (r_2 &&& 31) ≤ v7 then (
    Q v5 h)
  else (
    f_J6_bitCount_0f7a4 v7 h fun r_10 h_9 =>
    if v6 ≤ r_10 then (
      ∀ v_12 : Int32, v_12 = v7 + (1 : Int32) →
      K95 v5 v6 v_12 h_9)
    else (
      f_X4_easedBy v7 r_2 h_9 fun r_14 h_13 =>
      if r_14 < v_6 then (
        ∀ v_16 : Int32, v_16 = v7 + (1 : Int32) →
        K95 v5 v6 v_16 h_13)
      else (
        ∀ v_17 : Int32, v_17 = v7 <<< ((h_13 1 6) &&& 31) →
        ∀ v_18 : Int32, v_18 = v7 + (1 : Int32) →
        K95 v_17 r_10 v_18 h_13)))
set_option maxRecDepth 20000 in
theorem t_X4_fewestEased_b95 (a2 : Int32) (r_2 : Int32) (v_6 : Int32)   (Q : Int32 → Mem → Prop)   : ∀ (n : Nat) (v5 : Int32) (v6 : Int32) (v7 : Int32) (h : Mem), gm_it3 (f_X4_fewestEased_b95 a2 r_2 v_6 Q ) n v5 v6 v7 h → EV m_X4_fewestEased (GI Q) 95 [(0, .ref 23), (1, .ref 1), (3, .int r_2), (4, .int v_6), (5, .int v5), (6, .int v6), (7, .int v7)] [] h := by
  refine ge_loop3 (P := fun v5 v6 v7 h => EV m_X4_fewestEased (GI Q) 95 [(0, .ref 23), (1, .ref 1), (3, .int r_2), (4, .int v_6), (5, .int v5), (6, .int v6), (7, .int v7)] [] h) (fun K95 hK95 v5 v6 v7 h hyp => ?_)
  unfold f_X4_fewestEased_b95 at hyp
  refine ge_iload a_X4_fewestEased_95 6 rfl ?_
  refine ge_iconst (v := 1) a_X4_fewestEased_97 rfl ?_
  refine ge_iload_n a_X4_fewestEased_98 rfl 2 rfl ?_
  refine ge_ishl a_X4_fewestEased_99 ?_
  refine ge_icmp_ge a_X4_fewestEased_100 (fun c_8 => ?_) (fun c_8 => ?_)
  · have hyp := gm_ip hyp c_8
    refine ge_iload a_X4_fewestEased_148 4 rfl ?_
    exact ge_iret rfl a_X4_fewestEased_150 hyp
  · have hyp := gm_in hyp c_8
    refine ge_iload a_X4_fewestEased_103 6 rfl ?_
    refine ge_cSI [.int v7] (rest := []) a_X4_fewestEased_105 ok_J6_bitCount_0f7a4 lk_X4_92 ⟨Nat.le_of_ble_eq_true rfl, Nat.le_of_ble_eq_true rfl⟩ rfl rfl (Nat.le_of_ble_eq_true rfl) (t_J6_bitCount_0f7a4 v7  h _ hyp) (fun r_10 h_9 hyp => ?_)
    refine ge_istore (lv' := [(8, .int r_10), (0, .ref 23), (1, .ref 1), (3, .int r_2), (4, .int v_6), (5, .int v5), (6, .int v6), (7, .int v7)]) a_X4_fewestEased_108 (Nat.le_of_ble_eq_true rfl) rfl ?_
    refine ge_iload a_X4_fewestEased_110 0 rfl ?_
    refine ge_iload a_X4_fewestEased_112 6 rfl ?_
    refine ge_icmp_ge a_X4_fewestEased_114 (fun c_11 => ?_) (fun c_11 => ?_)
    · have hyp := gm_ip hyp c_11
      obtain ⟨v_12, ev_12⟩ : ∃ y : Int32, y = v7 + (1 : Int32) := ⟨_, rfl⟩
      have hyp := hyp v_12 ev_12
      refine ge_iinc (v := v_12) (lv' := [(7, .int v_12), (8, .int r_10), (0, .ref 23), (1, .ref 1), (3, .int r_2), (4, .int v_6), (5, .int v5), (6, .int v6)]) a_X4_fewestEased_142 7 rfl ev_12.symm (Nat.le_of_ble_eq_true rfl) rfl ?_
      refine ge_goto a_X4_fewestEased_145 ?_
      exact ge_sub [2, 3, 4, 5, 6, 7, 0] rfl (hK95 v5 v6 v_12 h_9 hyp)
    · have hyp := gm_in hyp c_11
      refine ge_aload_n a_X4_fewestEased_117 rfl 1 rfl ?_
      refine ge_iload a_X4_fewestEased_118 7 rfl ?_
      refine ge_iload_n a_X4_fewestEased_120 rfl 3 rfl ?_
      refine ge_cVI [.int v7, .int r_2] (rest := []) a_X4_fewestEased_121 ok_X4_easedBy lk_X4_97 ⟨Nat.le_of_ble_eq_true rfl, Nat.le_of_ble_eq_true rfl⟩ (rfl : gm_cls 23 = 3) vc_3 (by decide) rfl rfl (Nat.le_of_ble_eq_true rfl) (t_X4_easedBy v7 r_2  h_9 _ hyp) (fun r_14 h_13 hyp => ?_)
      refine ge_iload a_X4_fewestEased_124 4 rfl ?_
      refine ge_icmp_lt a_X4_fewestEased_126 (fun c_15 => ?_) (fun c_15 => ?_)
      · have hyp := gm_ip hyp c_15
        obtain ⟨v_16, ev_16⟩ : ∃ y : Int32, y = v7 + (1 : Int32) := ⟨_, rfl⟩
        have hyp := hyp v_16 ev_16
        refine ge_iinc (v := v_16) (lv' := [(7, .int v_16), (8, .int r_10), (0, .ref 23), (1, .ref 1), (3, .int r_2), (4, .int v_6), (5, .int v5), (6, .int v6)]) a_X4_fewestEased_142 7 rfl ev_16.symm (Nat.le_of_ble_eq_true rfl) rfl ?_
        refine ge_goto a_X4_fewestEased_145 ?_
        exact ge_sub [2, 3, 4, 5, 6, 7, 0] rfl (hK95 v5 v6 v_16 h_13 hyp)
      · have hyp := gm_in hyp c_15
        refine ge_iload a_X4_fewestEased_129 0 rfl ?_
        refine ge_istore (lv' := [(6, .int r_10), (8, .int r_10), (0, .ref 23), (1, .ref 1), (3, .int r_2), (4, .int v_6), (5, .int v5), (7, .int v7)]) a_X4_fewestEased_131 (Nat.le_of_ble_eq_true rfl) rfl ?_
        refine ge_iload a_X4_fewestEased_133 7 rfl ?_
        refine ge_aload_n a_X4_fewestEased_135 rfl 3 rfl ?_
        refine ge_getI a_X4_fewestEased_136 fd_X4_80 (rfl : gm_cls 1 = 5) ?_
        refine ge_ishl a_X4_fewestEased_139 ?_
        refine ge_topi (fun v_17 ev_17 => ?_)
        have hyp := hyp v_17 ev_17
        refine ge_istore (lv' := [(5, .int v_17), (6, .int r_10), (8, .int r_10), (0, .ref 23), (1, .ref 1), (3, .int r_2), (4, .int v_6), (7, .int v7)]) a_X4_fewestEased_140 (Nat.le_of_ble_eq_true rfl) rfl ?_
        obtain ⟨v_18, ev_18⟩ : ∃ y : Int32, y = v7 + (1 : Int32) := ⟨_, rfl⟩
        have hyp := hyp v_18 ev_18
        refine ge_iinc (v := v_18) (lv' := [(7, .int v_18), (5, .int v_17), (6, .int r_10), (8, .int r_10), (0, .ref 23), (1, .ref 1), (3, .int r_2), (4, .int v_6)]) a_X4_fewestEased_142 7 rfl ev_18.symm (Nat.le_of_ble_eq_true rfl) rfl ?_
        refine ge_goto a_X4_fewestEased_145 ?_
        exact ge_sub [4, 5, 6, 7, 1, 2, 0] rfl (hK95 v_17 r_10 v_18 h_13 hyp)
def f_X4_fewestEased_b8 (a2 : Int32) (r_2 : Int32) (Q : Int32 → Mem → Prop)  (K8 : Int32 → Mem → Prop) (v4 : Int32) (h : Mem) : Prop :=
  if r_2 ≤ v4 then (
    f_X6_tripsAhead 1 h fun r_5 h_4 =>
    ∀ v_6 : Int32, v_6 = r_5 - a2 →
    ∀ v_7 : Int32, v_7 = r_2 + (1 : Int32) →
    gm_it3 (f_X4_fewestEased_b95 a2 r_2 v_6 Q ) gm_F (-1 : Int32) v_7 (0 : Int32) h_4)
  else (
    ∀ v_19 : Int32, v_19 = (h 1 6) + v4 →
    ∀ v_20 : Int32, v_20 = h 5 7 →
    ∀ v_21 : Int32, v_21 = h 5 6 →
    f_X6_tripsOf 1 v_19 h fun r_23 h_22 =>
    vp_in v_19 12 ∧
    f_X0_tripsBy (h_22 2 v_19.toNatClampNeg) (0 : Int32) v_20 v_21 h_22 fun r_26 h_25 =>
    vp_in v4 12 ∧
    ∀ h_28 : Mem, h_28 = gm_st h_25 25 v4.toNatClampNeg (r_23 - r_26) →
    ∀ v_29 : Int32, v_29 = v4 + (1 : Int32) →
    K8 v_29 h_28)
set_option maxRecDepth 20000 in
theorem t_X4_fewestEased_b8 (a2 : Int32) (r_2 : Int32)   (Q : Int32 → Mem → Prop)   : ∀ (n : Nat) (v4 : Int32) (h : Mem), gm_it1 (f_X4_fewestEased_b8 a2 r_2 Q ) n v4 h → EV m_X4_fewestEased (GI Q) 8 [(0, .ref 23), (1, .ref 1), (2, .int a2), (3, .int r_2), (4, .int v4)] [] h := by
  refine ge_loop1 (P := fun v4 h => EV m_X4_fewestEased (GI Q) 8 [(0, .ref 23), (1, .ref 1), (2, .int a2), (3, .int r_2), (4, .int v4)] [] h) (fun K8 hK8 v4 h hyp => ?_)
  unfold f_X4_fewestEased_b8 at hyp
  refine ge_iload a_X4_fewestEased_8 4 rfl ?_
  refine ge_iload_n a_X4_fewestEased_10 rfl 3 rfl ?_
  refine ge_icmp_ge a_X4_fewestEased_11 (fun c_3 => ?_) (fun c_3 => ?_)
  · have hyp := gm_ip hyp c_3
    refine ge_aload_n a_X4_fewestEased_76 rfl 1 rfl ?_
    refine ge_cVI [] (rest := []) a_X4_fewestEased_77 ok_X6_tripsAhead lk_X4_89 ⟨Nat.le_of_ble_eq_true rfl, Nat.le_of_ble_eq_true rfl⟩ (rfl : gm_cls 1 = 5) vc_5 (by decide) rfl rfl (Nat.le_of_ble_eq_true rfl) (t_X6_tripsAhead 1 (rfl : gm_cls 1 = 5) h _ hyp) (fun r_5 h_4 hyp => ?_)
    refine ge_iload_n a_X4_fewestEased_80 rfl 2 rfl ?_
    refine ge_isub a_X4_fewestEased_81 ?_
    refine ge_topi (fun v_6 ev_6 => ?_)
    have hyp := hyp v_6 ev_6
    refine ge_istore (lv' := [(4, .int v_6), (0, .ref 23), (1, .ref 1), (2, .int a2), (3, .int r_2)]) a_X4_fewestEased_82 (Nat.le_of_ble_eq_true rfl) rfl ?_
    refine ge_iconst (v := -1) a_X4_fewestEased_84 rfl ?_
    refine ge_istore (lv' := [(5, .int (-1 : Int32)), (4, .int v_6), (0, .ref 23), (1, .ref 1), (2, .int a2), (3, .int r_2)]) a_X4_fewestEased_85 (Nat.le_of_ble_eq_true rfl) rfl ?_
    refine ge_iload_n a_X4_fewestEased_87 rfl 5 rfl ?_
    refine ge_iconst (v := 1) a_X4_fewestEased_88 rfl ?_
    refine ge_iadd a_X4_fewestEased_89 ?_
    refine ge_topi (fun v_7 ev_7 => ?_)
    have hyp := hyp v_7 ev_7
    refine ge_istore (lv' := [(6, .int v_7), (5, .int (-1 : Int32)), (4, .int v_6), (0, .ref 23), (1, .ref 1), (2, .int a2), (3, .int r_2)]) a_X4_fewestEased_90 (Nat.le_of_ble_eq_true rfl) rfl ?_
    refine ge_iconst (v := 0) a_X4_fewestEased_92 rfl ?_
    refine ge_istore (lv' := [(7, .int (0 : Int32)), (6, .int v_7), (5, .int (-1 : Int32)), (4, .int v_6), (0, .ref 23), (1, .ref 1), (2, .int a2), (3, .int r_2)]) a_X4_fewestEased_93 (Nat.le_of_ble_eq_true rfl) rfl ?_
    exact ge_sub [4, 5, 7, 3, 2, 1, 0] rfl (t_X4_fewestEased_b95 a2 r_2 v_6   Q   gm_F (-1 : Int32) v_7 (0 : Int32) h_4 hyp)
  · have hyp := gm_in hyp c_3
    refine ge_aload_n a_X4_fewestEased_14 rfl 1 rfl ?_
    refine ge_getI a_X4_fewestEased_15 fd_X4_80 (rfl : gm_cls 1 = 5) ?_
    refine ge_iload a_X4_fewestEased_18 4 rfl ?_
    refine ge_iadd a_X4_fewestEased_20 ?_
    refine ge_topi (fun v_19 ev_19 => ?_)
    have hyp := hyp v_19 ev_19
    refine ge_istore (lv' := [(5, .int v_19), (0, .ref 23), (1, .ref 1), (2, .int a2), (3, .int r_2), (4, .int v4)]) a_X4_fewestEased_21 (Nat.le_of_ble_eq_true rfl) rfl ?_
    refine ge_aload_n a_X4_fewestEased_23 rfl 2 rfl ?_
    refine ge_getR (q := 5) a_X4_fewestEased_24 fd_X4_40 (rfl : gm_cls 1 = 5) rfl ?_
    refine ge_bipush (v := 7) a_X4_fewestEased_27 rfl ?_
    refine ge_iald (j := 7) a_X4_fewestEased_29 ga_5 li_7_10.1 li_7_10.2 ?_
    refine ge_topi (fun v_20 ev_20 => ?_)
    have hyp := hyp v_20 ev_20
    refine ge_istore (lv' := [(6, .int v_20), (5, .int v_19), (0, .ref 23), (1, .ref 1), (2, .int a2), (3, .int r_2), (4, .int v4)]) a_X4_fewestEased_30 (Nat.le_of_ble_eq_true rfl) rfl ?_
    refine ge_aload_n a_X4_fewestEased_32 rfl 3 rfl ?_
    refine ge_getR (q := 5) a_X4_fewestEased_33 fd_X4_40 (rfl : gm_cls 1 = 5) rfl ?_
    refine ge_bipush (v := 6) a_X4_fewestEased_36 rfl ?_
    refine ge_iald (j := 6) a_X4_fewestEased_38 ga_5 li_6_10.1 li_6_10.2 ?_
    refine ge_topi (fun v_21 ev_21 => ?_)
    have hyp := hyp v_21 ev_21
    refine ge_istore (lv' := [(7, .int v_21), (6, .int v_20), (5, .int v_19), (0, .ref 23), (1, .ref 1), (2, .int a2), (3, .int r_2), (4, .int v4)]) a_X4_fewestEased_39 (Nat.le_of_ble_eq_true rfl) rfl ?_
    refine ge_aload_n a_X4_fewestEased_41 rfl 3 rfl ?_
    refine ge_getR (q := 25) a_X4_fewestEased_42 fd_X4_18 (rfl : gm_cls 23 = 3) rfl ?_
    refine ge_iload a_X4_fewestEased_45 7 rfl ?_
    refine ge_aload_n a_X4_fewestEased_47 rfl 4 rfl ?_
    refine ge_iload a_X4_fewestEased_48 2 rfl ?_
    refine ge_cVI [.int v_19] (rest := [.int v4, .ref 25]) a_X4_fewestEased_50 ok_X6_tripsOf lk_X4_74 ⟨Nat.le_of_ble_eq_true rfl, Nat.le_of_ble_eq_true rfl⟩ (rfl : gm_cls 1 = 5) vc_5 (by decide) rfl rfl (Nat.le_of_ble_eq_true rfl) (t_X6_tripsOf 1 v_19 (rfl : gm_cls 1 = 5) h _ hyp) (fun r_23 h_22 hyp => ?_)
    refine ge_aload_n a_X4_fewestEased_53 rfl 4 rfl ?_
    refine ge_getR (q := 2) a_X4_fewestEased_54 fd_X4_77 (rfl : gm_cls 1 = 5) rfl ?_
    refine ge_iload a_X4_fewestEased_57 2 rfl ?_
    obtain ⟨b_24, hyp⟩ := hyp
    refine ge_iald (j := v_19.toNatClampNeg) a_X4_fewestEased_59 ga_2 b_24 rfl ?_
    refine ge_iconst (v := 0) a_X4_fewestEased_60 rfl ?_
    refine ge_iload a_X4_fewestEased_61 1 rfl ?_
    refine ge_iload a_X4_fewestEased_63 0 rfl ?_
    refine ge_cSI [.int (h_22 2 v_19.toNatClampNeg), .int (0 : Int32), .int v_20, .int v_21] (rest := [.int r_23, .int v4, .ref 25]) a_X4_fewestEased_65 ok_X0_tripsBy lk_X4_83 ⟨Nat.le_of_ble_eq_true rfl, Nat.le_of_ble_eq_true rfl⟩ rfl rfl (Nat.le_of_ble_eq_true rfl) (t_X0_tripsBy (h_22 2 v_19.toNatClampNeg) (0 : Int32) v_20 v_21  h_22 _ hyp) (fun r_26 h_25 hyp => ?_)
    refine ge_isub a_X4_fewestEased_68 ?_
    obtain ⟨b_27, hyp⟩ := hyp
    refine ge_iast (j := v4.toNatClampNeg) a_X4_fewestEased_69 ga_25 b_27 rfl ?_
    refine ge_nm (fun h_28 eh_28 => ?_)
    have hyp := hyp h_28 eh_28
    obtain ⟨v_29, ev_29⟩ : ∃ y : Int32, y = v4 + (1 : Int32) := ⟨_, rfl⟩
    have hyp := hyp v_29 ev_29
    refine ge_iinc (v := v_29) (lv' := [(4, .int v_29), (7, .int v_21), (6, .int v_20), (5, .int v_19), (0, .ref 23), (1, .ref 1), (2, .int a2), (3, .int r_2)]) a_X4_fewestEased_70 7 rfl ev_29.symm (Nat.le_of_ble_eq_true rfl) rfl ?_
    refine ge_goto a_X4_fewestEased_73 ?_
    exact ge_sub [4, 5, 6, 7, 0] rfl (hK8 v_29 h_28 hyp)
def f_X4_fewestEased (a2 : Int32) (h : Mem) (Q : Int32 → Mem → Prop) : Prop :=
  f_X6_linesAhead 1 h fun r_2 h_1 =>
  gm_it1 (f_X4_fewestEased_b8 a2 r_2 Q ) gm_F (0 : Int32) h_1
set_option maxRecDepth 20000 in
theorem t_X4_fewestEased (a2 : Int32)  (h : Mem) (Q : Int32 → Mem → Prop) (hyp : f_X4_fewestEased a2 h Q) : Cn m_X4_fewestEased [.ref 23, .ref 1, .int a2] h (GI Q) := by
  refine ge_entry (lv := [(0, .ref 23), (1, .ref 1), (2, .int a2)]) pn_X4 (Nat.le_of_ble_eq_true rfl) rfl ?_
  unfold f_X4_fewestEased at hyp
  refine ge_aload_n a_X4_fewestEased_0 rfl 1 rfl ?_
  refine ge_cVI [] (rest := []) a_X4_fewestEased_1 ok_X6_linesAhead lk_X4_30 ⟨Nat.le_of_ble_eq_true rfl, Nat.le_of_ble_eq_true rfl⟩ (rfl : gm_cls 1 = 5) vc_5 (by decide) rfl rfl (Nat.le_of_ble_eq_true rfl) (t_X6_linesAhead 1 (rfl : gm_cls 1 = 5) h _ hyp) (fun r_2 h_1 hyp => ?_)
  refine ge_istore_n (lv' := [(3, .int r_2), (0, .ref 23), (1, .ref 1), (2, .int a2)]) a_X4_fewestEased_4 rfl (Nat.le_of_ble_eq_true rfl) rfl ?_
  refine ge_iconst (v := 0) a_X4_fewestEased_5 rfl ?_
  refine ge_istore (lv' := [(4, .int (0 : Int32)), (3, .int r_2), (0, .ref 23), (1, .ref 1), (2, .int a2)]) a_X4_fewestEased_6 (Nat.le_of_ble_eq_true rfl) rfl ?_
  exact ge_sub [2, 3, 4, 1, 0] rfl (t_X4_fewestEased_b8 a2 r_2   Q   gm_F (0 : Int32) h_1 hyp)

theorem a_X4_fitsHourWithout_0 : At m_X4_fitsHourWithout 0 (.aload_n 0) 1 1 := at_i (by decide +kernel) rfl
theorem a_X4_fitsHourWithout_1 : At m_X4_fitsHourWithout 1 (.getfield 12) 3 4 := at_i (by decide +kernel) rfl
theorem a_X4_fitsHourWithout_4 : At m_X4_fitsHourWithout 4 (.aload_n 1) 1 5 := at_i (by decide +kernel) rfl
theorem a_X4_fitsHourWithout_5 : At m_X4_fitsHourWithout 5 (.getfield 40) 3 8 := at_i (by decide +kernel) rfl
theorem a_X4_fitsHourWithout_8 : At m_X4_fitsHourWithout 8 (.invokevirtual 49) 3 11 := at_i (by decide +kernel) rfl
theorem a_X4_fitsHourWithout_11 : At m_X4_fitsHourWithout 11 (.aload_n 1) 1 12 := at_i (by decide +kernel) rfl
theorem a_X4_fitsHourWithout_12 : At m_X4_fitsHourWithout 12 (.getfield 40) 3 15 := at_i (by decide +kernel) rfl
theorem a_X4_fitsHourWithout_15 : At m_X4_fitsHourWithout 15 (.bipush 9) 2 17 := at_i (by decide +kernel) rfl
theorem a_X4_fitsHourWithout_17 : At m_X4_fitsHourWithout 17 (.iaload) 1 18 := at_i (by decide +kernel) rfl
theorem a_X4_fitsHourWithout_18 : At m_X4_fitsHourWithout 18 (.istore_n 3) 1 19 := at_i (by decide +kernel) rfl
theorem a_X4_fitsHourWithout_19 : At m_X4_fitsHourWithout 19 (.aload_n 1) 1 20 := at_i (by decide +kernel) rfl
theorem a_X4_fitsHourWithout_20 : At m_X4_fitsHourWithout 20 (.getfield 80) 3 23 := at_i (by decide +kernel) rfl
theorem a_X4_fitsHourWithout_23 : At m_X4_fitsHourWithout 23 (.istore 4) 2 25 := at_i (by decide +kernel) rfl
theorem a_X4_fitsHourWithout_25 : At m_X4_fitsHourWithout 25 (.iload 4) 2 27 := at_i (by decide +kernel) rfl
theorem a_X4_fitsHourWithout_27 : At m_X4_fitsHourWithout 27 (.aload_n 1) 1 28 := at_i (by decide +kernel) rfl
theorem a_X4_fitsHourWithout_28 : At m_X4_fitsHourWithout 28 (.getfield 71) 3 31 := at_i (by decide +kernel) rfl
theorem a_X4_fitsHourWithout_31 : AtJ m_X4_fitsHourWithout 31 (.if_icmp .ge 46) (46) 77 34 := at_j (by decide +kernel) (by decide) rfl
theorem a_X4_fitsHourWithout_34 : At m_X4_fitsHourWithout 34 (.iload_n 3) 1 35 := at_i (by decide +kernel) rfl
theorem a_X4_fitsHourWithout_35 : AtJ m_X4_fitsHourWithout 35 (.ifCond .lt 42) (42) 77 38 := at_j (by decide +kernel) (by decide) rfl
theorem a_X4_fitsHourWithout_38 : At m_X4_fitsHourWithout 38 (.iload_n 2) 1 39 := at_i (by decide +kernel) rfl
theorem a_X4_fitsHourWithout_39 : At m_X4_fitsHourWithout 39 (.iload 4) 2 41 := at_i (by decide +kernel) rfl
theorem a_X4_fitsHourWithout_41 : At m_X4_fitsHourWithout 41 (.ishr) 1 42 := at_i (by decide +kernel) rfl
theorem a_X4_fitsHourWithout_42 : At m_X4_fitsHourWithout 42 (.iconst 1) 1 43 := at_i (by decide +kernel) rfl
theorem a_X4_fitsHourWithout_43 : At m_X4_fitsHourWithout 43 (.iand) 1 44 := at_i (by decide +kernel) rfl
theorem a_X4_fitsHourWithout_44 : AtJ m_X4_fitsHourWithout 44 (.ifCond .ne 27) (27) 71 47 := at_j (by decide +kernel) (by decide) rfl
theorem a_X4_fitsHourWithout_47 : At m_X4_fitsHourWithout 47 (.iload_n 3) 1 48 := at_i (by decide +kernel) rfl
theorem a_X4_fitsHourWithout_48 : At m_X4_fitsHourWithout 48 (.aload_n 1) 1 49 := at_i (by decide +kernel) rfl
theorem a_X4_fitsHourWithout_49 : At m_X4_fitsHourWithout 49 (.iload 4) 2 51 := at_i (by decide +kernel) rfl
theorem a_X4_fitsHourWithout_51 : At m_X4_fitsHourWithout 51 (.aload_n 0) 1 52 := at_i (by decide +kernel) rfl
theorem a_X4_fitsHourWithout_52 : At m_X4_fitsHourWithout 52 (.getfield 12) 3 55 := at_i (by decide +kernel) rfl
theorem a_X4_fitsHourWithout_55 : At m_X4_fitsHourWithout 55 (.getfield 107) 3 58 := at_i (by decide +kernel) rfl
theorem a_X4_fitsHourWithout_58 : At m_X4_fitsHourWithout 58 (.invokevirtual 110) 3 61 := at_i (by decide +kernel) rfl
theorem a_X4_fitsHourWithout_61 : At m_X4_fitsHourWithout 61 (.isub) 1 62 := at_i (by decide +kernel) rfl
theorem a_X4_fitsHourWithout_62 : At m_X4_fitsHourWithout 62 (.istore_n 3) 1 63 := at_i (by decide +kernel) rfl
theorem a_X4_fitsHourWithout_63 : At m_X4_fitsHourWithout 63 (.aload_n 0) 1 64 := at_i (by decide +kernel) rfl
theorem a_X4_fitsHourWithout_64 : At m_X4_fitsHourWithout 64 (.getfield 12) 3 67 := at_i (by decide +kernel) rfl
theorem a_X4_fitsHourWithout_67 : At m_X4_fitsHourWithout 67 (.iconst 1) 1 68 := at_i (by decide +kernel) rfl
theorem a_X4_fitsHourWithout_68 : At m_X4_fitsHourWithout 68 (.invokevirtual 113) 3 71 := at_i (by decide +kernel) rfl
theorem a_X4_fitsHourWithout_71 : At m_X4_fitsHourWithout 71 (.iinc 4 1) 3 74 := at_i (by decide +kernel) rfl
theorem a_X4_fitsHourWithout_74 : AtJ m_X4_fitsHourWithout 74 (.goto (-49)) (-49) 25 77 := at_j (by decide +kernel) (by decide) rfl
theorem a_X4_fitsHourWithout_77 : At m_X4_fitsHourWithout 77 (.iload_n 3) 1 78 := at_i (by decide +kernel) rfl
theorem a_X4_fitsHourWithout_78 : AtJ m_X4_fitsHourWithout 78 (.ifCond .lt 7) (7) 85 81 := at_j (by decide +kernel) (by decide) rfl
theorem a_X4_fitsHourWithout_81 : At m_X4_fitsHourWithout 81 (.iconst 1) 1 82 := at_i (by decide +kernel) rfl
theorem a_X4_fitsHourWithout_82 : AtJ m_X4_fitsHourWithout 82 (.goto 4) (4) 86 85 := at_j (by decide +kernel) (by decide) rfl
theorem a_X4_fitsHourWithout_85 : At m_X4_fitsHourWithout 85 (.iconst 0) 1 86 := at_i (by decide +kernel) rfl
theorem a_X4_fitsHourWithout_86 : At m_X4_fitsHourWithout 86 (.ireturn) 1 87 := at_i (by decide +kernel) rfl
def f_X4_fitsHourWithout_b77 (a2 : Int32)  (Q : Int32 → Mem → Prop)  (v3 : Int32) (h : Mem) : Prop :=
  if v3 < 0 then (
    Q (0 : Int32) h)
  else (
    Q (1 : Int32) h)
set_option maxRecDepth 20000 in
theorem t_X4_fitsHourWithout_b77 (a2 : Int32)    (Q : Int32 → Mem → Prop)   (v3 : Int32) (h : Mem) (hyp : f_X4_fitsHourWithout_b77 a2  Q  v3 h) : EV m_X4_fitsHourWithout (GI Q) 77 [(3, .int v3)] [] h := by
  unfold f_X4_fitsHourWithout_b77 at hyp
  refine ge_iload_n a_X4_fitsHourWithout_77 rfl 0 rfl ?_
  refine ge_if_lt a_X4_fitsHourWithout_78 (fun c_5 => ?_) (fun c_5 => ?_)
  · have hyp := gm_ip hyp c_5
    refine ge_iconst (v := 0) a_X4_fitsHourWithout_85 rfl ?_
    exact ge_zret rfl rfl a_X4_fitsHourWithout_86 hyp
  · have hyp := gm_in hyp c_5
    refine ge_iconst (v := 1) a_X4_fitsHourWithout_81 rfl ?_
    refine ge_goto a_X4_fitsHourWithout_82 ?_
    exact ge_zret rfl rfl a_X4_fitsHourWithout_86 hyp
def f_X4_fitsHourWithout_b25 (a2 : Int32)  (Q : Int32 → Mem → Prop)  (K25 : Int32 → Int32 → Mem → Prop) (v3 : Int32) (v4 : Int32) (h : Mem) : Prop :=
  if h 1 5 ≤ v4 then (
    f_X4_fitsHourWithout_b77 a2  Q  v3 h)
  else (
    if v3 < 0 then (
      f_X4_fitsHourWithout_b77 a2  Q  v3 h)
    else (
      if (a2 >>> (v4 &&& 31)) &&& (1 : Int32) = 0 then (
        f_X6_takesOf 1 v4 (h 24 0) h fun r_10 h_9 =>
        ∀ v_11 : Int32, v_11 = v3 - r_10 →
        f_X1_step 24 (1 : Int32) h_9 fun h_12 =>
        ∀ v_13 : Int32, v_13 = v4 + (1 : Int32) →
        K25 v_11 v_13 h_12)
      else (
        ∀ v_8 : Int32, v_8 = v4 + (1 : Int32) →
        K25 v3 v_8 h)))
set_option maxRecDepth 20000 in
theorem t_X4_fitsHourWithout_b25 (a2 : Int32)    (Q : Int32 → Mem → Prop)   : ∀ (n : Nat) (v3 : Int32) (v4 : Int32) (h : Mem), gm_it2 (f_X4_fitsHourWithout_b25 a2  Q ) n v3 v4 h → EV m_X4_fitsHourWithout (GI Q) 25 [(0, .ref 23), (1, .ref 1), (2, .int a2), (3, .int v3), (4, .int v4)] [] h := by
  refine ge_loop2 (P := fun v3 v4 h => EV m_X4_fitsHourWithout (GI Q) 25 [(0, .ref 23), (1, .ref 1), (2, .int a2), (3, .int v3), (4, .int v4)] [] h) (fun K25 hK25 v3 v4 h hyp => ?_)
  unfold f_X4_fitsHourWithout_b25 at hyp
  refine ge_iload a_X4_fitsHourWithout_25 4 rfl ?_
  refine ge_aload_n a_X4_fitsHourWithout_27 rfl 1 rfl ?_
  refine ge_getI a_X4_fitsHourWithout_28 fd_X4_71 (rfl : gm_cls 1 = 5) ?_
  refine ge_icmp_ge a_X4_fitsHourWithout_31 (fun c_4 => ?_) (fun c_4 => ?_)
  · have hyp := gm_ip hyp c_4
    exact ge_sub [3] rfl (t_X4_fitsHourWithout_b77 a2    Q   v3 h hyp)
  · have hyp := gm_in hyp c_4
    refine ge_iload_n a_X4_fitsHourWithout_34 rfl 3 rfl ?_
    refine ge_if_lt a_X4_fitsHourWithout_35 (fun c_6 => ?_) (fun c_6 => ?_)
    · have hyp := gm_ip hyp c_6
      exact ge_sub [3] rfl (t_X4_fitsHourWithout_b77 a2    Q   v3 h hyp)
    · have hyp := gm_in hyp c_6
      refine ge_iload_n a_X4_fitsHourWithout_38 rfl 2 rfl ?_
      refine ge_iload a_X4_fitsHourWithout_39 4 rfl ?_
      refine ge_ishr a_X4_fitsHourWithout_41 ?_
      refine ge_iconst (v := 1) a_X4_fitsHourWithout_42 rfl ?_
      refine ge_iand a_X4_fitsHourWithout_43 ?_
      refine ge_if_ne a_X4_fitsHourWithout_44 (fun c_7 => ?_) (fun c_7 => ?_)
      · have hyp := gm_in hyp c_7
        obtain ⟨v_8, ev_8⟩ : ∃ y : Int32, y = v4 + (1 : Int32) := ⟨_, rfl⟩
        have hyp := hyp v_8 ev_8
        refine ge_iinc (v := v_8) (lv' := [(4, .int v_8), (0, .ref 23), (1, .ref 1), (2, .int a2), (3, .int v3)]) a_X4_fitsHourWithout_71 4 rfl ev_8.symm (Nat.le_of_ble_eq_true rfl) rfl ?_
        refine ge_goto a_X4_fitsHourWithout_74 ?_
        exact ge_sub [1, 2, 3, 4, 0] rfl (hK25 v3 v_8 h hyp)
      · have hyp := gm_ip hyp c_7
        refine ge_iload_n a_X4_fitsHourWithout_47 rfl 3 rfl ?_
        refine ge_aload_n a_X4_fitsHourWithout_48 rfl 1 rfl ?_
        refine ge_iload a_X4_fitsHourWithout_49 4 rfl ?_
        refine ge_aload_n a_X4_fitsHourWithout_51 rfl 0 rfl ?_
        refine ge_getR (q := 24) a_X4_fitsHourWithout_52 fd_X4_12 (rfl : gm_cls 23 = 3) rfl ?_
        refine ge_getI a_X4_fitsHourWithout_55 fd_X4_107 (rfl : gm_cls 24 = 0) ?_
        refine ge_cVI [.int v4, .int (h 24 0)] (rest := [.int v3]) a_X4_fitsHourWithout_58 ok_X6_takesOf lk_X4_110 ⟨Nat.le_of_ble_eq_true rfl, Nat.le_of_ble_eq_true rfl⟩ (rfl : gm_cls 1 = 5) vc_5 (by decide) rfl rfl (Nat.le_of_ble_eq_true rfl) (t_X6_takesOf 1 v4 (h 24 0) (rfl : gm_cls 1 = 5) h _ hyp) (fun r_10 h_9 hyp => ?_)
        refine ge_isub a_X4_fitsHourWithout_61 ?_
        refine ge_topi (fun v_11 ev_11 => ?_)
        have hyp := hyp v_11 ev_11
        refine ge_istore_n (lv' := [(3, .int v_11), (0, .ref 23), (1, .ref 1), (2, .int a2), (4, .int v4)]) a_X4_fitsHourWithout_62 rfl (Nat.le_of_ble_eq_true rfl) rfl ?_
        refine ge_aload_n a_X4_fitsHourWithout_63 rfl 1 rfl ?_
        refine ge_getR (q := 24) a_X4_fitsHourWithout_64 fd_X4_12 (rfl : gm_cls 23 = 3) rfl ?_
        refine ge_iconst (v := 1) a_X4_fitsHourWithout_67 rfl ?_
        refine ge_cVV [.int (1 : Int32)] (rest := []) a_X4_fitsHourWithout_68 ok_X1_step lk_X4_113 ⟨Nat.le_of_ble_eq_true rfl, Nat.le_of_ble_eq_true rfl⟩ (rfl : gm_cls 24 = 0) vc_0 (by decide) rfl rfl (Nat.le_of_ble_eq_true rfl) (t_X1_step 24 (1 : Int32) (rfl : gm_cls 24 = 0) h_9 _ hyp) (fun h_12 hyp => ?_)
        obtain ⟨v_13, ev_13⟩ : ∃ y : Int32, y = v4 + (1 : Int32) := ⟨_, rfl⟩
        have hyp := hyp v_13 ev_13
        refine ge_iinc (v := v_13) (lv' := [(4, .int v_13), (3, .int v_11), (0, .ref 23), (1, .ref 1), (2, .int a2)]) a_X4_fitsHourWithout_71 4 rfl ev_13.symm (Nat.le_of_ble_eq_true rfl) rfl ?_
        refine ge_goto a_X4_fitsHourWithout_74 ?_
        exact ge_sub [2, 3, 4, 1, 0] rfl (hK25 v_11 v_13 h_12 hyp)
def f_X4_fitsHourWithout (a2 : Int32) (h : Mem) (Q : Int32 → Mem → Prop) : Prop :=
  f_X1_takeFrom 24 5 10 h fun h_1 =>
  ∀ v_2 : Int32, v_2 = h_1 5 9 →
  ∀ v_3 : Int32, v_3 = h_1 1 6 →
  gm_it2 (f_X4_fitsHourWithout_b25 a2  Q ) gm_F v_2 v_3 h_1
set_option maxRecDepth 20000 in
theorem t_X4_fitsHourWithout (a2 : Int32)  (h : Mem) (Q : Int32 → Mem → Prop) (hyp : f_X4_fitsHourWithout a2 h Q) : Cn m_X4_fitsHourWithout [.ref 23, .ref 1, .int a2] h (GI Q) := by
  refine ge_entry (lv := [(0, .ref 23), (1, .ref 1), (2, .int a2)]) pn_X4 (Nat.le_of_ble_eq_true rfl) rfl ?_
  unfold f_X4_fitsHourWithout at hyp
  refine ge_aload_n a_X4_fitsHourWithout_0 rfl 0 rfl ?_
  refine ge_getR (q := 24) a_X4_fitsHourWithout_1 fd_X4_12 (rfl : gm_cls 23 = 3) rfl ?_
  refine ge_aload_n a_X4_fitsHourWithout_4 rfl 1 rfl ?_
  refine ge_getR (q := 5) a_X4_fitsHourWithout_5 fd_X4_40 (rfl : gm_cls 1 = 5) rfl ?_
  refine ge_cVV [.ref 5] (rest := []) a_X4_fitsHourWithout_8 ok_X1_takeFrom lk_X4_49 ⟨Nat.le_of_ble_eq_true rfl, Nat.le_of_ble_eq_true rfl⟩ (rfl : gm_cls 24 = 0) vc_0 (by decide) rfl rfl (Nat.le_of_ble_eq_true rfl) (t_X1_takeFrom 24 5 10 (rfl : gm_cls 24 = 0) ga_5 h _ hyp) (fun h_1 hyp => ?_)
  refine ge_aload_n a_X4_fitsHourWithout_11 rfl 1 rfl ?_
  refine ge_getR (q := 5) a_X4_fitsHourWithout_12 fd_X4_40 (rfl : gm_cls 1 = 5) rfl ?_
  refine ge_bipush (v := 9) a_X4_fitsHourWithout_15 rfl ?_
  refine ge_iald (j := 9) a_X4_fitsHourWithout_17 ga_5 li_9_10.1 li_9_10.2 ?_
  refine ge_topi (fun v_2 ev_2 => ?_)
  have hyp := hyp v_2 ev_2
  refine ge_istore_n (lv' := [(3, .int v_2), (0, .ref 23), (1, .ref 1), (2, .int a2)]) a_X4_fitsHourWithout_18 rfl (Nat.le_of_ble_eq_true rfl) rfl ?_
  refine ge_aload_n a_X4_fitsHourWithout_19 rfl 2 rfl ?_
  refine ge_getI a_X4_fitsHourWithout_20 fd_X4_80 (rfl : gm_cls 1 = 5) ?_
  refine ge_topi (fun v_3 ev_3 => ?_)
  have hyp := hyp v_3 ev_3
  refine ge_istore (lv' := [(4, .int v_3), (3, .int v_2), (0, .ref 23), (1, .ref 1), (2, .int a2)]) a_X4_fitsHourWithout_23 (Nat.le_of_ble_eq_true rfl) rfl ?_
  exact ge_sub [2, 3, 4, 1, 0] rfl (t_X4_fitsHourWithout_b25 a2    Q   gm_F v_2 v_3 h_1 hyp)

theorem a_X6_wordsAheadWithout_0 : At m_X6_wordsAheadWithout 0 (.iconst 0) 1 1 := at_i (by decide +kernel) rfl
theorem a_X6_wordsAheadWithout_1 : At m_X6_wordsAheadWithout 1 (.istore_n 2) 1 2 := at_i (by decide +kernel) rfl
theorem a_X6_wordsAheadWithout_2 : At m_X6_wordsAheadWithout 2 (.aload_n 0) 1 3 := at_i (by decide +kernel) rfl
theorem a_X6_wordsAheadWithout_3 : At m_X6_wordsAheadWithout 3 (.getfield 49) 3 6 := at_i (by decide +kernel) rfl
theorem a_X6_wordsAheadWithout_6 : At m_X6_wordsAheadWithout 6 (.istore_n 3) 1 7 := at_i (by decide +kernel) rfl
theorem a_X6_wordsAheadWithout_7 : At m_X6_wordsAheadWithout 7 (.iload_n 3) 1 8 := at_i (by decide +kernel) rfl
theorem a_X6_wordsAheadWithout_8 : At m_X6_wordsAheadWithout 8 (.aload_n 0) 1 9 := at_i (by decide +kernel) rfl
theorem a_X6_wordsAheadWithout_9 : At m_X6_wordsAheadWithout 9 (.getfield 46) 3 12 := at_i (by decide +kernel) rfl
theorem a_X6_wordsAheadWithout_12 : AtJ m_X6_wordsAheadWithout 12 (.if_icmp .ge 26) (26) 38 15 := at_j (by decide +kernel) (by decide) rfl
theorem a_X6_wordsAheadWithout_15 : At m_X6_wordsAheadWithout 15 (.iload_n 1) 1 16 := at_i (by decide +kernel) rfl
theorem a_X6_wordsAheadWithout_16 : At m_X6_wordsAheadWithout 16 (.iload_n 3) 1 17 := at_i (by decide +kernel) rfl
theorem a_X6_wordsAheadWithout_17 : At m_X6_wordsAheadWithout 17 (.ishr) 1 18 := at_i (by decide +kernel) rfl
theorem a_X6_wordsAheadWithout_18 : At m_X6_wordsAheadWithout 18 (.iconst 1) 1 19 := at_i (by decide +kernel) rfl
theorem a_X6_wordsAheadWithout_19 : At m_X6_wordsAheadWithout 19 (.iand) 1 20 := at_i (by decide +kernel) rfl
theorem a_X6_wordsAheadWithout_20 : AtJ m_X6_wordsAheadWithout 20 (.ifCond .ne 12) (12) 32 23 := at_j (by decide +kernel) (by decide) rfl
theorem a_X6_wordsAheadWithout_23 : At m_X6_wordsAheadWithout 23 (.iload_n 2) 1 24 := at_i (by decide +kernel) rfl
theorem a_X6_wordsAheadWithout_24 : At m_X6_wordsAheadWithout 24 (.aload_n 0) 1 25 := at_i (by decide +kernel) rfl
theorem a_X6_wordsAheadWithout_25 : At m_X6_wordsAheadWithout 25 (.getfield 15) 3 28 := at_i (by decide +kernel) rfl
theorem a_X6_wordsAheadWithout_28 : At m_X6_wordsAheadWithout 28 (.iload_n 3) 1 29 := at_i (by decide +kernel) rfl
theorem a_X6_wordsAheadWithout_29 : At m_X6_wordsAheadWithout 29 (.iaload) 1 30 := at_i (by decide +kernel) rfl
theorem a_X6_wordsAheadWithout_30 : At m_X6_wordsAheadWithout 30 (.iadd) 1 31 := at_i (by decide +kernel) rfl
theorem a_X6_wordsAheadWithout_31 : At m_X6_wordsAheadWithout 31 (.istore_n 2) 1 32 := at_i (by decide +kernel) rfl
theorem a_X6_wordsAheadWithout_32 : At m_X6_wordsAheadWithout 32 (.iinc 3 1) 3 35 := at_i (by decide +kernel) rfl
theorem a_X6_wordsAheadWithout_35 : AtJ m_X6_wordsAheadWithout 35 (.goto (-28)) (-28) 7 38 := at_j (by decide +kernel) (by decide) rfl
theorem a_X6_wordsAheadWithout_38 : At m_X6_wordsAheadWithout 38 (.iload_n 2) 1 39 := at_i (by decide +kernel) rfl
theorem a_X6_wordsAheadWithout_39 : At m_X6_wordsAheadWithout 39 (.ireturn) 1 40 := at_i (by decide +kernel) rfl
def f_X6_wordsAheadWithout_b7 (k0 : Nat) (a1 : Int32)  (Q : Int32 → Mem → Prop)  (K7 : Int32 → Int32 → Mem → Prop) (v2 : Int32) (v3 : Int32) (h : Mem) : Prop :=
  if h k0 5 ≤ v3 then (
    Q v2 h)
  else (
    if (a1 >>> (v3 &&& 31)) &&& (1 : Int32) = 0 then (
      vp_in v3 12 ∧
      ∀ v_6 : Int32, v_6 = v2 + (h (k0 + 2) v3.toNatClampNeg) →
      ∀ v_7 : Int32, v_7 = v3 + (1 : Int32) →
      K7 v_6 v_7 h)
    else (
      ∀ v_4 : Int32, v_4 = v3 + (1 : Int32) →
      K7 v2 v_4 h))
set_option maxRecDepth 20000 in
theorem t_X6_wordsAheadWithout_b7 (k0 : Nat) (a1 : Int32)  (hk0 : gm_cls k0 = 5)  (Q : Int32 → Mem → Prop)   : ∀ (n : Nat) (v2 : Int32) (v3 : Int32) (h : Mem), gm_it2 (f_X6_wordsAheadWithout_b7 k0 a1  Q ) n v2 v3 h → EV m_X6_wordsAheadWithout (GI Q) 7 [(0, .ref k0), (1, .int a1), (2, .int v2), (3, .int v3)] [] h := by
  refine ge_loop2 (P := fun v2 v3 h => EV m_X6_wordsAheadWithout (GI Q) 7 [(0, .ref k0), (1, .int a1), (2, .int v2), (3, .int v3)] [] h) (fun K7 hK7 v2 v3 h hyp => ?_)
  unfold f_X6_wordsAheadWithout_b7 at hyp
  refine ge_iload_n a_X6_wordsAheadWithout_7 rfl 3 rfl ?_
  refine ge_aload_n a_X6_wordsAheadWithout_8 rfl 0 rfl ?_
  refine ge_getI a_X6_wordsAheadWithout_9 fd_X6_46 hk0 ?_
  refine ge_icmp_ge a_X6_wordsAheadWithout_12 (fun c_2 => ?_) (fun c_2 => ?_)
  · have hyp := gm_ip hyp c_2
    refine ge_iload_n a_X6_wordsAheadWithout_38 rfl 2 rfl ?_
    exact ge_iret rfl a_X6_wordsAheadWithout_39 hyp
  · have hyp := gm_in hyp c_2
    refine ge_iload_n a_X6_wordsAheadWithout_15 rfl 1 rfl ?_
    refine ge_iload_n a_X6_wordsAheadWithout_16 rfl 3 rfl ?_
    refine ge_ishr a_X6_wordsAheadWithout_17 ?_
    refine ge_iconst (v := 1) a_X6_wordsAheadWithout_18 rfl ?_
    refine ge_iand a_X6_wordsAheadWithout_19 ?_
    refine ge_if_ne a_X6_wordsAheadWithout_20 (fun c_3 => ?_) (fun c_3 => ?_)
    · have hyp := gm_in hyp c_3
      obtain ⟨v_4, ev_4⟩ : ∃ y : Int32, y = v3 + (1 : Int32) := ⟨_, rfl⟩
      have hyp := hyp v_4 ev_4
      refine ge_iinc (v := v_4) (lv' := [(3, .int v_4), (0, .ref k0), (1, .int a1), (2, .int v2)]) a_X6_wordsAheadWithout_32 3 rfl ev_4.symm (Nat.le_of_ble_eq_true rfl) rfl ?_
      refine ge_goto a_X6_wordsAheadWithout_35 ?_
      exact ge_sub [1, 2, 3, 0] rfl (hK7 v2 v_4 h hyp)
    · have hyp := gm_ip hyp c_3
      refine ge_iload_n a_X6_wordsAheadWithout_23 rfl 2 rfl ?_
      refine ge_aload_n a_X6_wordsAheadWithout_24 rfl 0 rfl ?_
      refine ge_getR (q := k0 + 2) a_X6_wordsAheadWithout_25 fd_X6_15 hk0 (kr5_1 hk0) ?_
      refine ge_iload_n a_X6_wordsAheadWithout_28 rfl 3 rfl ?_
      obtain ⟨b_5, hyp⟩ := hyp
      refine ge_iald (j := v3.toNatClampNeg) a_X6_wordsAheadWithout_29 (ka5_1 hk0) b_5 rfl ?_
      refine ge_iadd a_X6_wordsAheadWithout_30 ?_
      refine ge_topi (fun v_6 ev_6 => ?_)
      have hyp := hyp v_6 ev_6
      refine ge_istore_n (lv' := [(2, .int v_6), (0, .ref k0), (1, .int a1), (3, .int v3)]) a_X6_wordsAheadWithout_31 rfl (Nat.le_of_ble_eq_true rfl) rfl ?_
      obtain ⟨v_7, ev_7⟩ : ∃ y : Int32, y = v3 + (1 : Int32) := ⟨_, rfl⟩
      have hyp := hyp v_7 ev_7
      refine ge_iinc (v := v_7) (lv' := [(3, .int v_7), (2, .int v_6), (0, .ref k0), (1, .int a1)]) a_X6_wordsAheadWithout_32 3 rfl ev_7.symm (Nat.le_of_ble_eq_true rfl) rfl ?_
      refine ge_goto a_X6_wordsAheadWithout_35 ?_
      exact ge_sub [2, 3, 1, 0] rfl (hK7 v_6 v_7 h hyp)
def f_X6_wordsAheadWithout (k0 : Nat) (a1 : Int32) (h : Mem) (Q : Int32 → Mem → Prop) : Prop :=
  ∀ v_1 : Int32, v_1 = h k0 6 →
  gm_it2 (f_X6_wordsAheadWithout_b7 k0 a1  Q ) gm_F (0 : Int32) v_1 h
set_option maxRecDepth 20000 in
theorem t_X6_wordsAheadWithout (k0 : Nat) (a1 : Int32) (hk0 : gm_cls k0 = 5) (h : Mem) (Q : Int32 → Mem → Prop) (hyp : f_X6_wordsAheadWithout k0 a1 h Q) : Cn m_X6_wordsAheadWithout [.ref k0, .int a1] h (GI Q) := by
  refine ge_entry (lv := [(0, .ref k0), (1, .int a1)]) pn_X6 (Nat.le_of_ble_eq_true rfl) rfl ?_
  unfold f_X6_wordsAheadWithout at hyp
  refine ge_iconst (v := 0) a_X6_wordsAheadWithout_0 rfl ?_
  refine ge_istore_n (lv' := [(2, .int (0 : Int32)), (0, .ref k0), (1, .int a1)]) a_X6_wordsAheadWithout_1 rfl (Nat.le_of_ble_eq_true rfl) rfl ?_
  refine ge_aload_n a_X6_wordsAheadWithout_2 rfl 1 rfl ?_
  refine ge_getI a_X6_wordsAheadWithout_3 fd_X6_49 hk0 ?_
  refine ge_topi (fun v_1 ev_1 => ?_)
  have hyp := hyp v_1 ev_1
  refine ge_istore_n (lv' := [(3, .int v_1), (2, .int (0 : Int32)), (0, .ref k0), (1, .int a1)]) a_X6_wordsAheadWithout_6 rfl (Nat.le_of_ble_eq_true rfl) rfl ?_
  exact ge_sub [2, 3, 1, 0] rfl (t_X6_wordsAheadWithout_b7 k0 a1  hk0  Q   gm_F (0 : Int32) v_1 h hyp)

theorem a_X4_bestLeftOut_0 : At m_X4_bestLeftOut 0 (.aload_n 1) 1 1 := at_i (by decide +kernel) rfl
theorem a_X4_bestLeftOut_1 : At m_X4_bestLeftOut 1 (.invokevirtual 30) 3 4 := at_i (by decide +kernel) rfl
theorem a_X4_bestLeftOut_4 : At m_X4_bestLeftOut 4 (.istore_n 2) 1 5 := at_i (by decide +kernel) rfl
theorem a_X4_bestLeftOut_5 : At m_X4_bestLeftOut 5 (.iconst 0) 1 6 := at_i (by decide +kernel) rfl
theorem a_X4_bestLeftOut_6 : At m_X4_bestLeftOut 6 (.istore_n 3) 1 7 := at_i (by decide +kernel) rfl
theorem a_X4_bestLeftOut_7 : At m_X4_bestLeftOut 7 (.iconst (-1)) 1 8 := at_i (by decide +kernel) rfl
theorem a_X4_bestLeftOut_8 : At m_X4_bestLeftOut 8 (.istore 4) 2 10 := at_i (by decide +kernel) rfl
theorem a_X4_bestLeftOut_10 : At m_X4_bestLeftOut 10 (.iconst 0) 1 11 := at_i (by decide +kernel) rfl
theorem a_X4_bestLeftOut_11 : At m_X4_bestLeftOut 11 (.istore 5) 2 13 := at_i (by decide +kernel) rfl
theorem a_X4_bestLeftOut_13 : At m_X4_bestLeftOut 13 (.iload 5) 2 15 := at_i (by decide +kernel) rfl
theorem a_X4_bestLeftOut_15 : At m_X4_bestLeftOut 15 (.iconst 1) 1 16 := at_i (by decide +kernel) rfl
theorem a_X4_bestLeftOut_16 : At m_X4_bestLeftOut 16 (.iload_n 2) 1 17 := at_i (by decide +kernel) rfl
theorem a_X4_bestLeftOut_17 : At m_X4_bestLeftOut 17 (.ishl) 1 18 := at_i (by decide +kernel) rfl
theorem a_X4_bestLeftOut_18 : AtJ m_X4_bestLeftOut 18 (.if_icmp .ge 50) (50) 68 21 := at_j (by decide +kernel) (by decide) rfl
theorem a_X4_bestLeftOut_21 : At m_X4_bestLeftOut 21 (.iload 5) 2 23 := at_i (by decide +kernel) rfl
theorem a_X4_bestLeftOut_23 : At m_X4_bestLeftOut 23 (.aload_n 1) 1 24 := at_i (by decide +kernel) rfl
theorem a_X4_bestLeftOut_24 : At m_X4_bestLeftOut 24 (.getfield 80) 3 27 := at_i (by decide +kernel) rfl
theorem a_X4_bestLeftOut_27 : At m_X4_bestLeftOut 27 (.ishl) 1 28 := at_i (by decide +kernel) rfl
theorem a_X4_bestLeftOut_28 : At m_X4_bestLeftOut 28 (.istore 6) 2 30 := at_i (by decide +kernel) rfl
theorem a_X4_bestLeftOut_30 : At m_X4_bestLeftOut 30 (.aload_n 1) 1 31 := at_i (by decide +kernel) rfl
theorem a_X4_bestLeftOut_31 : At m_X4_bestLeftOut 31 (.iload 6) 2 33 := at_i (by decide +kernel) rfl
theorem a_X4_bestLeftOut_33 : At m_X4_bestLeftOut 33 (.invokevirtual 100) 3 36 := at_i (by decide +kernel) rfl
theorem a_X4_bestLeftOut_36 : At m_X4_bestLeftOut 36 (.istore 7) 2 38 := at_i (by decide +kernel) rfl
theorem a_X4_bestLeftOut_38 : At m_X4_bestLeftOut 38 (.iload 7) 2 40 := at_i (by decide +kernel) rfl
theorem a_X4_bestLeftOut_40 : At m_X4_bestLeftOut 40 (.iload 4) 2 42 := at_i (by decide +kernel) rfl
theorem a_X4_bestLeftOut_42 : AtJ m_X4_bestLeftOut 42 (.if_icmp .le 20) (20) 62 45 := at_j (by decide +kernel) (by decide) rfl
theorem a_X4_bestLeftOut_45 : At m_X4_bestLeftOut 45 (.aload_n 0) 1 46 := at_i (by decide +kernel) rfl
theorem a_X4_bestLeftOut_46 : At m_X4_bestLeftOut 46 (.aload_n 1) 1 47 := at_i (by decide +kernel) rfl
theorem a_X4_bestLeftOut_47 : At m_X4_bestLeftOut 47 (.iload 6) 2 49 := at_i (by decide +kernel) rfl
theorem a_X4_bestLeftOut_49 : At m_X4_bestLeftOut 49 (.invokevirtual 103) 3 52 := at_i (by decide +kernel) rfl
theorem a_X4_bestLeftOut_52 : AtJ m_X4_bestLeftOut 52 (.ifCond .eq 10) (10) 62 55 := at_j (by decide +kernel) (by decide) rfl
theorem a_X4_bestLeftOut_55 : At m_X4_bestLeftOut 55 (.iload 7) 2 57 := at_i (by decide +kernel) rfl
theorem a_X4_bestLeftOut_57 : At m_X4_bestLeftOut 57 (.istore 4) 2 59 := at_i (by decide +kernel) rfl
theorem a_X4_bestLeftOut_59 : At m_X4_bestLeftOut 59 (.iload 6) 2 61 := at_i (by decide +kernel) rfl
theorem a_X4_bestLeftOut_61 : At m_X4_bestLeftOut 61 (.istore_n 3) 1 62 := at_i (by decide +kernel) rfl
theorem a_X4_bestLeftOut_62 : At m_X4_bestLeftOut 62 (.iinc 5 1) 3 65 := at_i (by decide +kernel) rfl
theorem a_X4_bestLeftOut_65 : AtJ m_X4_bestLeftOut 65 (.goto (-52)) (-52) 13 68 := at_j (by decide +kernel) (by decide) rfl
theorem a_X4_bestLeftOut_68 : At m_X4_bestLeftOut 68 (.iload_n 3) 1 69 := at_i (by decide +kernel) rfl
theorem a_X4_bestLeftOut_69 : At m_X4_bestLeftOut 69 (.ireturn) 1 70 := at_i (by decide +kernel) rfl
def f_X4_bestLeftOut_b13  (r_2 : Int32) (Q : Int32 → Mem → Prop)  (K13 : Int32 → Int32 → Int32 → Mem → Prop) (v3 : Int32) (v4 : Int32) (v5 : Int32) (h : Mem) : Prop :=
  if (1 : Int32) <<< (r_2 &&& 31) ≤ v5 then (
    Q v3 h)
  else (
    ∀ v_4 : Int32, v_4 = v5 <<< ((h 1 6) &&& 31) →
    f_X6_wordsAheadWithout 1 v_4 h fun r_6 h_5 =>
    if r_6 ≤ v4 then (
      ∀ v_8 : Int32, v_8 = v5 + (1 : Int32) →
      K13 v3 v4 v_8 h_5)
    else (
      f_X4_fitsHourWithout v_4 h_5 fun r_10 h_9 =>
      if r_10 = 0 then (
        ∀ v_12 : Int32, v_12 = v5 + (1 : Int32) →
        K13 v3 v4 v_12 h_9)
      else (
        ∀ v_13 : Int32, v_13 = v5 + (1 : Int32) →
        K13 v_4 r_6 v_13 h_9)))
set_option maxRecDepth 20000 in
theorem t_X4_bestLeftOut_b13  (r_2 : Int32)   (Q : Int32 → Mem → Prop)   : ∀ (n : Nat) (v3 : Int32) (v4 : Int32) (v5 : Int32) (h : Mem), gm_it3 (f_X4_bestLeftOut_b13  r_2 Q ) n v3 v4 v5 h → EV m_X4_bestLeftOut (GI Q) 13 [(0, .ref 23), (1, .ref 1), (2, .int r_2), (3, .int v3), (4, .int v4), (5, .int v5)] [] h := by
  refine ge_loop3 (P := fun v3 v4 v5 h => EV m_X4_bestLeftOut (GI Q) 13 [(0, .ref 23), (1, .ref 1), (2, .int r_2), (3, .int v3), (4, .int v4), (5, .int v5)] [] h) (fun K13 hK13 v3 v4 v5 h hyp => ?_)
  unfold f_X4_bestLeftOut_b13 at hyp
  refine ge_iload a_X4_bestLeftOut_13 5 rfl ?_
  refine ge_iconst (v := 1) a_X4_bestLeftOut_15 rfl ?_
  refine ge_iload_n a_X4_bestLeftOut_16 rfl 2 rfl ?_
  refine ge_ishl a_X4_bestLeftOut_17 ?_
  refine ge_icmp_ge a_X4_bestLeftOut_18 (fun c_3 => ?_) (fun c_3 => ?_)
  · have hyp := gm_ip hyp c_3
    refine ge_iload_n a_X4_bestLeftOut_68 rfl 3 rfl ?_
    exact ge_iret rfl a_X4_bestLeftOut_69 hyp
  · have hyp := gm_in hyp c_3
    refine ge_iload a_X4_bestLeftOut_21 5 rfl ?_
    refine ge_aload_n a_X4_bestLeftOut_23 rfl 1 rfl ?_
    refine ge_getI a_X4_bestLeftOut_24 fd_X4_80 (rfl : gm_cls 1 = 5) ?_
    refine ge_ishl a_X4_bestLeftOut_27 ?_
    refine ge_topi (fun v_4 ev_4 => ?_)
    have hyp := hyp v_4 ev_4
    refine ge_istore (lv' := [(6, .int v_4), (0, .ref 23), (1, .ref 1), (2, .int r_2), (3, .int v3), (4, .int v4), (5, .int v5)]) a_X4_bestLeftOut_28 (Nat.le_of_ble_eq_true rfl) rfl ?_
    refine ge_aload_n a_X4_bestLeftOut_30 rfl 2 rfl ?_
    refine ge_iload a_X4_bestLeftOut_31 0 rfl ?_
    refine ge_cVI [.int v_4] (rest := []) a_X4_bestLeftOut_33 ok_X6_wordsAheadWithout lk_X4_100 ⟨Nat.le_of_ble_eq_true rfl, Nat.le_of_ble_eq_true rfl⟩ (rfl : gm_cls 1 = 5) vc_5 (by decide) rfl rfl (Nat.le_of_ble_eq_true rfl) (t_X6_wordsAheadWithout 1 v_4 (rfl : gm_cls 1 = 5) h _ hyp) (fun r_6 h_5 hyp => ?_)
    refine ge_istore (lv' := [(7, .int r_6), (6, .int v_4), (0, .ref 23), (1, .ref 1), (2, .int r_2), (3, .int v3), (4, .int v4), (5, .int v5)]) a_X4_bestLeftOut_36 (Nat.le_of_ble_eq_true rfl) rfl ?_
    refine ge_iload a_X4_bestLeftOut_38 0 rfl ?_
    refine ge_iload a_X4_bestLeftOut_40 6 rfl ?_
    refine ge_icmp_le a_X4_bestLeftOut_42 (fun c_7 => ?_) (fun c_7 => ?_)
    · have hyp := gm_ip hyp c_7
      obtain ⟨v_8, ev_8⟩ : ∃ y : Int32, y = v5 + (1 : Int32) := ⟨_, rfl⟩
      have hyp := hyp v_8 ev_8
      refine ge_iinc (v := v_8) (lv' := [(5, .int v_8), (7, .int r_6), (6, .int v_4), (0, .ref 23), (1, .ref 1), (2, .int r_2), (3, .int v3), (4, .int v4)]) a_X4_bestLeftOut_62 7 rfl ev_8.symm (Nat.le_of_ble_eq_true rfl) rfl ?_
      refine ge_goto a_X4_bestLeftOut_65 ?_
      exact ge_sub [3, 4, 5, 6, 7, 0] rfl (hK13 v3 v4 v_8 h_5 hyp)
    · have hyp := gm_in hyp c_7
      refine ge_aload_n a_X4_bestLeftOut_45 rfl 2 rfl ?_
      refine ge_aload_n a_X4_bestLeftOut_46 rfl 3 rfl ?_
      refine ge_iload a_X4_bestLeftOut_47 1 rfl ?_
      refine ge_cVI [.ref 1, .int v_4] (rest := []) a_X4_bestLeftOut_49 ok_X4_fitsHourWithout lk_X4_103 ⟨Nat.le_of_ble_eq_true rfl, Nat.le_of_ble_eq_true rfl⟩ (rfl : gm_cls 23 = 3) vc_3 (by decide) rfl rfl (Nat.le_of_ble_eq_true rfl) (t_X4_fitsHourWithout v_4  h_5 _ hyp) (fun r_10 h_9 hyp => ?_)
      refine ge_if_eq a_X4_bestLeftOut_52 (fun c_11 => ?_) (fun c_11 => ?_)
      · have hyp := gm_ip hyp c_11
        obtain ⟨v_12, ev_12⟩ : ∃ y : Int32, y = v5 + (1 : Int32) := ⟨_, rfl⟩
        have hyp := hyp v_12 ev_12
        refine ge_iinc (v := v_12) (lv' := [(5, .int v_12), (7, .int r_6), (6, .int v_4), (0, .ref 23), (1, .ref 1), (2, .int r_2), (3, .int v3), (4, .int v4)]) a_X4_bestLeftOut_62 7 rfl ev_12.symm (Nat.le_of_ble_eq_true rfl) rfl ?_
        refine ge_goto a_X4_bestLeftOut_65 ?_
        exact ge_sub [3, 4, 5, 6, 7, 0] rfl (hK13 v3 v4 v_12 h_9 hyp)
      · have hyp := gm_in hyp c_11
        refine ge_iload a_X4_bestLeftOut_55 0 rfl ?_
        refine ge_istore (lv' := [(4, .int r_6), (7, .int r_6), (6, .int v_4), (0, .ref 23), (1, .ref 1), (2, .int r_2), (3, .int v3), (5, .int v5)]) a_X4_bestLeftOut_57 (Nat.le_of_ble_eq_true rfl) rfl ?_
        refine ge_iload a_X4_bestLeftOut_59 2 rfl ?_
        refine ge_istore_n (lv' := [(3, .int v_4), (4, .int r_6), (7, .int r_6), (6, .int v_4), (0, .ref 23), (1, .ref 1), (2, .int r_2), (5, .int v5)]) a_X4_bestLeftOut_61 rfl (Nat.le_of_ble_eq_true rfl) rfl ?_
        obtain ⟨v_13, ev_13⟩ : ∃ y : Int32, y = v5 + (1 : Int32) := ⟨_, rfl⟩
        have hyp := hyp v_13 ev_13
        refine ge_iinc (v := v_13) (lv' := [(5, .int v_13), (3, .int v_4), (4, .int r_6), (7, .int r_6), (6, .int v_4), (0, .ref 23), (1, .ref 1), (2, .int r_2)]) a_X4_bestLeftOut_62 7 rfl ev_13.symm (Nat.le_of_ble_eq_true rfl) rfl ?_
        refine ge_goto a_X4_bestLeftOut_65 ?_
        exact ge_sub [5, 6, 7, 1, 2, 0] rfl (hK13 v_4 r_6 v_13 h_9 hyp)
def f_X4_bestLeftOut  (h : Mem) (Q : Int32 → Mem → Prop) : Prop :=
  f_X6_linesAhead 1 h fun r_2 h_1 =>
  gm_it3 (f_X4_bestLeftOut_b13  r_2 Q ) gm_F (0 : Int32) (-1 : Int32) (0 : Int32) h_1
set_option maxRecDepth 20000 in
theorem t_X4_bestLeftOut   (h : Mem) (Q : Int32 → Mem → Prop) (hyp : f_X4_bestLeftOut  h Q) : Cn m_X4_bestLeftOut [.ref 23, .ref 1] h (GI Q) := by
  refine ge_entry (lv := [(0, .ref 23), (1, .ref 1)]) pn_X4 (Nat.le_of_ble_eq_true rfl) rfl ?_
  unfold f_X4_bestLeftOut at hyp
  refine ge_aload_n a_X4_bestLeftOut_0 rfl 1 rfl ?_
  refine ge_cVI [] (rest := []) a_X4_bestLeftOut_1 ok_X6_linesAhead lk_X4_30 ⟨Nat.le_of_ble_eq_true rfl, Nat.le_of_ble_eq_true rfl⟩ (rfl : gm_cls 1 = 5) vc_5 (by decide) rfl rfl (Nat.le_of_ble_eq_true rfl) (t_X6_linesAhead 1 (rfl : gm_cls 1 = 5) h _ hyp) (fun r_2 h_1 hyp => ?_)
  refine ge_istore_n (lv' := [(2, .int r_2), (0, .ref 23), (1, .ref 1)]) a_X4_bestLeftOut_4 rfl (Nat.le_of_ble_eq_true rfl) rfl ?_
  refine ge_iconst (v := 0) a_X4_bestLeftOut_5 rfl ?_
  refine ge_istore_n (lv' := [(3, .int (0 : Int32)), (2, .int r_2), (0, .ref 23), (1, .ref 1)]) a_X4_bestLeftOut_6 rfl (Nat.le_of_ble_eq_true rfl) rfl ?_
  refine ge_iconst (v := -1) a_X4_bestLeftOut_7 rfl ?_
  refine ge_istore (lv' := [(4, .int (-1 : Int32)), (3, .int (0 : Int32)), (2, .int r_2), (0, .ref 23), (1, .ref 1)]) a_X4_bestLeftOut_8 (Nat.le_of_ble_eq_true rfl) rfl ?_
  refine ge_iconst (v := 0) a_X4_bestLeftOut_10 rfl ?_
  refine ge_istore (lv' := [(5, .int (0 : Int32)), (4, .int (-1 : Int32)), (3, .int (0 : Int32)), (2, .int r_2), (0, .ref 23), (1, .ref 1)]) a_X4_bestLeftOut_11 (Nat.le_of_ble_eq_true rfl) rfl ?_
  exact ge_sub [4, 5, 3, 2, 1, 0] rfl (t_X4_bestLeftOut_b13  r_2   Q   gm_F (0 : Int32) (-1 : Int32) (0 : Int32) h_1 hyp)

theorem a_X4_takeJust_0 : At m_X4_takeJust 0 (.aload_n 2) 1 1 := at_i (by decide +kernel) rfl
theorem a_X4_takeJust_1 : At m_X4_takeJust 1 (.getfield 130) 3 4 := at_i (by decide +kernel) rfl
theorem a_X4_takeJust_4 : At m_X4_takeJust 4 (.aload_n 1) 1 5 := at_i (by decide +kernel) rfl
theorem a_X4_takeJust_5 : At m_X4_takeJust 5 (.invokevirtual 30) 3 8 := at_i (by decide +kernel) rfl
theorem a_X4_takeJust_8 : At m_X4_takeJust 8 (.invokestatic 135) 3 11 := at_i (by decide +kernel) rfl
theorem a_X4_takeJust_11 : At m_X4_takeJust 11 (.istore_n 3) 1 12 := at_i (by decide +kernel) rfl
theorem a_X4_takeJust_12 : At m_X4_takeJust 12 (.iconst 0) 1 13 := at_i (by decide +kernel) rfl
theorem a_X4_takeJust_13 : At m_X4_takeJust 13 (.istore 4) 2 15 := at_i (by decide +kernel) rfl
theorem a_X4_takeJust_15 : At m_X4_takeJust 15 (.iload 4) 2 17 := at_i (by decide +kernel) rfl
theorem a_X4_takeJust_17 : At m_X4_takeJust 17 (.iload_n 3) 1 18 := at_i (by decide +kernel) rfl
theorem a_X4_takeJust_18 : AtJ m_X4_takeJust 18 (.if_icmp .ge 47) (47) 65 21 := at_j (by decide +kernel) (by decide) rfl
theorem a_X4_takeJust_21 : At m_X4_takeJust 21 (.aload_n 1) 1 22 := at_i (by decide +kernel) rfl
theorem a_X4_takeJust_22 : At m_X4_takeJust 22 (.aload_n 1) 1 23 := at_i (by decide +kernel) rfl
theorem a_X4_takeJust_23 : At m_X4_takeJust 23 (.getfield 80) 3 26 := at_i (by decide +kernel) rfl
theorem a_X4_takeJust_26 : At m_X4_takeJust 26 (.iload 4) 2 28 := at_i (by decide +kernel) rfl
theorem a_X4_takeJust_28 : At m_X4_takeJust 28 (.iadd) 1 29 := at_i (by decide +kernel) rfl
theorem a_X4_takeJust_29 : At m_X4_takeJust 29 (.aload_n 0) 1 30 := at_i (by decide +kernel) rfl
theorem a_X4_takeJust_30 : At m_X4_takeJust 30 (.getfield 12) 3 33 := at_i (by decide +kernel) rfl
theorem a_X4_takeJust_33 : At m_X4_takeJust 33 (.getfield 107) 3 36 := at_i (by decide +kernel) rfl
theorem a_X4_takeJust_36 : At m_X4_takeJust 36 (.invokevirtual 110) 3 39 := at_i (by decide +kernel) rfl
theorem a_X4_takeJust_39 : At m_X4_takeJust 39 (.aload_n 2) 1 40 := at_i (by decide +kernel) rfl
theorem a_X4_takeJust_40 : At m_X4_takeJust 40 (.getfield 138) 3 43 := at_i (by decide +kernel) rfl
theorem a_X4_takeJust_43 : At m_X4_takeJust 43 (.iload 4) 2 45 := at_i (by decide +kernel) rfl
theorem a_X4_takeJust_45 : At m_X4_takeJust 45 (.iaload) 1 46 := at_i (by decide +kernel) rfl
theorem a_X4_takeJust_46 : AtJ m_X4_takeJust 46 (.if_icmp .eq 5) (5) 51 49 := at_j (by decide +kernel) (by decide) rfl
theorem a_X4_takeJust_49 : At m_X4_takeJust 49 (.iconst 0) 1 50 := at_i (by decide +kernel) rfl
theorem a_X4_takeJust_50 : At m_X4_takeJust 50 (.ireturn) 1 51 := at_i (by decide +kernel) rfl
theorem a_X4_takeJust_51 : At m_X4_takeJust 51 (.aload_n 0) 1 52 := at_i (by decide +kernel) rfl
theorem a_X4_takeJust_52 : At m_X4_takeJust 52 (.getfield 12) 3 55 := at_i (by decide +kernel) rfl
theorem a_X4_takeJust_55 : At m_X4_takeJust 55 (.iconst 1) 1 56 := at_i (by decide +kernel) rfl
theorem a_X4_takeJust_56 : At m_X4_takeJust 56 (.invokevirtual 113) 3 59 := at_i (by decide +kernel) rfl
theorem a_X4_takeJust_59 : At m_X4_takeJust 59 (.iinc 4 1) 3 62 := at_i (by decide +kernel) rfl
theorem a_X4_takeJust_62 : AtJ m_X4_takeJust 62 (.goto (-47)) (-47) 15 65 := at_j (by decide +kernel) (by decide) rfl
theorem a_X4_takeJust_65 : At m_X4_takeJust 65 (.iconst 1) 1 66 := at_i (by decide +kernel) rfl
theorem a_X4_takeJust_66 : At m_X4_takeJust 66 (.ireturn) 1 67 := at_i (by decide +kernel) rfl
def f_X4_takeJust_b15 (q2 : Nat) (v_3 : Int32) (Q : Int32 → Mem → Prop)  (K15 : Int32 → Mem → Prop) (v4 : Int32) (h : Mem) : Prop :=
  if v_3 ≤ v4 then (
    Q (1 : Int32) h)
  else (
    f_X6_takesOf 1 ((h 1 6) + v4) (h 24 0) h fun r_6 h_5 =>
    vp_in v4 40 ∧
    if r_6 = h_5 (q2 + 1) v4.toNatClampNeg then (
      f_X1_step 24 (1 : Int32) h_5 fun h_9 =>
      ∀ v_10 : Int32, v_10 = v4 + (1 : Int32) →
      K15 v_10 h_9)
    else (
      Q (0 : Int32) h_5))
set_option maxRecDepth 20000 in
theorem t_X4_takeJust_b15 (q2 : Nat) (v_3 : Int32) (hq2 : gm_cls q2 = 4)  (Q : Int32 → Mem → Prop)   : ∀ (n : Nat) (v4 : Int32) (h : Mem), gm_it1 (f_X4_takeJust_b15 q2 v_3 Q ) n v4 h → EV m_X4_takeJust (GI Q) 15 [(0, .ref 23), (1, .ref 1), (2, .ref q2), (3, .int v_3), (4, .int v4)] [] h := by
  refine ge_loop1 (P := fun v4 h => EV m_X4_takeJust (GI Q) 15 [(0, .ref 23), (1, .ref 1), (2, .ref q2), (3, .int v_3), (4, .int v4)] [] h) (fun K15 hK15 v4 h hyp => ?_)
  unfold f_X4_takeJust_b15 at hyp
  refine ge_iload a_X4_takeJust_15 4 rfl ?_
  refine ge_iload_n a_X4_takeJust_17 rfl 3 rfl ?_
  refine ge_icmp_ge a_X4_takeJust_18 (fun c_4 => ?_) (fun c_4 => ?_)
  · have hyp := gm_ip hyp c_4
    refine ge_iconst (v := 1) a_X4_takeJust_65 rfl ?_
    exact ge_zret rfl rfl a_X4_takeJust_66 hyp
  · have hyp := gm_in hyp c_4
    refine ge_aload_n a_X4_takeJust_21 rfl 1 rfl ?_
    refine ge_aload_n a_X4_takeJust_22 rfl 1 rfl ?_
    refine ge_getI a_X4_takeJust_23 fd_X4_80 (rfl : gm_cls 1 = 5) ?_
    refine ge_iload a_X4_takeJust_26 4 rfl ?_
    refine ge_iadd a_X4_takeJust_28 ?_
    refine ge_aload_n a_X4_takeJust_29 rfl 0 rfl ?_
    refine ge_getR (q := 24) a_X4_takeJust_30 fd_X4_12 (rfl : gm_cls 23 = 3) rfl ?_
    refine ge_getI a_X4_takeJust_33 fd_X4_107 (rfl : gm_cls 24 = 0) ?_
    refine ge_cVI [.int ((h 1 6) + v4), .int (h 24 0)] (rest := []) a_X4_takeJust_36 ok_X6_takesOf lk_X4_110 ⟨Nat.le_of_ble_eq_true rfl, Nat.le_of_ble_eq_true rfl⟩ (rfl : gm_cls 1 = 5) vc_5 (by decide) rfl rfl (Nat.le_of_ble_eq_true rfl) (t_X6_takesOf 1 ((h 1 6) + v4) (h 24 0) (rfl : gm_cls 1 = 5) h _ hyp) (fun r_6 h_5 hyp => ?_)
    refine ge_aload_n a_X4_takeJust_39 rfl 2 rfl ?_
    refine ge_getR (q := q2 + 1) a_X4_takeJust_40 fd_X4_138 hq2 (kr4_0 hq2) ?_
    refine ge_iload a_X4_takeJust_43 4 rfl ?_
    obtain ⟨b_7, hyp⟩ := hyp
    refine ge_iald (j := v4.toNatClampNeg) a_X4_takeJust_45 (ka4_0 hq2) b_7 rfl ?_
    refine ge_icmp_eq a_X4_takeJust_46 (fun c_8 => ?_) (fun c_8 => ?_)
    · have hyp := gm_ip hyp c_8
      refine ge_aload_n a_X4_takeJust_51 rfl 0 rfl ?_
      refine ge_getR (q := 24) a_X4_takeJust_52 fd_X4_12 (rfl : gm_cls 23 = 3) rfl ?_
      refine ge_iconst (v := 1) a_X4_takeJust_55 rfl ?_
      refine ge_cVV [.int (1 : Int32)] (rest := []) a_X4_takeJust_56 ok_X1_step lk_X4_113 ⟨Nat.le_of_ble_eq_true rfl, Nat.le_of_ble_eq_true rfl⟩ (rfl : gm_cls 24 = 0) vc_0 (by decide) rfl rfl (Nat.le_of_ble_eq_true rfl) (t_X1_step 24 (1 : Int32) (rfl : gm_cls 24 = 0) h_5 _ hyp) (fun h_9 hyp => ?_)
      obtain ⟨v_10, ev_10⟩ : ∃ y : Int32, y = v4 + (1 : Int32) := ⟨_, rfl⟩
      have hyp := hyp v_10 ev_10
      refine ge_iinc (v := v_10) (lv' := [(4, .int v_10), (0, .ref 23), (1, .ref 1), (2, .ref q2), (3, .int v_3)]) a_X4_takeJust_59 4 rfl ev_10.symm (Nat.le_of_ble_eq_true rfl) rfl ?_
      refine ge_goto a_X4_takeJust_62 ?_
      exact ge_sub [1, 2, 3, 4, 0] rfl (hK15 v_10 h_9 hyp)
    · have hyp := gm_in hyp c_8
      refine ge_iconst (v := 0) a_X4_takeJust_49 rfl ?_
      exact ge_zret rfl rfl a_X4_takeJust_50 hyp
def f_X4_takeJust (q2 : Nat) (h : Mem) (Q : Int32 → Mem → Prop) : Prop :=
  f_X6_linesAhead 1 h fun r_2 h_1 =>
  ∀ v_3 : Int32, v_3 = (if r_2 < h q2 2 then r_2 else h q2 2) →
  gm_it1 (f_X4_takeJust_b15 q2 v_3 Q ) gm_F (0 : Int32) h_1
set_option maxRecDepth 20000 in
theorem t_X4_takeJust (q2 : Nat) (hq2 : gm_cls q2 = 4) (h : Mem) (Q : Int32 → Mem → Prop) (hyp : f_X4_takeJust q2 h Q) : Cn m_X4_takeJust [.ref 23, .ref 1, .ref q2] h (GI Q) := by
  refine ge_entry (lv := [(0, .ref 23), (1, .ref 1), (2, .ref q2)]) pn_X4 (Nat.le_of_ble_eq_true rfl) rfl ?_
  unfold f_X4_takeJust at hyp
  refine ge_aload_n a_X4_takeJust_0 rfl 2 rfl ?_
  refine ge_getI a_X4_takeJust_1 fd_X4_130 hq2 ?_
  refine ge_aload_n a_X4_takeJust_4 rfl 1 rfl ?_
  refine ge_cVI [] (rest := [.int (h q2 2)]) a_X4_takeJust_5 ok_X6_linesAhead lk_X4_30 ⟨Nat.le_of_ble_eq_true rfl, Nat.le_of_ble_eq_true rfl⟩ (rfl : gm_cls 1 = 5) vc_5 (by decide) rfl rfl (Nat.le_of_ble_eq_true rfl) (t_X6_linesAhead 1 (rfl : gm_cls 1 = 5) h _ hyp) (fun r_2 h_1 hyp => ?_)
  refine ge_mmin (rest := []) a_X4_takeJust_8 lk_X4_135 (Nat.le_of_ble_eq_true rfl) (Nat.le_of_ble_eq_true rfl) ?_
  refine ge_topi (fun v_3 ev_3 => ?_)
  have hyp := hyp v_3 ev_3
  refine ge_istore_n (lv' := [(3, .int v_3), (0, .ref 23), (1, .ref 1), (2, .ref q2)]) a_X4_takeJust_11 rfl (Nat.le_of_ble_eq_true rfl) rfl ?_
  refine ge_iconst (v := 0) a_X4_takeJust_12 rfl ?_
  refine ge_istore (lv' := [(4, .int (0 : Int32)), (3, .int v_3), (0, .ref 23), (1, .ref 1), (2, .ref q2)]) a_X4_takeJust_13 (Nat.le_of_ble_eq_true rfl) rfl ?_
  exact ge_sub [2, 3, 4, 1, 0] rfl (t_X4_takeJust_b15 q2 v_3 hq2  Q   gm_F (0 : Int32) h_1 hyp)

theorem a_X4_tallyFits_0 : At m_X4_tallyFits 0 (.aload_n 0) 1 1 := at_i (by decide +kernel) rfl
theorem a_X4_tallyFits_1 : At m_X4_tallyFits 1 (.iconst 0) 1 2 := at_i (by decide +kernel) rfl
theorem a_X4_tallyFits_2 : At m_X4_tallyFits 2 (.putfield 117) 3 5 := at_i (by decide +kernel) rfl
theorem a_X4_tallyFits_5 : At m_X4_tallyFits 5 (.aload_n 0) 1 6 := at_i (by decide +kernel) rfl
theorem a_X4_tallyFits_6 : At m_X4_tallyFits 6 (.iconst 0) 1 7 := at_i (by decide +kernel) rfl
theorem a_X4_tallyFits_7 : At m_X4_tallyFits 7 (.putfield 120) 3 10 := at_i (by decide +kernel) rfl
theorem a_X4_tallyFits_10 : At m_X4_tallyFits 10 (.aload_n 0) 1 11 := at_i (by decide +kernel) rfl
theorem a_X4_tallyFits_11 : At m_X4_tallyFits 11 (.iconst 0) 1 12 := at_i (by decide +kernel) rfl
theorem a_X4_tallyFits_12 : At m_X4_tallyFits 12 (.putfield 123) 3 15 := at_i (by decide +kernel) rfl
theorem a_X4_tallyFits_15 : At m_X4_tallyFits 15 (.iconst 0) 1 16 := at_i (by decide +kernel) rfl
theorem a_X4_tallyFits_16 : At m_X4_tallyFits 16 (.istore_n 3) 1 17 := at_i (by decide +kernel) rfl
theorem a_X4_tallyFits_17 : At m_X4_tallyFits 17 (.iload_n 3) 1 18 := at_i (by decide +kernel) rfl
theorem a_X4_tallyFits_18 : At m_X4_tallyFits 18 (.bipush 121) 2 20 := at_i (by decide +kernel) rfl
theorem a_X4_tallyFits_20 : AtJ m_X4_tallyFits 20 (.if_icmp .ge 67) (67) 87 23 := at_j (by decide +kernel) (by decide) rfl
theorem a_X4_tallyFits_23 : At m_X4_tallyFits 23 (.aload_n 0) 1 24 := at_i (by decide +kernel) rfl
theorem a_X4_tallyFits_24 : At m_X4_tallyFits 24 (.aload_n 1) 1 25 := at_i (by decide +kernel) rfl
theorem a_X4_tallyFits_25 : At m_X4_tallyFits 25 (.iload_n 3) 1 26 := at_i (by decide +kernel) rfl
theorem a_X4_tallyFits_26 : At m_X4_tallyFits 26 (.invokevirtual 26) 3 29 := at_i (by decide +kernel) rfl
theorem a_X4_tallyFits_29 : At m_X4_tallyFits 29 (.aload_n 0) 1 30 := at_i (by decide +kernel) rfl
theorem a_X4_tallyFits_30 : At m_X4_tallyFits 30 (.aload_n 1) 1 31 := at_i (by decide +kernel) rfl
theorem a_X4_tallyFits_31 : At m_X4_tallyFits 31 (.aload_n 2) 1 32 := at_i (by decide +kernel) rfl
theorem a_X4_tallyFits_32 : At m_X4_tallyFits 32 (.invokevirtual 126) 3 35 := at_i (by decide +kernel) rfl
theorem a_X4_tallyFits_35 : AtJ m_X4_tallyFits 35 (.ifCond .eq 46) (46) 81 38 := at_j (by decide +kernel) (by decide) rfl
theorem a_X4_tallyFits_38 : At m_X4_tallyFits 38 (.aload_n 0) 1 39 := at_i (by decide +kernel) rfl
theorem a_X4_tallyFits_39 : At m_X4_tallyFits 39 (.getfield 117) 3 42 := at_i (by decide +kernel) rfl
theorem a_X4_tallyFits_42 : AtJ m_X4_tallyFits 42 (.ifCond .ne 8) (8) 50 45 := at_j (by decide +kernel) (by decide) rfl
theorem a_X4_tallyFits_45 : At m_X4_tallyFits 45 (.aload_n 0) 1 46 := at_i (by decide +kernel) rfl
theorem a_X4_tallyFits_46 : At m_X4_tallyFits 46 (.iload_n 3) 1 47 := at_i (by decide +kernel) rfl
theorem a_X4_tallyFits_47 : At m_X4_tallyFits 47 (.putfield 123) 3 50 := at_i (by decide +kernel) rfl
theorem a_X4_tallyFits_50 : At m_X4_tallyFits 50 (.aload_n 0) 1 51 := at_i (by decide +kernel) rfl
theorem a_X4_tallyFits_51 : At m_X4_tallyFits 51 (.dup) 1 52 := at_i (by decide +kernel) rfl
theorem a_X4_tallyFits_52 : At m_X4_tallyFits 52 (.getfield 117) 3 55 := at_i (by decide +kernel) rfl
theorem a_X4_tallyFits_55 : At m_X4_tallyFits 55 (.iconst 1) 1 56 := at_i (by decide +kernel) rfl
theorem a_X4_tallyFits_56 : At m_X4_tallyFits 56 (.iadd) 1 57 := at_i (by decide +kernel) rfl
theorem a_X4_tallyFits_57 : At m_X4_tallyFits 57 (.putfield 117) 3 60 := at_i (by decide +kernel) rfl
theorem a_X4_tallyFits_60 : At m_X4_tallyFits 60 (.iload_n 3) 1 61 := at_i (by decide +kernel) rfl
theorem a_X4_tallyFits_61 : At m_X4_tallyFits 61 (.bipush 11) 2 63 := at_i (by decide +kernel) rfl
theorem a_X4_tallyFits_63 : At m_X4_tallyFits 63 (.idiv) 1 64 := at_i (by decide +kernel) rfl
theorem a_X4_tallyFits_64 : At m_X4_tallyFits 64 (.iload_n 3) 1 65 := at_i (by decide +kernel) rfl
theorem a_X4_tallyFits_65 : At m_X4_tallyFits 65 (.bipush 11) 2 67 := at_i (by decide +kernel) rfl
theorem a_X4_tallyFits_67 : At m_X4_tallyFits 67 (.irem) 1 68 := at_i (by decide +kernel) rfl
theorem a_X4_tallyFits_68 : AtJ m_X4_tallyFits 68 (.if_icmp .ge 13) (13) 81 71 := at_j (by decide +kernel) (by decide) rfl
theorem a_X4_tallyFits_71 : At m_X4_tallyFits 71 (.aload_n 0) 1 72 := at_i (by decide +kernel) rfl
theorem a_X4_tallyFits_72 : At m_X4_tallyFits 72 (.dup) 1 73 := at_i (by decide +kernel) rfl
theorem a_X4_tallyFits_73 : At m_X4_tallyFits 73 (.getfield 120) 3 76 := at_i (by decide +kernel) rfl
theorem a_X4_tallyFits_76 : At m_X4_tallyFits 76 (.iconst 1) 1 77 := at_i (by decide +kernel) rfl
theorem a_X4_tallyFits_77 : At m_X4_tallyFits 77 (.iadd) 1 78 := at_i (by decide +kernel) rfl
theorem a_X4_tallyFits_78 : At m_X4_tallyFits 78 (.putfield 120) 3 81 := at_i (by decide +kernel) rfl
theorem a_X4_tallyFits_81 : At m_X4_tallyFits 81 (.iinc 3 1) 3 84 := at_i (by decide +kernel) rfl
theorem a_X4_tallyFits_84 : AtJ m_X4_tallyFits 84 (.goto (-67)) (-67) 17 87 := at_j (by decide +kernel) (by decide) rfl
theorem a_X4_tallyFits_87 : At m_X4_tallyFits 87 (.return_) 1 88 := at_i (by decide +kernel) rfl
def f_X4_tallyFits_b50 (q2 : Nat)  (Q : Mem → Prop) (K17 : Int32 → Mem → Prop) (v3 : Int32) (h : Mem) : Prop :=
  ∀ h_11 : Mem, h_11 = gm_st h 23 2 ((h 23 2) + (1 : Int32)) →
  if v3 - v3 / (11 : Int32) * (11 : Int32) ≤ v3 / (11 : Int32) then (
    ∀ v_13 : Int32, v_13 = v3 + (1 : Int32) →
    K17 v_13 h_11)
  else (
    ∀ h_14 : Mem, h_14 = gm_st h_11 23 3 ((h_11 23 3) + (1 : Int32)) →
    ∀ v_15 : Int32, v_15 = v3 + (1 : Int32) →
    K17 v_15 h_14)
set_option maxRecDepth 20000 in
theorem t_X4_tallyFits_b50 (q2 : Nat)  (hq2 : gm_cls q2 = 4)  (Q : Mem → Prop) (K17 : Int32 → Mem → Prop) (hK17 : ∀ (v3 : Int32) h, K17 v3 h → EV m_X4_tallyFits (GV Q) 17 [(0, .ref 23), (1, .ref 1), (2, .ref q2), (3, .int v3)] [] h) (v3 : Int32) (h : Mem) (hyp : f_X4_tallyFits_b50 q2  Q K17 v3 h) : EV m_X4_tallyFits (GV Q) 50 [(0, .ref 23), (1, .ref 1), (2, .ref q2), (3, .int v3)] [] h := by
  unfold f_X4_tallyFits_b50 at hyp
  refine ge_aload_n a_X4_tallyFits_50 rfl 0 rfl ?_
  refine ge_dup a_X4_tallyFits_51 rfl ?_
  refine ge_getI a_X4_tallyFits_52 fd_X4_117 (rfl : gm_cls 23 = 3) ?_
  refine ge_iconst (v := 1) a_X4_tallyFits_55 rfl ?_
  refine ge_iadd a_X4_tallyFits_56 ?_
  refine ge_putI a_X4_tallyFits_57 pd_X4_117 (rfl : gm_cls 23 = 3) ?_
  refine ge_nm (fun h_11 eh_11 => ?_)
  have hyp := hyp h_11 eh_11
  refine ge_iload_n a_X4_tallyFits_60 rfl 3 rfl ?_
  refine ge_bipush (v := 11) a_X4_tallyFits_61 rfl ?_
  refine ge_idiv a_X4_tallyFits_63 (by decide) ?_
  refine ge_iload_n a_X4_tallyFits_64 rfl 3 rfl ?_
  refine ge_bipush (v := 11) a_X4_tallyFits_65 rfl ?_
  refine ge_irem a_X4_tallyFits_67 (by decide) ?_
  refine ge_icmp_ge a_X4_tallyFits_68 (fun c_12 => ?_) (fun c_12 => ?_)
  · have hyp := gm_ip hyp c_12
    obtain ⟨v_13, ev_13⟩ : ∃ y : Int32, y = v3 + (1 : Int32) := ⟨_, rfl⟩
    have hyp := hyp v_13 ev_13
    refine ge_iinc (v := v_13) (lv' := [(3, .int v_13), (0, .ref 23), (1, .ref 1), (2, .ref q2)]) a_X4_tallyFits_81 3 rfl ev_13.symm (Nat.le_of_ble_eq_true rfl) rfl ?_
    refine ge_goto a_X4_tallyFits_84 ?_
    exact ge_sub [1, 2, 3, 0] rfl (hK17 v_13 h_11 hyp)
  · have hyp := gm_in hyp c_12
    refine ge_aload_n a_X4_tallyFits_71 rfl 0 rfl ?_
    refine ge_dup a_X4_tallyFits_72 rfl ?_
    refine ge_getI a_X4_tallyFits_73 fd_X4_120 (rfl : gm_cls 23 = 3) ?_
    refine ge_iconst (v := 1) a_X4_tallyFits_76 rfl ?_
    refine ge_iadd a_X4_tallyFits_77 ?_
    refine ge_putI a_X4_tallyFits_78 pd_X4_120 (rfl : gm_cls 23 = 3) ?_
    refine ge_nm (fun h_14 eh_14 => ?_)
    have hyp := hyp h_14 eh_14
    obtain ⟨v_15, ev_15⟩ : ∃ y : Int32, y = v3 + (1 : Int32) := ⟨_, rfl⟩
    have hyp := hyp v_15 ev_15
    refine ge_iinc (v := v_15) (lv' := [(3, .int v_15), (0, .ref 23), (1, .ref 1), (2, .ref q2)]) a_X4_tallyFits_81 3 rfl ev_15.symm (Nat.le_of_ble_eq_true rfl) rfl ?_
    refine ge_goto a_X4_tallyFits_84 ?_
    exact ge_sub [1, 2, 3, 0] rfl (hK17 v_15 h_14 hyp)
def f_X4_tallyFits_b17 (q2 : Nat)  (Q : Mem → Prop)  (K17 : Int32 → Mem → Prop) (v3 : Int32) (h : Mem) : Prop :=
  if (121 : Int32) ≤ v3 then (
    Q h)
  else (
    f_X4_weigh v3 h fun h_5 =>
    f_X4_takeJust q2 h_5 fun r_7 h_6 =>
    if r_7 = 0 then (
      ∀ v_9 : Int32, v_9 = v3 + (1 : Int32) →
      K17 v_9 h_6)
    else (
      if h_6 23 2 = 0 then (
        ∀ h_16 : Mem, h_16 = gm_st h_6 23 4 v3 →
        f_X4_tallyFits_b50 q2  Q K17 v3 h_16)
      else (
        f_X4_tallyFits_b50 q2  Q K17 v3 h_6)))
set_option maxRecDepth 20000 in
theorem t_X4_tallyFits_b17 (q2 : Nat)  (hq2 : gm_cls q2 = 4)  (Q : Mem → Prop)   : ∀ (n : Nat) (v3 : Int32) (h : Mem), gm_it1 (f_X4_tallyFits_b17 q2  Q ) n v3 h → EV m_X4_tallyFits (GV Q) 17 [(0, .ref 23), (1, .ref 1), (2, .ref q2), (3, .int v3)] [] h := by
  refine ge_loop1 (P := fun v3 h => EV m_X4_tallyFits (GV Q) 17 [(0, .ref 23), (1, .ref 1), (2, .ref q2), (3, .int v3)] [] h) (fun K17 hK17 v3 h hyp => ?_)
  unfold f_X4_tallyFits_b17 at hyp
  refine ge_iload_n a_X4_tallyFits_17 rfl 3 rfl ?_
  refine ge_bipush (v := 121) a_X4_tallyFits_18 rfl ?_
  refine ge_icmp_ge a_X4_tallyFits_20 (fun c_4 => ?_) (fun c_4 => ?_)
  · have hyp := gm_ip hyp c_4
    exact ge_vret rfl a_X4_tallyFits_87 hyp
  · have hyp := gm_in hyp c_4
    refine ge_aload_n a_X4_tallyFits_23 rfl 0 rfl ?_
    refine ge_aload_n a_X4_tallyFits_24 rfl 1 rfl ?_
    refine ge_iload_n a_X4_tallyFits_25 rfl 3 rfl ?_
    refine ge_cVV [.ref 1, .int v3] (rest := []) a_X4_tallyFits_26 ok_X4_weigh lk_X4_26 ⟨Nat.le_of_ble_eq_true rfl, Nat.le_of_ble_eq_true rfl⟩ (rfl : gm_cls 23 = 3) vc_3 (by decide) rfl rfl (Nat.le_of_ble_eq_true rfl) (t_X4_weigh v3  h _ hyp) (fun h_5 hyp => ?_)
    refine ge_aload_n a_X4_tallyFits_29 rfl 0 rfl ?_
    refine ge_aload_n a_X4_tallyFits_30 rfl 1 rfl ?_
    refine ge_aload_n a_X4_tallyFits_31 rfl 2 rfl ?_
    refine ge_cVI [.ref 1, .ref q2] (rest := []) a_X4_tallyFits_32 ok_X4_takeJust lk_X4_126 ⟨Nat.le_of_ble_eq_true rfl, Nat.le_of_ble_eq_true rfl⟩ (rfl : gm_cls 23 = 3) vc_3 (by decide) rfl rfl (Nat.le_of_ble_eq_true rfl) (t_X4_takeJust q2 hq2 h_5 _ hyp) (fun r_7 h_6 hyp => ?_)
    refine ge_if_eq a_X4_tallyFits_35 (fun c_8 => ?_) (fun c_8 => ?_)
    · have hyp := gm_ip hyp c_8
      obtain ⟨v_9, ev_9⟩ : ∃ y : Int32, y = v3 + (1 : Int32) := ⟨_, rfl⟩
      have hyp := hyp v_9 ev_9
      refine ge_iinc (v := v_9) (lv' := [(3, .int v_9), (0, .ref 23), (1, .ref 1), (2, .ref q2)]) a_X4_tallyFits_81 3 rfl ev_9.symm (Nat.le_of_ble_eq_true rfl) rfl ?_
      refine ge_goto a_X4_tallyFits_84 ?_
      exact ge_sub [1, 2, 3, 0] rfl (hK17 v_9 h_6 hyp)
    · have hyp := gm_in hyp c_8
      refine ge_aload_n a_X4_tallyFits_38 rfl 0 rfl ?_
      refine ge_getI a_X4_tallyFits_39 fd_X4_117 (rfl : gm_cls 23 = 3) ?_
      refine ge_if_ne a_X4_tallyFits_42 (fun c_10 => ?_) (fun c_10 => ?_)
      · have hyp := gm_in hyp c_10
        exact ge_sub [0, 1, 2, 3] rfl (t_X4_tallyFits_b50 q2  hq2  Q K17 hK17 v3 h_6 hyp)
      · have hyp := gm_ip hyp c_10
        refine ge_aload_n a_X4_tallyFits_45 rfl 0 rfl ?_
        refine ge_iload_n a_X4_tallyFits_46 rfl 3 rfl ?_
        refine ge_putI a_X4_tallyFits_47 pd_X4_123 (rfl : gm_cls 23 = 3) ?_
        refine ge_nm (fun h_16 eh_16 => ?_)
        have hyp := hyp h_16 eh_16
        exact ge_sub [0, 1, 2, 3] rfl (t_X4_tallyFits_b50 q2  hq2  Q K17 hK17 v3 h_16 hyp)
def f_X4_tallyFits (q2 : Nat) (h : Mem) (Q : Mem → Prop) : Prop :=
  ∀ h_1 : Mem, h_1 = gm_st h 23 2 (0 : Int32) →
  ∀ h_2 : Mem, h_2 = gm_st h_1 23 3 (0 : Int32) →
  ∀ h_3 : Mem, h_3 = gm_st h_2 23 4 (0 : Int32) →
  gm_it1 (f_X4_tallyFits_b17 q2  Q ) gm_F (0 : Int32) h_3
set_option maxRecDepth 20000 in
theorem t_X4_tallyFits (q2 : Nat) (hq2 : gm_cls q2 = 4) (h : Mem) (Q : Mem → Prop) (hyp : f_X4_tallyFits q2 h Q) : Cn m_X4_tallyFits [.ref 23, .ref 1, .ref q2] h (GV Q) := by
  refine ge_entry (lv := [(0, .ref 23), (1, .ref 1), (2, .ref q2)]) pn_X4 (Nat.le_of_ble_eq_true rfl) rfl ?_
  unfold f_X4_tallyFits at hyp
  refine ge_aload_n a_X4_tallyFits_0 rfl 0 rfl ?_
  refine ge_iconst (v := 0) a_X4_tallyFits_1 rfl ?_
  refine ge_putI a_X4_tallyFits_2 pd_X4_117 (rfl : gm_cls 23 = 3) ?_
  refine ge_nm (fun h_1 eh_1 => ?_)
  have hyp := hyp h_1 eh_1
  refine ge_aload_n a_X4_tallyFits_5 rfl 0 rfl ?_
  refine ge_iconst (v := 0) a_X4_tallyFits_6 rfl ?_
  refine ge_putI a_X4_tallyFits_7 pd_X4_120 (rfl : gm_cls 23 = 3) ?_
  refine ge_nm (fun h_2 eh_2 => ?_)
  have hyp := hyp h_2 eh_2
  refine ge_aload_n a_X4_tallyFits_10 rfl 0 rfl ?_
  refine ge_iconst (v := 0) a_X4_tallyFits_11 rfl ?_
  refine ge_putI a_X4_tallyFits_12 pd_X4_123 (rfl : gm_cls 23 = 3) ?_
  refine ge_nm (fun h_3 eh_3 => ?_)
  have hyp := hyp h_3 eh_3
  refine ge_iconst (v := 0) a_X4_tallyFits_15 rfl ?_
  refine ge_istore_n (lv' := [(3, .int (0 : Int32)), (0, .ref 23), (1, .ref 1), (2, .ref q2)]) a_X4_tallyFits_16 rfl (Nat.le_of_ble_eq_true rfl) rfl ?_
  exact ge_sub [1, 2, 3, 0] rfl (t_X4_tallyFits_b17 q2  hq2  Q   gm_F (0 : Int32) h_3 hyp)

theorem a_X5_canHave_0 : At m_X5_canHave 0 (.iload_n 0) 1 1 := at_i (by decide +kernel) rfl
theorem a_X5_canHave_1 : AtJ m_X5_canHave 1 (.ifCond .eq 21) (21) 22 4 := at_j (by decide +kernel) (by decide) rfl
theorem a_X5_canHave_4 : At m_X5_canHave 4 (.iload_n 0) 1 5 := at_i (by decide +kernel) rfl
theorem a_X5_canHave_5 : At m_X5_canHave 5 (.bipush 8) 2 7 := at_i (by decide +kernel) rfl
theorem a_X5_canHave_7 : AtJ m_X5_canHave 7 (.if_icmp .eq 15) (15) 22 10 := at_j (by decide +kernel) (by decide) rfl
theorem a_X5_canHave_10 : At m_X5_canHave 10 (.iload_n 0) 1 11 := at_i (by decide +kernel) rfl
theorem a_X5_canHave_11 : At m_X5_canHave 11 (.bipush 16) 2 13 := at_i (by decide +kernel) rfl
theorem a_X5_canHave_13 : AtJ m_X5_canHave 13 (.if_icmp .eq 9) (9) 22 16 := at_j (by decide +kernel) (by decide) rfl
theorem a_X5_canHave_16 : At m_X5_canHave 16 (.iload_n 0) 1 17 := at_i (by decide +kernel) rfl
theorem a_X5_canHave_17 : At m_X5_canHave 17 (.bipush 32) 2 19 := at_i (by decide +kernel) rfl
theorem a_X5_canHave_19 : AtJ m_X5_canHave 19 (.if_icmp .ne 7) (7) 26 22 := at_j (by decide +kernel) (by decide) rfl
theorem a_X5_canHave_22 : At m_X5_canHave 22 (.iconst 1) 1 23 := at_i (by decide +kernel) rfl
theorem a_X5_canHave_23 : AtJ m_X5_canHave 23 (.goto 4) (4) 27 26 := at_j (by decide +kernel) (by decide) rfl
theorem a_X5_canHave_26 : At m_X5_canHave 26 (.iconst 0) 1 27 := at_i (by decide +kernel) rfl
theorem a_X5_canHave_27 : At m_X5_canHave 27 (.ireturn) 1 28 := at_i (by decide +kernel) rfl
def f_X5_canHave (a0 : Int32) (h : Mem) (Q : Int32 → Mem → Prop) : Prop :=
  if a0 = 0 then (
    Q (1 : Int32) h)
  else (
    if a0 = (8 : Int32) then (
      Q (1 : Int32) h)
    else (
      if a0 = (16 : Int32) then (
        Q (1 : Int32) h)
      else (
        if a0 = (32 : Int32) then (
          Q (1 : Int32) h)
        else (
          Q (0 : Int32) h))))
set_option maxRecDepth 20000 in
theorem t_X5_canHave (a0 : Int32)  (h : Mem) (Q : Int32 → Mem → Prop) (hyp : f_X5_canHave a0 h Q) : Cn m_X5_canHave [.int a0] h (GI Q) := by
  refine ge_entry (lv := [(0, .int a0)]) pn_X5 (Nat.le_of_ble_eq_true rfl) rfl ?_
  unfold f_X5_canHave at hyp
  refine ge_iload_n a_X5_canHave_0 rfl 0 rfl ?_
  refine ge_if_eq a_X5_canHave_1 (fun c_1 => ?_) (fun c_1 => ?_)
  · have hyp := gm_ip hyp c_1
    refine ge_iconst (v := 1) a_X5_canHave_22 rfl ?_
    refine ge_goto a_X5_canHave_23 ?_
    exact ge_zret rfl rfl a_X5_canHave_27 hyp
  · have hyp := gm_in hyp c_1
    refine ge_iload_n a_X5_canHave_4 rfl 0 rfl ?_
    refine ge_bipush (v := 8) a_X5_canHave_5 rfl ?_
    refine ge_icmp_eq a_X5_canHave_7 (fun c_2 => ?_) (fun c_2 => ?_)
    · have hyp := gm_ip hyp c_2
      refine ge_iconst (v := 1) a_X5_canHave_22 rfl ?_
      refine ge_goto a_X5_canHave_23 ?_
      exact ge_zret rfl rfl a_X5_canHave_27 hyp
    · have hyp := gm_in hyp c_2
      refine ge_iload_n a_X5_canHave_10 rfl 0 rfl ?_
      refine ge_bipush (v := 16) a_X5_canHave_11 rfl ?_
      refine ge_icmp_eq a_X5_canHave_13 (fun c_3 => ?_) (fun c_3 => ?_)
      · have hyp := gm_ip hyp c_3
        refine ge_iconst (v := 1) a_X5_canHave_22 rfl ?_
        refine ge_goto a_X5_canHave_23 ?_
        exact ge_zret rfl rfl a_X5_canHave_27 hyp
      · have hyp := gm_in hyp c_3
        refine ge_iload_n a_X5_canHave_16 rfl 0 rfl ?_
        refine ge_bipush (v := 32) a_X5_canHave_17 rfl ?_
        refine ge_icmp_ne a_X5_canHave_19 (fun c_4 => ?_) (fun c_4 => ?_)
        · have hyp := gm_in hyp c_4
          refine ge_iconst (v := 0) a_X5_canHave_26 rfl ?_
          exact ge_zret rfl rfl a_X5_canHave_27 hyp
        · have hyp := gm_ip hyp c_4
          refine ge_iconst (v := 1) a_X5_canHave_22 rfl ?_
          refine ge_goto a_X5_canHave_23 ?_
          exact ge_zret rfl rfl a_X5_canHave_27 hyp

theorem a_X5_isMissing_0 : At m_X5_isMissing 0 (.aload_n 0) 1 1 := at_i (by decide +kernel) rfl
theorem a_X5_isMissing_1 : At m_X5_isMissing 1 (.getfield 15) 3 4 := at_i (by decide +kernel) rfl
theorem a_X5_isMissing_4 : AtJ m_X5_isMissing 4 (.ifCond .ne 7) (7) 11 7 := at_j (by decide +kernel) (by decide) rfl
theorem a_X5_isMissing_7 : At m_X5_isMissing 7 (.iconst 1) 1 8 := at_i (by decide +kernel) rfl
theorem a_X5_isMissing_8 : AtJ m_X5_isMissing 8 (.goto 4) (4) 12 11 := at_j (by decide +kernel) (by decide) rfl
theorem a_X5_isMissing_11 : At m_X5_isMissing 11 (.iconst 0) 1 12 := at_i (by decide +kernel) rfl
theorem a_X5_isMissing_12 : At m_X5_isMissing 12 (.ireturn) 1 13 := at_i (by decide +kernel) rfl
def f_X5_isMissing (k0 : Nat) (h : Mem) (Q : Int32 → Mem → Prop) : Prop :=
  if h k0 1 = 0 then (
    Q (1 : Int32) h)
  else (
    Q (0 : Int32) h)
set_option maxRecDepth 20000 in
theorem t_X5_isMissing (k0 : Nat) (hk0 : gm_cls k0 = 4) (h : Mem) (Q : Int32 → Mem → Prop) (hyp : f_X5_isMissing k0 h Q) : Cn m_X5_isMissing [.ref k0] h (GI Q) := by
  refine ge_entry (lv := [(0, .ref k0)]) pn_X5 (Nat.le_of_ble_eq_true rfl) rfl ?_
  unfold f_X5_isMissing at hyp
  refine ge_aload_n a_X5_isMissing_0 rfl 0 rfl ?_
  refine ge_getI a_X5_isMissing_1 fd_X5_15 hk0 ?_
  refine ge_if_ne a_X5_isMissing_4 (fun c_1 => ?_) (fun c_1 => ?_)
  · have hyp := gm_in hyp c_1
    refine ge_iconst (v := 0) a_X5_isMissing_11 rfl ?_
    exact ge_zret rfl rfl a_X5_isMissing_12 hyp
  · have hyp := gm_ip hyp c_1
    refine ge_iconst (v := 1) a_X5_isMissing_7 rfl ?_
    refine ge_goto a_X5_isMissing_8 ?_
    exact ge_zret rfl rfl a_X5_isMissing_12 hyp

theorem a_J7_fill_53178_0 : At m_J7_fill_53178 0 (.iconst 0) 1 1 := at_i (by decide +kernel) rfl
theorem a_J7_fill_53178_1 : At m_J7_fill_53178 1 (.istore_n 2) 1 2 := at_i (by decide +kernel) rfl
theorem a_J7_fill_53178_2 : At m_J7_fill_53178 2 (.aload_n 0) 1 3 := at_i (by decide +kernel) rfl
theorem a_J7_fill_53178_3 : At m_J7_fill_53178 3 (.arraylength) 1 4 := at_i (by decide +kernel) rfl
theorem a_J7_fill_53178_4 : At m_J7_fill_53178 4 (.istore_n 3) 1 5 := at_i (by decide +kernel) rfl
theorem a_J7_fill_53178_5 : At m_J7_fill_53178 5 (.iload_n 2) 1 6 := at_i (by decide +kernel) rfl
theorem a_J7_fill_53178_6 : At m_J7_fill_53178 6 (.iload_n 3) 1 7 := at_i (by decide +kernel) rfl
theorem a_J7_fill_53178_7 : AtJ m_J7_fill_53178 7 (.if_icmp .ge 13) (13) 20 10 := at_j (by decide +kernel) (by decide) rfl
theorem a_J7_fill_53178_10 : At m_J7_fill_53178 10 (.aload_n 0) 1 11 := at_i (by decide +kernel) rfl
theorem a_J7_fill_53178_11 : At m_J7_fill_53178 11 (.iload_n 2) 1 12 := at_i (by decide +kernel) rfl
theorem a_J7_fill_53178_12 : At m_J7_fill_53178 12 (.iload_n 1) 1 13 := at_i (by decide +kernel) rfl
theorem a_J7_fill_53178_13 : At m_J7_fill_53178 13 (.iastore) 1 14 := at_i (by decide +kernel) rfl
theorem a_J7_fill_53178_14 : At m_J7_fill_53178 14 (.iinc 2 1) 3 17 := at_i (by decide +kernel) rfl
theorem a_J7_fill_53178_17 : AtJ m_J7_fill_53178 17 (.goto (-12)) (-12) 5 20 := at_j (by decide +kernel) (by decide) rfl
theorem a_J7_fill_53178_20 : At m_J7_fill_53178 20 (.return_) 1 21 := at_i (by decide +kernel) rfl
def f_J7_fill_53178_b5 (b0 : Nat) (n0 : Nat) (a1 : Int32) (v_1 : Int32) (Q : Mem → Prop)  (K5 : Int32 → Mem → Prop) (v2 : Int32) (h : Mem) : Prop :=
  if v_1 ≤ v2 then (
    Q h)
  else (
    vp_in v2 n0 ∧
    ∀ h_4 : Mem, h_4 = gm_st h b0 v2.toNatClampNeg a1 →
    ∀ v_5 : Int32, v_5 = v2 + (1 : Int32) →
    K5 v_5 h_4)
set_option maxRecDepth 20000 in
theorem t_J7_fill_53178_b5 (b0 : Nat) (n0 : Nat) (a1 : Int32) (v_1 : Int32) (hb0 : gm_arr b0 n0)  (Q : Mem → Prop)   : ∀ (n : Nat) (v2 : Int32) (h : Mem), gm_it1 (f_J7_fill_53178_b5 b0 n0 a1 v_1 Q ) n v2 h → EV m_J7_fill_53178 (GV Q) 5 [(0, .ref b0), (1, .int a1), (2, .int v2), (3, .int v_1)] [] h := by
  refine ge_loop1 (P := fun v2 h => EV m_J7_fill_53178 (GV Q) 5 [(0, .ref b0), (1, .int a1), (2, .int v2), (3, .int v_1)] [] h) (fun K5 hK5 v2 h hyp => ?_)
  unfold f_J7_fill_53178_b5 at hyp
  refine ge_iload_n a_J7_fill_53178_5 rfl 2 rfl ?_
  refine ge_iload_n a_J7_fill_53178_6 rfl 3 rfl ?_
  refine ge_icmp_ge a_J7_fill_53178_7 (fun c_2 => ?_) (fun c_2 => ?_)
  · have hyp := gm_ip hyp c_2
    exact ge_vret rfl a_J7_fill_53178_20 hyp
  · have hyp := gm_in hyp c_2
    refine ge_aload_n a_J7_fill_53178_10 rfl 0 rfl ?_
    refine ge_iload_n a_J7_fill_53178_11 rfl 2 rfl ?_
    refine ge_iload_n a_J7_fill_53178_12 rfl 1 rfl ?_
    obtain ⟨b_3, hyp⟩ := hyp
    refine ge_iast (j := v2.toNatClampNeg) a_J7_fill_53178_13 hb0 b_3 rfl ?_
    refine ge_nm (fun h_4 eh_4 => ?_)
    have hyp := hyp h_4 eh_4
    obtain ⟨v_5, ev_5⟩ : ∃ y : Int32, y = v2 + (1 : Int32) := ⟨_, rfl⟩
    have hyp := hyp v_5 ev_5
    refine ge_iinc (v := v_5) (lv' := [(2, .int v_5), (0, .ref b0), (1, .int a1), (3, .int v_1)]) a_J7_fill_53178_14 2 rfl ev_5.symm (Nat.le_of_ble_eq_true rfl) rfl ?_
    refine ge_goto a_J7_fill_53178_17 ?_
    exact ge_sub [1, 2, 0, 3] rfl (hK5 v_5 h_4 hyp)
def f_J7_fill_53178 (b0 : Nat) (n0 : Nat) (a1 : Int32) (h : Mem) (Q : Mem → Prop) : Prop :=
  ∀ v_1 : Int32, v_1 = nI n0 →
  gm_it1 (f_J7_fill_53178_b5 b0 n0 a1 v_1 Q ) gm_F (0 : Int32) h
set_option maxRecDepth 20000 in
theorem t_J7_fill_53178 (b0 : Nat) (n0 : Nat) (a1 : Int32) (hb0 : gm_arr b0 n0) (h : Mem) (Q : Mem → Prop) (hyp : f_J7_fill_53178 b0 n0 a1 h Q) : Cn m_J7_fill_53178 [.ref b0, .int a1] h (GV Q) := by
  refine ge_entry (lv := [(0, .ref b0), (1, .int a1)]) pn_J7 (Nat.le_of_ble_eq_true rfl) rfl ?_
  unfold f_J7_fill_53178 at hyp
  refine ge_iconst (v := 0) a_J7_fill_53178_0 rfl ?_
  refine ge_istore_n (lv' := [(2, .int (0 : Int32)), (0, .ref b0), (1, .int a1)]) a_J7_fill_53178_1 rfl (Nat.le_of_ble_eq_true rfl) rfl ?_
  refine ge_aload_n a_J7_fill_53178_2 rfl 1 rfl ?_
  refine ge_alen (v := nI n0) a_J7_fill_53178_3 hb0 rfl ?_
  refine ge_topi (fun v_1 ev_1 => ?_)
  have hyp := hyp v_1 ev_1
  refine ge_istore_n (lv' := [(3, .int v_1), (2, .int (0 : Int32)), (0, .ref b0), (1, .int a1)]) a_J7_fill_53178_4 rfl (Nat.le_of_ble_eq_true rfl) rfl ?_
  exact ge_sub [2, 3, 1, 0] rfl (t_J7_fill_53178_b5 b0 n0 a1 v_1 hb0  Q   gm_F (0 : Int32) h hyp)

theorem a_X5_begin_0 : At m_X5_begin 0 (.aload_n 0) 1 1 := at_i (by decide +kernel) rfl
theorem a_X5_begin_1 : At m_X5_begin 1 (.iload_n 1) 1 2 := at_i (by decide +kernel) rfl
theorem a_X5_begin_2 : At m_X5_begin 2 (.putfield 15) 3 5 := at_i (by decide +kernel) rfl
theorem a_X5_begin_5 : At m_X5_begin 5 (.aload_n 0) 1 6 := at_i (by decide +kernel) rfl
theorem a_X5_begin_6 : At m_X5_begin 6 (.iload_n 1) 1 7 := at_i (by decide +kernel) rfl
theorem a_X5_begin_7 : AtJ m_X5_begin 7 (.ifCond .ne 7) (7) 14 10 := at_j (by decide +kernel) (by decide) rfl
theorem a_X5_begin_10 : At m_X5_begin 10 (.iconst 0) 1 11 := at_i (by decide +kernel) rfl
theorem a_X5_begin_11 : AtJ m_X5_begin 11 (.goto 4) (4) 15 14 := at_j (by decide +kernel) (by decide) rfl
theorem a_X5_begin_14 : At m_X5_begin 14 (.iload_n 2) 1 15 := at_i (by decide +kernel) rfl
theorem a_X5_begin_15 : At m_X5_begin 15 (.putfield 19) 3 18 := at_i (by decide +kernel) rfl
theorem a_X5_begin_18 : At m_X5_begin 18 (.aload_n 0) 1 19 := at_i (by decide +kernel) rfl
theorem a_X5_begin_19 : At m_X5_begin 19 (.getfield 9) 3 22 := at_i (by decide +kernel) rfl
theorem a_X5_begin_22 : At m_X5_begin 22 (.iconst 0) 1 23 := at_i (by decide +kernel) rfl
theorem a_X5_begin_23 : At m_X5_begin 23 (.invokestatic 22) 3 26 := at_i (by decide +kernel) rfl
theorem a_X5_begin_26 : At m_X5_begin 26 (.return_) 1 27 := at_i (by decide +kernel) rfl
def f_X5_begin (k0 : Nat) (a1 : Int32) (a2 : Int32) (h : Mem) (Q : Mem → Prop) : Prop :=
  ∀ h_1 : Mem, h_1 = gm_st h k0 1 a1 →
  if a1 = 0 then (
    ∀ h_5 : Mem, h_5 = gm_st h_1 k0 2 (0 : Int32) →
    f_J7_fill_53178 (k0 + 1) 40 (0 : Int32) h_5 fun h_6 =>
    Q h_6)
  else (
    ∀ h_3 : Mem, h_3 = gm_st h_1 k0 2 a2 →
    f_J7_fill_53178 (k0 + 1) 40 (0 : Int32) h_3 fun h_4 =>
    Q h_4)
set_option maxRecDepth 20000 in
theorem t_X5_begin (k0 : Nat) (a1 : Int32) (a2 : Int32) (hk0 : gm_cls k0 = 4) (h : Mem) (Q : Mem → Prop) (hyp : f_X5_begin k0 a1 a2 h Q) : Cn m_X5_begin [.ref k0, .int a1, .int a2] h (GV Q) := by
  refine ge_entry (lv := [(0, .ref k0), (1, .int a1), (2, .int a2)]) pn_X5 (Nat.le_of_ble_eq_true rfl) rfl ?_
  unfold f_X5_begin at hyp
  refine ge_aload_n a_X5_begin_0 rfl 0 rfl ?_
  refine ge_iload_n a_X5_begin_1 rfl 1 rfl ?_
  refine ge_putI a_X5_begin_2 pd_X5_15 hk0 ?_
  refine ge_nm (fun h_1 eh_1 => ?_)
  have hyp := hyp h_1 eh_1
  refine ge_aload_n a_X5_begin_5 rfl 0 rfl ?_
  refine ge_iload_n a_X5_begin_6 rfl 1 rfl ?_
  refine ge_if_ne a_X5_begin_7 (fun c_2 => ?_) (fun c_2 => ?_)
  · have hyp := gm_in hyp c_2
    refine ge_iload_n a_X5_begin_14 rfl 2 rfl ?_
    refine ge_putI a_X5_begin_15 pd_X5_19 hk0 ?_
    refine ge_nm (fun h_3 eh_3 => ?_)
    have hyp := hyp h_3 eh_3
    refine ge_aload_n a_X5_begin_18 rfl 0 rfl ?_
    refine ge_getR (q := k0 + 1) a_X5_begin_19 fd_X5_9 hk0 (kr4_0 hk0) ?_
    refine ge_iconst (v := 0) a_X5_begin_22 rfl ?_
    refine ge_cSV [.ref (k0 + 1), .int (0 : Int32)] (rest := []) a_X5_begin_23 ok_J7_fill_53178 lk_X5_22 ⟨Nat.le_of_ble_eq_true rfl, Nat.le_of_ble_eq_true rfl⟩ rfl rfl (Nat.le_of_ble_eq_true rfl) (t_J7_fill_53178 (k0 + 1) 40 (0 : Int32) (ka4_0 hk0) h_3 _ hyp) (fun h_4 hyp => ?_)
    exact ge_vret rfl a_X5_begin_26 hyp
  · have hyp := gm_ip hyp c_2
    refine ge_iconst (v := 0) a_X5_begin_10 rfl ?_
    refine ge_goto a_X5_begin_11 ?_
    refine ge_putI a_X5_begin_15 pd_X5_19 hk0 ?_
    refine ge_nm (fun h_5 eh_5 => ?_)
    have hyp := hyp h_5 eh_5
    refine ge_aload_n a_X5_begin_18 rfl 0 rfl ?_
    refine ge_getR (q := k0 + 1) a_X5_begin_19 fd_X5_9 hk0 (kr4_0 hk0) ?_
    refine ge_iconst (v := 0) a_X5_begin_22 rfl ?_
    refine ge_cSV [.ref (k0 + 1), .int (0 : Int32)] (rest := []) a_X5_begin_23 ok_J7_fill_53178 lk_X5_22 ⟨Nat.le_of_ble_eq_true rfl, Nat.le_of_ble_eq_true rfl⟩ rfl rfl (Nat.le_of_ble_eq_true rfl) (t_J7_fill_53178 (k0 + 1) 40 (0 : Int32) (ka4_0 hk0) h_5 _ hyp) (fun h_6 hyp => ?_)
    exact ge_vret rfl a_X5_begin_26 hyp

theorem a_X5_hasPart_0 : At m_X5_hasPart 0 (.iload_n 1) 1 1 := at_i (by decide +kernel) rfl
theorem a_X5_hasPart_1 : AtJ m_X5_hasPart 1 (.ifCond .lt 21) (21) 22 4 := at_j (by decide +kernel) (by decide) rfl
theorem a_X5_hasPart_4 : At m_X5_hasPart 4 (.iload_n 2) 1 5 := at_i (by decide +kernel) rfl
theorem a_X5_hasPart_5 : AtJ m_X5_hasPart 5 (.ifCond .lt 17) (17) 22 8 := at_j (by decide +kernel) (by decide) rfl
theorem a_X5_hasPart_8 : At m_X5_hasPart 8 (.iload_n 1) 1 9 := at_i (by decide +kernel) rfl
theorem a_X5_hasPart_9 : At m_X5_hasPart 9 (.aload_n 0) 1 10 := at_i (by decide +kernel) rfl
theorem a_X5_hasPart_10 : At m_X5_hasPart 10 (.getfield 19) 3 13 := at_i (by decide +kernel) rfl
theorem a_X5_hasPart_13 : At m_X5_hasPart 13 (.iload_n 2) 1 14 := at_i (by decide +kernel) rfl
theorem a_X5_hasPart_14 : At m_X5_hasPart 14 (.isub) 1 15 := at_i (by decide +kernel) rfl
theorem a_X5_hasPart_15 : AtJ m_X5_hasPart 15 (.if_icmp .gt 7) (7) 22 18 := at_j (by decide +kernel) (by decide) rfl
theorem a_X5_hasPart_18 : At m_X5_hasPart 18 (.iconst 1) 1 19 := at_i (by decide +kernel) rfl
theorem a_X5_hasPart_19 : AtJ m_X5_hasPart 19 (.goto 4) (4) 23 22 := at_j (by decide +kernel) (by decide) rfl
theorem a_X5_hasPart_22 : At m_X5_hasPart 22 (.iconst 0) 1 23 := at_i (by decide +kernel) rfl
theorem a_X5_hasPart_23 : At m_X5_hasPart 23 (.ireturn) 1 24 := at_i (by decide +kernel) rfl
def f_X5_hasPart (k0 : Nat) (a1 : Int32) (a2 : Int32) (h : Mem) (Q : Int32 → Mem → Prop) : Prop :=
  if a1 < 0 then (
    Q (0 : Int32) h)
  else (
    if a2 < 0 then (
      Q (0 : Int32) h)
    else (
      if (h k0 2) - a2 < a1 then (
        Q (0 : Int32) h)
      else (
        Q (1 : Int32) h)))
set_option maxRecDepth 20000 in
theorem t_X5_hasPart (k0 : Nat) (a1 : Int32) (a2 : Int32) (hk0 : gm_cls k0 = 4) (h : Mem) (Q : Int32 → Mem → Prop) (hyp : f_X5_hasPart k0 a1 a2 h Q) : Cn m_X5_hasPart [.ref k0, .int a1, .int a2] h (GI Q) := by
  refine ge_entry (lv := [(0, .ref k0), (1, .int a1), (2, .int a2)]) pn_X5 (Nat.le_of_ble_eq_true rfl) rfl ?_
  unfold f_X5_hasPart at hyp
  refine ge_iload_n a_X5_hasPart_0 rfl 1 rfl ?_
  refine ge_if_lt a_X5_hasPart_1 (fun c_1 => ?_) (fun c_1 => ?_)
  · have hyp := gm_ip hyp c_1
    refine ge_iconst (v := 0) a_X5_hasPart_22 rfl ?_
    exact ge_zret rfl rfl a_X5_hasPart_23 hyp
  · have hyp := gm_in hyp c_1
    refine ge_iload_n a_X5_hasPart_4 rfl 2 rfl ?_
    refine ge_if_lt a_X5_hasPart_5 (fun c_2 => ?_) (fun c_2 => ?_)
    · have hyp := gm_ip hyp c_2
      refine ge_iconst (v := 0) a_X5_hasPart_22 rfl ?_
      exact ge_zret rfl rfl a_X5_hasPart_23 hyp
    · have hyp := gm_in hyp c_2
      refine ge_iload_n a_X5_hasPart_8 rfl 1 rfl ?_
      refine ge_aload_n a_X5_hasPart_9 rfl 0 rfl ?_
      refine ge_getI a_X5_hasPart_10 fd_X5_19 hk0 ?_
      refine ge_iload_n a_X5_hasPart_13 rfl 2 rfl ?_
      refine ge_isub a_X5_hasPart_14 ?_
      refine ge_icmp_gt a_X5_hasPart_15 (fun c_3 => ?_) (fun c_3 => ?_)
      · have hyp := gm_ip hyp c_3
        refine ge_iconst (v := 0) a_X5_hasPart_22 rfl ?_
        exact ge_zret rfl rfl a_X5_hasPart_23 hyp
      · have hyp := gm_in hyp c_3
        refine ge_iconst (v := 1) a_X5_hasPart_18 rfl ?_
        refine ge_goto a_X5_hasPart_19 ?_
        exact ge_zret rfl rfl a_X5_hasPart_23 hyp
