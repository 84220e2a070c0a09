theorem a_X5_put_0 : At m_X5_put 0 (.aload_n 0) 1 1 := at_i (by decide +kernel) rfl
theorem a_X5_put_1 : At m_X5_put 1 (.getfield 15) 3 4 := at_i (by decide +kernel) rfl
theorem a_X5_put_4 : At m_X5_put 4 (.bipush 8) 2 6 := at_i (by decide +kernel) rfl
theorem a_X5_put_6 : AtJ m_X5_put 6 (.if_icmp .ne 14) (14) 20 9 := at_j (by decide +kernel) (by decide) rfl
theorem a_X5_put_9 : At m_X5_put 9 (.aload_n 0) 1 10 := at_i (by decide +kernel) rfl
theorem a_X5_put_10 : At m_X5_put 10 (.getfield 9) 3 13 := at_i (by decide +kernel) rfl
theorem a_X5_put_13 : At m_X5_put 13 (.iload_n 1) 1 14 := at_i (by decide +kernel) rfl
theorem a_X5_put_14 : At m_X5_put 14 (.iload_n 2) 1 15 := at_i (by decide +kernel) rfl
theorem a_X5_put_15 : At m_X5_put 15 (.i2b) 1 16 := at_i (by decide +kernel) rfl
theorem a_X5_put_16 : At m_X5_put 16 (.iastore) 1 17 := at_i (by decide +kernel) rfl
theorem a_X5_put_17 : AtJ m_X5_put 17 (.goto 30) (30) 47 20 := at_j (by decide +kernel) (by decide) rfl
theorem a_X5_put_20 : At m_X5_put 20 (.aload_n 0) 1 21 := at_i (by decide +kernel) rfl
theorem a_X5_put_21 : At m_X5_put 21 (.getfield 15) 3 24 := at_i (by decide +kernel) rfl
theorem a_X5_put_24 : At m_X5_put 24 (.bipush 16) 2 26 := at_i (by decide +kernel) rfl
theorem a_X5_put_26 : AtJ m_X5_put 26 (.if_icmp .ne 14) (14) 40 29 := at_j (by decide +kernel) (by decide) rfl
theorem a_X5_put_29 : At m_X5_put 29 (.aload_n 0) 1 30 := at_i (by decide +kernel) rfl
theorem a_X5_put_30 : At m_X5_put 30 (.getfield 9) 3 33 := at_i (by decide +kernel) rfl
theorem a_X5_put_33 : At m_X5_put 33 (.iload_n 1) 1 34 := at_i (by decide +kernel) rfl
theorem a_X5_put_34 : At m_X5_put 34 (.iload_n 2) 1 35 := at_i (by decide +kernel) rfl
theorem a_X5_put_35 : At m_X5_put 35 (.i2s) 1 36 := at_i (by decide +kernel) rfl
theorem a_X5_put_36 : At m_X5_put 36 (.iastore) 1 37 := at_i (by decide +kernel) rfl
theorem a_X5_put_37 : AtJ m_X5_put 37 (.goto 10) (10) 47 40 := at_j (by decide +kernel) (by decide) rfl
theorem a_X5_put_40 : At m_X5_put 40 (.aload_n 0) 1 41 := at_i (by decide +kernel) rfl
theorem a_X5_put_41 : At m_X5_put 41 (.getfield 9) 3 44 := at_i (by decide +kernel) rfl
theorem a_X5_put_44 : At m_X5_put 44 (.iload_n 1) 1 45 := at_i (by decide +kernel) rfl
theorem a_X5_put_45 : At m_X5_put 45 (.iload_n 2) 1 46 := at_i (by decide +kernel) rfl
theorem a_X5_put_46 : At m_X5_put 46 (.iastore) 1 47 := at_i (by decide +kernel) rfl
theorem a_X5_put_47 : At m_X5_put 47 (.return_) 1 48 := at_i (by decide +kernel) rfl
def f_X5_put (k0 : Nat) (a1 : Int32) (a2 : Int32) (h : Mem) (Q : Mem → Prop) : Prop :=
  if h k0 1 = (8 : Int32) then (
    vp_in a1 40 ∧
    ∀ h_8 : Mem, h_8 = gm_st h (k0 + 1) a1.toNatClampNeg a2.toInt8.toInt32 →
    Q h_8)
  else (
    if h k0 1 = (16 : Int32) then (
      vp_in a1 40 ∧
      ∀ h_6 : Mem, h_6 = gm_st h (k0 + 1) a1.toNatClampNeg a2.toInt16.toInt32 →
      Q h_6)
    else (
      vp_in a1 40 ∧
      ∀ h_4 : Mem, h_4 = gm_st h (k0 + 1) a1.toNatClampNeg a2 →
      Q h_4))
set_option maxRecDepth 20000 in
theorem t_X5_put (k0 : Nat) (a1 : Int32) (a2 : Int32) (hk0 : gm_cls k0 = 4) (h : Mem) (Q : Mem → Prop) (hyp : f_X5_put k0 a1 a2 h Q) : Cn m_X5_put [.ref k0, .int a1, .int a2] h (GV Q) := by
  refine ge_entry (lv := [(0, .ref k0), (1, .int a1), (2, .int a2)]) pn_X5 (Nat.le_of_ble_eq_true rfl) rfl ?_
  unfold f_X5_put at hyp
  refine ge_aload_n a_X5_put_0 rfl 0 rfl ?_
  refine ge_getI a_X5_put_1 fd_X5_15 hk0 ?_
  refine ge_bipush (v := 8) a_X5_put_4 rfl ?_
  refine ge_icmp_ne a_X5_put_6 (fun c_1 => ?_) (fun c_1 => ?_)
  · have hyp := gm_in hyp c_1
    refine ge_aload_n a_X5_put_20 rfl 0 rfl ?_
    refine ge_getI a_X5_put_21 fd_X5_15 hk0 ?_
    refine ge_bipush (v := 16) a_X5_put_24 rfl ?_
    refine ge_icmp_ne a_X5_put_26 (fun c_2 => ?_) (fun c_2 => ?_)
    · have hyp := gm_in hyp c_2
      refine ge_aload_n a_X5_put_40 rfl 0 rfl ?_
      refine ge_getR (q := k0 + 1) a_X5_put_41 fd_X5_9 hk0 (kr4_0 hk0) ?_
      refine ge_iload_n a_X5_put_44 rfl 1 rfl ?_
      refine ge_iload_n a_X5_put_45 rfl 2 rfl ?_
      obtain ⟨b_3, hyp⟩ := hyp
      refine ge_iast (j := a1.toNatClampNeg) a_X5_put_46 (ka4_0 hk0) b_3 rfl ?_
      refine ge_nm (fun h_4 eh_4 => ?_)
      have hyp := hyp h_4 eh_4
      exact ge_vret rfl a_X5_put_47 hyp
    · have hyp := gm_ip hyp c_2
      refine ge_aload_n a_X5_put_29 rfl 0 rfl ?_
      refine ge_getR (q := k0 + 1) a_X5_put_30 fd_X5_9 hk0 (kr4_0 hk0) ?_
      refine ge_iload_n a_X5_put_33 rfl 1 rfl ?_
      refine ge_iload_n a_X5_put_34 rfl 2 rfl ?_
      refine ge_i2s a_X5_put_35 ?_
      obtain ⟨b_5, hyp⟩ := hyp
      refine ge_iast (j := a1.toNatClampNeg) a_X5_put_36 (ka4_0 hk0) b_5 rfl ?_
      refine ge_nm (fun h_6 eh_6 => ?_)
      have hyp := hyp h_6 eh_6
      refine ge_goto a_X5_put_37 ?_
      exact ge_vret rfl a_X5_put_47 hyp
  · have hyp := gm_ip hyp c_1
    refine ge_aload_n a_X5_put_9 rfl 0 rfl ?_
    refine ge_getR (q := k0 + 1) a_X5_put_10 fd_X5_9 hk0 (kr4_0 hk0) ?_
    refine ge_iload_n a_X5_put_13 rfl 1 rfl ?_
    refine ge_iload_n a_X5_put_14 rfl 2 rfl ?_
    refine ge_i2b a_X5_put_15 ?_
    obtain ⟨b_7, hyp⟩ := hyp
    refine ge_iast (j := a1.toNatClampNeg) a_X5_put_16 (ka4_0 hk0) b_7 rfl ?_
    refine ge_nm (fun h_8 eh_8 => ?_)
    have hyp := hyp h_8 eh_8
    refine ge_goto a_X5_put_17 ?_
    exact ge_vret rfl a_X5_put_47 hyp

theorem a_X6_become_0 : At m_X6_become 0 (.aload_n 1) 1 1 := at_i (by decide +kernel) rfl
theorem a_X6_become_1 : At m_X6_become 1 (.getfield 9) 3 4 := at_i (by decide +kernel) rfl
theorem a_X6_become_4 : At m_X6_become 4 (.iconst 0) 1 5 := at_i (by decide +kernel) rfl
theorem a_X6_become_5 : At m_X6_become 5 (.aload_n 0) 1 6 := at_i (by decide +kernel) rfl
theorem a_X6_become_6 : At m_X6_become 6 (.getfield 9) 3 9 := at_i (by decide +kernel) rfl
theorem a_X6_become_9 : At m_X6_become 9 (.iconst 0) 1 10 := at_i (by decide +kernel) rfl
theorem a_X6_become_10 : At m_X6_become 10 (.bipush 12) 2 12 := at_i (by decide +kernel) rfl
theorem a_X6_become_12 : At m_X6_become 12 (.invokestatic 34) 3 15 := at_i (by decide +kernel) rfl
theorem a_X6_become_15 : At m_X6_become 15 (.aload_n 1) 1 16 := at_i (by decide +kernel) rfl
theorem a_X6_become_16 : At m_X6_become 16 (.getfield 15) 3 19 := at_i (by decide +kernel) rfl
theorem a_X6_become_19 : At m_X6_become 19 (.iconst 0) 1 20 := at_i (by decide +kernel) rfl
theorem a_X6_become_20 : At m_X6_become 20 (.aload_n 0) 1 21 := at_i (by decide +kernel) rfl
theorem a_X6_become_21 : At m_X6_become 21 (.getfield 15) 3 24 := at_i (by decide +kernel) rfl
theorem a_X6_become_24 : At m_X6_become 24 (.iconst 0) 1 25 := at_i (by decide +kernel) rfl
theorem a_X6_become_25 : At m_X6_become 25 (.bipush 12) 2 27 := at_i (by decide +kernel) rfl
theorem a_X6_become_27 : At m_X6_become 27 (.invokestatic 34) 3 30 := at_i (by decide +kernel) rfl
theorem a_X6_become_30 : At m_X6_become 30 (.aload_n 1) 1 31 := at_i (by decide +kernel) rfl
theorem a_X6_become_31 : At m_X6_become 31 (.getfield 18) 3 34 := at_i (by decide +kernel) rfl
theorem a_X6_become_34 : At m_X6_become 34 (.iconst 0) 1 35 := at_i (by decide +kernel) rfl
theorem a_X6_become_35 : At m_X6_become 35 (.aload_n 0) 1 36 := at_i (by decide +kernel) rfl
theorem a_X6_become_36 : At m_X6_become 36 (.getfield 18) 3 39 := at_i (by decide +kernel) rfl
theorem a_X6_become_39 : At m_X6_become 39 (.iconst 0) 1 40 := at_i (by decide +kernel) rfl
theorem a_X6_become_40 : At m_X6_become 40 (.bipush 12) 2 42 := at_i (by decide +kernel) rfl
theorem a_X6_become_42 : At m_X6_become 42 (.invokestatic 34) 3 45 := at_i (by decide +kernel) rfl
theorem a_X6_become_45 : At m_X6_become 45 (.aload_n 1) 1 46 := at_i (by decide +kernel) rfl
theorem a_X6_become_46 : At m_X6_become 46 (.getfield 21) 3 49 := at_i (by decide +kernel) rfl
theorem a_X6_become_49 : At m_X6_become 49 (.iconst 0) 1 50 := at_i (by decide +kernel) rfl
theorem a_X6_become_50 : At m_X6_become 50 (.aload_n 0) 1 51 := at_i (by decide +kernel) rfl
theorem a_X6_become_51 : At m_X6_become 51 (.getfield 21) 3 54 := at_i (by decide +kernel) rfl
theorem a_X6_become_54 : At m_X6_become 54 (.iconst 0) 1 55 := at_i (by decide +kernel) rfl
theorem a_X6_become_55 : At m_X6_become 55 (.bipush 10) 2 57 := at_i (by decide +kernel) rfl
theorem a_X6_become_57 : At m_X6_become 57 (.invokestatic 34) 3 60 := at_i (by decide +kernel) rfl
theorem a_X6_become_60 : At m_X6_become 60 (.aload_n 1) 1 61 := at_i (by decide +kernel) rfl
theorem a_X6_become_61 : At m_X6_become 61 (.getfield 24) 3 64 := at_i (by decide +kernel) rfl
theorem a_X6_become_64 : At m_X6_become 64 (.iconst 0) 1 65 := at_i (by decide +kernel) rfl
theorem a_X6_become_65 : At m_X6_become 65 (.aload_n 0) 1 66 := at_i (by decide +kernel) rfl
theorem a_X6_become_66 : At m_X6_become 66 (.getfield 24) 3 69 := at_i (by decide +kernel) rfl
theorem a_X6_become_69 : At m_X6_become 69 (.iconst 0) 1 70 := at_i (by decide +kernel) rfl
theorem a_X6_become_70 : At m_X6_become 70 (.bipush 10) 2 72 := at_i (by decide +kernel) rfl
theorem a_X6_become_72 : At m_X6_become 72 (.invokestatic 34) 3 75 := at_i (by decide +kernel) rfl
theorem a_X6_become_75 : At m_X6_become 75 (.aload_n 0) 1 76 := at_i (by decide +kernel) rfl
theorem a_X6_become_76 : At m_X6_become 76 (.aload_n 1) 1 77 := at_i (by decide +kernel) rfl
theorem a_X6_become_77 : At m_X6_become 77 (.getfield 46) 3 80 := at_i (by decide +kernel) rfl
theorem a_X6_become_80 : At m_X6_become 80 (.putfield 46) 3 83 := at_i (by decide +kernel) rfl
theorem a_X6_become_83 : At m_X6_become 83 (.aload_n 0) 1 84 := at_i (by decide +kernel) rfl
theorem a_X6_become_84 : At m_X6_become 84 (.aload_n 1) 1 85 := at_i (by decide +kernel) rfl
theorem a_X6_become_85 : At m_X6_become 85 (.getfield 49) 3 88 := at_i (by decide +kernel) rfl
theorem a_X6_become_88 : At m_X6_become 88 (.putfield 49) 3 91 := at_i (by decide +kernel) rfl
theorem a_X6_become_91 : At m_X6_become 91 (.aload_n 0) 1 92 := at_i (by decide +kernel) rfl
theorem a_X6_become_92 : At m_X6_become 92 (.aload_n 1) 1 93 := at_i (by decide +kernel) rfl
theorem a_X6_become_93 : At m_X6_become 93 (.getfield 52) 3 96 := at_i (by decide +kernel) rfl
theorem a_X6_become_96 : At m_X6_become 96 (.putfield 52) 3 99 := at_i (by decide +kernel) rfl
theorem a_X6_become_99 : At m_X6_become 99 (.aload_n 0) 1 100 := at_i (by decide +kernel) rfl
theorem a_X6_become_100 : At m_X6_become 100 (.aload_n 1) 1 101 := at_i (by decide +kernel) rfl
theorem a_X6_become_101 : At m_X6_become 101 (.getfield 55) 3 104 := at_i (by decide +kernel) rfl
theorem a_X6_become_104 : At m_X6_become 104 (.putfield 55) 3 107 := at_i (by decide +kernel) rfl
theorem a_X6_become_107 : At m_X6_become 107 (.aload_n 0) 1 108 := at_i (by decide +kernel) rfl
theorem a_X6_become_108 : At m_X6_become 108 (.aload_n 1) 1 109 := at_i (by decide +kernel) rfl
theorem a_X6_become_109 : At m_X6_become 109 (.getfield 58) 3 112 := at_i (by decide +kernel) rfl
theorem a_X6_become_112 : At m_X6_become 112 (.putfield 58) 3 115 := at_i (by decide +kernel) rfl
theorem a_X6_become_115 : At m_X6_become 115 (.aload_n 0) 1 116 := at_i (by decide +kernel) rfl
theorem a_X6_become_116 : At m_X6_become 116 (.aload_n 1) 1 117 := at_i (by decide +kernel) rfl
theorem a_X6_become_117 : At m_X6_become 117 (.getfield 27) 3 120 := at_i (by decide +kernel) rfl
theorem a_X6_become_120 : At m_X6_become 120 (.putfield 27) 3 123 := at_i (by decide +kernel) rfl
theorem a_X6_become_123 : At m_X6_become 123 (.return_) 1 124 := at_i (by decide +kernel) rfl
def f_X6_become (k0 : Nat) (q1 : Nat) (h : Mem) (Q : Mem → Prop) : Prop :=
  ∀ h_1 : Mem, h_1 = gm_cpy h (q1 + 1) (k0 + 1) 0 0 12 →
  ∀ h_2 : Mem, h_2 = gm_cpy h_1 (q1 + 2) (k0 + 2) 0 0 12 →
  ∀ h_3 : Mem, h_3 = gm_cpy h_2 (q1 + 3) (k0 + 3) 0 0 12 →
  ∀ h_4 : Mem, h_4 = gm_cpy h_3 (q1 + 4) (k0 + 4) 0 0 10 →
  ∀ h_5 : Mem, h_5 = gm_cpy h_4 (q1 + 5) (k0 + 5) 0 0 10 →
  ∀ h_6 : Mem, h_6 = gm_st h_5 k0 5 (h_5 q1 5) →
  ∀ h_7 : Mem, h_7 = gm_st h_6 k0 6 (h_6 q1 6) →
  ∀ h_8 : Mem, h_8 = gm_st h_7 k0 7 (h_7 q1 7) →
  ∀ h_9 : Mem, h_9 = gm_st h_8 k0 8 (h_8 q1 8) →
  ∀ h_10 : Mem, h_10 = gm_st h_9 k0 9 (h_9 q1 9) →
  ∀ h_11 : Mem, h_11 = gm_st h_10 k0 10 (h_10 q1 10) →
  Q h_11
set_option maxRecDepth 20000 in
theorem t_X6_become (k0 : Nat) (q1 : Nat) (hk0 : gm_cls k0 = 5) (hq1 : gm_cls q1 = 5) (h : Mem) (Q : Mem → Prop) (hyp : f_X6_become k0 q1 h Q) : Cn m_X6_become [.ref k0, .ref q1] h (GV Q) := by
  refine ge_entry (lv := [(0, .ref k0), (1, .ref q1)]) pn_X6 (Nat.le_of_ble_eq_true rfl) rfl ?_
  unfold f_X6_become at hyp
  refine ge_aload_n a_X6_become_0 rfl 1 rfl ?_
  refine ge_getR (q := q1 + 1) a_X6_become_1 fd_X6_9 hq1 (kr5_0 hq1) ?_
  refine ge_iconst (v := 0) a_X6_become_4 rfl ?_
  refine ge_aload_n a_X6_become_5 rfl 0 rfl ?_
  refine ge_getR (q := k0 + 1) a_X6_become_6 fd_X6_9 hk0 (kr5_0 hk0) ?_
  refine ge_iconst (v := 0) a_X6_become_9 rfl ?_
  refine ge_bipush (v := 12) a_X6_become_10 rfl ?_
  refine ge_copy (rest := []) a_X6_become_12 lk_X6_34 (ka5_0 hq1) (ka5_0 hk0) (by decide) (by decide) (by decide) (by decide) (by decide) (Nat.le_of_ble_eq_true rfl) (Nat.le_of_ble_eq_true rfl) ?_
  refine ge_nm (fun h_1 eh_1 => ?_)
  have hyp := hyp h_1 eh_1
  refine ge_aload_n a_X6_become_15 rfl 1 rfl ?_
  refine ge_getR (q := q1 + 2) a_X6_become_16 fd_X6_15 hq1 (kr5_1 hq1) ?_
  refine ge_iconst (v := 0) a_X6_become_19 rfl ?_
  refine ge_aload_n a_X6_become_20 rfl 0 rfl ?_
  refine ge_getR (q := k0 + 2) a_X6_become_21 fd_X6_15 hk0 (kr5_1 hk0) ?_
  refine ge_iconst (v := 0) a_X6_become_24 rfl ?_
  refine ge_bipush (v := 12) a_X6_become_25 rfl ?_
  refine ge_copy (rest := []) a_X6_become_27 lk_X6_34 (ka5_1 hq1) (ka5_1 hk0) (by decide) (by decide) (by decide) (by decide) (by decide) (Nat.le_of_ble_eq_true rfl) (Nat.le_of_ble_eq_true rfl) ?_
  refine ge_nm (fun h_2 eh_2 => ?_)
  have hyp := hyp h_2 eh_2
  refine ge_aload_n a_X6_become_30 rfl 1 rfl ?_
  refine ge_getR (q := q1 + 3) a_X6_become_31 fd_X6_18 hq1 (kr5_2 hq1) ?_
  refine ge_iconst (v := 0) a_X6_become_34 rfl ?_
  refine ge_aload_n a_X6_become_35 rfl 0 rfl ?_
  refine ge_getR (q := k0 + 3) a_X6_become_36 fd_X6_18 hk0 (kr5_2 hk0) ?_
  refine ge_iconst (v := 0) a_X6_become_39 rfl ?_
  refine ge_bipush (v := 12) a_X6_become_40 rfl ?_
  refine ge_copy (rest := []) a_X6_become_42 lk_X6_34 (ka5_2 hq1) (ka5_2 hk0) (by decide) (by decide) (by decide) (by decide) (by decide) (Nat.le_of_ble_eq_true rfl) (Nat.le_of_ble_eq_true rfl) ?_
  refine ge_nm (fun h_3 eh_3 => ?_)
  have hyp := hyp h_3 eh_3
  refine ge_aload_n a_X6_become_45 rfl 1 rfl ?_
  refine ge_getR (q := q1 + 4) a_X6_become_46 fd_X6_21 hq1 (kr5_3 hq1) ?_
  refine ge_iconst (v := 0) a_X6_become_49 rfl ?_
  refine ge_aload_n a_X6_become_50 rfl 0 rfl ?_
  refine ge_getR (q := k0 + 4) a_X6_become_51 fd_X6_21 hk0 (kr5_3 hk0) ?_
  refine ge_iconst (v := 0) a_X6_become_54 rfl ?_
  refine ge_bipush (v := 10) a_X6_become_55 rfl ?_
  refine ge_copy (rest := []) a_X6_become_57 lk_X6_34 (ka5_3 hq1) (ka5_3 hk0) (by decide) (by decide) (by decide) (by decide) (by decide) (Nat.le_of_ble_eq_true rfl) (Nat.le_of_ble_eq_true rfl) ?_
  refine ge_nm (fun h_4 eh_4 => ?_)
  have hyp := hyp h_4 eh_4
  refine ge_aload_n a_X6_become_60 rfl 1 rfl ?_
  refine ge_getR (q := q1 + 5) a_X6_become_61 fd_X6_24 hq1 (kr5_4 hq1) ?_
  refine ge_iconst (v := 0) a_X6_become_64 rfl ?_
  refine ge_aload_n a_X6_become_65 rfl 0 rfl ?_
  refine ge_getR (q := k0 + 5) a_X6_become_66 fd_X6_24 hk0 (kr5_4 hk0) ?_
  refine ge_iconst (v := 0) a_X6_become_69 rfl ?_
  refine ge_bipush (v := 10) a_X6_become_70 rfl ?_
  refine ge_copy (rest := []) a_X6_become_72 lk_X6_34 (ka5_4 hq1) (ka5_4 hk0) (by decide) (by decide) (by decide) (by decide) (by decide) (Nat.le_of_ble_eq_true rfl) (Nat.le_of_ble_eq_true rfl) ?_
  refine ge_nm (fun h_5 eh_5 => ?_)
  have hyp := hyp h_5 eh_5
  refine ge_aload_n a_X6_become_75 rfl 0 rfl ?_
  refine ge_aload_n a_X6_become_76 rfl 1 rfl ?_
  refine ge_getI a_X6_become_77 fd_X6_46 hq1 ?_
  refine ge_putI a_X6_become_80 pd_X6_46 hk0 ?_
  refine ge_nm (fun h_6 eh_6 => ?_)
  have hyp := hyp h_6 eh_6
  refine ge_aload_n a_X6_become_83 rfl 0 rfl ?_
  refine ge_aload_n a_X6_become_84 rfl 1 rfl ?_
  refine ge_getI a_X6_become_85 fd_X6_49 hq1 ?_
  refine ge_putI a_X6_become_88 pd_X6_49 hk0 ?_
  refine ge_nm (fun h_7 eh_7 => ?_)
  have hyp := hyp h_7 eh_7
  refine ge_aload_n a_X6_become_91 rfl 0 rfl ?_
  refine ge_aload_n a_X6_become_92 rfl 1 rfl ?_
  refine ge_getI a_X6_become_93 fd_X6_52 hq1 ?_
  refine ge_putI a_X6_become_96 pd_X6_52 hk0 ?_
  refine ge_nm (fun h_8 eh_8 => ?_)
  have hyp := hyp h_8 eh_8
  refine ge_aload_n a_X6_become_99 rfl 0 rfl ?_
  refine ge_aload_n a_X6_become_100 rfl 1 rfl ?_
  refine ge_getI a_X6_become_101 fd_X6_55 hq1 ?_
  refine ge_putI a_X6_become_104 pd_X6_55 hk0 ?_
  refine ge_nm (fun h_9 eh_9 => ?_)
  have hyp := hyp h_9 eh_9
  refine ge_aload_n a_X6_become_107 rfl 0 rfl ?_
  refine ge_aload_n a_X6_become_108 rfl 1 rfl ?_
  refine ge_getI a_X6_become_109 fd_X6_58 hq1 ?_
  refine ge_putI a_X6_become_112 pd_X6_58 hk0 ?_
  refine ge_nm (fun h_10 eh_10 => ?_)
  have hyp := hyp h_10 eh_10
  refine ge_aload_n a_X6_become_115 rfl 0 rfl ?_
  refine ge_aload_n a_X6_become_116 rfl 1 rfl ?_
  refine ge_getI a_X6_become_117 fd_X6_27 hq1 ?_
  refine ge_putI a_X6_become_120 pd_X6_27 hk0 ?_
  refine ge_nm (fun h_11 eh_11 => ?_)
  have hyp := hyp h_11 eh_11
  exact ge_vret rfl a_X6_become_123 hyp

theorem a_X6_isLine_0 : At m_X6_isLine 0 (.iload_n 1) 1 1 := at_i (by decide +kernel) rfl
theorem a_X6_isLine_1 : AtJ m_X6_isLine 1 (.ifCond .lt 15) (15) 16 4 := at_j (by decide +kernel) (by decide) rfl
theorem a_X6_isLine_4 : At m_X6_isLine 4 (.iload_n 1) 1 5 := at_i (by decide +kernel) rfl
theorem a_X6_isLine_5 : At m_X6_isLine 5 (.aload_n 0) 1 6 := at_i (by decide +kernel) rfl
theorem a_X6_isLine_6 : At m_X6_isLine 6 (.getfield 46) 3 9 := at_i (by decide +kernel) rfl
theorem a_X6_isLine_9 : AtJ m_X6_isLine 9 (.if_icmp .ge 7) (7) 16 12 := at_j (by decide +kernel) (by decide) rfl
theorem a_X6_isLine_12 : At m_X6_isLine 12 (.iconst 1) 1 13 := at_i (by decide +kernel) rfl
theorem a_X6_isLine_13 : AtJ m_X6_isLine 13 (.goto 4) (4) 17 16 := at_j (by decide +kernel) (by decide) rfl
theorem a_X6_isLine_16 : At m_X6_isLine 16 (.iconst 0) 1 17 := at_i (by decide +kernel) rfl
theorem a_X6_isLine_17 : At m_X6_isLine 17 (.ireturn) 1 18 := at_i (by decide +kernel) rfl
def f_X6_isLine (k0 : Nat) (a1 : Int32) (h : Mem) (Q : Int32 → Mem → Prop) : Prop :=
  if a1 < 0 then (
    Q (0 : Int32) h)
  else (
    if h k0 5 ≤ a1 then (
      Q (0 : Int32) h)
    else (
      Q (1 : Int32) h))
set_option maxRecDepth 20000 in
theorem t_X6_isLine (k0 : Nat) (a1 : Int32) (hk0 : gm_cls k0 = 5) (h : Mem) (Q : Int32 → Mem → Prop) (hyp : f_X6_isLine k0 a1 h Q) : Cn m_X6_isLine [.ref k0, .int a1] h (GI Q) := by
  refine ge_entry (lv := [(0, .ref k0), (1, .int a1)]) pn_X6 (Nat.le_of_ble_eq_true rfl) rfl ?_
  unfold f_X6_isLine at hyp
  refine ge_iload_n a_X6_isLine_0 rfl 1 rfl ?_
  refine ge_if_lt a_X6_isLine_1 (fun c_1 => ?_) (fun c_1 => ?_)
  · have hyp := gm_ip hyp c_1
    refine ge_iconst (v := 0) a_X6_isLine_16 rfl ?_
    exact ge_zret rfl rfl a_X6_isLine_17 hyp
  · have hyp := gm_in hyp c_1
    refine ge_iload_n a_X6_isLine_4 rfl 1 rfl ?_
    refine ge_aload_n a_X6_isLine_5 rfl 0 rfl ?_
    refine ge_getI a_X6_isLine_6 fd_X6_46 hk0 ?_
    refine ge_icmp_ge a_X6_isLine_9 (fun c_2 => ?_) (fun c_2 => ?_)
    · have hyp := gm_ip hyp c_2
      refine ge_iconst (v := 0) a_X6_isLine_16 rfl ?_
      exact ge_zret rfl rfl a_X6_isLine_17 hyp
    · have hyp := gm_in hyp c_2
      refine ge_iconst (v := 1) a_X6_isLine_12 rfl ?_
      refine ge_goto a_X6_isLine_13 ?_
      exact ge_zret rfl rfl a_X6_isLine_17 hyp

theorem a_X6_sumOf_0 : At m_X6_sumOf 0 (.iconst 0) 1 1 := at_i (by decide +kernel) rfl
theorem a_X6_sumOf_1 : At m_X6_sumOf 1 (.istore_n 2) 1 2 := at_i (by decide +kernel) rfl
theorem a_X6_sumOf_2 : At m_X6_sumOf 2 (.iconst 0) 1 3 := at_i (by decide +kernel) rfl
theorem a_X6_sumOf_3 : At m_X6_sumOf 3 (.istore_n 3) 1 4 := at_i (by decide +kernel) rfl
theorem a_X6_sumOf_4 : At m_X6_sumOf 4 (.iload_n 3) 1 5 := at_i (by decide +kernel) rfl
theorem a_X6_sumOf_5 : At m_X6_sumOf 5 (.aload_n 0) 1 6 := at_i (by decide +kernel) rfl
theorem a_X6_sumOf_6 : At m_X6_sumOf 6 (.getfield 46) 3 9 := at_i (by decide +kernel) rfl
theorem a_X6_sumOf_9 : AtJ m_X6_sumOf 9 (.if_icmp .ge 15) (15) 24 12 := at_j (by decide +kernel) (by decide) rfl
theorem a_X6_sumOf_12 : At m_X6_sumOf 12 (.iload_n 2) 1 13 := at_i (by decide +kernel) rfl
theorem a_X6_sumOf_13 : At m_X6_sumOf 13 (.aload_n 1) 1 14 := at_i (by decide +kernel) rfl
theorem a_X6_sumOf_14 : At m_X6_sumOf 14 (.iload_n 3) 1 15 := at_i (by decide +kernel) rfl
theorem a_X6_sumOf_15 : At m_X6_sumOf 15 (.iaload) 1 16 := at_i (by decide +kernel) rfl
theorem a_X6_sumOf_16 : At m_X6_sumOf 16 (.iadd) 1 17 := at_i (by decide +kernel) rfl
theorem a_X6_sumOf_17 : At m_X6_sumOf 17 (.istore_n 2) 1 18 := at_i (by decide +kernel) rfl
theorem a_X6_sumOf_18 : At m_X6_sumOf 18 (.iinc 3 1) 3 21 := at_i (by decide +kernel) rfl
theorem a_X6_sumOf_21 : AtJ m_X6_sumOf 21 (.goto (-17)) (-17) 4 24 := at_j (by decide +kernel) (by decide) rfl
theorem a_X6_sumOf_24 : At m_X6_sumOf 24 (.iload_n 2) 1 25 := at_i (by decide +kernel) rfl
theorem a_X6_sumOf_25 : At m_X6_sumOf 25 (.ireturn) 1 26 := at_i (by decide +kernel) rfl
def f_X6_sumOf_b4 (k0 : Nat) (b1 : Nat) (n1 : Nat)  (Q : Int32 → Mem → Prop)  (K4 : Int32 → Int32 → Mem → Prop) (v2 : Int32) (v3 : Int32) (h : Mem) : Prop :=
  if h k0 5 ≤ v3 then (
    Q v2 h)
  else (
    vp_in v3 n1 ∧
    ∀ v_3 : Int32, v_3 = v2 + (h b1 v3.toNatClampNeg) →
    ∀ v_4 : Int32, v_4 = v3 + (1 : Int32) →
    K4 v_3 v_4 h)
set_option maxRecDepth 20000 in
theorem t_X6_sumOf_b4 (k0 : Nat) (b1 : Nat) (n1 : Nat)  (hk0 : gm_cls k0 = 5) (hb1 : gm_arr b1 n1)  (Q : Int32 → Mem → Prop)   : ∀ (n : Nat) (v2 : Int32) (v3 : Int32) (h : Mem), gm_it2 (f_X6_sumOf_b4 k0 b1 n1  Q ) n v2 v3 h → EV m_X6_sumOf (GI Q) 4 [(0, .ref k0), (1, .ref b1), (2, .int v2), (3, .int v3)] [] h := by
  refine ge_loop2 (P := fun v2 v3 h => EV m_X6_sumOf (GI Q) 4 [(0, .ref k0), (1, .ref b1), (2, .int v2), (3, .int v3)] [] h) (fun K4 hK4 v2 v3 h hyp => ?_)
  unfold f_X6_sumOf_b4 at hyp
  refine ge_iload_n a_X6_sumOf_4 rfl 3 rfl ?_
  refine ge_aload_n a_X6_sumOf_5 rfl 0 rfl ?_
  refine ge_getI a_X6_sumOf_6 fd_X6_46 hk0 ?_
  refine ge_icmp_ge a_X6_sumOf_9 (fun c_1 => ?_) (fun c_1 => ?_)
  · have hyp := gm_ip hyp c_1
    refine ge_iload_n a_X6_sumOf_24 rfl 2 rfl ?_
    exact ge_iret rfl a_X6_sumOf_25 hyp
  · have hyp := gm_in hyp c_1
    refine ge_iload_n a_X6_sumOf_12 rfl 2 rfl ?_
    refine ge_aload_n a_X6_sumOf_13 rfl 1 rfl ?_
    refine ge_iload_n a_X6_sumOf_14 rfl 3 rfl ?_
    obtain ⟨b_2, hyp⟩ := hyp
    refine ge_iald (j := v3.toNatClampNeg) a_X6_sumOf_15 hb1 b_2 rfl ?_
    refine ge_iadd a_X6_sumOf_16 ?_
    refine ge_topi (fun v_3 ev_3 => ?_)
    have hyp := hyp v_3 ev_3
    refine ge_istore_n (lv' := [(2, .int v_3), (0, .ref k0), (1, .ref b1), (3, .int v3)]) a_X6_sumOf_17 rfl (Nat.le_of_ble_eq_true rfl) rfl ?_
    obtain ⟨v_4, ev_4⟩ : ∃ y : Int32, y = v3 + (1 : Int32) := ⟨_, rfl⟩
    have hyp := hyp v_4 ev_4
    refine ge_iinc (v := v_4) (lv' := [(3, .int v_4), (2, .int v_3), (0, .ref k0), (1, .ref b1)]) a_X6_sumOf_18 3 rfl ev_4.symm (Nat.le_of_ble_eq_true rfl) rfl ?_
    refine ge_goto a_X6_sumOf_21 ?_
    exact ge_sub [2, 3, 1, 0] rfl (hK4 v_3 v_4 h hyp)
def f_X6_sumOf (k0 : Nat) (b1 : Nat) (n1 : Nat) (h : Mem) (Q : Int32 → Mem → Prop) : Prop :=
  gm_it2 (f_X6_sumOf_b4 k0 b1 n1  Q ) gm_F (0 : Int32) (0 : Int32) h
set_option maxRecDepth 20000 in
theorem t_X6_sumOf (k0 : Nat) (b1 : Nat) (n1 : Nat) (hk0 : gm_cls k0 = 5) (hb1 : gm_arr b1 n1) (h : Mem) (Q : Int32 → Mem → Prop) (hyp : f_X6_sumOf k0 b1 n1 h Q) : Cn m_X6_sumOf [.ref k0, .ref b1] h (GI Q) := by
  refine ge_entry (lv := [(0, .ref k0), (1, .ref b1)]) pn_X6 (Nat.le_of_ble_eq_true rfl) rfl ?_
  unfold f_X6_sumOf at hyp
  refine ge_iconst (v := 0) a_X6_sumOf_0 rfl ?_
  refine ge_istore_n (lv' := [(2, .int (0 : Int32)), (0, .ref k0), (1, .ref b1)]) a_X6_sumOf_1 rfl (Nat.le_of_ble_eq_true rfl) rfl ?_
  refine ge_iconst (v := 0) a_X6_sumOf_2 rfl ?_
  refine ge_istore_n (lv' := [(3, .int (0 : Int32)), (2, .int (0 : Int32)), (0, .ref k0), (1, .ref b1)]) a_X6_sumOf_3 rfl (Nat.le_of_ble_eq_true rfl) rfl ?_
  exact ge_sub [2, 3, 1, 0] rfl (t_X6_sumOf_b4 k0 b1 n1  hk0 hb1  Q   gm_F (0 : Int32) (0 : Int32) h hyp)

theorem a_X6_spotsHeld_0 : At m_X6_spotsHeld 0 (.iconst 0) 1 1 := at_i (by decide +kernel) rfl
theorem a_X6_spotsHeld_1 : At m_X6_spotsHeld 1 (.istore_n 1) 1 2 := at_i (by decide +kernel) rfl
theorem a_X6_spotsHeld_2 : At m_X6_spotsHeld 2 (.iconst 0) 1 3 := at_i (by decide +kernel) rfl
theorem a_X6_spotsHeld_3 : At m_X6_spotsHeld 3 (.istore_n 2) 1 4 := at_i (by decide +kernel) rfl
theorem a_X6_spotsHeld_4 : At m_X6_spotsHeld 4 (.iload_n 2) 1 5 := at_i (by decide +kernel) rfl
theorem a_X6_spotsHeld_5 : At m_X6_spotsHeld 5 (.bipush 10) 2 7 := at_i (by decide +kernel) rfl
theorem a_X6_spotsHeld_7 : AtJ m_X6_spotsHeld 7 (.if_icmp .ge 21) (21) 28 10 := at_j (by decide +kernel) (by decide) rfl
theorem a_X6_spotsHeld_10 : At m_X6_spotsHeld 10 (.aload_n 0) 1 11 := at_i (by decide +kernel) rfl
theorem a_X6_spotsHeld_11 : At m_X6_spotsHeld 11 (.getfield 24) 3 14 := at_i (by decide +kernel) rfl
theorem a_X6_spotsHeld_14 : At m_X6_spotsHeld 14 (.iload_n 2) 1 15 := at_i (by decide +kernel) rfl
theorem a_X6_spotsHeld_15 : At m_X6_spotsHeld 15 (.iaload) 1 16 := at_i (by decide +kernel) rfl
theorem a_X6_spotsHeld_16 : AtJ m_X6_spotsHeld 16 (.ifCond .lt 6) (6) 22 19 := at_j (by decide +kernel) (by decide) rfl
theorem a_X6_spotsHeld_19 : At m_X6_spotsHeld 19 (.iinc 1 1) 3 22 := at_i (by decide +kernel) rfl
theorem a_X6_spotsHeld_22 : At m_X6_spotsHeld 22 (.iinc 2 1) 3 25 := at_i (by decide +kernel) rfl
theorem a_X6_spotsHeld_25 : AtJ m_X6_spotsHeld 25 (.goto (-21)) (-21) 4 28 := at_j (by decide +kernel) (by decide) rfl
theorem a_X6_spotsHeld_28 : At m_X6_spotsHeld 28 (.iload_n 1) 1 29 := at_i (by decide +kernel) rfl
theorem a_X6_spotsHeld_29 : At m_X6_spotsHeld 29 (.ireturn) 1 30 := at_i (by decide +kernel) rfl
def f_X6_spotsHeld_b4 (k0 : Nat)  (Q : Int32 → Mem → Prop)  (K4 : Int32 → Int32 → Mem → Prop) (v1 : Int32) (v2 : Int32) (h : Mem) : Prop :=
  if (10 : Int32) ≤ v2 then (
    Q v1 h)
  else (
    vp_in v2 10 ∧
    if h (k0 + 5) v2.toNatClampNeg < 0 then (
      ∀ v_4 : Int32, v_4 = v2 + (1 : Int32) →
      K4 v1 v_4 h)
    else (
      ∀ v_5 : Int32, v_5 = v1 + (1 : Int32) →
      ∀ v_6 : Int32, v_6 = v2 + (1 : Int32) →
      K4 v_5 v_6 h))
set_option maxRecDepth 20000 in
theorem t_X6_spotsHeld_b4 (k0 : Nat)  (hk0 : gm_cls k0 = 5)  (Q : Int32 → Mem → Prop)   : ∀ (n : Nat) (v1 : Int32) (v2 : Int32) (h : Mem), gm_it2 (f_X6_spotsHeld_b4 k0  Q ) n v1 v2 h → EV m_X6_spotsHeld (GI Q) 4 [(0, .ref k0), (1, .int v1), (2, .int v2)] [] h := by
  refine ge_loop2 (P := fun v1 v2 h => EV m_X6_spotsHeld (GI Q) 4 [(0, .ref k0), (1, .int v1), (2, .int v2)] [] h) (fun K4 hK4 v1 v2 h hyp => ?_)
  unfold f_X6_spotsHeld_b4 at hyp
  refine ge_iload_n a_X6_spotsHeld_4 rfl 2 rfl ?_
  refine ge_bipush (v := 10) a_X6_spotsHeld_5 rfl ?_
  refine ge_icmp_ge a_X6_spotsHeld_7 (fun c_1 => ?_) (fun c_1 => ?_)
  · have hyp := gm_ip hyp c_1
    refine ge_iload_n a_X6_spotsHeld_28 rfl 1 rfl ?_
    exact ge_iret rfl a_X6_spotsHeld_29 hyp
  · have hyp := gm_in hyp c_1
    refine ge_aload_n a_X6_spotsHeld_10 rfl 0 rfl ?_
    refine ge_getR (q := k0 + 5) a_X6_spotsHeld_11 fd_X6_24 hk0 (kr5_4 hk0) ?_
    refine ge_iload_n a_X6_spotsHeld_14 rfl 2 rfl ?_
    obtain ⟨b_2, hyp⟩ := hyp
    refine ge_iald (j := v2.toNatClampNeg) a_X6_spotsHeld_15 (ka5_4 hk0) b_2 rfl ?_
    refine ge_if_lt a_X6_spotsHeld_16 (fun c_3 => ?_) (fun c_3 => ?_)
    · have hyp := gm_ip hyp c_3
      obtain ⟨v_4, ev_4⟩ : ∃ y : Int32, y = v2 + (1 : Int32) := ⟨_, rfl⟩
      have hyp := hyp v_4 ev_4
      refine ge_iinc (v := v_4) (lv' := [(2, .int v_4), (0, .ref k0), (1, .int v1)]) a_X6_spotsHeld_22 2 rfl ev_4.symm (Nat.le_of_ble_eq_true rfl) rfl ?_
      refine ge_goto a_X6_spotsHeld_25 ?_
      exact ge_sub [1, 2, 0] rfl (hK4 v1 v_4 h hyp)
    · have hyp := gm_in hyp c_3
      obtain ⟨v_5, ev_5⟩ : ∃ y : Int32, y = v1 + (1 : Int32) := ⟨_, rfl⟩
      have hyp := hyp v_5 ev_5
      refine ge_iinc (v := v_5) (lv' := [(1, .int v_5), (0, .ref k0), (2, .int v2)]) a_X6_spotsHeld_19 1 rfl ev_5.symm (Nat.le_of_ble_eq_true rfl) rfl ?_
      obtain ⟨v_6, ev_6⟩ : ∃ y : Int32, y = v2 + (1 : Int32) := ⟨_, rfl⟩
      have hyp := hyp v_6 ev_6
      refine ge_iinc (v := v_6) (lv' := [(2, .int v_6), (1, .int v_5), (0, .ref k0)]) a_X6_spotsHeld_22 2 rfl ev_6.symm (Nat.le_of_ble_eq_true rfl) rfl ?_
      refine ge_goto a_X6_spotsHeld_25 ?_
      exact ge_sub [2, 1, 0] rfl (hK4 v_5 v_6 h hyp)
def f_X6_spotsHeld (k0 : Nat) (h : Mem) (Q : Int32 → Mem → Prop) : Prop :=
  gm_it2 (f_X6_spotsHeld_b4 k0  Q ) gm_F (0 : Int32) (0 : Int32) h
set_option maxRecDepth 20000 in
theorem t_X6_spotsHeld (k0 : Nat) (hk0 : gm_cls k0 = 5) (h : Mem) (Q : Int32 → Mem → Prop) (hyp : f_X6_spotsHeld k0 h Q) : Cn m_X6_spotsHeld [.ref k0] h (GI Q) := by
  refine ge_entry (lv := [(0, .ref k0)]) pn_X6 (Nat.le_of_ble_eq_true rfl) rfl ?_
  unfold f_X6_spotsHeld at hyp
  refine ge_iconst (v := 0) a_X6_spotsHeld_0 rfl ?_
  refine ge_istore_n (lv' := [(1, .int (0 : Int32)), (0, .ref k0)]) a_X6_spotsHeld_1 rfl (Nat.le_of_ble_eq_true rfl) rfl ?_
  refine ge_iconst (v := 0) a_X6_spotsHeld_2 rfl ?_
  refine ge_istore_n (lv' := [(2, .int (0 : Int32)), (1, .int (0 : Int32)), (0, .ref k0)]) a_X6_spotsHeld_3 rfl (Nat.le_of_ble_eq_true rfl) rfl ?_
  exact ge_sub [2, 1, 0] rfl (t_X6_spotsHeld_b4 k0  hk0  Q   gm_F (0 : Int32) (0 : Int32) h hyp)

theorem a_X6_seenOf_0 : At m_X6_seenOf 0 (.aload_n 0) 1 1 := at_i (by decide +kernel) rfl
theorem a_X6_seenOf_1 : At m_X6_seenOf 1 (.getfield 9) 3 4 := at_i (by decide +kernel) rfl
theorem a_X6_seenOf_4 : At m_X6_seenOf 4 (.iload_n 1) 1 5 := at_i (by decide +kernel) rfl
theorem a_X6_seenOf_5 : At m_X6_seenOf 5 (.iaload) 1 6 := at_i (by decide +kernel) rfl
theorem a_X6_seenOf_6 : At m_X6_seenOf 6 (.aload_n 0) 1 7 := at_i (by decide +kernel) rfl
theorem a_X6_seenOf_7 : At m_X6_seenOf 7 (.getfield 21) 3 10 := at_i (by decide +kernel) rfl
theorem a_X6_seenOf_10 : At m_X6_seenOf 10 (.bipush 7) 2 12 := at_i (by decide +kernel) rfl
theorem a_X6_seenOf_12 : At m_X6_seenOf 12 (.iaload) 1 13 := at_i (by decide +kernel) rfl
theorem a_X6_seenOf_13 : At m_X6_seenOf 13 (.aload_n 0) 1 14 := at_i (by decide +kernel) rfl
theorem a_X6_seenOf_14 : At m_X6_seenOf 14 (.getfield 21) 3 17 := at_i (by decide +kernel) rfl
theorem a_X6_seenOf_17 : At m_X6_seenOf 17 (.bipush 6) 2 19 := at_i (by decide +kernel) rfl
theorem a_X6_seenOf_19 : At m_X6_seenOf 19 (.iaload) 1 20 := at_i (by decide +kernel) rfl
theorem a_X6_seenOf_20 : At m_X6_seenOf 20 (.invokestatic 70) 3 23 := at_i (by decide +kernel) rfl
theorem a_X6_seenOf_23 : At m_X6_seenOf 23 (.ireturn) 1 24 := at_i (by decide +kernel) rfl
def f_X6_seenOf (k0 : Nat) (a1 : Int32) (h : Mem) (Q : Int32 → Mem → Prop) : Prop :=
  vp_in a1 12 ∧
  f_X0_seenBy (h (k0 + 1) a1.toNatClampNeg) (h (k0 + 4) 7) (h (k0 + 4) 6) h fun r_3 h_2 =>
  Q r_3 h_2
set_option maxRecDepth 20000 in
theorem t_X6_seenOf (k0 : Nat) (a1 : Int32) (hk0 : gm_cls k0 = 5) (h : Mem) (Q : Int32 → Mem → Prop) (hyp : f_X6_seenOf k0 a1 h Q) : Cn m_X6_seenOf [.ref k0, .int a1] h (GI Q) := by
  refine ge_entry (lv := [(0, .ref k0), (1, .int a1)]) pn_X6 (Nat.le_of_ble_eq_true rfl) rfl ?_
  unfold f_X6_seenOf at hyp
  refine ge_aload_n a_X6_seenOf_0 rfl 0 rfl ?_
  refine ge_getR (q := k0 + 1) a_X6_seenOf_1 fd_X6_9 hk0 (kr5_0 hk0) ?_
  refine ge_iload_n a_X6_seenOf_4 rfl 1 rfl ?_
  obtain ⟨b_1, hyp⟩ := hyp
  refine ge_iald (j := a1.toNatClampNeg) a_X6_seenOf_5 (ka5_0 hk0) b_1 rfl ?_
  refine ge_aload_n a_X6_seenOf_6 rfl 0 rfl ?_
  refine ge_getR (q := k0 + 4) a_X6_seenOf_7 fd_X6_21 hk0 (kr5_3 hk0) ?_
  refine ge_bipush (v := 7) a_X6_seenOf_10 rfl ?_
  refine ge_iald (j := 7) a_X6_seenOf_12 (ka5_3 hk0) li_7_10.1 li_7_10.2 ?_
  refine ge_aload_n a_X6_seenOf_13 rfl 0 rfl ?_
  refine ge_getR (q := k0 + 4) a_X6_seenOf_14 fd_X6_21 hk0 (kr5_3 hk0) ?_
  refine ge_bipush (v := 6) a_X6_seenOf_17 rfl ?_
  refine ge_iald (j := 6) a_X6_seenOf_19 (ka5_3 hk0) li_6_10.1 li_6_10.2 ?_
  refine ge_cSI [.int (h (k0 + 1) a1.toNatClampNeg), .int (h (k0 + 4) 7), .int (h (k0 + 4) 6)] (rest := []) a_X6_seenOf_20 ok_X0_seenBy lk_X6_70 ⟨Nat.le_of_ble_eq_true rfl, Nat.le_of_ble_eq_true rfl⟩ rfl rfl (Nat.le_of_ble_eq_true rfl) (t_X0_seenBy (h (k0 + 1) a1.toNatClampNeg) (h (k0 + 4) 7) (h (k0 + 4) 6)  h _ hyp) (fun r_3 h_2 hyp => ?_)
  exact ge_iret rfl a_X6_seenOf_23 hyp

theorem a_X6_seenAhead_0 : At m_X6_seenAhead 0 (.iconst 0) 1 1 := at_i (by decide +kernel) rfl
theorem a_X6_seenAhead_1 : At m_X6_seenAhead 1 (.istore_n 1) 1 2 := at_i (by decide +kernel) rfl
theorem a_X6_seenAhead_2 : At m_X6_seenAhead 2 (.aload_n 0) 1 3 := at_i (by decide +kernel) rfl
theorem a_X6_seenAhead_3 : At m_X6_seenAhead 3 (.getfield 49) 3 6 := at_i (by decide +kernel) rfl
theorem a_X6_seenAhead_6 : At m_X6_seenAhead 6 (.istore_n 2) 1 7 := at_i (by decide +kernel) rfl
theorem a_X6_seenAhead_7 : At m_X6_seenAhead 7 (.iload_n 2) 1 8 := at_i (by decide +kernel) rfl
theorem a_X6_seenAhead_8 : At m_X6_seenAhead 8 (.aload_n 0) 1 9 := at_i (by decide +kernel) rfl
theorem a_X6_seenAhead_9 : At m_X6_seenAhead 9 (.getfield 46) 3 12 := at_i (by decide +kernel) rfl
theorem a_X6_seenAhead_12 : AtJ m_X6_seenAhead 12 (.if_icmp .ge 17) (17) 29 15 := at_j (by decide +kernel) (by decide) rfl
theorem a_X6_seenAhead_15 : At m_X6_seenAhead 15 (.iload_n 1) 1 16 := at_i (by decide +kernel) rfl
theorem a_X6_seenAhead_16 : At m_X6_seenAhead 16 (.aload_n 0) 1 17 := at_i (by decide +kernel) rfl
theorem a_X6_seenAhead_17 : At m_X6_seenAhead 17 (.iload_n 2) 1 18 := at_i (by decide +kernel) rfl
theorem a_X6_seenAhead_18 : At m_X6_seenAhead 18 (.invokevirtual 91) 3 21 := at_i (by decide +kernel) rfl
theorem a_X6_seenAhead_21 : At m_X6_seenAhead 21 (.iadd) 1 22 := at_i (by decide +kernel) rfl
theorem a_X6_seenAhead_22 : At m_X6_seenAhead 22 (.istore_n 1) 1 23 := at_i (by decide +kernel) rfl
theorem a_X6_seenAhead_23 : At m_X6_seenAhead 23 (.iinc 2 1) 3 26 := at_i (by decide +kernel) rfl
theorem a_X6_seenAhead_26 : AtJ m_X6_seenAhead 26 (.goto (-19)) (-19) 7 29 := at_j (by decide +kernel) (by decide) rfl
theorem a_X6_seenAhead_29 : At m_X6_seenAhead 29 (.iload_n 1) 1 30 := at_i (by decide +kernel) rfl
theorem a_X6_seenAhead_30 : At m_X6_seenAhead 30 (.ireturn) 1 31 := at_i (by decide +kernel) rfl
def f_X6_seenAhead_b7 (k0 : Nat)  (Q : Int32 → Mem → Prop)  (K7 : Int32 → Int32 → Mem → Prop) (v1 : Int32) (v2 : Int32) (h : Mem) : Prop :=
  if h k0 5 ≤ v2 then (
    Q v1 h)
  else (
    f_X6_seenOf k0 v2 h fun r_4 h_3 =>
    ∀ v_5 : Int32, v_5 = v1 + r_4 →
    ∀ v_6 : Int32, v_6 = v2 + (1 : Int32) →
    K7 v_5 v_6 h_3)
set_option maxRecDepth 20000 in
theorem t_X6_seenAhead_b7 (k0 : Nat)  (hk0 : gm_cls k0 = 5)  (Q : Int32 → Mem → Prop)   : ∀ (n : Nat) (v1 : Int32) (v2 : Int32) (h : Mem), gm_it2 (f_X6_seenAhead_b7 k0  Q ) n v1 v2 h → EV m_X6_seenAhead (GI Q) 7 [(0, .ref k0), (1, .int v1), (2, .int v2)] [] h := by
  refine ge_loop2 (P := fun v1 v2 h => EV m_X6_seenAhead (GI Q) 7 [(0, .ref k0), (1, .int v1), (2, .int v2)] [] h) (fun K7 hK7 v1 v2 h hyp => ?_)
  unfold f_X6_seenAhead_b7 at hyp
  refine ge_iload_n a_X6_seenAhead_7 rfl 2 rfl ?_
  refine ge_aload_n a_X6_seenAhead_8 rfl 0 rfl ?_
  refine ge_getI a_X6_seenAhead_9 fd_X6_46 hk0 ?_
  refine ge_icmp_ge a_X6_seenAhead_12 (fun c_2 => ?_) (fun c_2 => ?_)
  · have hyp := gm_ip hyp c_2
    refine ge_iload_n a_X6_seenAhead_29 rfl 1 rfl ?_
    exact ge_iret rfl a_X6_seenAhead_30 hyp
  · have hyp := gm_in hyp c_2
    refine ge_iload_n a_X6_seenAhead_15 rfl 1 rfl ?_
    refine ge_aload_n a_X6_seenAhead_16 rfl 0 rfl ?_
    refine ge_iload_n a_X6_seenAhead_17 rfl 2 rfl ?_
    refine ge_cVI [.int v2] (rest := [.int v1]) a_X6_seenAhead_18 ok_X6_seenOf lk_X6_91 ⟨Nat.le_of_ble_eq_true rfl, Nat.le_of_ble_eq_true rfl⟩ hk0 vc_5 (by decide) rfl rfl (Nat.le_of_ble_eq_true rfl) (t_X6_seenOf k0 v2 hk0 h _ hyp) (fun r_4 h_3 hyp => ?_)
    refine ge_iadd a_X6_seenAhead_21 ?_
    refine ge_topi (fun v_5 ev_5 => ?_)
    have hyp := hyp v_5 ev_5
    refine ge_istore_n (lv' := [(1, .int v_5), (0, .ref k0), (2, .int v2)]) a_X6_seenAhead_22 rfl (Nat.le_of_ble_eq_true rfl) rfl ?_
    obtain ⟨v_6, ev_6⟩ : ∃ y : Int32, y = v2 + (1 : Int32) := ⟨_, rfl⟩
    have hyp := hyp v_6 ev_6
    refine ge_iinc (v := v_6) (lv' := [(2, .int v_6), (1, .int v_5), (0, .ref k0)]) a_X6_seenAhead_23 2 rfl ev_6.symm (Nat.le_of_ble_eq_true rfl) rfl ?_
    refine ge_goto a_X6_seenAhead_26 ?_
    exact ge_sub [2, 1, 0] rfl (hK7 v_5 v_6 h_3 hyp)
def f_X6_seenAhead (k0 : Nat) (h : Mem) (Q : Int32 → Mem → Prop) : Prop :=
  ∀ v_1 : Int32, v_1 = h k0 6 →
  gm_it2 (f_X6_seenAhead_b7 k0  Q ) gm_F (0 : Int32) v_1 h
set_option maxRecDepth 20000 in
theorem t_X6_seenAhead (k0 : Nat) (hk0 : gm_cls k0 = 5) (h : Mem) (Q : Int32 → Mem → Prop) (hyp : f_X6_seenAhead k0 h Q) : Cn m_X6_seenAhead [.ref k0] h (GI Q) := by
  refine ge_entry (lv := [(0, .ref k0)]) pn_X6 (Nat.le_of_ble_eq_true rfl) rfl ?_
  unfold f_X6_seenAhead at hyp
  refine ge_iconst (v := 0) a_X6_seenAhead_0 rfl ?_
  refine ge_istore_n (lv' := [(1, .int (0 : Int32)), (0, .ref k0)]) a_X6_seenAhead_1 rfl (Nat.le_of_ble_eq_true rfl) rfl ?_
  refine ge_aload_n a_X6_seenAhead_2 rfl 1 rfl ?_
  refine ge_getI a_X6_seenAhead_3 fd_X6_49 hk0 ?_
  refine ge_topi (fun v_1 ev_1 => ?_)
  have hyp := hyp v_1 ev_1
  refine ge_istore_n (lv' := [(2, .int v_1), (1, .int (0 : Int32)), (0, .ref k0)]) a_X6_seenAhead_6 rfl (Nat.le_of_ble_eq_true rfl) rfl ?_
  exact ge_sub [2, 1, 0] rfl (t_X6_seenAhead_b7 k0  hk0  Q   gm_F (0 : Int32) v_1 h hyp)

theorem a_X6_takeWords_0 : At m_X6_takeWords 0 (.iconst 0) 1 1 := at_i (by decide +kernel) rfl
theorem a_X6_takeWords_1 : At m_X6_takeWords 1 (.istore_n 2) 1 2 := at_i (by decide +kernel) rfl
theorem a_X6_takeWords_2 : At m_X6_takeWords 2 (.iload_n 2) 1 3 := at_i (by decide +kernel) rfl
theorem a_X6_takeWords_3 : At m_X6_takeWords 3 (.aload_n 1) 1 4 := at_i (by decide +kernel) rfl
theorem a_X6_takeWords_4 : At m_X6_takeWords 4 (.getfield 94) 3 7 := at_i (by decide +kernel) rfl
theorem a_X6_takeWords_7 : AtJ m_X6_takeWords 7 (.if_icmp .ge 44) (44) 51 10 := at_j (by decide +kernel) (by decide) rfl
theorem a_X6_takeWords_10 : At m_X6_takeWords 10 (.iload_n 2) 1 11 := at_i (by decide +kernel) rfl
theorem a_X6_takeWords_11 : At m_X6_takeWords 11 (.aload_n 0) 1 12 := at_i (by decide +kernel) rfl
theorem a_X6_takeWords_12 : At m_X6_takeWords 12 (.getfield 46) 3 15 := at_i (by decide +kernel) rfl
theorem a_X6_takeWords_15 : AtJ m_X6_takeWords 15 (.if_icmp .ge 36) (36) 51 18 := at_j (by decide +kernel) (by decide) rfl
theorem a_X6_takeWords_18 : At m_X6_takeWords 18 (.aload_n 1) 1 19 := at_i (by decide +kernel) rfl
theorem a_X6_takeWords_19 : At m_X6_takeWords 19 (.getfield 99) 3 22 := at_i (by decide +kernel) rfl
theorem a_X6_takeWords_22 : At m_X6_takeWords 22 (.iload_n 2) 1 23 := at_i (by decide +kernel) rfl
theorem a_X6_takeWords_23 : At m_X6_takeWords 23 (.iaload) 1 24 := at_i (by decide +kernel) rfl
theorem a_X6_takeWords_24 : At m_X6_takeWords 24 (.iconst 1) 1 25 := at_i (by decide +kernel) rfl
theorem a_X6_takeWords_25 : At m_X6_takeWords 25 (.bipush 20) 2 27 := at_i (by decide +kernel) rfl
theorem a_X6_takeWords_27 : At m_X6_takeWords 27 (.invokestatic 102) 3 30 := at_i (by decide +kernel) rfl
theorem a_X6_takeWords_30 : AtJ m_X6_takeWords 30 (.ifCond .eq 21) (21) 51 33 := at_j (by decide +kernel) (by decide) rfl
theorem a_X6_takeWords_33 : At m_X6_takeWords 33 (.aload_n 0) 1 34 := at_i (by decide +kernel) rfl
theorem a_X6_takeWords_34 : At m_X6_takeWords 34 (.getfield 15) 3 37 := at_i (by decide +kernel) rfl
theorem a_X6_takeWords_37 : At m_X6_takeWords 37 (.iload_n 2) 1 38 := at_i (by decide +kernel) rfl
theorem a_X6_takeWords_38 : At m_X6_takeWords 38 (.aload_n 1) 1 39 := at_i (by decide +kernel) rfl
theorem a_X6_takeWords_39 : At m_X6_takeWords 39 (.getfield 99) 3 42 := at_i (by decide +kernel) rfl
theorem a_X6_takeWords_42 : At m_X6_takeWords 42 (.iload_n 2) 1 43 := at_i (by decide +kernel) rfl
theorem a_X6_takeWords_43 : At m_X6_takeWords 43 (.iaload) 1 44 := at_i (by decide +kernel) rfl
theorem a_X6_takeWords_44 : At m_X6_takeWords 44 (.iastore) 1 45 := at_i (by decide +kernel) rfl
theorem a_X6_takeWords_45 : At m_X6_takeWords 45 (.iinc 2 1) 3 48 := at_i (by decide +kernel) rfl
theorem a_X6_takeWords_48 : AtJ m_X6_takeWords 48 (.goto (-46)) (-46) 2 51 := at_j (by decide +kernel) (by decide) rfl
theorem a_X6_takeWords_51 : At m_X6_takeWords 51 (.iload_n 2) 1 52 := at_i (by decide +kernel) rfl
theorem a_X6_takeWords_52 : At m_X6_takeWords 52 (.ireturn) 1 53 := at_i (by decide +kernel) rfl
def f_X6_takeWords_b2 (k0 : Nat) (q1 : Nat)  (Q : Int32 → Mem → Prop)  (K2 : Int32 → Mem → Prop) (v2 : Int32) (h : Mem) : Prop :=
  if h q1 2 ≤ v2 then (
    Q v2 h)
  else (
    if h k0 5 ≤ v2 then (
      Q v2 h)
    else (
      vp_in v2 40 ∧
      f_X9_isWithin (h (q1 + 1) v2.toNatClampNeg) (1 : Int32) (20 : Int32) h fun r_5 h_4 =>
      if r_5 = 0 then (
        Q v2 h_4)
      else (
        vp_in v2 40 ∧
        vp_in v2 12 ∧
        ∀ h_9 : Mem, h_9 = gm_st h_4 (k0 + 2) v2.toNatClampNeg (h_4 (q1 + 1) v2.toNatClampNeg) →
        ∀ v_10 : Int32, v_10 = v2 + (1 : Int32) →
        K2 v_10 h_9)))
set_option maxRecDepth 20000 in
theorem t_X6_takeWords_b2 (k0 : Nat) (q1 : Nat)  (hk0 : gm_cls k0 = 5) (hq1 : gm_cls q1 = 4)  (Q : Int32 → Mem → Prop)   : ∀ (n : Nat) (v2 : Int32) (h : Mem), gm_it1 (f_X6_takeWords_b2 k0 q1  Q ) n v2 h → EV m_X6_takeWords (GI Q) 2 [(0, .ref k0), (1, .ref q1), (2, .int v2)] [] h := by
  refine ge_loop1 (P := fun v2 h => EV m_X6_takeWords (GI Q) 2 [(0, .ref k0), (1, .ref q1), (2, .int v2)] [] h) (fun K2 hK2 v2 h hyp => ?_)
  unfold f_X6_takeWords_b2 at hyp
  refine ge_iload_n a_X6_takeWords_2 rfl 2 rfl ?_
  refine ge_aload_n a_X6_takeWords_3 rfl 1 rfl ?_
  refine ge_getI a_X6_takeWords_4 fd_X6_94 hq1 ?_
  refine ge_icmp_ge a_X6_takeWords_7 (fun c_1 => ?_) (fun c_1 => ?_)
  · have hyp := gm_ip hyp c_1
    refine ge_iload_n a_X6_takeWords_51 rfl 2 rfl ?_
    exact ge_iret rfl a_X6_takeWords_52 hyp
  · have hyp := gm_in hyp c_1
    refine ge_iload_n a_X6_takeWords_10 rfl 2 rfl ?_
    refine ge_aload_n a_X6_takeWords_11 rfl 0 rfl ?_
    refine ge_getI a_X6_takeWords_12 fd_X6_46 hk0 ?_
    refine ge_icmp_ge a_X6_takeWords_15 (fun c_2 => ?_) (fun c_2 => ?_)
    · have hyp := gm_ip hyp c_2
      refine ge_iload_n a_X6_takeWords_51 rfl 2 rfl ?_
      exact ge_iret rfl a_X6_takeWords_52 hyp
    · have hyp := gm_in hyp c_2
      refine ge_aload_n a_X6_takeWords_18 rfl 1 rfl ?_
      refine ge_getR (q := q1 + 1) a_X6_takeWords_19 fd_X6_99 hq1 (kr4_0 hq1) ?_
      refine ge_iload_n a_X6_takeWords_22 rfl 2 rfl ?_
      obtain ⟨b_3, hyp⟩ := hyp
      refine ge_iald (j := v2.toNatClampNeg) a_X6_takeWords_23 (ka4_0 hq1) b_3 rfl ?_
      refine ge_iconst (v := 1) a_X6_takeWords_24 rfl ?_
      refine ge_bipush (v := 20) a_X6_takeWords_25 rfl ?_
      refine ge_cNI [.int (h (q1 + 1) v2.toNatClampNeg), .int (1 : Int32), .int (20 : Int32)] (rest := []) a_X6_takeWords_27 ok_X9_isWithin lk_X6_102 ⟨Nat.le_of_ble_eq_true rfl, Nat.le_of_ble_eq_true rfl⟩ rfl rfl (Nat.le_of_ble_eq_true rfl) (t_X9_isWithin (h (q1 + 1) v2.toNatClampNeg) (1 : Int32) (20 : Int32)  h _ hyp) (fun r_5 h_4 hyp => ?_)
      refine ge_if_eq a_X6_takeWords_30 (fun c_6 => ?_) (fun c_6 => ?_)
      · have hyp := gm_ip hyp c_6
        refine ge_iload_n a_X6_takeWords_51 rfl 2 rfl ?_
        exact ge_iret rfl a_X6_takeWords_52 hyp
      · have hyp := gm_in hyp c_6
        refine ge_aload_n a_X6_takeWords_33 rfl 0 rfl ?_
        refine ge_getR (q := k0 + 2) a_X6_takeWords_34 fd_X6_15 hk0 (kr5_1 hk0) ?_
        refine ge_iload_n a_X6_takeWords_37 rfl 2 rfl ?_
        refine ge_aload_n a_X6_takeWords_38 rfl 1 rfl ?_
        refine ge_getR (q := q1 + 1) a_X6_takeWords_39 fd_X6_99 hq1 (kr4_0 hq1) ?_
        refine ge_iload_n a_X6_takeWords_42 rfl 2 rfl ?_
        obtain ⟨b_7, hyp⟩ := hyp
        refine ge_iald (j := v2.toNatClampNeg) a_X6_takeWords_43 (ka4_0 hq1) b_7 rfl ?_
        obtain ⟨b_8, hyp⟩ := hyp
        refine ge_iast (j := v2.toNatClampNeg) a_X6_takeWords_44 (ka5_1 hk0) b_8 rfl ?_
        refine ge_nm (fun h_9 eh_9 => ?_)
        have hyp := hyp h_9 eh_9
        obtain ⟨v_10, ev_10⟩ : ∃ y : Int32, y = v2 + (1 : Int32) := ⟨_, rfl⟩
        have hyp := hyp v_10 ev_10
        refine ge_iinc (v := v_10) (lv' := [(2, .int v_10), (0, .ref k0), (1, .ref q1)]) a_X6_takeWords_45 2 rfl ev_10.symm (Nat.le_of_ble_eq_true rfl) rfl ?_
        refine ge_goto a_X6_takeWords_48 ?_
        exact ge_sub [1, 2, 0] rfl (hK2 v_10 h_9 hyp)
def f_X6_takeWords (k0 : Nat) (q1 : Nat) (h : Mem) (Q : Int32 → Mem → Prop) : Prop :=
  gm_it1 (f_X6_takeWords_b2 k0 q1  Q ) gm_F (0 : Int32) h
set_option maxRecDepth 20000 in
theorem t_X6_takeWords (k0 : Nat) (q1 : Nat) (hk0 : gm_cls k0 = 5) (hq1 : gm_cls q1 = 4) (h : Mem) (Q : Int32 → Mem → Prop) (hyp : f_X6_takeWords k0 q1 h Q) : Cn m_X6_takeWords [.ref k0, .ref q1] h (GI Q) := by
  refine ge_entry (lv := [(0, .ref k0), (1, .ref q1)]) pn_X6 (Nat.le_of_ble_eq_true rfl) rfl ?_
  unfold f_X6_takeWords at hyp
  refine ge_iconst (v := 0) a_X6_takeWords_0 rfl ?_
  refine ge_istore_n (lv' := [(2, .int (0 : Int32)), (0, .ref k0), (1, .ref q1)]) a_X6_takeWords_1 rfl (Nat.le_of_ble_eq_true rfl) rfl ?_
  exact ge_sub [1, 2, 0] rfl (t_X6_takeWords_b2 k0 q1  hk0 hq1  Q   gm_F (0 : Int32) h hyp)

theorem a_X6_turnPaces_0 : At m_X6_turnPaces 0 (.aload_n 1) 1 1 := at_i (by decide +kernel) rfl
theorem a_X6_turnPaces_1 : At m_X6_turnPaces 1 (.aload_n 0) 1 2 := at_i (by decide +kernel) rfl
theorem a_X6_turnPaces_2 : At m_X6_turnPaces 2 (.getfield 21) 3 5 := at_i (by decide +kernel) rfl
theorem a_X6_turnPaces_5 : At m_X6_turnPaces 5 (.invokevirtual 106) 3 8 := at_i (by decide +kernel) rfl
theorem a_X6_turnPaces_8 : At m_X6_turnPaces 8 (.aload_n 1) 1 9 := at_i (by decide +kernel) rfl
theorem a_X6_turnPaces_9 : At m_X6_turnPaces 9 (.iconst 1) 1 10 := at_i (by decide +kernel) rfl
theorem a_X6_turnPaces_10 : At m_X6_turnPaces 10 (.invokevirtual 83) 3 13 := at_i (by decide +kernel) rfl
theorem a_X6_turnPaces_13 : At m_X6_turnPaces 13 (.aload_n 0) 1 14 := at_i (by decide +kernel) rfl
theorem a_X6_turnPaces_14 : At m_X6_turnPaces 14 (.getfield 21) 3 17 := at_i (by decide +kernel) rfl
theorem a_X6_turnPaces_17 : At m_X6_turnPaces 17 (.iconst 0) 1 18 := at_i (by decide +kernel) rfl
theorem a_X6_turnPaces_18 : At m_X6_turnPaces 18 (.aload_n 1) 1 19 := at_i (by decide +kernel) rfl
theorem a_X6_turnPaces_19 : At m_X6_turnPaces 19 (.getfield 74) 3 22 := at_i (by decide +kernel) rfl
theorem a_X6_turnPaces_22 : At m_X6_turnPaces 22 (.iastore) 1 23 := at_i (by decide +kernel) rfl
theorem a_X6_turnPaces_23 : At m_X6_turnPaces 23 (.aload_n 0) 1 24 := at_i (by decide +kernel) rfl
theorem a_X6_turnPaces_24 : At m_X6_turnPaces 24 (.getfield 21) 3 27 := at_i (by decide +kernel) rfl
theorem a_X6_turnPaces_27 : At m_X6_turnPaces 27 (.iconst 1) 1 28 := at_i (by decide +kernel) rfl
theorem a_X6_turnPaces_28 : At m_X6_turnPaces 28 (.aload_n 1) 1 29 := at_i (by decide +kernel) rfl
theorem a_X6_turnPaces_29 : At m_X6_turnPaces 29 (.getfield 110) 3 32 := at_i (by decide +kernel) rfl
theorem a_X6_turnPaces_32 : At m_X6_turnPaces 32 (.iastore) 1 33 := at_i (by decide +kernel) rfl
theorem a_X6_turnPaces_33 : At m_X6_turnPaces 33 (.return_) 1 34 := at_i (by decide +kernel) rfl
def f_X6_turnPaces (k0 : Nat) (q1 : Nat) (h : Mem) (Q : Mem → Prop) : Prop :=
  f_X1_takeFrom q1 (k0 + 4) 10 h fun h_1 =>
  f_X1_step q1 (1 : Int32) h_1 fun h_2 =>
  ∀ h_3 : Mem, h_3 = gm_st h_2 (k0 + 4) 0 (h_2 q1 0) →
  ∀ h_4 : Mem, h_4 = gm_st h_3 (k0 + 4) 1 (h_3 q1 1) →
  Q h_4
set_option maxRecDepth 20000 in
theorem t_X6_turnPaces (k0 : Nat) (q1 : Nat) (hk0 : gm_cls k0 = 5) (hq1 : gm_cls q1 = 0) (h : Mem) (Q : Mem → Prop) (hyp : f_X6_turnPaces k0 q1 h Q) : Cn m_X6_turnPaces [.ref k0, .ref q1] h (GV Q) := by
  refine ge_entry (lv := [(0, .ref k0), (1, .ref q1)]) pn_X6 (Nat.le_of_ble_eq_true rfl) rfl ?_
  unfold f_X6_turnPaces at hyp
  refine ge_aload_n a_X6_turnPaces_0 rfl 1 rfl ?_
  refine ge_aload_n a_X6_turnPaces_1 rfl 0 rfl ?_
  refine ge_getR (q := k0 + 4) a_X6_turnPaces_2 fd_X6_21 hk0 (kr5_3 hk0) ?_
  refine ge_cVV [.ref (k0 + 4)] (rest := []) a_X6_turnPaces_5 ok_X1_takeFrom lk_X6_106 ⟨Nat.le_of_ble_eq_true rfl, Nat.le_of_ble_eq_true rfl⟩ hq1 vc_0 (by decide) rfl rfl (Nat.le_of_ble_eq_true rfl) (t_X1_takeFrom q1 (k0 + 4) 10 hq1 (ka5_3 hk0) h _ hyp) (fun h_1 hyp => ?_)
  refine ge_aload_n a_X6_turnPaces_8 rfl 1 rfl ?_
  refine ge_iconst (v := 1) a_X6_turnPaces_9 rfl ?_
  refine ge_cVV [.int (1 : Int32)] (rest := []) a_X6_turnPaces_10 ok_X1_step lk_X6_83 ⟨Nat.le_of_ble_eq_true rfl, Nat.le_of_ble_eq_true rfl⟩ hq1 vc_0 (by decide) rfl rfl (Nat.le_of_ble_eq_true rfl) (t_X1_step q1 (1 : Int32) hq1 h_1 _ hyp) (fun h_2 hyp => ?_)
  refine ge_aload_n a_X6_turnPaces_13 rfl 0 rfl ?_
  refine ge_getR (q := k0 + 4) a_X6_turnPaces_14 fd_X6_21 hk0 (kr5_3 hk0) ?_
  refine ge_iconst (v := 0) a_X6_turnPaces_17 rfl ?_
  refine ge_aload_n a_X6_turnPaces_18 rfl 1 rfl ?_
  refine ge_getI a_X6_turnPaces_19 fd_X6_74 hq1 ?_
  refine ge_iast (j := 0) a_X6_turnPaces_22 (ka5_3 hk0) li_0_10.1 li_0_10.2 ?_
  refine ge_nm (fun h_3 eh_3 => ?_)
  have hyp := hyp h_3 eh_3
  refine ge_aload_n a_X6_turnPaces_23 rfl 0 rfl ?_
  refine ge_getR (q := k0 + 4) a_X6_turnPaces_24 fd_X6_21 hk0 (kr5_3 hk0) ?_
  refine ge_iconst (v := 1) a_X6_turnPaces_27 rfl ?_
  refine ge_aload_n a_X6_turnPaces_28 rfl 1 rfl ?_
  refine ge_getI a_X6_turnPaces_29 fd_X6_110 hq1 ?_
  refine ge_iast (j := 1) a_X6_turnPaces_32 (ka5_3 hk0) li_1_10.1 li_1_10.2 ?_
  refine ge_nm (fun h_4 eh_4 => ?_)
  have hyp := hyp h_4 eh_4
  exact ge_vret rfl a_X6_turnPaces_33 hyp

theorem a_X6_readOne_0 : At m_X6_readOne 0 (.aload_n 0) 1 1 := at_i (by decide +kernel) rfl
theorem a_X6_readOne_1 : At m_X6_readOne 1 (.dup) 1 2 := at_i (by decide +kernel) rfl
theorem a_X6_readOne_2 : At m_X6_readOne 2 (.getfield 52) 3 5 := at_i (by decide +kernel) rfl
theorem a_X6_readOne_5 : At m_X6_readOne 5 (.aload_n 0) 1 6 := at_i (by decide +kernel) rfl
theorem a_X6_readOne_6 : At m_X6_readOne 6 (.aload_n 0) 1 7 := at_i (by decide +kernel) rfl
theorem a_X6_readOne_7 : At m_X6_readOne 7 (.getfield 49) 3 10 := at_i (by decide +kernel) rfl
theorem a_X6_readOne_10 : At m_X6_readOne 10 (.aload_n 0) 1 11 := at_i (by decide +kernel) rfl
theorem a_X6_readOne_11 : At m_X6_readOne 11 (.getfield 21) 3 14 := at_i (by decide +kernel) rfl
theorem a_X6_readOne_14 : At m_X6_readOne 14 (.iconst 0) 1 15 := at_i (by decide +kernel) rfl
theorem a_X6_readOne_15 : At m_X6_readOne 15 (.iaload) 1 16 := at_i (by decide +kernel) rfl
theorem a_X6_readOne_16 : At m_X6_readOne 16 (.invokevirtual 79) 3 19 := at_i (by decide +kernel) rfl
theorem a_X6_readOne_19 : At m_X6_readOne 19 (.iadd) 1 20 := at_i (by decide +kernel) rfl
theorem a_X6_readOne_20 : At m_X6_readOne 20 (.putfield 52) 3 23 := at_i (by decide +kernel) rfl
theorem a_X6_readOne_23 : At m_X6_readOne 23 (.aload_n 0) 1 24 := at_i (by decide +kernel) rfl
theorem a_X6_readOne_24 : At m_X6_readOne 24 (.dup) 1 25 := at_i (by decide +kernel) rfl
theorem a_X6_readOne_25 : At m_X6_readOne 25 (.getfield 55) 3 28 := at_i (by decide +kernel) rfl
theorem a_X6_readOne_28 : At m_X6_readOne 28 (.aload_n 0) 1 29 := at_i (by decide +kernel) rfl
theorem a_X6_readOne_29 : At m_X6_readOne 29 (.aload_n 0) 1 30 := at_i (by decide +kernel) rfl
theorem a_X6_readOne_30 : At m_X6_readOne 30 (.getfield 49) 3 33 := at_i (by decide +kernel) rfl
theorem a_X6_readOne_33 : At m_X6_readOne 33 (.invokevirtual 87) 3 36 := at_i (by decide +kernel) rfl
theorem a_X6_readOne_36 : At m_X6_readOne 36 (.iadd) 1 37 := at_i (by decide +kernel) rfl
theorem a_X6_readOne_37 : At m_X6_readOne 37 (.putfield 55) 3 40 := at_i (by decide +kernel) rfl
theorem a_X6_readOne_40 : At m_X6_readOne 40 (.aload_n 0) 1 41 := at_i (by decide +kernel) rfl
theorem a_X6_readOne_41 : At m_X6_readOne 41 (.dup) 1 42 := at_i (by decide +kernel) rfl
theorem a_X6_readOne_42 : At m_X6_readOne 42 (.getfield 58) 3 45 := at_i (by decide +kernel) rfl
theorem a_X6_readOne_45 : At m_X6_readOne 45 (.aload_n 0) 1 46 := at_i (by decide +kernel) rfl
theorem a_X6_readOne_46 : At m_X6_readOne 46 (.aload_n 0) 1 47 := at_i (by decide +kernel) rfl
theorem a_X6_readOne_47 : At m_X6_readOne 47 (.getfield 49) 3 50 := at_i (by decide +kernel) rfl
theorem a_X6_readOne_50 : At m_X6_readOne 50 (.invokevirtual 91) 3 53 := at_i (by decide +kernel) rfl
theorem a_X6_readOne_53 : At m_X6_readOne 53 (.iadd) 1 54 := at_i (by decide +kernel) rfl
theorem a_X6_readOne_54 : At m_X6_readOne 54 (.putfield 58) 3 57 := at_i (by decide +kernel) rfl
theorem a_X6_readOne_57 : At m_X6_readOne 57 (.aload_n 0) 1 58 := at_i (by decide +kernel) rfl
theorem a_X6_readOne_58 : At m_X6_readOne 58 (.aload_n 1) 1 59 := at_i (by decide +kernel) rfl
theorem a_X6_readOne_59 : At m_X6_readOne 59 (.invokevirtual 113) 3 62 := at_i (by decide +kernel) rfl
theorem a_X6_readOne_62 : At m_X6_readOne 62 (.aload_n 0) 1 63 := at_i (by decide +kernel) rfl
theorem a_X6_readOne_63 : At m_X6_readOne 63 (.dup) 1 64 := at_i (by decide +kernel) rfl
theorem a_X6_readOne_64 : At m_X6_readOne 64 (.getfield 49) 3 67 := at_i (by decide +kernel) rfl
theorem a_X6_readOne_67 : At m_X6_readOne 67 (.iconst 1) 1 68 := at_i (by decide +kernel) rfl
theorem a_X6_readOne_68 : At m_X6_readOne 68 (.iadd) 1 69 := at_i (by decide +kernel) rfl
theorem a_X6_readOne_69 : At m_X6_readOne 69 (.putfield 49) 3 72 := at_i (by decide +kernel) rfl
theorem a_X6_readOne_72 : At m_X6_readOne 72 (.return_) 1 73 := at_i (by decide +kernel) rfl
def f_X6_readOne (k0 : Nat) (q1 : Nat) (h : Mem) (Q : Mem → Prop) : Prop :=
  f_X6_takesOf k0 (h k0 6) (h (k0 + 4) 0) h fun r_2 h_1 =>
  ∀ h_3 : Mem, h_3 = gm_st h_1 k0 7 ((h k0 7) + r_2) →
  f_X6_tripsOf k0 (h_3 k0 6) h_3 fun r_5 h_4 =>
  ∀ h_6 : Mem, h_6 = gm_st h_4 k0 8 ((h_3 k0 8) + r_5) →
  f_X6_seenOf k0 (h_6 k0 6) h_6 fun r_8 h_7 =>
  ∀ h_9 : Mem, h_9 = gm_st h_7 k0 9 ((h_6 k0 9) + r_8) →
  f_X6_turnPaces k0 q1 h_9 fun h_10 =>
  ∀ h_11 : Mem, h_11 = gm_st h_10 k0 6 ((h_10 k0 6) + (1 : Int32)) →
  Q h_11
set_option maxRecDepth 20000 in
theorem t_X6_readOne (k0 : Nat) (q1 : Nat) (hk0 : gm_cls k0 = 5) (hq1 : gm_cls q1 = 0) (h : Mem) (Q : Mem → Prop) (hyp : f_X6_readOne k0 q1 h Q) : Cn m_X6_readOne [.ref k0, .ref q1] h (GV Q) := by
  refine ge_entry (lv := [(0, .ref k0), (1, .ref q1)]) pn_X6 (Nat.le_of_ble_eq_true rfl) rfl ?_
  unfold f_X6_readOne at hyp
  refine ge_aload_n a_X6_readOne_0 rfl 0 rfl ?_
  refine ge_dup a_X6_readOne_1 rfl ?_
  refine ge_getI a_X6_readOne_2 fd_X6_52 hk0 ?_
  refine ge_aload_n a_X6_readOne_5 rfl 0 rfl ?_
  refine ge_aload_n a_X6_readOne_6 rfl 0 rfl ?_
  refine ge_getI a_X6_readOne_7 fd_X6_49 hk0 ?_
  refine ge_aload_n a_X6_readOne_10 rfl 0 rfl ?_
  refine ge_getR (q := k0 + 4) a_X6_readOne_11 fd_X6_21 hk0 (kr5_3 hk0) ?_
  refine ge_iconst (v := 0) a_X6_readOne_14 rfl ?_
  refine ge_iald (j := 0) a_X6_readOne_15 (ka5_3 hk0) li_0_10.1 li_0_10.2 ?_
  refine ge_cVI [.int (h k0 6), .int (h (k0 + 4) 0)] (rest := [.int (h k0 7), .ref k0]) a_X6_readOne_16 ok_X6_takesOf lk_X6_79 ⟨Nat.le_of_ble_eq_true rfl, Nat.le_of_ble_eq_true rfl⟩ hk0 vc_5 (by decide) rfl rfl (Nat.le_of_ble_eq_true rfl) (t_X6_takesOf k0 (h k0 6) (h (k0 + 4) 0) hk0 h _ hyp) (fun r_2 h_1 hyp => ?_)
  refine ge_iadd a_X6_readOne_19 ?_
  refine ge_putI a_X6_readOne_20 pd_X6_52 hk0 ?_
  refine ge_nm (fun h_3 eh_3 => ?_)
  have hyp := hyp h_3 eh_3
  refine ge_aload_n a_X6_readOne_23 rfl 0 rfl ?_
  refine ge_dup a_X6_readOne_24 rfl ?_
  refine ge_getI a_X6_readOne_25 fd_X6_55 hk0 ?_
  refine ge_aload_n a_X6_readOne_28 rfl 0 rfl ?_
  refine ge_aload_n a_X6_readOne_29 rfl 0 rfl ?_
  refine ge_getI a_X6_readOne_30 fd_X6_49 hk0 ?_
  refine ge_cVI [.int (h_3 k0 6)] (rest := [.int (h_3 k0 8), .ref k0]) a_X6_readOne_33 ok_X6_tripsOf lk_X6_87 ⟨Nat.le_of_ble_eq_true rfl, Nat.le_of_ble_eq_true rfl⟩ hk0 vc_5 (by decide) rfl rfl (Nat.le_of_ble_eq_true rfl) (t_X6_tripsOf k0 (h_3 k0 6) hk0 h_3 _ hyp) (fun r_5 h_4 hyp => ?_)
  refine ge_iadd a_X6_readOne_36 ?_
  refine ge_putI a_X6_readOne_37 pd_X6_55 hk0 ?_
  refine ge_nm (fun h_6 eh_6 => ?_)
  have hyp := hyp h_6 eh_6
  refine ge_aload_n a_X6_readOne_40 rfl 0 rfl ?_
  refine ge_dup a_X6_readOne_41 rfl ?_
  refine ge_getI a_X6_readOne_42 fd_X6_58 hk0 ?_
  refine ge_aload_n a_X6_readOne_45 rfl 0 rfl ?_
  refine ge_aload_n a_X6_readOne_46 rfl 0 rfl ?_
  refine ge_getI a_X6_readOne_47 fd_X6_49 hk0 ?_
  refine ge_cVI [.int (h_6 k0 6)] (rest := [.int (h_6 k0 9), .ref k0]) a_X6_readOne_50 ok_X6_seenOf lk_X6_91 ⟨Nat.le_of_ble_eq_true rfl, Nat.le_of_ble_eq_true rfl⟩ hk0 vc_5 (by decide) rfl rfl (Nat.le_of_ble_eq_true rfl) (t_X6_seenOf k0 (h_6 k0 6) hk0 h_6 _ hyp) (fun r_8 h_7 hyp => ?_)
  refine ge_iadd a_X6_readOne_53 ?_
  refine ge_putI a_X6_readOne_54 pd_X6_58 hk0 ?_
  refine ge_nm (fun h_9 eh_9 => ?_)
  have hyp := hyp h_9 eh_9
  refine ge_aload_n a_X6_readOne_57 rfl 0 rfl ?_
  refine ge_aload_n a_X6_readOne_58 rfl 1 rfl ?_
  refine ge_cVV [.ref q1] (rest := []) a_X6_readOne_59 ok_X6_turnPaces lk_X6_113 ⟨Nat.le_of_ble_eq_true rfl, Nat.le_of_ble_eq_true rfl⟩ hk0 vc_5 (by decide) rfl rfl (Nat.le_of_ble_eq_true rfl) (t_X6_turnPaces k0 q1 hk0 hq1 h_9 _ hyp) (fun h_10 hyp => ?_)
  refine ge_aload_n a_X6_readOne_62 rfl 0 rfl ?_
  refine ge_dup a_X6_readOne_63 rfl ?_
  refine ge_getI a_X6_readOne_64 fd_X6_49 hk0 ?_
  refine ge_iconst (v := 1) a_X6_readOne_67 rfl ?_
  refine ge_iadd a_X6_readOne_68 ?_
  refine ge_putI a_X6_readOne_69 pd_X6_49 hk0 ?_
  refine ge_nm (fun h_11 eh_11 => ?_)
  have hyp := hyp h_11 eh_11
  exact ge_vret rfl a_X6_readOne_72 hyp

theorem a_X6_draw_0 : At m_X6_draw 0 (.aload_n 0) 1 1 := at_i (by decide +kernel) rfl
theorem a_X6_draw_1 : At m_X6_draw 1 (.aload_n 0) 1 2 := at_i (by decide +kernel) rfl
theorem a_X6_draw_2 : At m_X6_draw 2 (.getfield 27) 3 5 := at_i (by decide +kernel) rfl
theorem a_X6_draw_5 : At m_X6_draw 5 (.ldc 117) 2 7 := at_i (by decide +kernel) rfl
theorem a_X6_draw_7 : At m_X6_draw 7 (.imul) 1 8 := at_i (by decide +kernel) rfl
theorem a_X6_draw_8 : At m_X6_draw 8 (.sipush 12345) 3 11 := at_i (by decide +kernel) rfl
theorem a_X6_draw_11 : At m_X6_draw 11 (.iadd) 1 12 := at_i (by decide +kernel) rfl
theorem a_X6_draw_12 : At m_X6_draw 12 (.putfield 27) 3 15 := at_i (by decide +kernel) rfl
theorem a_X6_draw_15 : At m_X6_draw 15 (.aload_n 0) 1 16 := at_i (by decide +kernel) rfl
theorem a_X6_draw_16 : At m_X6_draw 16 (.getfield 27) 3 19 := at_i (by decide +kernel) rfl
theorem a_X6_draw_19 : At m_X6_draw 19 (.bipush 8) 2 21 := at_i (by decide +kernel) rfl
theorem a_X6_draw_21 : At m_X6_draw 21 (.iushr) 1 22 := at_i (by decide +kernel) rfl
theorem a_X6_draw_22 : At m_X6_draw 22 (.ireturn) 1 23 := at_i (by decide +kernel) rfl
def f_X6_draw (k0 : Nat) (h : Mem) (Q : Int32 → Mem → Prop) : Prop :=
  ∀ h_1 : Mem, h_1 = gm_st h k0 10 (((h k0 10) * (1103515245 : Int32)) + (12345 : Int32)) →
  Q (((h_1 k0 10).toUInt32 >>> ((8 : Int32).toUInt32 &&& Int32.toUInt32 31)).toInt32) h_1
set_option maxRecDepth 20000 in
theorem t_X6_draw (k0 : Nat) (hk0 : gm_cls k0 = 5) (h : Mem) (Q : Int32 → Mem → Prop) (hyp : f_X6_draw k0 h Q) : Cn m_X6_draw [.ref k0] h (GI Q) := by
  refine ge_entry (lv := [(0, .ref k0)]) pn_X6 (Nat.le_of_ble_eq_true rfl) rfl ?_
  unfold f_X6_draw at hyp
  refine ge_aload_n a_X6_draw_0 rfl 0 rfl ?_
  refine ge_aload_n a_X6_draw_1 rfl 0 rfl ?_
  refine ge_getI a_X6_draw_2 fd_X6_27 hk0 ?_
  refine ge_ldc (v := 1103515245) a_X6_draw_5 ct_X6_117 ?_
  refine ge_imul a_X6_draw_7 ?_
  refine ge_sipush (v := 12345) a_X6_draw_8 rfl ?_
  refine ge_iadd a_X6_draw_11 ?_
  refine ge_putI a_X6_draw_12 pd_X6_27 hk0 ?_
  refine ge_nm (fun h_1 eh_1 => ?_)
  have hyp := hyp h_1 eh_1
  refine ge_aload_n a_X6_draw_15 rfl 0 rfl ?_
  refine ge_getI a_X6_draw_16 fd_X6_27 hk0 ?_
  refine ge_bipush (v := 8) a_X6_draw_19 rfl ?_
  refine ge_iushr a_X6_draw_21 ?_
  exact ge_iret rfl a_X6_draw_22 hyp

theorem a_X6_spendEvening_0 : At m_X6_spendEvening 0 (.iconst 0) 1 1 := at_i (by decide +kernel) rfl
theorem a_X6_spendEvening_1 : At m_X6_spendEvening 1 (.istore_n 3) 1 2 := at_i (by decide +kernel) rfl
theorem a_X6_spendEvening_2 : At m_X6_spendEvening 2 (.iconst 0) 1 3 := at_i (by decide +kernel) rfl
theorem a_X6_spendEvening_3 : At m_X6_spendEvening 3 (.istore 4) 2 5 := at_i (by decide +kernel) rfl
theorem a_X6_spendEvening_5 : At m_X6_spendEvening 5 (.iload 4) 2 7 := at_i (by decide +kernel) rfl
theorem a_X6_spendEvening_7 : At m_X6_spendEvening 7 (.iload_n 1) 1 8 := at_i (by decide +kernel) rfl
theorem a_X6_spendEvening_8 : AtJ m_X6_spendEvening 8 (.if_icmp .ge 92) (92) 100 11 := at_j (by decide +kernel) (by decide) rfl
theorem a_X6_spendEvening_11 : At m_X6_spendEvening 11 (.aload_n 0) 1 12 := at_i (by decide +kernel) rfl
theorem a_X6_spendEvening_12 : At m_X6_spendEvening 12 (.getfield 49) 3 15 := at_i (by decide +kernel) rfl
theorem a_X6_spendEvening_15 : At m_X6_spendEvening 15 (.aload_n 0) 1 16 := at_i (by decide +kernel) rfl
theorem a_X6_spendEvening_16 : At m_X6_spendEvening 16 (.getfield 46) 3 19 := at_i (by decide +kernel) rfl
theorem a_X6_spendEvening_19 : AtJ m_X6_spendEvening 19 (.if_icmp .ge 81) (81) 100 22 := at_j (by decide +kernel) (by decide) rfl
theorem a_X6_spendEvening_22 : At m_X6_spendEvening 22 (.aload_n 0) 1 23 := at_i (by decide +kernel) rfl
theorem a_X6_spendEvening_23 : At m_X6_spendEvening 23 (.aload_n 2) 1 24 := at_i (by decide +kernel) rfl
theorem a_X6_spendEvening_24 : At m_X6_spendEvening 24 (.invokevirtual 118) 3 27 := at_i (by decide +kernel) rfl
theorem a_X6_spendEvening_27 : At m_X6_spendEvening 27 (.aload_n 0) 1 28 := at_i (by decide +kernel) rfl
theorem a_X6_spendEvening_28 : At m_X6_spendEvening 28 (.invokevirtual 121) 3 31 := at_i (by decide +kernel) rfl
theorem a_X6_spendEvening_31 : At m_X6_spendEvening 31 (.bipush 10) 2 33 := at_i (by decide +kernel) rfl
theorem a_X6_spendEvening_33 : At m_X6_spendEvening 33 (.irem) 1 34 := at_i (by decide +kernel) rfl
theorem a_X6_spendEvening_34 : At m_X6_spendEvening 34 (.aload_n 0) 1 35 := at_i (by decide +kernel) rfl
theorem a_X6_spendEvening_35 : At m_X6_spendEvening 35 (.getfield 21) 3 38 := at_i (by decide +kernel) rfl
theorem a_X6_spendEvening_38 : At m_X6_spendEvening 38 (.bipush 8) 2 40 := at_i (by decide +kernel) rfl
theorem a_X6_spendEvening_40 : At m_X6_spendEvening 40 (.iaload) 1 41 := at_i (by decide +kernel) rfl
theorem a_X6_spendEvening_41 : AtJ m_X6_spendEvening 41 (.if_icmp .ge 53) (53) 94 44 := at_j (by decide +kernel) (by decide) rfl
theorem a_X6_spendEvening_44 : At m_X6_spendEvening 44 (.iinc 3 1) 3 47 := at_i (by decide +kernel) rfl
theorem a_X6_spendEvening_47 : At m_X6_spendEvening 47 (.aload_n 0) 1 48 := at_i (by decide +kernel) rfl
theorem a_X6_spendEvening_48 : At m_X6_spendEvening 48 (.dup) 1 49 := at_i (by decide +kernel) rfl
theorem a_X6_spendEvening_49 : At m_X6_spendEvening 49 (.getfield 52) 3 52 := at_i (by decide +kernel) rfl
theorem a_X6_spendEvening_52 : At m_X6_spendEvening 52 (.aload_n 0) 1 53 := at_i (by decide +kernel) rfl
theorem a_X6_spendEvening_53 : At m_X6_spendEvening 53 (.getfield 21) 3 56 := at_i (by decide +kernel) rfl
theorem a_X6_spendEvening_56 : At m_X6_spendEvening 56 (.iconst 0) 1 57 := at_i (by decide +kernel) rfl
theorem a_X6_spendEvening_57 : At m_X6_spendEvening 57 (.iaload) 1 58 := at_i (by decide +kernel) rfl
theorem a_X6_spendEvening_58 : At m_X6_spendEvening 58 (.iconst 1) 1 59 := at_i (by decide +kernel) rfl
theorem a_X6_spendEvening_59 : At m_X6_spendEvening 59 (.aload_n 0) 1 60 := at_i (by decide +kernel) rfl
theorem a_X6_spendEvening_60 : At m_X6_spendEvening 60 (.invokevirtual 121) 3 63 := at_i (by decide +kernel) rfl
theorem a_X6_spendEvening_63 : At m_X6_spendEvening 63 (.bipush 8) 2 65 := at_i (by decide +kernel) rfl
theorem a_X6_spendEvening_65 : At m_X6_spendEvening 65 (.irem) 1 66 := at_i (by decide +kernel) rfl
theorem a_X6_spendEvening_66 : At m_X6_spendEvening 66 (.iadd) 1 67 := at_i (by decide +kernel) rfl
theorem a_X6_spendEvening_67 : At m_X6_spendEvening 67 (.imul) 1 68 := at_i (by decide +kernel) rfl
theorem a_X6_spendEvening_68 : At m_X6_spendEvening 68 (.iadd) 1 69 := at_i (by decide +kernel) rfl
theorem a_X6_spendEvening_69 : At m_X6_spendEvening 69 (.putfield 52) 3 72 := at_i (by decide +kernel) rfl
theorem a_X6_spendEvening_72 : At m_X6_spendEvening 72 (.aload_n 0) 1 73 := at_i (by decide +kernel) rfl
theorem a_X6_spendEvening_73 : At m_X6_spendEvening 73 (.aload_n 0) 1 74 := at_i (by decide +kernel) rfl
theorem a_X6_spendEvening_74 : At m_X6_spendEvening 74 (.getfield 46) 3 77 := at_i (by decide +kernel) rfl
theorem a_X6_spendEvening_77 : At m_X6_spendEvening 77 (.aload_n 0) 1 78 := at_i (by decide +kernel) rfl
theorem a_X6_spendEvening_78 : At m_X6_spendEvening 78 (.getfield 49) 3 81 := at_i (by decide +kernel) rfl
theorem a_X6_spendEvening_81 : At m_X6_spendEvening 81 (.aload_n 0) 1 82 := at_i (by decide +kernel) rfl
theorem a_X6_spendEvening_82 : At m_X6_spendEvening 82 (.invokevirtual 121) 3 85 := at_i (by decide +kernel) rfl
theorem a_X6_spendEvening_85 : At m_X6_spendEvening 85 (.iconst 3) 1 86 := at_i (by decide +kernel) rfl
theorem a_X6_spendEvening_86 : At m_X6_spendEvening 86 (.irem) 1 87 := at_i (by decide +kernel) rfl
theorem a_X6_spendEvening_87 : At m_X6_spendEvening 87 (.iadd) 1 88 := at_i (by decide +kernel) rfl
theorem a_X6_spendEvening_88 : At m_X6_spendEvening 88 (.invokestatic 125) 3 91 := at_i (by decide +kernel) rfl
theorem a_X6_spendEvening_91 : At m_X6_spendEvening 91 (.putfield 49) 3 94 := at_i (by decide +kernel) rfl
theorem a_X6_spendEvening_94 : At m_X6_spendEvening 94 (.iinc 4 1) 3 97 := at_i (by decide +kernel) rfl
theorem a_X6_spendEvening_97 : AtJ m_X6_spendEvening 97 (.goto (-92)) (-92) 5 100 := at_j (by decide +kernel) (by decide) rfl
theorem a_X6_spendEvening_100 : At m_X6_spendEvening 100 (.iload_n 3) 1 101 := at_i (by decide +kernel) rfl
theorem a_X6_spendEvening_101 : At m_X6_spendEvening 101 (.ireturn) 1 102 := at_i (by decide +kernel) rfl
def f_X6_spendEvening_b5 (k0 : Nat) (a1 : Int32) (q2 : Nat)  (Q : Int32 → Mem → Prop)  (K5 : Int32 → Int32 → Mem → Prop) (v3 : Int32) (v4 : Int32) (h : Mem) : Prop :=
  if a1 ≤ v4 then (
    Q v3 h)
  else (
    if h k0 5 ≤ h k0 6 then (
      Q v3 h)
    else (
      f_X6_readOne k0 q2 h fun h_3 =>
      f_X6_draw k0 h_3 fun r_5 h_4 =>
      if h_4 (k0 + 4) 8 ≤ r_5 - r_5 / (10 : Int32) * (10 : Int32) then (
        ∀ v_7 : Int32, v_7 = v4 + (1 : Int32) →
        K5 v3 v_7 h_4)
      else (
        ∀ v_8 : Int32, v_8 = v3 + (1 : Int32) →
        f_X6_draw k0 h_4 fun r_10 h_9 =>
        ∀ h_11 : Mem, h_11 = gm_st h_9 k0 7 ((h_4 k0 7) + ((h_4 (k0 + 4) 0) * ((1 : Int32) + (r_10 - r_10 / (8 : Int32) * (8 : Int32))))) →
        f_X6_draw k0 h_11 fun r_13 h_12 =>
        ∀ v_14 : Int32, v_14 = (if (h_11 k0 6) + (r_13 - r_13 / (3 : Int32) * (3 : Int32)) < h_11 k0 5 then (h_11 k0 6) + (r_13 - r_13 / (3 : Int32) * (3 : Int32)) else h_11 k0 5) →
        ∀ h_15 : Mem, h_15 = gm_st h_12 k0 6 v_14 →
        ∀ v_16 : Int32, v_16 = v4 + (1 : Int32) →
        K5 v_8 v_16 h_15)))
set_option maxRecDepth 20000 in
theorem t_X6_spendEvening_b5 (k0 : Nat) (a1 : Int32) (q2 : Nat)  (hk0 : gm_cls k0 = 5) (hq2 : gm_cls q2 = 0)  (Q : Int32 → Mem → Prop)   : ∀ (n : Nat) (v3 : Int32) (v4 : Int32) (h : Mem), gm_it2 (f_X6_spendEvening_b5 k0 a1 q2  Q ) n v3 v4 h → EV m_X6_spendEvening (GI Q) 5 [(0, .ref k0), (1, .int a1), (2, .ref q2), (3, .int v3), (4, .int v4)] [] h := by
  refine ge_loop2 (P := fun v3 v4 h => EV m_X6_spendEvening (GI Q) 5 [(0, .ref k0), (1, .int a1), (2, .ref q2), (3, .int v3), (4, .int v4)] [] h) (fun K5 hK5 v3 v4 h hyp => ?_)
  unfold f_X6_spendEvening_b5 at hyp
  refine ge_iload a_X6_spendEvening_5 4 rfl ?_
  refine ge_iload_n a_X6_spendEvening_7 rfl 1 rfl ?_
  refine ge_icmp_ge a_X6_spendEvening_8 (fun c_1 => ?_) (fun c_1 => ?_)
  · have hyp := gm_ip hyp c_1
    refine ge_iload_n a_X6_spendEvening_100 rfl 3 rfl ?_
    exact ge_iret rfl a_X6_spendEvening_101 hyp
  · have hyp := gm_in hyp c_1
    refine ge_aload_n a_X6_spendEvening_11 rfl 0 rfl ?_
    refine ge_getI a_X6_spendEvening_12 fd_X6_49 hk0 ?_
    refine ge_aload_n a_X6_spendEvening_15 rfl 0 rfl ?_
    refine ge_getI a_X6_spendEvening_16 fd_X6_46 hk0 ?_
    refine ge_icmp_ge a_X6_spendEvening_19 (fun c_2 => ?_) (fun c_2 => ?_)
    · have hyp := gm_ip hyp c_2
      refine ge_iload_n a_X6_spendEvening_100 rfl 3 rfl ?_
      exact ge_iret rfl a_X6_spendEvening_101 hyp
    · have hyp := gm_in hyp c_2
      refine ge_aload_n a_X6_spendEvening_22 rfl 0 rfl ?_
      refine ge_aload_n a_X6_spendEvening_23 rfl 2 rfl ?_
      refine ge_cVV [.ref q2] (rest := []) a_X6_spendEvening_24 ok_X6_readOne lk_X6_118 ⟨Nat.le_of_ble_eq_true rfl, Nat.le_of_ble_eq_true rfl⟩ hk0 vc_5 (by decide) rfl rfl (Nat.le_of_ble_eq_true rfl) (t_X6_readOne k0 q2 hk0 hq2 h _ hyp) (fun h_3 hyp => ?_)
      refine ge_aload_n a_X6_spendEvening_27 rfl 0 rfl ?_
      refine ge_cVI [] (rest := []) a_X6_spendEvening_28 ok_X6_draw lk_X6_121 ⟨Nat.le_of_ble_eq_true rfl, Nat.le_of_ble_eq_true rfl⟩ hk0 vc_5 (by decide) rfl rfl (Nat.le_of_ble_eq_true rfl) (t_X6_draw k0 hk0 h_3 _ hyp) (fun r_5 h_4 hyp => ?_)
      refine ge_bipush (v := 10) a_X6_spendEvening_31 rfl ?_
      refine ge_irem a_X6_spendEvening_33 (by decide) ?_
      refine ge_aload_n a_X6_spendEvening_34 rfl 0 rfl ?_
      refine ge_getR (q := k0 + 4) a_X6_spendEvening_35 fd_X6_21 hk0 (kr5_3 hk0) ?_
      refine ge_bipush (v := 8) a_X6_spendEvening_38 rfl ?_
      refine ge_iald (j := 8) a_X6_spendEvening_40 (ka5_3 hk0) li_8_10.1 li_8_10.2 ?_
      refine ge_icmp_ge a_X6_spendEvening_41 (fun c_6 => ?_) (fun c_6 => ?_)
      · have hyp := gm_ip hyp c_6
        obtain ⟨v_7, ev_7⟩ : ∃ y : Int32, y = v4 + (1 : Int32) := ⟨_, rfl⟩
        have hyp := hyp v_7 ev_7
        refine ge_iinc (v := v_7) (lv' := [(4, .int v_7), (0, .ref k0), (1, .int a1), (2, .ref q2), (3, .int v3)]) a_X6_spendEvening_94 4 rfl ev_7.symm (Nat.le_of_ble_eq_true rfl) rfl ?_
        refine ge_goto a_X6_spendEvening_97 ?_
        exact ge_sub [1, 2, 3, 4, 0] rfl (hK5 v3 v_7 h_4 hyp)
      · have hyp := gm_in hyp c_6
        obtain ⟨v_8, ev_8⟩ : ∃ y : Int32, y = v3 + (1 : Int32) := ⟨_, rfl⟩
        have hyp := hyp v_8 ev_8
        refine ge_iinc (v := v_8) (lv' := [(3, .int v_8), (0, .ref k0), (1, .int a1), (2, .ref q2), (4, .int v4)]) a_X6_spendEvening_44 3 rfl ev_8.symm (Nat.le_of_ble_eq_true rfl) rfl ?_
        refine ge_aload_n a_X6_spendEvening_47 rfl 1 rfl ?_
        refine ge_dup a_X6_spendEvening_48 rfl ?_
        refine ge_getI a_X6_spendEvening_49 fd_X6_52 hk0 ?_
        refine ge_aload_n a_X6_spendEvening_52 rfl 1 rfl ?_
        refine ge_getR (q := k0 + 4) a_X6_spendEvening_53 fd_X6_21 hk0 (kr5_3 hk0) ?_
        refine ge_iconst (v := 0) a_X6_spendEvening_56 rfl ?_
        refine ge_iald (j := 0) a_X6_spendEvening_57 (ka5_3 hk0) li_0_10.1 li_0_10.2 ?_
        refine ge_iconst (v := 1) a_X6_spendEvening_58 rfl ?_
        refine ge_aload_n a_X6_spendEvening_59 rfl 1 rfl ?_
        refine ge_cVI [] (rest := [.int (1 : Int32), .int (h_4 (k0 + 4) 0), .int (h_4 k0 7), .ref k0]) a_X6_spendEvening_60 ok_X6_draw lk_X6_121 ⟨Nat.le_of_ble_eq_true rfl, Nat.le_of_ble_eq_true rfl⟩ hk0 vc_5 (by decide) rfl rfl (Nat.le_of_ble_eq_true rfl) (t_X6_draw k0 hk0 h_4 _ hyp) (fun r_10 h_9 hyp => ?_)
        refine ge_bipush (v := 8) a_X6_spendEvening_63 rfl ?_
        refine ge_irem a_X6_spendEvening_65 (by decide) ?_
        refine ge_iadd a_X6_spendEvening_66 ?_
        refine ge_imul a_X6_spendEvening_67 ?_
        refine ge_iadd a_X6_spendEvening_68 ?_
        refine ge_putI a_X6_spendEvening_69 pd_X6_52 hk0 ?_
        refine ge_nm (fun h_11 eh_11 => ?_)
        have hyp := hyp h_11 eh_11
        refine ge_aload_n a_X6_spendEvening_72 rfl 1 rfl ?_
        refine ge_aload_n a_X6_spendEvening_73 rfl 1 rfl ?_
        refine ge_getI a_X6_spendEvening_74 fd_X6_46 hk0 ?_
        refine ge_aload_n a_X6_spendEvening_77 rfl 1 rfl ?_
        refine ge_getI a_X6_spendEvening_78 fd_X6_49 hk0 ?_
        refine ge_aload_n a_X6_spendEvening_81 rfl 1 rfl ?_
        refine ge_cVI [] (rest := [.int (h_11 k0 6), .int (h_11 k0 5), .ref k0]) a_X6_spendEvening_82 ok_X6_draw lk_X6_121 ⟨Nat.le_of_ble_eq_true rfl, Nat.le_of_ble_eq_true rfl⟩ hk0 vc_5 (by decide) rfl rfl (Nat.le_of_ble_eq_true rfl) (t_X6_draw k0 hk0 h_11 _ hyp) (fun r_13 h_12 hyp => ?_)
        refine ge_iconst (v := 3) a_X6_spendEvening_85 rfl ?_
        refine ge_irem a_X6_spendEvening_86 (by decide) ?_
        refine ge_iadd a_X6_spendEvening_87 ?_
        refine ge_mmin (rest := [.ref k0]) a_X6_spendEvening_88 lk_X6_125 (Nat.le_of_ble_eq_true rfl) (Nat.le_of_ble_eq_true rfl) ?_
        refine ge_topi (fun v_14 ev_14 => ?_)
        have hyp := hyp v_14 ev_14
        refine ge_putI a_X6_spendEvening_91 pd_X6_49 hk0 ?_
        refine ge_nm (fun h_15 eh_15 => ?_)
        have hyp := hyp h_15 eh_15
        obtain ⟨v_16, ev_16⟩ : ∃ y : Int32, y = v4 + (1 : Int32) := ⟨_, rfl⟩
        have hyp := hyp v_16 ev_16
        refine ge_iinc (v := v_16) (lv' := [(4, .int v_16), (3, .int v_8), (0, .ref k0), (1, .int a1), (2, .ref q2)]) a_X6_spendEvening_94 4 rfl ev_16.symm (Nat.le_of_ble_eq_true rfl) rfl ?_
        refine ge_goto a_X6_spendEvening_97 ?_
        exact ge_sub [2, 3, 4, 1, 0] rfl (hK5 v_8 v_16 h_15 hyp)
def f_X6_spendEvening (k0 : Nat) (a1 : Int32) (q2 : Nat) (h : Mem) (Q : Int32 → Mem → Prop) : Prop :=
  gm_it2 (f_X6_spendEvening_b5 k0 a1 q2  Q ) gm_F (0 : Int32) (0 : Int32) h
set_option maxRecDepth 20000 in
theorem t_X6_spendEvening (k0 : Nat) (a1 : Int32) (q2 : Nat) (hk0 : gm_cls k0 = 5) (hq2 : gm_cls q2 = 0) (h : Mem) (Q : Int32 → Mem → Prop) (hyp : f_X6_spendEvening k0 a1 q2 h Q) : Cn m_X6_spendEvening [.ref k0, .int a1, .ref q2] h (GI Q) := by
  refine ge_entry (lv := [(0, .ref k0), (1, .int a1), (2, .ref q2)]) pn_X6 (Nat.le_of_ble_eq_true rfl) rfl ?_
  unfold f_X6_spendEvening at hyp
  refine ge_iconst (v := 0) a_X6_spendEvening_0 rfl ?_
  refine ge_istore_n (lv' := [(3, .int (0 : Int32)), (0, .ref k0), (1, .int a1), (2, .ref q2)]) a_X6_spendEvening_1 rfl (Nat.le_of_ble_eq_true rfl) rfl ?_
  refine ge_iconst (v := 0) a_X6_spendEvening_2 rfl ?_
  refine ge_istore (lv' := [(4, .int (0 : Int32)), (3, .int (0 : Int32)), (0, .ref k0), (1, .int a1), (2, .ref q2)]) a_X6_spendEvening_3 (Nat.le_of_ble_eq_true rfl) rfl ?_
  exact ge_sub [2, 3, 4, 1, 0] rfl (t_X6_spendEvening_b5 k0 a1 q2  hk0 hq2  Q   gm_F (0 : Int32) (0 : Int32) h hyp)

theorem a_X7_append_0 : At m_X7_append 0 (.iload_n 2) 1 1 := at_i (by decide +kernel) rfl
theorem a_X7_append_1 : At m_X7_append 1 (.iconst 1) 1 2 := at_i (by decide +kernel) rfl
theorem a_X7_append_2 : At m_X7_append 2 (.isub) 1 3 := at_i (by decide +kernel) rfl
theorem a_X7_append_3 : At m_X7_append 3 (.istore_n 3) 1 4 := at_i (by decide +kernel) rfl
theorem a_X7_append_4 : At m_X7_append 4 (.iload_n 3) 1 5 := at_i (by decide +kernel) rfl
theorem a_X7_append_5 : AtJ m_X7_append 5 (.ifCond .lt 38) (38) 43 8 := at_j (by decide +kernel) (by decide) rfl
theorem a_X7_append_8 : At m_X7_append 8 (.aload_n 0) 1 9 := at_i (by decide +kernel) rfl
theorem a_X7_append_9 : At m_X7_append 9 (.getfield 9) 3 12 := at_i (by decide +kernel) rfl
theorem a_X7_append_12 : At m_X7_append 12 (.aload_n 0) 1 13 := at_i (by decide +kernel) rfl
theorem a_X7_append_13 : At m_X7_append 13 (.getfield 15) 3 16 := at_i (by decide +kernel) rfl
theorem a_X7_append_16 : At m_X7_append 16 (.iload_n 1) 1 17 := at_i (by decide +kernel) rfl
theorem a_X7_append_17 : At m_X7_append 17 (.bipush 8) 2 19 := at_i (by decide +kernel) rfl
theorem a_X7_append_19 : At m_X7_append 19 (.iload_n 3) 1 20 := at_i (by decide +kernel) rfl
theorem a_X7_append_20 : At m_X7_append 20 (.imul) 1 21 := at_i (by decide +kernel) rfl
theorem a_X7_append_21 : At m_X7_append 21 (.ishr) 1 22 := at_i (by decide +kernel) rfl
theorem a_X7_append_22 : At m_X7_append 22 (.sipush 255) 3 25 := at_i (by decide +kernel) rfl
theorem a_X7_append_25 : At m_X7_append 25 (.iand) 1 26 := at_i (by decide +kernel) rfl
theorem a_X7_append_26 : At m_X7_append 26 (.iastore) 1 27 := at_i (by decide +kernel) rfl
theorem a_X7_append_27 : At m_X7_append 27 (.aload_n 0) 1 28 := at_i (by decide +kernel) rfl
theorem a_X7_append_28 : At m_X7_append 28 (.dup) 1 29 := at_i (by decide +kernel) rfl
theorem a_X7_append_29 : At m_X7_append 29 (.getfield 15) 3 32 := at_i (by decide +kernel) rfl
theorem a_X7_append_32 : At m_X7_append 32 (.iconst 1) 1 33 := at_i (by decide +kernel) rfl
theorem a_X7_append_33 : At m_X7_append 33 (.iadd) 1 34 := at_i (by decide +kernel) rfl
theorem a_X7_append_34 : At m_X7_append 34 (.putfield 15) 3 37 := at_i (by decide +kernel) rfl
theorem a_X7_append_37 : At m_X7_append 37 (.iinc 3 (-1)) 3 40 := at_i (by decide +kernel) rfl
theorem a_X7_append_40 : AtJ m_X7_append 40 (.goto (-36)) (-36) 4 43 := at_j (by decide +kernel) (by decide) rfl
theorem a_X7_append_43 : At m_X7_append 43 (.return_) 1 44 := at_i (by decide +kernel) rfl
def f_X7_append_b4 (a1 : Int32) (a2 : Int32)  (Q : Mem → Prop)  (K4 : Int32 → Mem → Prop) (v3 : Int32) (h : Mem) : Prop :=
  if v3 < 0 then (
    Q h)
  else (
    vp_in (h 30 1) 120 ∧
    ∀ h_4 : Mem, h_4 = gm_st h 31 ((h 30 1).toNatClampNeg) ((a1 >>> (((8 : Int32) * v3) &&& 31)) &&& (255 : Int32)) →
    ∀ h_5 : Mem, h_5 = gm_st h_4 30 1 ((h_4 30 1) + (1 : Int32)) →
    ∀ v_6 : Int32, v_6 = v3 + (-1 : Int32) →
    K4 v_6 h_5)
set_option maxRecDepth 20000 in
theorem t_X7_append_b4 (a1 : Int32) (a2 : Int32)    (Q : Mem → Prop)   : ∀ (n : Nat) (v3 : Int32) (h : Mem), gm_it1 (f_X7_append_b4 a1 a2  Q ) n v3 h → EV m_X7_append (GV Q) 4 [(0, .ref 30), (1, .int a1), (3, .int v3)] [] h := by
  refine ge_loop1 (P := fun v3 h => EV m_X7_append (GV Q) 4 [(0, .ref 30), (1, .int a1), (3, .int v3)] [] h) (fun K4 hK4 v3 h hyp => ?_)
  unfold f_X7_append_b4 at hyp
  refine ge_iload_n a_X7_append_4 rfl 2 rfl ?_
  refine ge_if_lt a_X7_append_5 (fun c_2 => ?_) (fun c_2 => ?_)
  · have hyp := gm_ip hyp c_2
    exact ge_vret rfl a_X7_append_43 hyp
  · have hyp := gm_in hyp c_2
    refine ge_aload_n a_X7_append_8 rfl 0 rfl ?_
    refine ge_getR (q := 31) a_X7_append_9 fd_X7_9 (rfl : gm_cls 30 = 6) rfl ?_
    refine ge_aload_n a_X7_append_12 rfl 0 rfl ?_
    refine ge_getI a_X7_append_13 fd_X7_15 (rfl : gm_cls 30 = 6) ?_
    refine ge_iload_n a_X7_append_16 rfl 1 rfl ?_
    refine ge_bipush (v := 8) a_X7_append_17 rfl ?_
    refine ge_iload_n a_X7_append_19 rfl 2 rfl ?_
    refine ge_imul a_X7_append_20 ?_
    refine ge_ishr a_X7_append_21 ?_
    refine ge_sipush (v := 255) a_X7_append_22 rfl ?_
    refine ge_iand a_X7_append_25 ?_
    obtain ⟨b_3, hyp⟩ := hyp
    refine ge_iast (j := (h 30 1).toNatClampNeg) a_X7_append_26 ga_31 b_3 rfl ?_
    refine ge_nm (fun h_4 eh_4 => ?_)
    have hyp := hyp h_4 eh_4
    refine ge_aload_n a_X7_append_27 rfl 0 rfl ?_
    refine ge_dup a_X7_append_28 rfl ?_
    refine ge_getI a_X7_append_29 fd_X7_15 (rfl : gm_cls 30 = 6) ?_
    refine ge_iconst (v := 1) a_X7_append_32 rfl ?_
    refine ge_iadd a_X7_append_33 ?_
    refine ge_putI a_X7_append_34 pd_X7_15 (rfl : gm_cls 30 = 6) ?_
    refine ge_nm (fun h_5 eh_5 => ?_)
    have hyp := hyp h_5 eh_5
    obtain ⟨v_6, ev_6⟩ : ∃ y : Int32, y = v3 + (-1 : Int32) := ⟨_, rfl⟩
    have hyp := hyp v_6 ev_6
    refine ge_iinc (v := v_6) (lv' := [(3, .int v_6), (0, .ref 30), (1, .int a1)]) a_X7_append_37 2 rfl ev_6.symm (Nat.le_of_ble_eq_true rfl) rfl ?_
    refine ge_goto a_X7_append_40 ?_
    exact ge_sub [1, 2, 0] rfl (hK4 v_6 h_5 hyp)
def f_X7_append (a1 : Int32) (a2 : Int32) (h : Mem) (Q : Mem → Prop) : Prop :=
  ∀ v_1 : Int32, v_1 = a2 - (1 : Int32) →
  gm_it1 (f_X7_append_b4 a1 a2  Q ) gm_F v_1 h
set_option maxRecDepth 20000 in
theorem t_X7_append (a1 : Int32) (a2 : Int32)  (h : Mem) (Q : Mem → Prop) (hyp : f_X7_append a1 a2 h Q) : Cn m_X7_append [.ref 30, .int a1, .int a2] h (GV Q) := by
  refine ge_entry (lv := [(0, .ref 30), (1, .int a1), (2, .int a2)]) pn_X7 (Nat.le_of_ble_eq_true rfl) rfl ?_
  unfold f_X7_append at hyp
  refine ge_iload_n a_X7_append_0 rfl 2 rfl ?_
  refine ge_iconst (v := 1) a_X7_append_1 rfl ?_
  refine ge_isub a_X7_append_2 ?_
  refine ge_topi (fun v_1 ev_1 => ?_)
  have hyp := hyp v_1 ev_1
  refine ge_istore_n (lv' := [(3, .int v_1), (0, .ref 30), (1, .int a1), (2, .int a2)]) a_X7_append_3 rfl (Nat.le_of_ble_eq_true rfl) rfl ?_
  exact ge_sub [1, 2, 0] rfl (t_X7_append_b4 a1 a2    Q   gm_F v_1 h hyp)

theorem a_X8_byJump_0 : At m_X8_byJump 0 (.bipush 7) 2 2 := at_i (by decide +kernel) rfl
theorem a_X8_byJump_2 : At m_X8_byJump 2 (.iconst 3) 1 3 := at_i (by decide +kernel) rfl
theorem a_X8_byJump_3 : At m_X8_byJump 3 (.iload_n 2) 1 4 := at_i (by decide +kernel) rfl
theorem a_X8_byJump_4 : At m_X8_byJump 4 (.imul) 1 5 := at_i (by decide +kernel) rfl
theorem a_X8_byJump_5 : At m_X8_byJump 5 (.iadd) 1 6 := at_i (by decide +kernel) rfl
theorem a_X8_byJump_6 : At m_X8_byJump 6 (.aload_n 0) 1 7 := at_i (by decide +kernel) rfl
theorem a_X8_byJump_7 : At m_X8_byJump 7 (.getfield 18) 3 10 := at_i (by decide +kernel) rfl
theorem a_X8_byJump_10 : At m_X8_byJump 10 (.iload_n 1) 1 11 := at_i (by decide +kernel) rfl
theorem a_X8_byJump_11 : At m_X8_byJump 11 (.iload_n 2) 1 12 := at_i (by decide +kernel) rfl
theorem a_X8_byJump_12 : At m_X8_byJump 12 (.iadd) 1 13 := at_i (by decide +kernel) rfl
theorem a_X8_byJump_13 : At m_X8_byJump 13 (.iconst 1) 1 14 := at_i (by decide +kernel) rfl
theorem a_X8_byJump_14 : At m_X8_byJump 14 (.iadd) 1 15 := at_i (by decide +kernel) rfl
theorem a_X8_byJump_15 : At m_X8_byJump 15 (.iaload) 1 16 := at_i (by decide +kernel) rfl
theorem a_X8_byJump_16 : At m_X8_byJump 16 (.iadd) 1 17 := at_i (by decide +kernel) rfl
theorem a_X8_byJump_17 : At m_X8_byJump 17 (.ireturn) 1 18 := at_i (by decide +kernel) rfl
def f_X8_byJump (a1 : Int32) (a2 : Int32) (h : Mem) (Q : Int32 → Mem → Prop) : Prop :=
  vp_in ((a1 + a2) + (1 : Int32)) 13 ∧
  Q (((7 : Int32) + ((3 : Int32) * a2)) + (h 29 (((a1 + a2) + (1 : Int32)).toNatClampNeg))) h
set_option maxRecDepth 20000 in
theorem t_X8_byJump (a1 : Int32) (a2 : Int32)  (h : Mem) (Q : Int32 → Mem → Prop) (hyp : f_X8_byJump a1 a2 h Q) : Cn m_X8_byJump [.ref 26, .int a1, .int a2] h (GI Q) := by
  refine ge_entry (lv := [(0, .ref 26), (1, .int a1), (2, .int a2)]) pn_X8 (Nat.le_of_ble_eq_true rfl) rfl ?_
  unfold f_X8_byJump at hyp
  refine ge_bipush (v := 7) a_X8_byJump_0 rfl ?_
  refine ge_iconst (v := 3) a_X8_byJump_2 rfl ?_
  refine ge_iload_n a_X8_byJump_3 rfl 2 rfl ?_
  refine ge_imul a_X8_byJump_4 ?_
  refine ge_iadd a_X8_byJump_5 ?_
  refine ge_aload_n a_X8_byJump_6 rfl 0 rfl ?_
  refine ge_getR (q := 29) a_X8_byJump_7 fd_X8_18 (rfl : gm_cls 26 = 7) rfl ?_
  refine ge_iload_n a_X8_byJump_10 rfl 1 rfl ?_
  refine ge_iload_n a_X8_byJump_11 rfl 2 rfl ?_
  refine ge_iadd a_X8_byJump_12 ?_
  refine ge_iconst (v := 1) a_X8_byJump_13 rfl ?_
  refine ge_iadd a_X8_byJump_14 ?_
  obtain ⟨b_1, hyp⟩ := hyp
  refine ge_iald (j := ((a1 + a2) + (1 : Int32)).toNatClampNeg) a_X8_byJump_15 ga_29 b_1 rfl ?_
  refine ge_iadd a_X8_byJump_16 ?_
  exact ge_iret rfl a_X8_byJump_17 hyp

theorem a_X8_measure_0 : At m_X8_measure 0 (.aload_n 0) 1 1 := at_i (by decide +kernel) rfl
theorem a_X8_measure_1 : At m_X8_measure 1 (.getfield 15) 3 4 := at_i (by decide +kernel) rfl
theorem a_X8_measure_4 : At m_X8_measure 4 (.iload_n 3) 1 5 := at_i (by decide +kernel) rfl
theorem a_X8_measure_5 : At m_X8_measure 5 (.iconst 0) 1 6 := at_i (by decide +kernel) rfl
theorem a_X8_measure_6 : At m_X8_measure 6 (.iastore) 1 7 := at_i (by decide +kernel) rfl
theorem a_X8_measure_7 : At m_X8_measure 7 (.aload_n 0) 1 8 := at_i (by decide +kernel) rfl
theorem a_X8_measure_8 : At m_X8_measure 8 (.getfield 18) 3 11 := at_i (by decide +kernel) rfl
theorem a_X8_measure_11 : At m_X8_measure 11 (.iload_n 3) 1 12 := at_i (by decide +kernel) rfl
theorem a_X8_measure_12 : At m_X8_measure 12 (.iconst 0) 1 13 := at_i (by decide +kernel) rfl
theorem a_X8_measure_13 : At m_X8_measure 13 (.iastore) 1 14 := at_i (by decide +kernel) rfl
theorem a_X8_measure_14 : At m_X8_measure 14 (.iload_n 3) 1 15 := at_i (by decide +kernel) rfl
theorem a_X8_measure_15 : At m_X8_measure 15 (.iconst 1) 1 16 := at_i (by decide +kernel) rfl
theorem a_X8_measure_16 : At m_X8_measure 16 (.isub) 1 17 := at_i (by decide +kernel) rfl
theorem a_X8_measure_17 : At m_X8_measure 17 (.istore 4) 2 19 := at_i (by decide +kernel) rfl
theorem a_X8_measure_19 : At m_X8_measure 19 (.iload 4) 2 21 := at_i (by decide +kernel) rfl
theorem a_X8_measure_21 : At m_X8_measure 21 (.iload_n 2) 1 22 := at_i (by decide +kernel) rfl
theorem a_X8_measure_22 : AtJ m_X8_measure 22 (.if_icmp .lt 117) (117) 139 25 := at_j (by decide +kernel) (by decide) rfl
theorem a_X8_measure_25 : At m_X8_measure 25 (.aload_n 0) 1 26 := at_i (by decide +kernel) rfl
theorem a_X8_measure_26 : At m_X8_measure 26 (.getfield 9) 3 29 := at_i (by decide +kernel) rfl
theorem a_X8_measure_29 : At m_X8_measure 29 (.iload 4) 2 31 := at_i (by decide +kernel) rfl
theorem a_X8_measure_31 : At m_X8_measure 31 (.aload_n 1) 1 32 := at_i (by decide +kernel) rfl
theorem a_X8_measure_32 : At m_X8_measure 32 (.iload 4) 2 34 := at_i (by decide +kernel) rfl
theorem a_X8_measure_34 : At m_X8_measure 34 (.aload_n 1) 1 35 := at_i (by decide +kernel) rfl
theorem a_X8_measure_35 : At m_X8_measure 35 (.getfield 21) 3 38 := at_i (by decide +kernel) rfl
theorem a_X8_measure_38 : At m_X8_measure 38 (.iconst 0) 1 39 := at_i (by decide +kernel) rfl
theorem a_X8_measure_39 : At m_X8_measure 39 (.iaload) 1 40 := at_i (by decide +kernel) rfl
theorem a_X8_measure_40 : At m_X8_measure 40 (.invokevirtual 26) 3 43 := at_i (by decide +kernel) rfl
theorem a_X8_measure_43 : At m_X8_measure 43 (.iastore) 1 44 := at_i (by decide +kernel) rfl
theorem a_X8_measure_44 : At m_X8_measure 44 (.aload_n 0) 1 45 := at_i (by decide +kernel) rfl
theorem a_X8_measure_45 : At m_X8_measure 45 (.getfield 18) 3 48 := at_i (by decide +kernel) rfl
theorem a_X8_measure_48 : At m_X8_measure 48 (.iload 4) 2 50 := at_i (by decide +kernel) rfl
theorem a_X8_measure_50 : At m_X8_measure 50 (.aload_n 0) 1 51 := at_i (by decide +kernel) rfl
theorem a_X8_measure_51 : At m_X8_measure 51 (.getfield 9) 3 54 := at_i (by decide +kernel) rfl
theorem a_X8_measure_54 : At m_X8_measure 54 (.iload 4) 2 56 := at_i (by decide +kernel) rfl
theorem a_X8_measure_56 : At m_X8_measure 56 (.iaload) 1 57 := at_i (by decide +kernel) rfl
theorem a_X8_measure_57 : At m_X8_measure 57 (.aload_n 0) 1 58 := at_i (by decide +kernel) rfl
theorem a_X8_measure_58 : At m_X8_measure 58 (.getfield 15) 3 61 := at_i (by decide +kernel) rfl
theorem a_X8_measure_61 : At m_X8_measure 61 (.iload 4) 2 63 := at_i (by decide +kernel) rfl
theorem a_X8_measure_63 : At m_X8_measure 63 (.iconst 1) 1 64 := at_i (by decide +kernel) rfl
theorem a_X8_measure_64 : At m_X8_measure 64 (.iadd) 1 65 := at_i (by decide +kernel) rfl
theorem a_X8_measure_65 : At m_X8_measure 65 (.iaload) 1 66 := at_i (by decide +kernel) rfl
theorem a_X8_measure_66 : At m_X8_measure 66 (.iadd) 1 67 := at_i (by decide +kernel) rfl
theorem a_X8_measure_67 : At m_X8_measure 67 (.iastore) 1 68 := at_i (by decide +kernel) rfl
theorem a_X8_measure_68 : At m_X8_measure 68 (.aload_n 0) 1 69 := at_i (by decide +kernel) rfl
theorem a_X8_measure_69 : At m_X8_measure 69 (.getfield 15) 3 72 := at_i (by decide +kernel) rfl
theorem a_X8_measure_72 : At m_X8_measure 72 (.iload 4) 2 74 := at_i (by decide +kernel) rfl
theorem a_X8_measure_74 : At m_X8_measure 74 (.aload_n 0) 1 75 := at_i (by decide +kernel) rfl
theorem a_X8_measure_75 : At m_X8_measure 75 (.getfield 18) 3 78 := at_i (by decide +kernel) rfl
theorem a_X8_measure_78 : At m_X8_measure 78 (.iload 4) 2 80 := at_i (by decide +kernel) rfl
theorem a_X8_measure_80 : At m_X8_measure 80 (.iaload) 1 81 := at_i (by decide +kernel) rfl
theorem a_X8_measure_81 : At m_X8_measure 81 (.iastore) 1 82 := at_i (by decide +kernel) rfl
theorem a_X8_measure_82 : At m_X8_measure 82 (.iconst 1) 1 83 := at_i (by decide +kernel) rfl
theorem a_X8_measure_83 : At m_X8_measure 83 (.istore 5) 2 85 := at_i (by decide +kernel) rfl
theorem a_X8_measure_85 : At m_X8_measure 85 (.iload 5) 2 87 := at_i (by decide +kernel) rfl
theorem a_X8_measure_87 : At m_X8_measure 87 (.iconst 3) 1 88 := at_i (by decide +kernel) rfl
theorem a_X8_measure_88 : AtJ m_X8_measure 88 (.if_icmp .gt 45) (45) 133 91 := at_j (by decide +kernel) (by decide) rfl
theorem a_X8_measure_91 : At m_X8_measure 91 (.iload 4) 2 93 := at_i (by decide +kernel) rfl
theorem a_X8_measure_93 : At m_X8_measure 93 (.iload 5) 2 95 := at_i (by decide +kernel) rfl
theorem a_X8_measure_95 : At m_X8_measure 95 (.iadd) 1 96 := at_i (by decide +kernel) rfl
theorem a_X8_measure_96 : At m_X8_measure 96 (.iconst 1) 1 97 := at_i (by decide +kernel) rfl
theorem a_X8_measure_97 : At m_X8_measure 97 (.iadd) 1 98 := at_i (by decide +kernel) rfl
theorem a_X8_measure_98 : At m_X8_measure 98 (.iload_n 3) 1 99 := at_i (by decide +kernel) rfl
theorem a_X8_measure_99 : AtJ m_X8_measure 99 (.if_icmp .gt 34) (34) 133 102 := at_j (by decide +kernel) (by decide) rfl
theorem a_X8_measure_102 : At m_X8_measure 102 (.aload_n 0) 1 103 := at_i (by decide +kernel) rfl
theorem a_X8_measure_103 : At m_X8_measure 103 (.getfield 15) 3 106 := at_i (by decide +kernel) rfl
theorem a_X8_measure_106 : At m_X8_measure 106 (.iload 4) 2 108 := at_i (by decide +kernel) rfl
theorem a_X8_measure_108 : At m_X8_measure 108 (.aload_n 0) 1 109 := at_i (by decide +kernel) rfl
theorem a_X8_measure_109 : At m_X8_measure 109 (.getfield 15) 3 112 := at_i (by decide +kernel) rfl
theorem a_X8_measure_112 : At m_X8_measure 112 (.iload 4) 2 114 := at_i (by decide +kernel) rfl
theorem a_X8_measure_114 : At m_X8_measure 114 (.iaload) 1 115 := at_i (by decide +kernel) rfl
theorem a_X8_measure_115 : At m_X8_measure 115 (.aload_n 0) 1 116 := at_i (by decide +kernel) rfl
theorem a_X8_measure_116 : At m_X8_measure 116 (.iload 4) 2 118 := at_i (by decide +kernel) rfl
theorem a_X8_measure_118 : At m_X8_measure 118 (.iload 5) 2 120 := at_i (by decide +kernel) rfl
theorem a_X8_measure_120 : At m_X8_measure 120 (.invokevirtual 30) 3 123 := at_i (by decide +kernel) rfl
theorem a_X8_measure_123 : At m_X8_measure 123 (.invokestatic 33) 3 126 := at_i (by decide +kernel) rfl
theorem a_X8_measure_126 : At m_X8_measure 126 (.iastore) 1 127 := at_i (by decide +kernel) rfl
theorem a_X8_measure_127 : At m_X8_measure 127 (.iinc 5 1) 3 130 := at_i (by decide +kernel) rfl
theorem a_X8_measure_130 : AtJ m_X8_measure 130 (.goto (-45)) (-45) 85 133 := at_j (by decide +kernel) (by decide) rfl
theorem a_X8_measure_133 : At m_X8_measure 133 (.iinc 4 (-1)) 3 136 := at_i (by decide +kernel) rfl
theorem a_X8_measure_136 : AtJ m_X8_measure 136 (.goto (-117)) (-117) 19 139 := at_j (by decide +kernel) (by decide) rfl
theorem a_X8_measure_139 : At m_X8_measure 139 (.return_) 1 140 := at_i (by decide +kernel) rfl
def f_X8_measure_b85 (a2 : Int32) (a3 : Int32) (v4 : Int32) (Q : Mem → Prop) (K19 : Int32 → Mem → Prop) (K85 : Int32 → Mem → Prop) (v5 : Int32) (h : Mem) : Prop :=
  if (3 : Int32) < v5 then (
    ∀ v_19 : Int32, v_19 = v4 + (-1 : Int32) →
    K19 v_19 h)
  else (
    if a3 < (v4 + v5) + (1 : Int32) then (
      ∀ v_21 : Int32, v_21 = v4 + (-1 : Int32) →
      K19 v_21 h)
    else (
      vp_in v4 13 ∧
      f_X8_byJump v4 v5 h fun r_24 h_23 =>
      ∀ v_25 : Int32, v_25 = (if r_24 < h 28 v4.toNatClampNeg then r_24 else h 28 v4.toNatClampNeg) →
      vp_in v4 13 ∧
      ∀ h_27 : Mem, h_27 = gm_st h_23 28 v4.toNatClampNeg v_25 →
      ∀ v_28 : Int32, v_28 = v5 + (1 : Int32) →
      K85 v_28 h_27))
set_option maxRecDepth 20000 in
theorem t_X8_measure_b85 (a2 : Int32) (a3 : Int32) (v4 : Int32)   (Q : Mem → Prop) (K19 : Int32 → Mem → Prop) (hK19 : ∀ (v4 : Int32) h, K19 v4 h → EV m_X8_measure (GV Q) 19 [(0, .ref 26), (1, .ref 1), (2, .int a2), (3, .int a3), (4, .int v4)] [] h) : ∀ (n : Nat) (v5 : Int32) (h : Mem), gm_it1 (f_X8_measure_b85 a2 a3 v4 Q K19) n v5 h → EV m_X8_measure (GV Q) 85 [(0, .ref 26), (1, .ref 1), (2, .int a2), (3, .int a3), (4, .int v4), (5, .int v5)] [] h := by
  refine ge_loop1 (P := fun v5 h => EV m_X8_measure (GV Q) 85 [(0, .ref 26), (1, .ref 1), (2, .int a2), (3, .int a3), (4, .int v4), (5, .int v5)] [] h) (fun K85 hK85 v5 h hyp => ?_)
  unfold f_X8_measure_b85 at hyp
  refine ge_iload a_X8_measure_85 5 rfl ?_
  refine ge_iconst (v := 3) a_X8_measure_87 rfl ?_
  refine ge_icmp_gt a_X8_measure_88 (fun c_18 => ?_) (fun c_18 => ?_)
  · have hyp := gm_ip hyp c_18
    obtain ⟨v_19, ev_19⟩ : ∃ y : Int32, y = v4 + (-1 : Int32) := ⟨_, rfl⟩
    have hyp := hyp v_19 ev_19
    refine ge_iinc (v := v_19) (lv' := [(4, .int v_19), (0, .ref 26), (1, .ref 1), (2, .int a2), (3, .int a3), (5, .int v5)]) a_X8_measure_133 4 rfl ev_19.symm (Nat.le_of_ble_eq_true rfl) rfl ?_
    refine ge_goto a_X8_measure_136 ?_
    exact ge_sub [1, 2, 3, 4, 0] rfl (hK19 v_19 h hyp)
  · have hyp := gm_in hyp c_18
    refine ge_iload a_X8_measure_91 4 rfl ?_
    refine ge_iload a_X8_measure_93 5 rfl ?_
    refine ge_iadd a_X8_measure_95 ?_
    refine ge_iconst (v := 1) a_X8_measure_96 rfl ?_
    refine ge_iadd a_X8_measure_97 ?_
    refine ge_iload_n a_X8_measure_98 rfl 3 rfl ?_
    refine ge_icmp_gt a_X8_measure_99 (fun c_20 => ?_) (fun c_20 => ?_)
    · have hyp := gm_ip hyp c_20
      obtain ⟨v_21, ev_21⟩ : ∃ y : Int32, y = v4 + (-1 : Int32) := ⟨_, rfl⟩
      have hyp := hyp v_21 ev_21
      refine ge_iinc (v := v_21) (lv' := [(4, .int v_21), (0, .ref 26), (1, .ref 1), (2, .int a2), (3, .int a3), (5, .int v5)]) a_X8_measure_133 4 rfl ev_21.symm (Nat.le_of_ble_eq_true rfl) rfl ?_
      refine ge_goto a_X8_measure_136 ?_
      exact ge_sub [1, 2, 3, 4, 0] rfl (hK19 v_21 h hyp)
    · have hyp := gm_in hyp c_20
      refine ge_aload_n a_X8_measure_102 rfl 0 rfl ?_
      refine ge_getR (q := 28) a_X8_measure_103 fd_X8_15 (rfl : gm_cls 26 = 7) rfl ?_
      refine ge_iload a_X8_measure_106 4 rfl ?_
      refine ge_aload_n a_X8_measure_108 rfl 0 rfl ?_
      refine ge_getR (q := 28) a_X8_measure_109 fd_X8_15 (rfl : gm_cls 26 = 7) rfl ?_
      refine ge_iload a_X8_measure_112 4 rfl ?_
      obtain ⟨b_22, hyp⟩ := hyp
      refine ge_iald (j := v4.toNatClampNeg) a_X8_measure_114 ga_28 b_22 rfl ?_
      refine ge_aload_n a_X8_measure_115 rfl 0 rfl ?_
      refine ge_iload a_X8_measure_116 4 rfl ?_
      refine ge_iload a_X8_measure_118 5 rfl ?_
      refine ge_cVI [.int v4, .int v5] (rest := [.int (h 28 v4.toNatClampNeg), .int v4, .ref 28]) a_X8_measure_120 ok_X8_byJump lk_X8_30 ⟨Nat.le_of_ble_eq_true rfl, Nat.le_of_ble_eq_true rfl⟩ (rfl : gm_cls 26 = 7) vc_7 (by decide) rfl rfl (Nat.le_of_ble_eq_true rfl) (t_X8_byJump v4 v5  h _ hyp) (fun r_24 h_23 hyp => ?_)
      refine ge_mmin (rest := [.int v4, .ref 28]) a_X8_measure_123 lk_X8_33 (Nat.le_of_ble_eq_true rfl) (Nat.le_of_ble_eq_true rfl) ?_
      refine ge_topi (fun v_25 ev_25 => ?_)
      have hyp := hyp v_25 ev_25
      obtain ⟨b_26, hyp⟩ := hyp
      refine ge_iast (j := v4.toNatClampNeg) a_X8_measure_126 ga_28 b_26 rfl ?_
      refine ge_nm (fun h_27 eh_27 => ?_)
      have hyp := hyp h_27 eh_27
      obtain ⟨v_28, ev_28⟩ : ∃ y : Int32, y = v5 + (1 : Int32) := ⟨_, rfl⟩
      have hyp := hyp v_28 ev_28
      refine ge_iinc (v := v_28) (lv' := [(5, .int v_28), (0, .ref 26), (1, .ref 1), (2, .int a2), (3, .int a3), (4, .int v4)]) a_X8_measure_127 5 rfl ev_28.symm (Nat.le_of_ble_eq_true rfl) rfl ?_
      refine ge_goto a_X8_measure_130 ?_
      exact ge_sub [1, 2, 3, 4, 5, 0] rfl (hK85 v_28 h_27 hyp)
def f_X8_measure_b19 (a2 : Int32) (a3 : Int32)  (Q : Mem → Prop)  (K19 : Int32 → Mem → Prop) (v4 : Int32) (h : Mem) : Prop :=
  if v4 < a2 then (
    Q h)
  else (
    f_X6_takesOf 1 v4 (h 5 0) h fun r_8 h_7 =>
    vp_in v4 12 ∧
    ∀ h_10 : Mem, h_10 = gm_st h_7 27 v4.toNatClampNeg r_8 →
    vp_in v4 12 ∧
    vp_in (v4 + (1 : Int32)) 13 ∧
    vp_in v4 13 ∧
    ∀ h_14 : Mem, h_14 = gm_st h_10 29 v4.toNatClampNeg ((h_10 27 v4.toNatClampNeg) + (h_10 28 ((v4 + (1 : Int32)).toNatClampNeg))) →
    vp_in v4 13 ∧
    vp_in v4 13 ∧
    ∀ h_17 : Mem, h_17 = gm_st h_14 28 v4.toNatClampNeg (h_14 29 v4.toNatClampNeg) →
    gm_it1 (f_X8_measure_b85 a2 a3 v4 Q K19) gm_F (1 : Int32) h_17)
set_option maxRecDepth 20000 in
theorem t_X8_measure_b19 (a2 : Int32) (a3 : Int32)    (Q : Mem → Prop)   : ∀ (n : Nat) (v4 : Int32) (h : Mem), gm_it1 (f_X8_measure_b19 a2 a3  Q ) n v4 h → EV m_X8_measure (GV Q) 19 [(0, .ref 26), (1, .ref 1), (2, .int a2), (3, .int a3), (4, .int v4)] [] h := by
  refine ge_loop1 (P := fun v4 h => EV m_X8_measure (GV Q) 19 [(0, .ref 26), (1, .ref 1), (2, .int a2), (3, .int a3), (4, .int v4)] [] h) (fun K19 hK19 v4 h hyp => ?_)
  unfold f_X8_measure_b19 at hyp
  refine ge_iload a_X8_measure_19 4 rfl ?_
  refine ge_iload_n a_X8_measure_21 rfl 2 rfl ?_
  refine ge_icmp_lt a_X8_measure_22 (fun c_6 => ?_) (fun c_6 => ?_)
  · have hyp := gm_ip hyp c_6
    exact ge_vret rfl a_X8_measure_139 hyp
  · have hyp := gm_in hyp c_6
    refine ge_aload_n a_X8_measure_25 rfl 0 rfl ?_
    refine ge_getR (q := 27) a_X8_measure_26 fd_X8_9 (rfl : gm_cls 26 = 7) rfl ?_
    refine ge_iload a_X8_measure_29 4 rfl ?_
    refine ge_aload_n a_X8_measure_31 rfl 1 rfl ?_
    refine ge_iload a_X8_measure_32 4 rfl ?_
    refine ge_aload_n a_X8_measure_34 rfl 1 rfl ?_
    refine ge_getR (q := 5) a_X8_measure_35 fd_X8_21 (rfl : gm_cls 1 = 5) rfl ?_
    refine ge_iconst (v := 0) a_X8_measure_38 rfl ?_
    refine ge_iald (j := 0) a_X8_measure_39 ga_5 li_0_10.1 li_0_10.2 ?_
    refine ge_cVI [.int v4, .int (h 5 0)] (rest := [.int v4, .ref 27]) a_X8_measure_40 ok_X6_takesOf lk_X8_26 ⟨Nat.le_of_ble_eq_true rfl, Nat.le_of_ble_eq_true rfl⟩ (rfl : gm_cls 1 = 5) vc_5 (by decide) rfl rfl (Nat.le_of_ble_eq_true rfl) (t_X6_takesOf 1 v4 (h 5 0) (rfl : gm_cls 1 = 5) h _ hyp) (fun r_8 h_7 hyp => ?_)
    obtain ⟨b_9, hyp⟩ := hyp
    refine ge_iast (j := v4.toNatClampNeg) a_X8_measure_43 ga_27 b_9 rfl ?_
    refine ge_nm (fun h_10 eh_10 => ?_)
    have hyp := hyp h_10 eh_10
    refine ge_aload_n a_X8_measure_44 rfl 0 rfl ?_
    refine ge_getR (q := 29) a_X8_measure_45 fd_X8_18 (rfl : gm_cls 26 = 7) rfl ?_
    refine ge_iload a_X8_measure_48 4 rfl ?_
    refine ge_aload_n a_X8_measure_50 rfl 0 rfl ?_
    refine ge_getR (q := 27) a_X8_measure_51 fd_X8_9 (rfl : gm_cls 26 = 7) rfl ?_
    refine ge_iload a_X8_measure_54 4 rfl ?_
    obtain ⟨b_11, hyp⟩ := hyp
    refine ge_iald (j := v4.toNatClampNeg) a_X8_measure_56 ga_27 b_11 rfl ?_
    refine ge_aload_n a_X8_measure_57 rfl 0 rfl ?_
    refine ge_getR (q := 28) a_X8_measure_58 fd_X8_15 (rfl : gm_cls 26 = 7) rfl ?_
    refine ge_iload a_X8_measure_61 4 rfl ?_
    refine ge_iconst (v := 1) a_X8_measure_63 rfl ?_
    refine ge_iadd a_X8_measure_64 ?_
    obtain ⟨b_12, hyp⟩ := hyp
    refine ge_iald (j := (v4 + (1 : Int32)).toNatClampNeg) a_X8_measure_65 ga_28 b_12 rfl ?_
    refine ge_iadd a_X8_measure_66 ?_
    obtain ⟨b_13, hyp⟩ := hyp
    refine ge_iast (j := v4.toNatClampNeg) a_X8_measure_67 ga_29 b_13 rfl ?_
    refine ge_nm (fun h_14 eh_14 => ?_)
    have hyp := hyp h_14 eh_14
    refine ge_aload_n a_X8_measure_68 rfl 0 rfl ?_
    refine ge_getR (q := 28) a_X8_measure_69 fd_X8_15 (rfl : gm_cls 26 = 7) rfl ?_
    refine ge_iload a_X8_measure_72 4 rfl ?_
    refine ge_aload_n a_X8_measure_74 rfl 0 rfl ?_
    refine ge_getR (q := 29) a_X8_measure_75 fd_X8_18 (rfl : gm_cls 26 = 7) rfl ?_
    refine ge_iload a_X8_measure_78 4 rfl ?_
    obtain ⟨b_15, hyp⟩ := hyp
    refine ge_iald (j := v4.toNatClampNeg) a_X8_measure_80 ga_29 b_15 rfl ?_
    obtain ⟨b_16, hyp⟩ := hyp
    refine ge_iast (j := v4.toNatClampNeg) a_X8_measure_81 ga_28 b_16 rfl ?_
    refine ge_nm (fun h_17 eh_17 => ?_)
    have hyp := hyp h_17 eh_17
    refine ge_iconst (v := 1) a_X8_measure_82 rfl ?_
    refine ge_istore (lv' := [(5, .int (1 : Int32)), (0, .ref 26), (1, .ref 1), (2, .int a2), (3, .int a3), (4, .int v4)]) a_X8_measure_83 (Nat.le_of_ble_eq_true rfl) rfl ?_
    exact ge_sub [1, 2, 3, 4, 5, 0] rfl (t_X8_measure_b85 a2 a3 v4   Q K19 hK19 gm_F (1 : Int32) h_17 hyp)
def f_X8_measure (a2 : Int32) (a3 : Int32) (h : Mem) (Q : Mem → Prop) : Prop :=
  vp_in a3 13 ∧
  ∀ h_2 : Mem, h_2 = gm_st h 28 a3.toNatClampNeg (0 : Int32) →
  vp_in a3 13 ∧
  ∀ h_4 : Mem, h_4 = gm_st h_2 29 a3.toNatClampNeg (0 : Int32) →
  ∀ v_5 : Int32, v_5 = a3 - (1 : Int32) →
  gm_it1 (f_X8_measure_b19 a2 a3  Q ) gm_F v_5 h_4
set_option maxRecDepth 20000 in
theorem t_X8_measure (a2 : Int32) (a3 : Int32)  (h : Mem) (Q : Mem → Prop) (hyp : f_X8_measure a2 a3 h Q) : Cn m_X8_measure [.ref 26, .ref 1, .int a2, .int a3] h (GV Q) := by
  refine ge_entry (lv := [(0, .ref 26), (1, .ref 1), (2, .int a2), (3, .int a3)]) pn_X8 (Nat.le_of_ble_eq_true rfl) rfl ?_
  unfold f_X8_measure at hyp
  refine ge_aload_n a_X8_measure_0 rfl 0 rfl ?_
  refine ge_getR (q := 28) a_X8_measure_1 fd_X8_15 (rfl : gm_cls 26 = 7) rfl ?_
  refine ge_iload_n a_X8_measure_4 rfl 3 rfl ?_
  refine ge_iconst (v := 0) a_X8_measure_5 rfl ?_
  obtain ⟨b_1, hyp⟩ := hyp
  refine ge_iast (j := a3.toNatClampNeg) a_X8_measure_6 ga_28 b_1 rfl ?_
  refine ge_nm (fun h_2 eh_2 => ?_)
  have hyp := hyp h_2 eh_2
  refine ge_aload_n a_X8_measure_7 rfl 0 rfl ?_
  refine ge_getR (q := 29) a_X8_measure_8 fd_X8_18 (rfl : gm_cls 26 = 7) rfl ?_
  refine ge_iload_n a_X8_measure_11 rfl 3 rfl ?_
  refine ge_iconst (v := 0) a_X8_measure_12 rfl ?_
  obtain ⟨b_3, hyp⟩ := hyp
  refine ge_iast (j := a3.toNatClampNeg) a_X8_measure_13 ga_29 b_3 rfl ?_
  refine ge_nm (fun h_4 eh_4 => ?_)
  have hyp := hyp h_4 eh_4
  refine ge_iload_n a_X8_measure_14 rfl 3 rfl ?_
  refine ge_iconst (v := 1) a_X8_measure_15 rfl ?_
  refine ge_isub a_X8_measure_16 ?_
  refine ge_topi (fun v_5 ev_5 => ?_)
  have hyp := hyp v_5 ev_5
  refine ge_istore (lv' := [(4, .int v_5), (0, .ref 26), (1, .ref 1), (2, .int a2), (3, .int a3)]) a_X8_measure_17 (Nat.le_of_ble_eq_true rfl) rfl ?_
  exact ge_sub [1, 2, 3, 4, 0] rfl (t_X8_measure_b19 a2 a3    Q   gm_F v_5 h_4 hyp)

theorem a_X8_shortest_0 : At m_X8_shortest 0 (.aload_n 0) 1 1 := at_i (by decide +kernel) rfl
theorem a_X8_shortest_1 : At m_X8_shortest 1 (.getfield 15) 3 4 := at_i (by decide +kernel) rfl
theorem a_X8_shortest_4 : At m_X8_shortest 4 (.iload_n 1) 1 5 := at_i (by decide +kernel) rfl
theorem a_X8_shortest_5 : At m_X8_shortest 5 (.iaload) 1 6 := at_i (by decide +kernel) rfl
theorem a_X8_shortest_6 : At m_X8_shortest 6 (.ireturn) 1 7 := at_i (by decide +kernel) rfl
def f_X8_shortest (a1 : Int32) (h : Mem) (Q : Int32 → Mem → Prop) : Prop :=
  vp_in a1 13 ∧
  Q (h 28 a1.toNatClampNeg) h
set_option maxRecDepth 20000 in
theorem t_X8_shortest (a1 : Int32)  (h : Mem) (Q : Int32 → Mem → Prop) (hyp : f_X8_shortest a1 h Q) : Cn m_X8_shortest [.ref 26, .int a1] h (GI Q) := by
  refine ge_entry (lv := [(0, .ref 26), (1, .int a1)]) pn_X8 (Nat.le_of_ble_eq_true rfl) rfl ?_
  unfold f_X8_shortest at hyp
  refine ge_aload_n a_X8_shortest_0 rfl 0 rfl ?_
  refine ge_getR (q := 28) a_X8_shortest_1 fd_X8_15 (rfl : gm_cls 26 = 7) rfl ?_
  refine ge_iload_n a_X8_shortest_4 rfl 1 rfl ?_
  obtain ⟨b_1, hyp⟩ := hyp
  refine ge_iald (j := a1.toNatClampNeg) a_X8_shortest_5 ga_28 b_1 rfl ?_
  exact ge_iret rfl a_X8_shortest_6 hyp

theorem a_X8_shortestJump_0 : At m_X8_shortestJump 0 (.iconst 1) 1 1 := at_i (by decide +kernel) rfl
theorem a_X8_shortestJump_1 : At m_X8_shortestJump 1 (.istore_n 3) 1 2 := at_i (by decide +kernel) rfl
theorem a_X8_shortestJump_2 : At m_X8_shortestJump 2 (.iload_n 3) 1 3 := at_i (by decide +kernel) rfl
theorem a_X8_shortestJump_3 : At m_X8_shortestJump 3 (.iconst 3) 1 4 := at_i (by decide +kernel) rfl
theorem a_X8_shortestJump_4 : AtJ m_X8_shortestJump 4 (.if_icmp .gt 35) (35) 39 7 := at_j (by decide +kernel) (by decide) rfl
theorem a_X8_shortestJump_7 : At m_X8_shortestJump 7 (.iload_n 1) 1 8 := at_i (by decide +kernel) rfl
theorem a_X8_shortestJump_8 : At m_X8_shortestJump 8 (.iload_n 3) 1 9 := at_i (by decide +kernel) rfl
theorem a_X8_shortestJump_9 : At m_X8_shortestJump 9 (.iadd) 1 10 := at_i (by decide +kernel) rfl
theorem a_X8_shortestJump_10 : At m_X8_shortestJump 10 (.iconst 1) 1 11 := at_i (by decide +kernel) rfl
theorem a_X8_shortestJump_11 : At m_X8_shortestJump 11 (.iadd) 1 12 := at_i (by decide +kernel) rfl
theorem a_X8_shortestJump_12 : At m_X8_shortestJump 12 (.iload_n 2) 1 13 := at_i (by decide +kernel) rfl
theorem a_X8_shortestJump_13 : AtJ m_X8_shortestJump 13 (.if_icmp .gt 26) (26) 39 16 := at_j (by decide +kernel) (by decide) rfl
theorem a_X8_shortestJump_16 : At m_X8_shortestJump 16 (.aload_n 0) 1 17 := at_i (by decide +kernel) rfl
theorem a_X8_shortestJump_17 : At m_X8_shortestJump 17 (.iload_n 1) 1 18 := at_i (by decide +kernel) rfl
theorem a_X8_shortestJump_18 : At m_X8_shortestJump 18 (.iload_n 3) 1 19 := at_i (by decide +kernel) rfl
theorem a_X8_shortestJump_19 : At m_X8_shortestJump 19 (.invokevirtual 30) 3 22 := at_i (by decide +kernel) rfl
theorem a_X8_shortestJump_22 : At m_X8_shortestJump 22 (.aload_n 0) 1 23 := at_i (by decide +kernel) rfl
theorem a_X8_shortestJump_23 : At m_X8_shortestJump 23 (.getfield 15) 3 26 := at_i (by decide +kernel) rfl
theorem a_X8_shortestJump_26 : At m_X8_shortestJump 26 (.iload_n 1) 1 27 := at_i (by decide +kernel) rfl
theorem a_X8_shortestJump_27 : At m_X8_shortestJump 27 (.iaload) 1 28 := at_i (by decide +kernel) rfl
theorem a_X8_shortestJump_28 : AtJ m_X8_shortestJump 28 (.if_icmp .ne 5) (5) 33 31 := at_j (by decide +kernel) (by decide) rfl
theorem a_X8_shortestJump_31 : At m_X8_shortestJump 31 (.iload_n 3) 1 32 := at_i (by decide +kernel) rfl
theorem a_X8_shortestJump_32 : At m_X8_shortestJump 32 (.ireturn) 1 33 := at_i (by decide +kernel) rfl
theorem a_X8_shortestJump_33 : At m_X8_shortestJump 33 (.iinc 3 1) 3 36 := at_i (by decide +kernel) rfl
theorem a_X8_shortestJump_36 : AtJ m_X8_shortestJump 36 (.goto (-34)) (-34) 2 39 := at_j (by decide +kernel) (by decide) rfl
theorem a_X8_shortestJump_39 : At m_X8_shortestJump 39 (.iconst 0) 1 40 := at_i (by decide +kernel) rfl
theorem a_X8_shortestJump_40 : At m_X8_shortestJump 40 (.ireturn) 1 41 := at_i (by decide +kernel) rfl
def f_X8_shortestJump_b2 (a1 : Int32) (a2 : Int32)  (Q : Int32 → Mem → Prop)  (K2 : Int32 → Mem → Prop) (v3 : Int32) (h : Mem) : Prop :=
  if (3 : Int32) < v3 then (
    Q (0 : Int32) h)
  else (
    if a2 < (a1 + v3) + (1 : Int32) then (
      Q (0 : Int32) h)
    else (
      f_X8_byJump a1 v3 h fun r_4 h_3 =>
      vp_in a1 13 ∧
      if r_4 = h_3 28 a1.toNatClampNeg then (
        Q v3 h_3)
      else (
        ∀ v_7 : Int32, v_7 = v3 + (1 : Int32) →
        K2 v_7 h_3)))
set_option maxRecDepth 20000 in
theorem t_X8_shortestJump_b2 (a1 : Int32) (a2 : Int32)    (Q : Int32 → Mem → Prop)   : ∀ (n : Nat) (v3 : Int32) (h : Mem), gm_it1 (f_X8_shortestJump_b2 a1 a2  Q ) n v3 h → EV m_X8_shortestJump (GI Q) 2 [(0, .ref 26), (1, .int a1), (2, .int a2), (3, .int v3)] [] h := by
  refine ge_loop1 (P := fun v3 h => EV m_X8_shortestJump (GI Q) 2 [(0, .ref 26), (1, .int a1), (2, .int a2), (3, .int v3)] [] h) (fun K2 hK2 v3 h hyp => ?_)
  unfold f_X8_shortestJump_b2 at hyp
  refine ge_iload_n a_X8_shortestJump_2 rfl 3 rfl ?_
  refine ge_iconst (v := 3) a_X8_shortestJump_3 rfl ?_
  refine ge_icmp_gt a_X8_shortestJump_4 (fun c_1 => ?_) (fun c_1 => ?_)
  · have hyp := gm_ip hyp c_1
    refine ge_iconst (v := 0) a_X8_shortestJump_39 rfl ?_
    exact ge_iret rfl a_X8_shortestJump_40 hyp
  · have hyp := gm_in hyp c_1
    refine ge_iload_n a_X8_shortestJump_7 rfl 1 rfl ?_
    refine ge_iload_n a_X8_shortestJump_8 rfl 3 rfl ?_
    refine ge_iadd a_X8_shortestJump_9 ?_
    refine ge_iconst (v := 1) a_X8_shortestJump_10 rfl ?_
    refine ge_iadd a_X8_shortestJump_11 ?_
    refine ge_iload_n a_X8_shortestJump_12 rfl 2 rfl ?_
    refine ge_icmp_gt a_X8_shortestJump_13 (fun c_2 => ?_) (fun c_2 => ?_)
    · have hyp := gm_ip hyp c_2
      refine ge_iconst (v := 0) a_X8_shortestJump_39 rfl ?_
      exact ge_iret rfl a_X8_shortestJump_40 hyp
    · have hyp := gm_in hyp c_2
      refine ge_aload_n a_X8_shortestJump_16 rfl 0 rfl ?_
      refine ge_iload_n a_X8_shortestJump_17 rfl 1 rfl ?_
      refine ge_iload_n a_X8_shortestJump_18 rfl 3 rfl ?_
      refine ge_cVI [.int a1, .int v3] (rest := []) a_X8_shortestJump_19 ok_X8_byJump lk_X8_30 ⟨Nat.le_of_ble_eq_true rfl, Nat.le_of_ble_eq_true rfl⟩ (rfl : gm_cls 26 = 7) vc_7 (by decide) rfl rfl (Nat.le_of_ble_eq_true rfl) (t_X8_byJump a1 v3  h _ hyp) (fun r_4 h_3 hyp => ?_)
      refine ge_aload_n a_X8_shortestJump_22 rfl 0 rfl ?_
      refine ge_getR (q := 28) a_X8_shortestJump_23 fd_X8_15 (rfl : gm_cls 26 = 7) rfl ?_
      refine ge_iload_n a_X8_shortestJump_26 rfl 1 rfl ?_
      obtain ⟨b_5, hyp⟩ := hyp
      refine ge_iald (j := a1.toNatClampNeg) a_X8_shortestJump_27 ga_28 b_5 rfl ?_
      refine ge_icmp_ne a_X8_shortestJump_28 (fun c_6 => ?_) (fun c_6 => ?_)
      · have hyp := gm_in hyp c_6
        obtain ⟨v_7, ev_7⟩ : ∃ y : Int32, y = v3 + (1 : Int32) := ⟨_, rfl⟩
        have hyp := hyp v_7 ev_7
        refine ge_iinc (v := v_7) (lv' := [(3, .int v_7), (0, .ref 26), (1, .int a1), (2, .int a2)]) a_X8_shortestJump_33 3 rfl ev_7.symm (Nat.le_of_ble_eq_true rfl) rfl ?_
        refine ge_goto a_X8_shortestJump_36 ?_
        exact ge_sub [1, 2, 3, 0] rfl (hK2 v_7 h_3 hyp)
      · have hyp := gm_ip hyp c_6
        refine ge_iload_n a_X8_shortestJump_31 rfl 3 rfl ?_
        exact ge_iret rfl a_X8_shortestJump_32 hyp
def f_X8_shortestJump (a1 : Int32) (a2 : Int32) (h : Mem) (Q : Int32 → Mem → Prop) : Prop :=
  gm_it1 (f_X8_shortestJump_b2 a1 a2  Q ) gm_F (1 : Int32) h
set_option maxRecDepth 20000 in
theorem t_X8_shortestJump (a1 : Int32) (a2 : Int32)  (h : Mem) (Q : Int32 → Mem → Prop) (hyp : f_X8_shortestJump a1 a2 h Q) : Cn m_X8_shortestJump [.ref 26, .int a1, .int a2] h (GI Q) := by
  refine ge_entry (lv := [(0, .ref 26), (1, .int a1), (2, .int a2)]) pn_X8 (Nat.le_of_ble_eq_true rfl) rfl ?_
  unfold f_X8_shortestJump at hyp
  refine ge_iconst (v := 1) a_X8_shortestJump_0 rfl ?_
  refine ge_istore_n (lv' := [(3, .int (1 : Int32)), (0, .ref 26), (1, .int a1), (2, .int a2)]) a_X8_shortestJump_1 rfl (Nat.le_of_ble_eq_true rfl) rfl ?_
  exact ge_sub [1, 2, 3, 0] rfl (t_X8_shortestJump_b2 a1 a2    Q   gm_F (1 : Int32) h hyp)

theorem a_X8_linesRead_0 : At m_X8_linesRead 0 (.iconst 0) 1 1 := at_i (by decide +kernel) rfl
theorem a_X8_linesRead_1 : At m_X8_linesRead 1 (.istore_n 3) 1 2 := at_i (by decide +kernel) rfl
theorem a_X8_linesRead_2 : At m_X8_linesRead 2 (.iload_n 1) 1 3 := at_i (by decide +kernel) rfl
theorem a_X8_linesRead_3 : At m_X8_linesRead 3 (.istore 4) 2 5 := at_i (by decide +kernel) rfl
theorem a_X8_linesRead_5 : At m_X8_linesRead 5 (.iload 4) 2 7 := at_i (by decide +kernel) rfl
theorem a_X8_linesRead_7 : At m_X8_linesRead 7 (.iload_n 2) 1 8 := at_i (by decide +kernel) rfl
theorem a_X8_linesRead_8 : AtJ m_X8_linesRead 8 (.if_icmp .ge 66) (66) 74 11 := at_j (by decide +kernel) (by decide) rfl
theorem a_X8_linesRead_11 : At m_X8_linesRead 11 (.aload_n 0) 1 12 := at_i (by decide +kernel) rfl
theorem a_X8_linesRead_12 : At m_X8_linesRead 12 (.getfield 15) 3 15 := at_i (by decide +kernel) rfl
theorem a_X8_linesRead_15 : At m_X8_linesRead 15 (.iload 4) 2 17 := at_i (by decide +kernel) rfl
theorem a_X8_linesRead_17 : At m_X8_linesRead 17 (.iaload) 1 18 := at_i (by decide +kernel) rfl
theorem a_X8_linesRead_18 : At m_X8_linesRead 18 (.aload_n 0) 1 19 := at_i (by decide +kernel) rfl
theorem a_X8_linesRead_19 : At m_X8_linesRead 19 (.getfield 18) 3 22 := at_i (by decide +kernel) rfl
theorem a_X8_linesRead_22 : At m_X8_linesRead 22 (.iload 4) 2 24 := at_i (by decide +kernel) rfl
theorem a_X8_linesRead_24 : At m_X8_linesRead 24 (.iaload) 1 25 := at_i (by decide +kernel) rfl
theorem a_X8_linesRead_25 : AtJ m_X8_linesRead 25 (.if_icmp .ne 7) (7) 32 28 := at_j (by decide +kernel) (by decide) rfl
theorem a_X8_linesRead_28 : At m_X8_linesRead 28 (.iconst 0) 1 29 := at_i (by decide +kernel) rfl
theorem a_X8_linesRead_29 : AtJ m_X8_linesRead 29 (.goto 10) (10) 39 32 := at_j (by decide +kernel) (by decide) rfl
theorem a_X8_linesRead_32 : At m_X8_linesRead 32 (.aload_n 0) 1 33 := at_i (by decide +kernel) rfl
theorem a_X8_linesRead_33 : At m_X8_linesRead 33 (.iload 4) 2 35 := at_i (by decide +kernel) rfl
theorem a_X8_linesRead_35 : At m_X8_linesRead 35 (.iload_n 2) 1 36 := at_i (by decide +kernel) rfl
theorem a_X8_linesRead_36 : At m_X8_linesRead 36 (.invokevirtual 38) 3 39 := at_i (by decide +kernel) rfl
theorem a_X8_linesRead_39 : At m_X8_linesRead 39 (.istore 5) 2 41 := at_i (by decide +kernel) rfl
theorem a_X8_linesRead_41 : At m_X8_linesRead 41 (.iload 5) 2 43 := at_i (by decide +kernel) rfl
theorem a_X8_linesRead_43 : AtJ m_X8_linesRead 43 (.ifCond .le 12) (12) 55 46 := at_j (by decide +kernel) (by decide) rfl
theorem a_X8_linesRead_46 : At m_X8_linesRead 46 (.iload 4) 2 48 := at_i (by decide +kernel) rfl
theorem a_X8_linesRead_48 : At m_X8_linesRead 48 (.iload 5) 2 50 := at_i (by decide +kernel) rfl
theorem a_X8_linesRead_50 : At m_X8_linesRead 50 (.iconst 1) 1 51 := at_i (by decide +kernel) rfl
theorem a_X8_linesRead_51 : At m_X8_linesRead 51 (.iadd) 1 52 := at_i (by decide +kernel) rfl
theorem a_X8_linesRead_52 : At m_X8_linesRead 52 (.iadd) 1 53 := at_i (by decide +kernel) rfl
theorem a_X8_linesRead_53 : At m_X8_linesRead 53 (.istore 4) 2 55 := at_i (by decide +kernel) rfl
theorem a_X8_linesRead_55 : At m_X8_linesRead 55 (.iload 4) 2 57 := at_i (by decide +kernel) rfl
theorem a_X8_linesRead_57 : At m_X8_linesRead 57 (.iload_n 2) 1 58 := at_i (by decide +kernel) rfl
theorem a_X8_linesRead_58 : AtJ m_X8_linesRead 58 (.if_icmp .ge 13) (13) 71 61 := at_j (by decide +kernel) (by decide) rfl
theorem a_X8_linesRead_61 : At m_X8_linesRead 61 (.iload_n 3) 1 62 := at_i (by decide +kernel) rfl
theorem a_X8_linesRead_62 : At m_X8_linesRead 62 (.iconst 1) 1 63 := at_i (by decide +kernel) rfl
theorem a_X8_linesRead_63 : At m_X8_linesRead 63 (.iload 4) 2 65 := at_i (by decide +kernel) rfl
theorem a_X8_linesRead_65 : At m_X8_linesRead 65 (.ishl) 1 66 := at_i (by decide +kernel) rfl
theorem a_X8_linesRead_66 : At m_X8_linesRead 66 (.ior) 1 67 := at_i (by decide +kernel) rfl
theorem a_X8_linesRead_67 : At m_X8_linesRead 67 (.istore_n 3) 1 68 := at_i (by decide +kernel) rfl
theorem a_X8_linesRead_68 : At m_X8_linesRead 68 (.iinc 4 1) 3 71 := at_i (by decide +kernel) rfl
theorem a_X8_linesRead_71 : AtJ m_X8_linesRead 71 (.goto (-66)) (-66) 5 74 := at_j (by decide +kernel) (by decide) rfl
theorem a_X8_linesRead_74 : At m_X8_linesRead 74 (.iload_n 3) 1 75 := at_i (by decide +kernel) rfl
theorem a_X8_linesRead_75 : At m_X8_linesRead 75 (.ireturn) 1 76 := at_i (by decide +kernel) rfl
def f_X8_linesRead_b55 (a1 : Int32) (a2 : Int32)  (Q : Int32 → Mem → Prop) (K5 : Int32 → Int32 → Mem → Prop) (v3 : Int32) (v4 : Int32) (h : Mem) : Prop :=
  if a2 ≤ v4 then (
    K5 v3 v4 h)
  else (
    ∀ v_9 : Int32, v_9 = v3 ||| ((1 : Int32) <<< (v4 &&& 31)) →
    ∀ v_10 : Int32, v_10 = v4 + (1 : Int32) →
    K5 v_9 v_10 h)
set_option maxRecDepth 20000 in
theorem t_X8_linesRead_b55 (a1 : Int32) (a2 : Int32)    (Q : Int32 → Mem → Prop) (K5 : Int32 → Int32 → Mem → Prop) (hK5 : ∀ (v3 : Int32) (v4 : Int32) h, K5 v3 v4 h → EV m_X8_linesRead (GI Q) 5 [(0, .ref 26), (2, .int a2), (3, .int v3), (4, .int v4)] [] h) (v3 : Int32) (v4 : Int32) (h : Mem) (hyp : f_X8_linesRead_b55 a1 a2  Q K5 v3 v4 h) : EV m_X8_linesRead (GI Q) 55 [(0, .ref 26), (2, .int a2), (3, .int v3), (4, .int v4)] [] h := by
  unfold f_X8_linesRead_b55 at hyp
  refine ge_iload a_X8_linesRead_55 3 rfl ?_
  refine ge_iload_n a_X8_linesRead_57 rfl 1 rfl ?_
  refine ge_icmp_ge a_X8_linesRead_58 (fun c_8 => ?_) (fun c_8 => ?_)
  · have hyp := gm_ip hyp c_8
    refine ge_goto a_X8_linesRead_71 ?_
    exact ge_sub [0, 1, 2, 3] rfl (hK5 v3 v4 h hyp)
  · have hyp := gm_in hyp c_8
    refine ge_iload_n a_X8_linesRead_61 rfl 2 rfl ?_
    refine ge_iconst (v := 1) a_X8_linesRead_62 rfl ?_
    refine ge_iload a_X8_linesRead_63 3 rfl ?_
    refine ge_ishl a_X8_linesRead_65 ?_
    refine ge_ior a_X8_linesRead_66 ?_
    refine ge_topi (fun v_9 ev_9 => ?_)
    have hyp := hyp v_9 ev_9
    refine ge_istore_n (lv' := [(3, .int v_9), (0, .ref 26), (2, .int a2), (4, .int v4)]) a_X8_linesRead_67 rfl (Nat.le_of_ble_eq_true rfl) rfl ?_
    obtain ⟨v_10, ev_10⟩ : ∃ y : Int32, y = v4 + (1 : Int32) := ⟨_, rfl⟩
    have hyp := hyp v_10 ev_10
    refine ge_iinc (v := v_10) (lv' := [(4, .int v_10), (3, .int v_9), (0, .ref 26), (2, .int a2)]) a_X8_linesRead_68 3 rfl ev_10.symm (Nat.le_of_ble_eq_true rfl) rfl ?_
    refine ge_goto a_X8_linesRead_71 ?_
    exact ge_sub [2, 3, 1, 0] rfl (hK5 v_9 v_10 h hyp)
def f_X8_linesRead_b39 (a1 : Int32) (a2 : Int32)  (Q : Int32 → Mem → Prop) (K5 : Int32 → Int32 → Mem → Prop) (v3 : Int32) (v4 : Int32) (s0 : Int32) (h : Mem) : Prop :=
  if s0 ≤ 0 then (
    f_X8_linesRead_b55 a1 a2  Q K5 v3 v4 h)
  else (
    ∀ v_11 : Int32, v_11 = v4 + (s0 + (1 : Int32)) →
    f_X8_linesRead_b55 a1 a2  Q K5 v3 v_11 h)
set_option maxRecDepth 20000 in
theorem t_X8_linesRead_b39 (a1 : Int32) (a2 : Int32)    (Q : Int32 → Mem → Prop) (K5 : Int32 → Int32 → Mem → Prop) (hK5 : ∀ (v3 : Int32) (v4 : Int32) h, K5 v3 v4 h → EV m_X8_linesRead (GI Q) 5 [(0, .ref 26), (2, .int a2), (3, .int v3), (4, .int v4)] [] h) (v3 : Int32) (v4 : Int32) (s0 : Int32) (h : Mem) (hyp : f_X8_linesRead_b39 a1 a2  Q K5 v3 v4 s0 h) : EV m_X8_linesRead (GI Q) 39 [(0, .ref 26), (2, .int a2), (3, .int v3), (4, .int v4)] [.int s0] h := by
  unfold f_X8_linesRead_b39 at hyp
  refine ge_istore (lv' := [(5, .int s0), (0, .ref 26), (2, .int a2), (3, .int v3), (4, .int v4)]) a_X8_linesRead_39 (Nat.le_of_ble_eq_true rfl) rfl ?_
  refine ge_iload a_X8_linesRead_41 0 rfl ?_
  refine ge_if_le a_X8_linesRead_43 (fun c_7 => ?_) (fun c_7 => ?_)
  · have hyp := gm_ip hyp c_7
    exact ge_sub [1, 2, 3, 4] rfl (t_X8_linesRead_b55 a1 a2    Q K5 hK5 v3 v4 h hyp)
  · have hyp := gm_in hyp c_7
    refine ge_iload a_X8_linesRead_46 4 rfl ?_
    refine ge_iload a_X8_linesRead_48 0 rfl ?_
    refine ge_iconst (v := 1) a_X8_linesRead_50 rfl ?_
    refine ge_iadd a_X8_linesRead_51 ?_
    refine ge_iadd a_X8_linesRead_52 ?_
    refine ge_topi (fun v_11 ev_11 => ?_)
    have hyp := hyp v_11 ev_11
    refine ge_istore (lv' := [(4, .int v_11), (5, .int s0), (0, .ref 26), (2, .int a2), (3, .int v3)]) a_X8_linesRead_53 (Nat.le_of_ble_eq_true rfl) rfl ?_
    exact ge_sub [2, 3, 4, 0] rfl (t_X8_linesRead_b55 a1 a2    Q K5 hK5 v3 v_11 h hyp)
def f_X8_linesRead_b5 (a1 : Int32) (a2 : Int32)  (Q : Int32 → Mem → Prop)  (K5 : Int32 → Int32 → Mem → Prop) (v3 : Int32) (v4 : Int32) (h : Mem) : Prop :=
  if a2 ≤ v4 then (
    Q v3 h)
  else (
    vp_in v4 13 ∧
    vp_in v4 13 ∧
    if h 28 v4.toNatClampNeg = h 29 v4.toNatClampNeg then (
      f_X8_linesRead_b39 a1 a2  Q K5 v3 v4 (0 : Int32) h)
    else (
      f_X8_shortestJump v4 a2 h fun r_6 h_5 =>
      f_X8_linesRead_b39 a1 a2  Q K5 v3 v4 r_6 h_5))
set_option maxRecDepth 20000 in
theorem t_X8_linesRead_b5 (a1 : Int32) (a2 : Int32)    (Q : Int32 → Mem → Prop)   : ∀ (n : Nat) (v3 : Int32) (v4 : Int32) (h : Mem), gm_it2 (f_X8_linesRead_b5 a1 a2  Q ) n v3 v4 h → EV m_X8_linesRead (GI Q) 5 [(0, .ref 26), (2, .int a2), (3, .int v3), (4, .int v4)] [] h := by
  refine ge_loop2 (P := fun v3 v4 h => EV m_X8_linesRead (GI Q) 5 [(0, .ref 26), (2, .int a2), (3, .int v3), (4, .int v4)] [] h) (fun K5 hK5 v3 v4 h hyp => ?_)
  unfold f_X8_linesRead_b5 at hyp
  refine ge_iload a_X8_linesRead_5 3 rfl ?_
  refine ge_iload_n a_X8_linesRead_7 rfl 1 rfl ?_
  refine ge_icmp_ge a_X8_linesRead_8 (fun c_1 => ?_) (fun c_1 => ?_)
  · have hyp := gm_ip hyp c_1
    refine ge_iload_n a_X8_linesRead_74 rfl 2 rfl ?_
    exact ge_iret rfl a_X8_linesRead_75 hyp
  · have hyp := gm_in hyp c_1
    refine ge_aload_n a_X8_linesRead_11 rfl 0 rfl ?_
    refine ge_getR (q := 28) a_X8_linesRead_12 fd_X8_15 (rfl : gm_cls 26 = 7) rfl ?_
    refine ge_iload a_X8_linesRead_15 3 rfl ?_
    obtain ⟨b_2, hyp⟩ := hyp
    refine ge_iald (j := v4.toNatClampNeg) a_X8_linesRead_17 ga_28 b_2 rfl ?_
    refine ge_aload_n a_X8_linesRead_18 rfl 0 rfl ?_
    refine ge_getR (q := 29) a_X8_linesRead_19 fd_X8_18 (rfl : gm_cls 26 = 7) rfl ?_
    refine ge_iload a_X8_linesRead_22 3 rfl ?_
    obtain ⟨b_3, hyp⟩ := hyp
    refine ge_iald (j := v4.toNatClampNeg) a_X8_linesRead_24 ga_29 b_3 rfl ?_
    refine ge_icmp_ne a_X8_linesRead_25 (fun c_4 => ?_) (fun c_4 => ?_)
    · have hyp := gm_in hyp c_4
      refine ge_aload_n a_X8_linesRead_32 rfl 0 rfl ?_
      refine ge_iload a_X8_linesRead_33 3 rfl ?_
      refine ge_iload_n a_X8_linesRead_35 rfl 1 rfl ?_
      refine ge_cVI [.int v4, .int a2] (rest := []) a_X8_linesRead_36 ok_X8_shortestJump lk_X8_38 ⟨Nat.le_of_ble_eq_true rfl, Nat.le_of_ble_eq_true rfl⟩ (rfl : gm_cls 26 = 7) vc_7 (by decide) rfl rfl (Nat.le_of_ble_eq_true rfl) (t_X8_shortestJump v4 a2  h _ hyp) (fun r_6 h_5 hyp => ?_)
      exact ge_sub [0, 1, 2, 3] rfl (t_X8_linesRead_b39 a1 a2    Q K5 hK5 v3 v4 r_6 h_5 hyp)
    · have hyp := gm_ip hyp c_4
      refine ge_iconst (v := 0) a_X8_linesRead_28 rfl ?_
      refine ge_goto a_X8_linesRead_29 ?_
      exact ge_sub [0, 1, 2, 3] rfl (t_X8_linesRead_b39 a1 a2    Q K5 hK5 v3 v4 (0 : Int32) h hyp)
def f_X8_linesRead (a1 : Int32) (a2 : Int32) (h : Mem) (Q : Int32 → Mem → Prop) : Prop :=
  gm_it2 (f_X8_linesRead_b5 a1 a2  Q ) gm_F (0 : Int32) a1 h
set_option maxRecDepth 20000 in
theorem t_X8_linesRead (a1 : Int32) (a2 : Int32)  (h : Mem) (Q : Int32 → Mem → Prop) (hyp : f_X8_linesRead a1 a2 h Q) : Cn m_X8_linesRead [.ref 26, .int a1, .int a2] h (GI Q) := by
  refine ge_entry (lv := [(0, .ref 26), (1, .int a1), (2, .int a2)]) pn_X8 (Nat.le_of_ble_eq_true rfl) rfl ?_
  unfold f_X8_linesRead at hyp
  refine ge_iconst (v := 0) a_X8_linesRead_0 rfl ?_
  refine ge_istore_n (lv' := [(3, .int (0 : Int32)), (0, .ref 26), (1, .int a1), (2, .int a2)]) a_X8_linesRead_1 rfl (Nat.le_of_ble_eq_true rfl) rfl ?_
  refine ge_iload_n a_X8_linesRead_2 rfl 2 rfl ?_
  refine ge_istore (lv' := [(4, .int a1), (3, .int (0 : Int32)), (0, .ref 26), (1, .int a1), (2, .int a2)]) a_X8_linesRead_3 (Nat.le_of_ble_eq_true rfl) rfl ?_
  exact ge_sub [2, 4, 1, 0] rfl (t_X8_linesRead_b5 a1 a2    Q   gm_F (0 : Int32) a1 h hyp)

theorem a_X9_finding_0 : At m_X9_finding 0 (.aload_n 0) 1 1 := at_i (by decide +kernel) rfl
theorem a_X9_finding_1 : At m_X9_finding 1 (.getfield 70) 3 4 := at_i (by decide +kernel) rfl
theorem a_X9_finding_4 : At m_X9_finding 4 (.iload_n 1) 1 5 := at_i (by decide +kernel) rfl
theorem a_X9_finding_5 : At m_X9_finding 5 (.dup2) 1 6 := at_i (by decide +kernel) rfl
theorem a_X9_finding_6 : At m_X9_finding 6 (.iaload) 1 7 := at_i (by decide +kernel) rfl
theorem a_X9_finding_7 : At m_X9_finding 7 (.iconst 1) 1 8 := at_i (by decide +kernel) rfl
theorem a_X9_finding_8 : At m_X9_finding 8 (.iadd) 1 9 := at_i (by decide +kernel) rfl
theorem a_X9_finding_9 : At m_X9_finding 9 (.iastore) 1 10 := at_i (by decide +kernel) rfl
theorem a_X9_finding_10 : At m_X9_finding 10 (.ldc_w 337) 3 13 := at_i (by decide +kernel) rfl
theorem a_X9_finding_13 : At m_X9_finding 13 (.iload_n 1) 1 14 := at_i (by decide +kernel) rfl
theorem a_X9_finding_14 : At m_X9_finding 14 (.isub) 1 15 := at_i (by decide +kernel) rfl
theorem a_X9_finding_15 : At m_X9_finding 15 (.ireturn) 1 16 := at_i (by decide +kernel) rfl
def f_X9_finding (a1 : Int32) (h : Mem) (Q : Int32 → Mem → Prop) : Prop :=
  vp_in a1 7 ∧
  vp_in a1 7 ∧
  ∀ h_3 : Mem, h_3 = gm_st h 34 a1.toNatClampNeg ((h 34 a1.toNatClampNeg) + (1 : Int32)) →
  Q ((-1000001 : Int32) - a1) h_3
set_option maxRecDepth 20000 in
theorem t_X9_finding (a1 : Int32)  (h : Mem) (Q : Int32 → Mem → Prop) (hyp : f_X9_finding a1 h Q) : Cn m_X9_finding [.ref 0, .int a1] h (GI Q) := by
  refine ge_entry (lv := [(0, .ref 0), (1, .int a1)]) pn_X9 (Nat.le_of_ble_eq_true rfl) rfl ?_
  unfold f_X9_finding at hyp
  refine ge_aload_n a_X9_finding_0 rfl 0 rfl ?_
  refine ge_getR (q := 34) a_X9_finding_1 fd_X9_70 (rfl : gm_cls 0 = 8) rfl ?_
  refine ge_iload_n a_X9_finding_4 rfl 1 rfl ?_
  refine ge_dup2 a_X9_finding_5 rfl rfl ?_
  obtain ⟨b_1, hyp⟩ := hyp
  refine ge_iald (j := a1.toNatClampNeg) a_X9_finding_6 ga_34 b_1 rfl ?_
  refine ge_iconst (v := 1) a_X9_finding_7 rfl ?_
  refine ge_iadd a_X9_finding_8 ?_
  obtain ⟨b_2, hyp⟩ := hyp
  refine ge_iast (j := a1.toNatClampNeg) a_X9_finding_9 ga_34 b_2 rfl ?_
  refine ge_nm (fun h_3 eh_3 => ?_)
  have hyp := hyp h_3 eh_3
  refine ge_ldcw (v := -1000001) a_X9_finding_10 ct_X9_337 ?_
  refine ge_iload_n a_X9_finding_13 rfl 1 rfl ?_
  refine ge_isub a_X9_finding_14 ?_
  exact ge_iret rfl a_X9_finding_15 hyp

theorem a_X9_line_0 : At m_X9_line 0 (.iload_n 1) 1 1 := at_i (by decide +kernel) rfl
theorem a_X9_line_1 : At m_X9_line 1 (.iconst 0) 1 2 := at_i (by decide +kernel) rfl
theorem a_X9_line_2 : At m_X9_line 2 (.bipush 6) 2 4 := at_i (by decide +kernel) rfl
theorem a_X9_line_4 : At m_X9_line 4 (.invokestatic 75) 3 7 := at_i (by decide +kernel) rfl
theorem a_X9_line_7 : AtJ m_X9_line 7 (.ifCond .ne 9) (9) 16 10 := at_j (by decide +kernel) (by decide) rfl
theorem a_X9_line_10 : At m_X9_line 10 (.aload_n 0) 1 11 := at_i (by decide +kernel) rfl
theorem a_X9_line_11 : At m_X9_line 11 (.iconst 0) 1 12 := at_i (by decide +kernel) rfl
theorem a_X9_line_12 : At m_X9_line 12 (.invokevirtual 79) 3 15 := at_i (by decide +kernel) rfl
theorem a_X9_line_15 : At m_X9_line 15 (.ireturn) 1 16 := at_i (by decide +kernel) rfl
theorem a_X9_line_16 : At m_X9_line 16 (.aload_n 0) 1 17 := at_i (by decide +kernel) rfl
theorem a_X9_line_17 : At m_X9_line 17 (.getfield 10) 3 20 := at_i (by decide +kernel) rfl
theorem a_X9_line_20 : At m_X9_line 20 (.invokevirtual 83) 3 23 := at_i (by decide +kernel) rfl
theorem a_X9_line_23 : AtJ m_X9_line 23 (.ifCond .ne 9) (9) 32 26 := at_j (by decide +kernel) (by decide) rfl
theorem a_X9_line_26 : At m_X9_line 26 (.aload_n 0) 1 27 := at_i (by decide +kernel) rfl
theorem a_X9_line_27 : At m_X9_line 27 (.iconst 1) 1 28 := at_i (by decide +kernel) rfl
theorem a_X9_line_28 : At m_X9_line 28 (.invokevirtual 79) 3 31 := at_i (by decide +kernel) rfl
theorem a_X9_line_31 : At m_X9_line 31 (.ireturn) 1 32 := at_i (by decide +kernel) rfl
theorem a_X9_line_32 : At m_X9_line 32 (.aload_n 0) 1 33 := at_i (by decide +kernel) rfl
theorem a_X9_line_33 : At m_X9_line 33 (.getfield 10) 3 36 := at_i (by decide +kernel) rfl
theorem a_X9_line_36 : At m_X9_line 36 (.iload_n 1) 1 37 := at_i (by decide +kernel) rfl
theorem a_X9_line_37 : At m_X9_line 37 (.invokevirtual 87) 3 40 := at_i (by decide +kernel) rfl
theorem a_X9_line_40 : At m_X9_line 40 (.ireturn) 1 41 := at_i (by decide +kernel) rfl
def f_X9_line (a1 : Int32) (h : Mem) (Q : Int32 → Mem → Prop) : Prop :=
  f_X9_isWithin a1 (0 : Int32) (6 : Int32) h fun r_2 h_1 =>
  if r_2 = 0 then (
    f_X9_finding (0 : Int32) h_1 fun r_12 h_11 =>
    Q r_12 h_11)
  else (
    f_X6_hasRoom 1 h_1 fun r_5 h_4 =>
    if r_5 = 0 then (
      f_X9_finding (1 : Int32) h_4 fun r_10 h_9 =>
      Q r_10 h_9)
    else (
      f_X6_addLine 1 a1 h_4 fun r_8 h_7 =>
      Q r_8 h_7))
set_option maxRecDepth 20000 in
theorem t_X9_line (a1 : Int32)  (h : Mem) (Q : Int32 → Mem → Prop) (hyp : f_X9_line a1 h Q) : Cn m_X9_line [.ref 0, .int a1] h (GI Q) := by
  refine ge_entry (lv := [(0, .ref 0), (1, .int a1)]) pn_X9 (Nat.le_of_ble_eq_true rfl) rfl ?_
  unfold f_X9_line at hyp
  refine ge_iload_n a_X9_line_0 rfl 1 rfl ?_
  refine ge_iconst (v := 0) a_X9_line_1 rfl ?_
  refine ge_bipush (v := 6) a_X9_line_2 rfl ?_
  refine ge_cSI [.int a1, .int (0 : Int32), .int (6 : Int32)] (rest := []) a_X9_line_4 ok_X9_isWithin lk_X9_75 ⟨Nat.le_of_ble_eq_true rfl, Nat.le_of_ble_eq_true rfl⟩ rfl rfl (Nat.le_of_ble_eq_true rfl) (t_X9_isWithin a1 (0 : Int32) (6 : Int32)  h _ hyp) (fun r_2 h_1 hyp => ?_)
  refine ge_if_ne a_X9_line_7 (fun c_3 => ?_) (fun c_3 => ?_)
  · have hyp := gm_in hyp c_3
    refine ge_aload_n a_X9_line_16 rfl 0 rfl ?_
    refine ge_getR (q := 1) a_X9_line_17 fd_X9_10 (rfl : gm_cls 0 = 8) rfl ?_
    refine ge_cVI [] (rest := []) a_X9_line_20 ok_X6_hasRoom lk_X9_83 ⟨Nat.le_of_ble_eq_true rfl, Nat.le_of_ble_eq_true rfl⟩ (rfl : gm_cls 1 = 5) vc_5 (by decide) rfl rfl (Nat.le_of_ble_eq_true rfl) (t_X6_hasRoom 1 (rfl : gm_cls 1 = 5) h_1 _ hyp) (fun r_5 h_4 hyp => ?_)
    refine ge_if_ne a_X9_line_23 (fun c_6 => ?_) (fun c_6 => ?_)
    · have hyp := gm_in hyp c_6
      refine ge_aload_n a_X9_line_32 rfl 0 rfl ?_
      refine ge_getR (q := 1) a_X9_line_33 fd_X9_10 (rfl : gm_cls 0 = 8) rfl ?_
      refine ge_iload_n a_X9_line_36 rfl 1 rfl ?_
      refine ge_cVI [.int a1] (rest := []) a_X9_line_37 ok_X6_addLine lk_X9_87 ⟨Nat.le_of_ble_eq_true rfl, Nat.le_of_ble_eq_true rfl⟩ (rfl : gm_cls 1 = 5) vc_5 (by decide) rfl rfl (Nat.le_of_ble_eq_true rfl) (t_X6_addLine 1 a1 (rfl : gm_cls 1 = 5) h_4 _ hyp) (fun r_8 h_7 hyp => ?_)
      exact ge_iret rfl a_X9_line_40 hyp
    · have hyp := gm_ip hyp c_6
      refine ge_aload_n a_X9_line_26 rfl 0 rfl ?_
      refine ge_iconst (v := 1) a_X9_line_27 rfl ?_
      refine ge_cVI [.int (1 : Int32)] (rest := []) a_X9_line_28 ok_X9_finding lk_X9_79 ⟨Nat.le_of_ble_eq_true rfl, Nat.le_of_ble_eq_true rfl⟩ (rfl : gm_cls 0 = 8) vc_8 (by decide) rfl rfl (Nat.le_of_ble_eq_true rfl) (t_X9_finding (1 : Int32)  h_4 _ hyp) (fun r_10 h_9 hyp => ?_)
      exact ge_iret rfl a_X9_line_31 hyp
  · have hyp := gm_ip hyp c_3
    refine ge_aload_n a_X9_line_10 rfl 0 rfl ?_
    refine ge_iconst (v := 0) a_X9_line_11 rfl ?_
    refine ge_cVI [.int (0 : Int32)] (rest := []) a_X9_line_12 ok_X9_finding lk_X9_79 ⟨Nat.le_of_ble_eq_true rfl, Nat.le_of_ble_eq_true rfl⟩ (rfl : gm_cls 0 = 8) vc_8 (by decide) rfl rfl (Nat.le_of_ble_eq_true rfl) (t_X9_finding (0 : Int32)  h_1 _ hyp) (fun r_12 h_11 hyp => ?_)
    exact ge_iret rfl a_X9_line_15 hyp

theorem a_X9_of_0 : At m_X9_of 0 (.aload_n 0) 1 1 := at_i (by decide +kernel) rfl
theorem a_X9_of_1 : At m_X9_of 1 (.getfield 10) 3 4 := at_i (by decide +kernel) rfl
theorem a_X9_of_4 : At m_X9_of 4 (.iload_n 1) 1 5 := at_i (by decide +kernel) rfl
theorem a_X9_of_5 : At m_X9_of 5 (.invokevirtual 90) 3 8 := at_i (by decide +kernel) rfl
theorem a_X9_of_8 : AtJ m_X9_of 8 (.ifCond .eq 12) (12) 20 11 := at_j (by decide +kernel) (by decide) rfl
theorem a_X9_of_11 : At m_X9_of 11 (.iload_n 2) 1 12 := at_i (by decide +kernel) rfl
theorem a_X9_of_12 : At m_X9_of 12 (.iconst 0) 1 13 := at_i (by decide +kernel) rfl
theorem a_X9_of_13 : At m_X9_of 13 (.iconst 5) 1 14 := at_i (by decide +kernel) rfl
theorem a_X9_of_14 : At m_X9_of 14 (.invokestatic 75) 3 17 := at_i (by decide +kernel) rfl
theorem a_X9_of_17 : AtJ m_X9_of 17 (.ifCond .ne 9) (9) 26 20 := at_j (by decide +kernel) (by decide) rfl
theorem a_X9_of_20 : At m_X9_of 20 (.aload_n 0) 1 21 := at_i (by decide +kernel) rfl
theorem a_X9_of_21 : At m_X9_of 21 (.iconst 0) 1 22 := at_i (by decide +kernel) rfl
theorem a_X9_of_22 : At m_X9_of 22 (.invokevirtual 79) 3 25 := at_i (by decide +kernel) rfl
theorem a_X9_of_25 : At m_X9_of 25 (.ireturn) 1 26 := at_i (by decide +kernel) rfl
theorem a_X9_of_26 : At m_X9_of 26 (.iload_n 2) 1 27 := at_i (by decide +kernel) rfl
theorem a_X9_of_27 : decode cX9_of 27 = .ok (.tableswitch 61 3 5 #[25, 43, 52], 25) := by decide +kernel
theorem a_X9_of_52 : At m_X9_of 52 (.aload_n 0) 1 53 := at_i (by decide +kernel) rfl
theorem a_X9_of_53 : At m_X9_of 53 (.getfield 10) 3 56 := at_i (by decide +kernel) rfl
theorem a_X9_of_56 : At m_X9_of 56 (.iload_n 1) 1 57 := at_i (by decide +kernel) rfl
theorem a_X9_of_57 : At m_X9_of 57 (.aload_n 0) 1 58 := at_i (by decide +kernel) rfl
theorem a_X9_of_58 : At m_X9_of 58 (.getfield 10) 3 61 := at_i (by decide +kernel) rfl
theorem a_X9_of_61 : At m_X9_of 61 (.getfield 94) 3 64 := at_i (by decide +kernel) rfl
theorem a_X9_of_64 : At m_X9_of 64 (.iconst 0) 1 65 := at_i (by decide +kernel) rfl
theorem a_X9_of_65 : At m_X9_of 65 (.iaload) 1 66 := at_i (by decide +kernel) rfl
theorem a_X9_of_66 : At m_X9_of 66 (.invokevirtual 97) 3 69 := at_i (by decide +kernel) rfl
theorem a_X9_of_69 : At m_X9_of 69 (.ireturn) 1 70 := at_i (by decide +kernel) rfl
theorem a_X9_of_70 : At m_X9_of 70 (.aload_n 0) 1 71 := at_i (by decide +kernel) rfl
theorem a_X9_of_71 : At m_X9_of 71 (.getfield 10) 3 74 := at_i (by decide +kernel) rfl
theorem a_X9_of_74 : At m_X9_of 74 (.iload_n 1) 1 75 := at_i (by decide +kernel) rfl
theorem a_X9_of_75 : At m_X9_of 75 (.invokevirtual 101) 3 78 := at_i (by decide +kernel) rfl
theorem a_X9_of_78 : At m_X9_of 78 (.ireturn) 1 79 := at_i (by decide +kernel) rfl
theorem a_X9_of_79 : At m_X9_of 79 (.aload_n 0) 1 80 := at_i (by decide +kernel) rfl
theorem a_X9_of_80 : At m_X9_of 80 (.getfield 10) 3 83 := at_i (by decide +kernel) rfl
theorem a_X9_of_83 : At m_X9_of 83 (.iload_n 1) 1 84 := at_i (by decide +kernel) rfl
theorem a_X9_of_84 : At m_X9_of 84 (.invokevirtual 104) 3 87 := at_i (by decide +kernel) rfl
theorem a_X9_of_87 : At m_X9_of 87 (.ireturn) 1 88 := at_i (by decide +kernel) rfl
theorem a_X9_of_88 : At m_X9_of 88 (.aload_n 0) 1 89 := at_i (by decide +kernel) rfl
theorem a_X9_of_89 : At m_X9_of 89 (.getfield 10) 3 92 := at_i (by decide +kernel) rfl
theorem a_X9_of_92 : At m_X9_of 92 (.iload_n 2) 1 93 := at_i (by decide +kernel) rfl
theorem a_X9_of_93 : At m_X9_of 93 (.invokevirtual 107) 3 96 := at_i (by decide +kernel) rfl
theorem a_X9_of_96 : At m_X9_of 96 (.iload_n 1) 1 97 := at_i (by decide +kernel) rfl
theorem a_X9_of_97 : At m_X9_of 97 (.iaload) 1 98 := at_i (by decide +kernel) rfl
theorem a_X9_of_98 : At m_X9_of 98 (.ireturn) 1 99 := at_i (by decide +kernel) rfl
def f_X9_of (a1 : Int32) (a2 : Int32) (h : Mem) (Q : Int32 → Mem → Prop) : Prop :=
  f_X6_isLine 1 a1 h fun r_2 h_1 =>
  if r_2 = 0 then (
    f_X9_finding (0 : Int32) h_1 fun r_5 h_4 =>
    Q r_5 h_4)
  else (
    f_X9_isWithin a2 (0 : Int32) (5 : Int32) h_1 fun r_7 h_6 =>
    if r_7 = 0 then (
      f_X9_finding (0 : Int32) h_6 fun r_23 h_22 =>
      Q r_23 h_22)
    else (
      if a2 = 3 then (
        f_X6_takesOf 1 a1 (h_6 5 0) h_6 fun r_11 h_10 =>
        Q r_11 h_10)
      else (
      if a2 = 4 then (
        f_X6_tripsOf 1 a1 h_6 fun r_14 h_13 =>
        Q r_14 h_13)
      else (
      if a2 = 5 then (
        f_X6_seenOf 1 a1 h_6 fun r_17 h_16 =>
        Q r_17 h_16)
      else (
        f_X6_features 1 a2 h_6 fun r_19 h_18 =>
        gm_cls r_19 = 20 ∧
        vp_in a1 (gm_len r_19) ∧
        Q (h_18 r_19 a1.toNatClampNeg) h_18)))))
set_option maxRecDepth 20000 in
theorem t_X9_of (a1 : Int32) (a2 : Int32)  (h : Mem) (Q : Int32 → Mem → Prop) (hyp : f_X9_of a1 a2 h Q) : Cn m_X9_of [.ref 0, .int a1, .int a2] h (GI Q) := by
  refine ge_entry (lv := [(0, .ref 0), (1, .int a1), (2, .int a2)]) pn_X9 (Nat.le_of_ble_eq_true rfl) rfl ?_
  unfold f_X9_of at hyp
  refine ge_aload_n a_X9_of_0 rfl 0 rfl ?_
  refine ge_getR (q := 1) a_X9_of_1 fd_X9_10 (rfl : gm_cls 0 = 8) rfl ?_
  refine ge_iload_n a_X9_of_4 rfl 1 rfl ?_
  refine ge_cVI [.int a1] (rest := []) a_X9_of_5 ok_X6_isLine lk_X9_90 ⟨Nat.le_of_ble_eq_true rfl, Nat.le_of_ble_eq_true rfl⟩ (rfl : gm_cls 1 = 5) vc_5 (by decide) rfl rfl (Nat.le_of_ble_eq_true rfl) (t_X6_isLine 1 a1 (rfl : gm_cls 1 = 5) h _ hyp) (fun r_2 h_1 hyp => ?_)
  refine ge_if_eq a_X9_of_8 (fun c_3 => ?_) (fun c_3 => ?_)
  · have hyp := gm_ip hyp c_3
    refine ge_aload_n a_X9_of_20 rfl 0 rfl ?_
    refine ge_iconst (v := 0) a_X9_of_21 rfl ?_
    refine ge_cVI [.int (0 : Int32)] (rest := []) a_X9_of_22 ok_X9_finding lk_X9_79 ⟨Nat.le_of_ble_eq_true rfl, Nat.le_of_ble_eq_true rfl⟩ (rfl : gm_cls 0 = 8) vc_8 (by decide) rfl rfl (Nat.le_of_ble_eq_true rfl) (t_X9_finding (0 : Int32)  h_1 _ hyp) (fun r_5 h_4 hyp => ?_)
    exact ge_iret rfl a_X9_of_25 hyp
  · have hyp := gm_in hyp c_3
    refine ge_iload_n a_X9_of_11 rfl 2 rfl ?_
    refine ge_iconst (v := 0) a_X9_of_12 rfl ?_
    refine ge_iconst (v := 5) a_X9_of_13 rfl ?_
    refine ge_cSI [.int a2, .int (0 : Int32), .int (5 : Int32)] (rest := []) a_X9_of_14 ok_X9_isWithin lk_X9_75 ⟨Nat.le_of_ble_eq_true rfl, Nat.le_of_ble_eq_true rfl⟩ rfl rfl (Nat.le_of_ble_eq_true rfl) (t_X9_isWithin a2 (0 : Int32) (5 : Int32)  h_1 _ hyp) (fun r_7 h_6 hyp => ?_)
    refine ge_if_ne a_X9_of_17 (fun c_8 => ?_) (fun c_8 => ?_)
    · have hyp := gm_in hyp c_8
      refine ge_iload_n a_X9_of_26 rfl 2 rfl ?_
      refine ge_sw (dt := 88) [(3, 52), (4, 70), (5, 79)] a_X9_of_27 (by decide +kernel) (by decide) ?_
      refine ge_ite (fun c_9 => ?_) (fun c_9 => ?_)
      · have hyp := gm_ip hyp c_9
        refine ge_aload_n a_X9_of_52 rfl 0 rfl ?_
        refine ge_getR (q := 1) a_X9_of_53 fd_X9_10 (rfl : gm_cls 0 = 8) rfl ?_
        refine ge_iload_n a_X9_of_56 rfl 1 rfl ?_
        refine ge_aload_n a_X9_of_57 rfl 0 rfl ?_
        refine ge_getR (q := 1) a_X9_of_58 fd_X9_10 (rfl : gm_cls 0 = 8) rfl ?_
        refine ge_getR (q := 5) a_X9_of_61 fd_X9_94 (rfl : gm_cls 1 = 5) rfl ?_
        refine ge_iconst (v := 0) a_X9_of_64 rfl ?_
        refine ge_iald (j := 0) a_X9_of_65 ga_5 li_0_10.1 li_0_10.2 ?_
        refine ge_cVI [.int a1, .int (h_6 5 0)] (rest := []) a_X9_of_66 ok_X6_takesOf lk_X9_97 ⟨Nat.le_of_ble_eq_true rfl, Nat.le_of_ble_eq_true rfl⟩ (rfl : gm_cls 1 = 5) vc_5 (by decide) rfl rfl (Nat.le_of_ble_eq_true rfl) (t_X6_takesOf 1 a1 (h_6 5 0) (rfl : gm_cls 1 = 5) h_6 _ hyp) (fun r_11 h_10 hyp => ?_)
        exact ge_iret rfl a_X9_of_69 hyp
      have hyp := gm_in hyp c_9
      refine ge_ite (fun c_12 => ?_) (fun c_12 => ?_)
      · have hyp := gm_ip hyp c_12
        refine ge_aload_n a_X9_of_70 rfl 0 rfl ?_
        refine ge_getR (q := 1) a_X9_of_71 fd_X9_10 (rfl : gm_cls 0 = 8) rfl ?_
        refine ge_iload_n a_X9_of_74 rfl 1 rfl ?_
        refine ge_cVI [.int a1] (rest := []) a_X9_of_75 ok_X6_tripsOf lk_X9_101 ⟨Nat.le_of_ble_eq_true rfl, Nat.le_of_ble_eq_true rfl⟩ (rfl : gm_cls 1 = 5) vc_5 (by decide) rfl rfl (Nat.le_of_ble_eq_true rfl) (t_X6_tripsOf 1 a1 (rfl : gm_cls 1 = 5) h_6 _ hyp) (fun r_14 h_13 hyp => ?_)
        exact ge_iret rfl a_X9_of_78 hyp
      have hyp := gm_in hyp c_12
      refine ge_ite (fun c_15 => ?_) (fun c_15 => ?_)
      · have hyp := gm_ip hyp c_15
        refine ge_aload_n a_X9_of_79 rfl 0 rfl ?_
        refine ge_getR (q := 1) a_X9_of_80 fd_X9_10 (rfl : gm_cls 0 = 8) rfl ?_
        refine ge_iload_n a_X9_of_83 rfl 1 rfl ?_
        refine ge_cVI [.int a1] (rest := []) a_X9_of_84 ok_X6_seenOf lk_X9_104 ⟨Nat.le_of_ble_eq_true rfl, Nat.le_of_ble_eq_true rfl⟩ (rfl : gm_cls 1 = 5) vc_5 (by decide) rfl rfl (Nat.le_of_ble_eq_true rfl) (t_X6_seenOf 1 a1 (rfl : gm_cls 1 = 5) h_6 _ hyp) (fun r_17 h_16 hyp => ?_)
        exact ge_iret rfl a_X9_of_87 hyp
      have hyp := gm_in hyp c_15
      show EV _ _ 88 _ _ _
      refine ge_aload_n a_X9_of_88 rfl 0 rfl ?_
      refine ge_getR (q := 1) a_X9_of_89 fd_X9_10 (rfl : gm_cls 0 = 8) rfl ?_
      refine ge_iload_n a_X9_of_92 rfl 2 rfl ?_
      refine ge_cVR [.int a2] (rest := []) a_X9_of_93 ok_X6_features lk_X9_107 ⟨Nat.le_of_ble_eq_true rfl, Nat.le_of_ble_eq_true rfl⟩ (rfl : gm_cls 1 = 5) vc_5 (by decide) rfl rfl (Nat.le_of_ble_eq_true rfl) (t_X6_features 1 a2 (rfl : gm_cls 1 = 5) h_6 _ hyp) (fun r_19 h_18 hyp => ?_)
      obtain ⟨z_20, hyp⟩ := hyp
      refine ge_iload_n a_X9_of_96 rfl 1 rfl ?_
      obtain ⟨b_21, hyp⟩ := hyp
      refine ge_iald (j := a1.toNatClampNeg) a_X9_of_97 (⟨z_20, rfl⟩ : gm_arr r_19 (gm_len r_19)) b_21 rfl ?_
      exact ge_iret rfl a_X9_of_98 hyp
    · have hyp := gm_ip hyp c_8
      refine ge_aload_n a_X9_of_20 rfl 0 rfl ?_
      refine ge_iconst (v := 0) a_X9_of_21 rfl ?_
      refine ge_cVI [.int (0 : Int32)] (rest := []) a_X9_of_22 ok_X9_finding lk_X9_79 ⟨Nat.le_of_ble_eq_true rfl, Nat.le_of_ble_eq_true rfl⟩ (rfl : gm_cls 0 = 8) vc_8 (by decide) rfl rfl (Nat.le_of_ble_eq_true rfl) (t_X9_finding (0 : Int32)  h_6 _ hyp) (fun r_23 h_22 hyp => ?_)
      exact ge_iret rfl a_X9_of_25 hyp

theorem a_X9_change_0 : At m_X9_change 0 (.aload_n 0) 1 1 := at_i (by decide +kernel) rfl
theorem a_X9_change_1 : At m_X9_change 1 (.getfield 10) 3 4 := at_i (by decide +kernel) rfl
theorem a_X9_change_4 : At m_X9_change 4 (.iload_n 1) 1 5 := at_i (by decide +kernel) rfl
theorem a_X9_change_5 : At m_X9_change 5 (.invokevirtual 90) 3 8 := at_i (by decide +kernel) rfl
theorem a_X9_change_8 : AtJ m_X9_change 8 (.ifCond .eq 12) (12) 20 11 := at_j (by decide +kernel) (by decide) rfl
theorem a_X9_change_11 : At m_X9_change 11 (.iload_n 2) 1 12 := at_i (by decide +kernel) rfl
theorem a_X9_change_12 : At m_X9_change 12 (.iconst 0) 1 13 := at_i (by decide +kernel) rfl
theorem a_X9_change_13 : At m_X9_change 13 (.iconst 2) 1 14 := at_i (by decide +kernel) rfl
theorem a_X9_change_14 : At m_X9_change 14 (.invokestatic 75) 3 17 := at_i (by decide +kernel) rfl
theorem a_X9_change_17 : AtJ m_X9_change 17 (.ifCond .ne 9) (9) 26 20 := at_j (by decide +kernel) (by decide) rfl
theorem a_X9_change_20 : At m_X9_change 20 (.aload_n 0) 1 21 := at_i (by decide +kernel) rfl
theorem a_X9_change_21 : At m_X9_change 21 (.iconst 0) 1 22 := at_i (by decide +kernel) rfl
theorem a_X9_change_22 : At m_X9_change 22 (.invokevirtual 79) 3 25 := at_i (by decide +kernel) rfl
theorem a_X9_change_25 : At m_X9_change 25 (.ireturn) 1 26 := at_i (by decide +kernel) rfl
theorem a_X9_change_26 : At m_X9_change 26 (.iload_n 3) 1 27 := at_i (by decide +kernel) rfl
theorem a_X9_change_27 : At m_X9_change 27 (.getstatic 111) 3 30 := at_i (by decide +kernel) rfl
theorem a_X9_change_30 : At m_X9_change 30 (.iload_n 2) 1 31 := at_i (by decide +kernel) rfl
theorem a_X9_change_31 : At m_X9_change 31 (.iaload) 1 32 := at_i (by decide +kernel) rfl
theorem a_X9_change_32 : At m_X9_change 32 (.getstatic 114) 3 35 := at_i (by decide +kernel) rfl
theorem a_X9_change_35 : At m_X9_change 35 (.iload_n 2) 1 36 := at_i (by decide +kernel) rfl
theorem a_X9_change_36 : At m_X9_change 36 (.iaload) 1 37 := at_i (by decide +kernel) rfl
theorem a_X9_change_37 : At m_X9_change 37 (.invokestatic 75) 3 40 := at_i (by decide +kernel) rfl
theorem a_X9_change_40 : AtJ m_X9_change 40 (.ifCond .ne 9) (9) 49 43 := at_j (by decide +kernel) (by decide) rfl
theorem a_X9_change_43 : At m_X9_change 43 (.aload_n 0) 1 44 := at_i (by decide +kernel) rfl
theorem a_X9_change_44 : At m_X9_change 44 (.iconst 0) 1 45 := at_i (by decide +kernel) rfl
theorem a_X9_change_45 : At m_X9_change 45 (.invokevirtual 79) 3 48 := at_i (by decide +kernel) rfl
theorem a_X9_change_48 : At m_X9_change 48 (.ireturn) 1 49 := at_i (by decide +kernel) rfl
theorem a_X9_change_49 : At m_X9_change 49 (.aload_n 0) 1 50 := at_i (by decide +kernel) rfl
theorem a_X9_change_50 : At m_X9_change 50 (.getfield 10) 3 53 := at_i (by decide +kernel) rfl
theorem a_X9_change_53 : At m_X9_change 53 (.iload_n 2) 1 54 := at_i (by decide +kernel) rfl
theorem a_X9_change_54 : At m_X9_change 54 (.invokevirtual 107) 3 57 := at_i (by decide +kernel) rfl
theorem a_X9_change_57 : At m_X9_change 57 (.astore 4) 2 59 := at_i (by decide +kernel) rfl
theorem a_X9_change_59 : At m_X9_change 59 (.aload 4) 2 61 := at_i (by decide +kernel) rfl
theorem a_X9_change_61 : At m_X9_change 61 (.iload_n 1) 1 62 := at_i (by decide +kernel) rfl
theorem a_X9_change_62 : At m_X9_change 62 (.iaload) 1 63 := at_i (by decide +kernel) rfl
theorem a_X9_change_63 : At m_X9_change 63 (.istore 5) 2 65 := at_i (by decide +kernel) rfl
theorem a_X9_change_65 : At m_X9_change 65 (.aload 4) 2 67 := at_i (by decide +kernel) rfl
theorem a_X9_change_67 : At m_X9_change 67 (.iload_n 1) 1 68 := at_i (by decide +kernel) rfl
theorem a_X9_change_68 : At m_X9_change 68 (.iload_n 3) 1 69 := at_i (by decide +kernel) rfl
theorem a_X9_change_69 : At m_X9_change 69 (.iastore) 1 70 := at_i (by decide +kernel) rfl
theorem a_X9_change_70 : At m_X9_change 70 (.iload 5) 2 72 := at_i (by decide +kernel) rfl
theorem a_X9_change_72 : At m_X9_change 72 (.ireturn) 1 73 := at_i (by decide +kernel) rfl
def f_X9_change (a1 : Int32) (a2 : Int32) (a3 : Int32) (h : Mem) (Q : Int32 → Mem → Prop) : Prop :=
  f_X6_isLine 1 a1 h fun r_2 h_1 =>
  if r_2 = 0 then (
    f_X9_finding (0 : Int32) h_1 fun r_5 h_4 =>
    Q r_5 h_4)
  else (
    f_X9_isWithin a2 (0 : Int32) (2 : Int32) h_1 fun r_7 h_6 =>
    if r_7 = 0 then (
      f_X9_finding (0 : Int32) h_6 fun r_24 h_23 =>
      Q r_24 h_23)
    else (
      vp_in a2 3 ∧
      vp_in a2 3 ∧
      f_X9_isWithin a3 ((gm_tab 2).getD a2.toNatClampNeg 0) ((gm_tab 3).getD a2.toNatClampNeg 0) h_6 fun r_12 h_11 =>
      if r_12 = 0 then (
        f_X9_finding (0 : Int32) h_11 fun r_22 h_21 =>
        Q r_22 h_21)
      else (
        f_X6_features 1 a2 h_11 fun r_15 h_14 =>
        gm_cls r_15 = 20 ∧
        vp_in a1 (gm_len r_15) ∧
        ∀ v_18 : Int32, v_18 = h_14 r_15 a1.toNatClampNeg →
        vp_in a1 (gm_len r_15) ∧
        ∀ h_20 : Mem, h_20 = gm_st h_14 r_15 a1.toNatClampNeg a3 →
        Q v_18 h_20)))
set_option maxRecDepth 20000 in
theorem t_X9_change (a1 : Int32) (a2 : Int32) (a3 : Int32)  (h : Mem) (Q : Int32 → Mem → Prop) (hyp : f_X9_change a1 a2 a3 h Q) : Cn m_X9_change [.ref 0, .int a1, .int a2, .int a3] h (GI Q) := by
  refine ge_entry (lv := [(0, .ref 0), (1, .int a1), (2, .int a2), (3, .int a3)]) pn_X9 (Nat.le_of_ble_eq_true rfl) rfl ?_
  unfold f_X9_change at hyp
  refine ge_aload_n a_X9_change_0 rfl 0 rfl ?_
  refine ge_getR (q := 1) a_X9_change_1 fd_X9_10 (rfl : gm_cls 0 = 8) rfl ?_
  refine ge_iload_n a_X9_change_4 rfl 1 rfl ?_
  refine ge_cVI [.int a1] (rest := []) a_X9_change_5 ok_X6_isLine lk_X9_90 ⟨Nat.le_of_ble_eq_true rfl, Nat.le_of_ble_eq_true rfl⟩ (rfl : gm_cls 1 = 5) vc_5 (by decide) rfl rfl (Nat.le_of_ble_eq_true rfl) (t_X6_isLine 1 a1 (rfl : gm_cls 1 = 5) h _ hyp) (fun r_2 h_1 hyp => ?_)
  refine ge_if_eq a_X9_change_8 (fun c_3 => ?_) (fun c_3 => ?_)
  · have hyp := gm_ip hyp c_3
    refine ge_aload_n a_X9_change_20 rfl 0 rfl ?_
    refine ge_iconst (v := 0) a_X9_change_21 rfl ?_
    refine ge_cVI [.int (0 : Int32)] (rest := []) a_X9_change_22 ok_X9_finding lk_X9_79 ⟨Nat.le_of_ble_eq_true rfl, Nat.le_of_ble_eq_true rfl⟩ (rfl : gm_cls 0 = 8) vc_8 (by decide) rfl rfl (Nat.le_of_ble_eq_true rfl) (t_X9_finding (0 : Int32)  h_1 _ hyp) (fun r_5 h_4 hyp => ?_)
    exact ge_iret rfl a_X9_change_25 hyp
  · have hyp := gm_in hyp c_3
    refine ge_iload_n a_X9_change_11 rfl 2 rfl ?_
    refine ge_iconst (v := 0) a_X9_change_12 rfl ?_
    refine ge_iconst (v := 2) a_X9_change_13 rfl ?_
    refine ge_cSI [.int a2, .int (0 : Int32), .int (2 : Int32)] (rest := []) a_X9_change_14 ok_X9_isWithin lk_X9_75 ⟨Nat.le_of_ble_eq_true rfl, Nat.le_of_ble_eq_true rfl⟩ rfl rfl (Nat.le_of_ble_eq_true rfl) (t_X9_isWithin a2 (0 : Int32) (2 : Int32)  h_1 _ hyp) (fun r_7 h_6 hyp => ?_)
    refine ge_if_ne a_X9_change_17 (fun c_8 => ?_) (fun c_8 => ?_)
    · have hyp := gm_in hyp c_8
      refine ge_iload_n a_X9_change_26 rfl 3 rfl ?_
      refine ge_gets (i := 2) a_X9_change_27 (by decide) rfl lk_X9_111 ?_
      refine ge_iload_n a_X9_change_30 rfl 2 rfl ?_
      obtain ⟨b_9, hyp⟩ := hyp
      refine ge_tld (i := 2) a_X9_change_31 (by decide) rfl b_9 ?_
      refine ge_gets (i := 3) a_X9_change_32 (by decide) rfl lk_X9_114 ?_
      refine ge_iload_n a_X9_change_35 rfl 2 rfl ?_
      obtain ⟨b_10, hyp⟩ := hyp
      refine ge_tld (i := 3) a_X9_change_36 (by decide) rfl b_10 ?_
      refine ge_cSI [.int a3, .int ((gm_tab 2).getD a2.toNatClampNeg 0), .int ((gm_tab 3).getD a2.toNatClampNeg 0)] (rest := []) a_X9_change_37 ok_X9_isWithin lk_X9_75 ⟨Nat.le_of_ble_eq_true rfl, Nat.le_of_ble_eq_true rfl⟩ rfl rfl (Nat.le_of_ble_eq_true rfl) (t_X9_isWithin a3 ((gm_tab 2).getD a2.toNatClampNeg 0) ((gm_tab 3).getD a2.toNatClampNeg 0)  h_6 _ hyp) (fun r_12 h_11 hyp => ?_)
      refine ge_if_ne a_X9_change_40 (fun c_13 => ?_) (fun c_13 => ?_)
      · have hyp := gm_in hyp c_13
        refine ge_aload_n a_X9_change_49 rfl 0 rfl ?_
        refine ge_getR (q := 1) a_X9_change_50 fd_X9_10 (rfl : gm_cls 0 = 8) rfl ?_
        refine ge_iload_n a_X9_change_53 rfl 2 rfl ?_
        refine ge_cVR [.int a2] (rest := []) a_X9_change_54 ok_X6_features lk_X9_107 ⟨Nat.le_of_ble_eq_true rfl, Nat.le_of_ble_eq_true rfl⟩ (rfl : gm_cls 1 = 5) vc_5 (by decide) rfl rfl (Nat.le_of_ble_eq_true rfl) (t_X6_features 1 a2 (rfl : gm_cls 1 = 5) h_11 _ hyp) (fun r_15 h_14 hyp => ?_)
        obtain ⟨z_16, hyp⟩ := hyp
        refine ge_astore (lv' := [(4, .ref r_15), (0, .ref 0), (1, .int a1), (2, .int a2), (3, .int a3)]) a_X9_change_57 (Nat.le_of_ble_eq_true rfl) rfl ?_
        refine ge_aload a_X9_change_59 0 rfl ?_
        refine ge_iload_n a_X9_change_61 rfl 2 rfl ?_
        obtain ⟨b_17, hyp⟩ := hyp
        refine ge_iald (j := a1.toNatClampNeg) a_X9_change_62 (⟨z_16, rfl⟩ : gm_arr r_15 (gm_len r_15)) b_17 rfl ?_
        refine ge_topi (fun v_18 ev_18 => ?_)
        have hyp := hyp v_18 ev_18
        refine ge_istore (lv' := [(5, .int v_18), (4, .ref r_15), (0, .ref 0), (1, .int a1), (2, .int a2), (3, .int a3)]) a_X9_change_63 (Nat.le_of_ble_eq_true rfl) rfl ?_
        refine ge_aload a_X9_change_65 1 rfl ?_
        refine ge_iload_n a_X9_change_67 rfl 3 rfl ?_
        refine ge_iload_n a_X9_change_68 rfl 5 rfl ?_
        obtain ⟨b_19, hyp⟩ := hyp
        refine ge_iast (j := a1.toNatClampNeg) a_X9_change_69 (⟨z_16, rfl⟩ : gm_arr r_15 (gm_len r_15)) b_19 rfl ?_
        refine ge_nm (fun h_20 eh_20 => ?_)
        have hyp := hyp h_20 eh_20
        refine ge_iload a_X9_change_70 0 rfl ?_
        exact ge_iret rfl a_X9_change_72 hyp
      · have hyp := gm_ip hyp c_13
        refine ge_aload_n a_X9_change_43 rfl 0 rfl ?_
        refine ge_iconst (v := 0) a_X9_change_44 rfl ?_
        refine ge_cVI [.int (0 : Int32)] (rest := []) a_X9_change_45 ok_X9_finding lk_X9_79 ⟨Nat.le_of_ble_eq_true rfl, Nat.le_of_ble_eq_true rfl⟩ (rfl : gm_cls 0 = 8) vc_8 (by decide) rfl rfl (Nat.le_of_ble_eq_true rfl) (t_X9_finding (0 : Int32)  h_11 _ hyp) (fun r_22 h_21 hyp => ?_)
        exact ge_iret rfl a_X9_change_48 hyp
    · have hyp := gm_ip hyp c_8
      refine ge_aload_n a_X9_change_20 rfl 0 rfl ?_
      refine ge_iconst (v := 0) a_X9_change_21 rfl ?_
      refine ge_cVI [.int (0 : Int32)] (rest := []) a_X9_change_22 ok_X9_finding lk_X9_79 ⟨Nat.le_of_ble_eq_true rfl, Nat.le_of_ble_eq_true rfl⟩ (rfl : gm_cls 0 = 8) vc_8 (by decide) rfl rfl (Nat.le_of_ble_eq_true rfl) (t_X9_finding (0 : Int32)  h_6 _ hyp) (fun r_24 h_23 hyp => ?_)
      exact ge_iret rfl a_X9_change_25 hyp

theorem a_X9_rule_0 : At m_X9_rule 0 (.iload_n 1) 1 1 := at_i (by decide +kernel) rfl
theorem a_X9_rule_1 : At m_X9_rule 1 (.iconst 0) 1 2 := at_i (by decide +kernel) rfl
theorem a_X9_rule_2 : At m_X9_rule 2 (.bipush 9) 2 4 := at_i (by decide +kernel) rfl
theorem a_X9_rule_4 : At m_X9_rule 4 (.invokestatic 75) 3 7 := at_i (by decide +kernel) rfl
theorem a_X9_rule_7 : AtJ m_X9_rule 7 (.ifCond .eq 20) (20) 27 10 := at_j (by decide +kernel) (by decide) rfl
theorem a_X9_rule_10 : At m_X9_rule 10 (.iload_n 2) 1 11 := at_i (by decide +kernel) rfl
theorem a_X9_rule_11 : At m_X9_rule 11 (.getstatic 117) 3 14 := at_i (by decide +kernel) rfl
theorem a_X9_rule_14 : At m_X9_rule 14 (.iload_n 1) 1 15 := at_i (by decide +kernel) rfl
theorem a_X9_rule_15 : At m_X9_rule 15 (.iaload) 1 16 := at_i (by decide +kernel) rfl
theorem a_X9_rule_16 : At m_X9_rule 16 (.getstatic 120) 3 19 := at_i (by decide +kernel) rfl
theorem a_X9_rule_19 : At m_X9_rule 19 (.iload_n 1) 1 20 := at_i (by decide +kernel) rfl
theorem a_X9_rule_20 : At m_X9_rule 20 (.iaload) 1 21 := at_i (by decide +kernel) rfl
theorem a_X9_rule_21 : At m_X9_rule 21 (.invokestatic 75) 3 24 := at_i (by decide +kernel) rfl
theorem a_X9_rule_24 : AtJ m_X9_rule 24 (.ifCond .ne 9) (9) 33 27 := at_j (by decide +kernel) (by decide) rfl
theorem a_X9_rule_27 : At m_X9_rule 27 (.aload_n 0) 1 28 := at_i (by decide +kernel) rfl
theorem a_X9_rule_28 : At m_X9_rule 28 (.iconst 0) 1 29 := at_i (by decide +kernel) rfl
theorem a_X9_rule_29 : At m_X9_rule 29 (.invokevirtual 79) 3 32 := at_i (by decide +kernel) rfl
theorem a_X9_rule_32 : At m_X9_rule 32 (.ireturn) 1 33 := at_i (by decide +kernel) rfl
theorem a_X9_rule_33 : At m_X9_rule 33 (.aload_n 0) 1 34 := at_i (by decide +kernel) rfl
theorem a_X9_rule_34 : At m_X9_rule 34 (.getfield 10) 3 37 := at_i (by decide +kernel) rfl
theorem a_X9_rule_37 : At m_X9_rule 37 (.getfield 94) 3 40 := at_i (by decide +kernel) rfl
theorem a_X9_rule_40 : At m_X9_rule 40 (.iload_n 1) 1 41 := at_i (by decide +kernel) rfl
theorem a_X9_rule_41 : At m_X9_rule 41 (.iaload) 1 42 := at_i (by decide +kernel) rfl
theorem a_X9_rule_42 : At m_X9_rule 42 (.istore_n 3) 1 43 := at_i (by decide +kernel) rfl
theorem a_X9_rule_43 : At m_X9_rule 43 (.aload_n 0) 1 44 := at_i (by decide +kernel) rfl
theorem a_X9_rule_44 : At m_X9_rule 44 (.getfield 10) 3 47 := at_i (by decide +kernel) rfl
theorem a_X9_rule_47 : At m_X9_rule 47 (.getfield 94) 3 50 := at_i (by decide +kernel) rfl
theorem a_X9_rule_50 : At m_X9_rule 50 (.iload_n 1) 1 51 := at_i (by decide +kernel) rfl
theorem a_X9_rule_51 : At m_X9_rule 51 (.iload_n 2) 1 52 := at_i (by decide +kernel) rfl
theorem a_X9_rule_52 : At m_X9_rule 52 (.iastore) 1 53 := at_i (by decide +kernel) rfl
theorem a_X9_rule_53 : At m_X9_rule 53 (.iload_n 3) 1 54 := at_i (by decide +kernel) rfl
theorem a_X9_rule_54 : At m_X9_rule 54 (.ireturn) 1 55 := at_i (by decide +kernel) rfl
def f_X9_rule (a1 : Int32) (a2 : Int32) (h : Mem) (Q : Int32 → Mem → Prop) : Prop :=
  f_X9_isWithin a1 (0 : Int32) (9 : Int32) h fun r_2 h_1 =>
  if r_2 = 0 then (
    f_X9_finding (0 : Int32) h_1 fun r_5 h_4 =>
    Q r_5 h_4)
  else (
    vp_in a1 10 ∧
    vp_in a1 10 ∧
    f_X9_isWithin a2 ((gm_tab 4).getD a1.toNatClampNeg 0) ((gm_tab 5).getD a1.toNatClampNeg 0) h_1 fun r_9 h_8 =>
    if r_9 = 0 then (
      f_X9_finding (0 : Int32) h_8 fun r_16 h_15 =>
      Q r_16 h_15)
    else (
      vp_in a1 10 ∧
      ∀ v_12 : Int32, v_12 = h_8 5 a1.toNatClampNeg →
      vp_in a1 10 ∧
      ∀ h_14 : Mem, h_14 = gm_st h_8 5 a1.toNatClampNeg a2 →
      Q v_12 h_14))
set_option maxRecDepth 20000 in
theorem t_X9_rule (a1 : Int32) (a2 : Int32)  (h : Mem) (Q : Int32 → Mem → Prop) (hyp : f_X9_rule a1 a2 h Q) : Cn m_X9_rule [.ref 0, .int a1, .int a2] h (GI Q) := by
  refine ge_entry (lv := [(0, .ref 0), (1, .int a1), (2, .int a2)]) pn_X9 (Nat.le_of_ble_eq_true rfl) rfl ?_
  unfold f_X9_rule at hyp
  refine ge_iload_n a_X9_rule_0 rfl 1 rfl ?_
  refine ge_iconst (v := 0) a_X9_rule_1 rfl ?_
  refine ge_bipush (v := 9) a_X9_rule_2 rfl ?_
  refine ge_cSI [.int a1, .int (0 : Int32), .int (9 : Int32)] (rest := []) a_X9_rule_4 ok_X9_isWithin lk_X9_75 ⟨Nat.le_of_ble_eq_true rfl, Nat.le_of_ble_eq_true rfl⟩ rfl rfl (Nat.le_of_ble_eq_true rfl) (t_X9_isWithin a1 (0 : Int32) (9 : Int32)  h _ hyp) (fun r_2 h_1 hyp => ?_)
  refine ge_if_eq a_X9_rule_7 (fun c_3 => ?_) (fun c_3 => ?_)
  · have hyp := gm_ip hyp c_3
    refine ge_aload_n a_X9_rule_27 rfl 0 rfl ?_
    refine ge_iconst (v := 0) a_X9_rule_28 rfl ?_
    refine ge_cVI [.int (0 : Int32)] (rest := []) a_X9_rule_29 ok_X9_finding lk_X9_79 ⟨Nat.le_of_ble_eq_true rfl, Nat.le_of_ble_eq_true rfl⟩ (rfl : gm_cls 0 = 8) vc_8 (by decide) rfl rfl (Nat.le_of_ble_eq_true rfl) (t_X9_finding (0 : Int32)  h_1 _ hyp) (fun r_5 h_4 hyp => ?_)
    exact ge_iret rfl a_X9_rule_32 hyp
  · have hyp := gm_in hyp c_3
    refine ge_iload_n a_X9_rule_10 rfl 2 rfl ?_
    refine ge_gets (i := 4) a_X9_rule_11 (by decide) rfl lk_X9_117 ?_
    refine ge_iload_n a_X9_rule_14 rfl 1 rfl ?_
    obtain ⟨b_6, hyp⟩ := hyp
    refine ge_tld (i := 4) a_X9_rule_15 (by decide) rfl b_6 ?_
    refine ge_gets (i := 5) a_X9_rule_16 (by decide) rfl lk_X9_120 ?_
    refine ge_iload_n a_X9_rule_19 rfl 1 rfl ?_
    obtain ⟨b_7, hyp⟩ := hyp
    refine ge_tld (i := 5) a_X9_rule_20 (by decide) rfl b_7 ?_
    refine ge_cSI [.int a2, .int ((gm_tab 4).getD a1.toNatClampNeg 0), .int ((gm_tab 5).getD a1.toNatClampNeg 0)] (rest := []) a_X9_rule_21 ok_X9_isWithin lk_X9_75 ⟨Nat.le_of_ble_eq_true rfl, Nat.le_of_ble_eq_true rfl⟩ rfl rfl (Nat.le_of_ble_eq_true rfl) (t_X9_isWithin a2 ((gm_tab 4).getD a1.toNatClampNeg 0) ((gm_tab 5).getD a1.toNatClampNeg 0)  h_1 _ hyp) (fun r_9 h_8 hyp => ?_)
    refine ge_if_ne a_X9_rule_24 (fun c_10 => ?_) (fun c_10 => ?_)
    · have hyp := gm_in hyp c_10
      refine ge_aload_n a_X9_rule_33 rfl 0 rfl ?_
      refine ge_getR (q := 1) a_X9_rule_34 fd_X9_10 (rfl : gm_cls 0 = 8) rfl ?_
      refine ge_getR (q := 5) a_X9_rule_37 fd_X9_94 (rfl : gm_cls 1 = 5) rfl ?_
      refine ge_iload_n a_X9_rule_40 rfl 1 rfl ?_
      obtain ⟨b_11, hyp⟩ := hyp
      refine ge_iald (j := a1.toNatClampNeg) a_X9_rule_41 ga_5 b_11 rfl ?_
      refine ge_topi (fun v_12 ev_12 => ?_)
      have hyp := hyp v_12 ev_12
      refine ge_istore_n (lv' := [(3, .int v_12), (0, .ref 0), (1, .int a1), (2, .int a2)]) a_X9_rule_42 rfl (Nat.le_of_ble_eq_true rfl) rfl ?_
      refine ge_aload_n a_X9_rule_43 rfl 1 rfl ?_
      refine ge_getR (q := 1) a_X9_rule_44 fd_X9_10 (rfl : gm_cls 0 = 8) rfl ?_
      refine ge_getR (q := 5) a_X9_rule_47 fd_X9_94 (rfl : gm_cls 1 = 5) rfl ?_
      refine ge_iload_n a_X9_rule_50 rfl 2 rfl ?_
      refine ge_iload_n a_X9_rule_51 rfl 3 rfl ?_
      obtain ⟨b_13, hyp⟩ := hyp
      refine ge_iast (j := a1.toNatClampNeg) a_X9_rule_52 ga_5 b_13 rfl ?_
      refine ge_nm (fun h_14 eh_14 => ?_)
      have hyp := hyp h_14 eh_14
      refine ge_iload_n a_X9_rule_53 rfl 0 rfl ?_
      exact ge_iret rfl a_X9_rule_54 hyp
    · have hyp := gm_ip hyp c_10
      refine ge_aload_n a_X9_rule_27 rfl 0 rfl ?_
      refine ge_iconst (v := 0) a_X9_rule_28 rfl ?_
      refine ge_cVI [.int (0 : Int32)] (rest := []) a_X9_rule_29 ok_X9_finding lk_X9_79 ⟨Nat.le_of_ble_eq_true rfl, Nat.le_of_ble_eq_true rfl⟩ (rfl : gm_cls 0 = 8) vc_8 (by decide) rfl rfl (Nat.le_of_ble_eq_true rfl) (t_X9_finding (0 : Int32)  h_8 _ hyp) (fun r_16 h_15 hyp => ?_)
      exact ge_iret rfl a_X9_rule_32 hyp

theorem a_X9_ruled_0 : At m_X9_ruled 0 (.iload_n 1) 1 1 := at_i (by decide +kernel) rfl
theorem a_X9_ruled_1 : At m_X9_ruled 1 (.iconst 0) 1 2 := at_i (by decide +kernel) rfl
theorem a_X9_ruled_2 : At m_X9_ruled 2 (.bipush 9) 2 4 := at_i (by decide +kernel) rfl
theorem a_X9_ruled_4 : At m_X9_ruled 4 (.invokestatic 75) 3 7 := at_i (by decide +kernel) rfl
theorem a_X9_ruled_7 : AtJ m_X9_ruled 7 (.ifCond .eq 15) (15) 22 10 := at_j (by decide +kernel) (by decide) rfl
theorem a_X9_ruled_10 : At m_X9_ruled 10 (.aload_n 0) 1 11 := at_i (by decide +kernel) rfl
theorem a_X9_ruled_11 : At m_X9_ruled 11 (.getfield 10) 3 14 := at_i (by decide +kernel) rfl
theorem a_X9_ruled_14 : At m_X9_ruled 14 (.getfield 94) 3 17 := at_i (by decide +kernel) rfl
theorem a_X9_ruled_17 : At m_X9_ruled 17 (.iload_n 1) 1 18 := at_i (by decide +kernel) rfl
theorem a_X9_ruled_18 : At m_X9_ruled 18 (.iaload) 1 19 := at_i (by decide +kernel) rfl
theorem a_X9_ruled_19 : AtJ m_X9_ruled 19 (.goto 8) (8) 27 22 := at_j (by decide +kernel) (by decide) rfl
theorem a_X9_ruled_22 : At m_X9_ruled 22 (.aload_n 0) 1 23 := at_i (by decide +kernel) rfl
theorem a_X9_ruled_23 : At m_X9_ruled 23 (.iconst 0) 1 24 := at_i (by decide +kernel) rfl
theorem a_X9_ruled_24 : At m_X9_ruled 24 (.invokevirtual 79) 3 27 := at_i (by decide +kernel) rfl
theorem a_X9_ruled_27 : At m_X9_ruled 27 (.ireturn) 1 28 := at_i (by decide +kernel) rfl
def f_X9_ruled (a1 : Int32) (h : Mem) (Q : Int32 → Mem → Prop) : Prop :=
  f_X9_isWithin a1 (0 : Int32) (9 : Int32) h fun r_2 h_1 =>
  if r_2 = 0 then (
    f_X9_finding (0 : Int32) h_1 fun r_5 h_4 =>
    Q r_5 h_4)
  else (
    vp_in a1 10 ∧
    Q (h_1 5 a1.toNatClampNeg) h_1)
set_option maxRecDepth 20000 in
theorem t_X9_ruled (a1 : Int32)  (h : Mem) (Q : Int32 → Mem → Prop) (hyp : f_X9_ruled a1 h Q) : Cn m_X9_ruled [.ref 0, .int a1] h (GI Q) := by
  refine ge_entry (lv := [(0, .ref 0), (1, .int a1)]) pn_X9 (Nat.le_of_ble_eq_true rfl) rfl ?_
  unfold f_X9_ruled at hyp
  refine ge_iload_n a_X9_ruled_0 rfl 1 rfl ?_
  refine ge_iconst (v := 0) a_X9_ruled_1 rfl ?_
  refine ge_bipush (v := 9) a_X9_ruled_2 rfl ?_
  refine ge_cSI [.int a1, .int (0 : Int32), .int (9 : Int32)] (rest := []) a_X9_ruled_4 ok_X9_isWithin lk_X9_75 ⟨Nat.le_of_ble_eq_true rfl, Nat.le_of_ble_eq_true rfl⟩ rfl rfl (Nat.le_of_ble_eq_true rfl) (t_X9_isWithin a1 (0 : Int32) (9 : Int32)  h _ hyp) (fun r_2 h_1 hyp => ?_)
  refine ge_if_eq a_X9_ruled_7 (fun c_3 => ?_) (fun c_3 => ?_)
  · have hyp := gm_ip hyp c_3
    refine ge_aload_n a_X9_ruled_22 rfl 0 rfl ?_
    refine ge_iconst (v := 0) a_X9_ruled_23 rfl ?_
    refine ge_cVI [.int (0 : Int32)] (rest := []) a_X9_ruled_24 ok_X9_finding lk_X9_79 ⟨Nat.le_of_ble_eq_true rfl, Nat.le_of_ble_eq_true rfl⟩ (rfl : gm_cls 0 = 8) vc_8 (by decide) rfl rfl (Nat.le_of_ble_eq_true rfl) (t_X9_finding (0 : Int32)  h_1 _ hyp) (fun r_5 h_4 hyp => ?_)
    exact ge_iret rfl a_X9_ruled_27 hyp
  · have hyp := gm_in hyp c_3
    refine ge_aload_n a_X9_ruled_10 rfl 0 rfl ?_
    refine ge_getR (q := 1) a_X9_ruled_11 fd_X9_10 (rfl : gm_cls 0 = 8) rfl ?_
    refine ge_getR (q := 5) a_X9_ruled_14 fd_X9_94 (rfl : gm_cls 1 = 5) rfl ?_
    refine ge_iload_n a_X9_ruled_17 rfl 1 rfl ?_
    obtain ⟨b_6, hyp⟩ := hyp
    refine ge_iald (j := a1.toNatClampNeg) a_X9_ruled_18 ga_5 b_6 rfl ?_
    refine ge_goto a_X9_ruled_19 ?_
    exact ge_iret rfl a_X9_ruled_27 hyp

theorem a_X9_takesAhead_0 : At m_X9_takesAhead 0 (.aload_n 0) 1 1 := at_i (by decide +kernel) rfl
theorem a_X9_takesAhead_1 : At m_X9_takesAhead 1 (.getfield 25) 3 4 := at_i (by decide +kernel) rfl
theorem a_X9_takesAhead_4 : At m_X9_takesAhead 4 (.aload_n 0) 1 5 := at_i (by decide +kernel) rfl
theorem a_X9_takesAhead_5 : At m_X9_takesAhead 5 (.getfield 10) 3 8 := at_i (by decide +kernel) rfl
theorem a_X9_takesAhead_8 : At m_X9_takesAhead 8 (.getfield 94) 3 11 := at_i (by decide +kernel) rfl
theorem a_X9_takesAhead_11 : At m_X9_takesAhead 11 (.invokevirtual 166) 3 14 := at_i (by decide +kernel) rfl
theorem a_X9_takesAhead_14 : At m_X9_takesAhead 14 (.aload_n 0) 1 15 := at_i (by decide +kernel) rfl
theorem a_X9_takesAhead_15 : At m_X9_takesAhead 15 (.getfield 10) 3 18 := at_i (by decide +kernel) rfl
theorem a_X9_takesAhead_18 : At m_X9_takesAhead 18 (.iload_n 1) 1 19 := at_i (by decide +kernel) rfl
theorem a_X9_takesAhead_19 : At m_X9_takesAhead 19 (.aload_n 0) 1 20 := at_i (by decide +kernel) rfl
theorem a_X9_takesAhead_20 : At m_X9_takesAhead 20 (.getfield 25) 3 23 := at_i (by decide +kernel) rfl
theorem a_X9_takesAhead_23 : At m_X9_takesAhead 23 (.invokevirtual 338) 3 26 := at_i (by decide +kernel) rfl
theorem a_X9_takesAhead_26 : At m_X9_takesAhead 26 (.ireturn) 1 27 := at_i (by decide +kernel) rfl
def f_X9_takesAhead (a1 : Int32) (h : Mem) (Q : Int32 → Mem → Prop) : Prop :=
  f_X1_takeFrom 19 5 10 h fun h_1 =>
  f_X6_takesAhead 1 a1 19 h_1 fun r_3 h_2 =>
  Q r_3 h_2
set_option maxRecDepth 20000 in
theorem t_X9_takesAhead (a1 : Int32)  (h : Mem) (Q : Int32 → Mem → Prop) (hyp : f_X9_takesAhead a1 h Q) : Cn m_X9_takesAhead [.ref 0, .int a1] h (GI Q) := by
  refine ge_entry (lv := [(0, .ref 0), (1, .int a1)]) pn_X9 (Nat.le_of_ble_eq_true rfl) rfl ?_
  unfold f_X9_takesAhead at hyp
  refine ge_aload_n a_X9_takesAhead_0 rfl 0 rfl ?_
  refine ge_getR (q := 19) a_X9_takesAhead_1 fd_X9_25 (rfl : gm_cls 0 = 8) rfl ?_
  refine ge_aload_n a_X9_takesAhead_4 rfl 0 rfl ?_
  refine ge_getR (q := 1) a_X9_takesAhead_5 fd_X9_10 (rfl : gm_cls 0 = 8) rfl ?_
  refine ge_getR (q := 5) a_X9_takesAhead_8 fd_X9_94 (rfl : gm_cls 1 = 5) rfl ?_
  refine ge_cVV [.ref 5] (rest := []) a_X9_takesAhead_11 ok_X1_takeFrom lk_X9_166 ⟨Nat.le_of_ble_eq_true rfl, Nat.le_of_ble_eq_true rfl⟩ (rfl : gm_cls 19 = 0) vc_0 (by decide) rfl rfl (Nat.le_of_ble_eq_true rfl) (t_X1_takeFrom 19 5 10 (rfl : gm_cls 19 = 0) ga_5 h _ hyp) (fun h_1 hyp => ?_)
  refine ge_aload_n a_X9_takesAhead_14 rfl 0 rfl ?_
  refine ge_getR (q := 1) a_X9_takesAhead_15 fd_X9_10 (rfl : gm_cls 0 = 8) rfl ?_
  refine ge_iload_n a_X9_takesAhead_18 rfl 1 rfl ?_
  refine ge_aload_n a_X9_takesAhead_19 rfl 0 rfl ?_
  refine ge_getR (q := 19) a_X9_takesAhead_20 fd_X9_25 (rfl : gm_cls 0 = 8) rfl ?_
  refine ge_cVI [.int a1, .ref 19] (rest := []) a_X9_takesAhead_23 ok_X6_takesAhead lk_X9_338 ⟨Nat.le_of_ble_eq_true rfl, Nat.le_of_ble_eq_true rfl⟩ (rfl : gm_cls 1 = 5) vc_5 (by decide) rfl rfl (Nat.le_of_ble_eq_true rfl) (t_X6_takesAhead 1 a1 19 (rfl : gm_cls 1 = 5) (rfl : gm_cls 19 = 0) h_1 _ hyp) (fun r_3 h_2 hyp => ?_)
  exact ge_iret rfl a_X9_takesAhead_26 hyp

theorem a_X9_read_0 : At m_X9_read 0 (.iload_n 1) 1 1 := at_i (by decide +kernel) rfl
theorem a_X9_read_1 : At m_X9_read 1 (.iconst 1) 1 2 := at_i (by decide +kernel) rfl
theorem a_X9_read_2 : At m_X9_read 2 (.bipush 12) 2 4 := at_i (by decide +kernel) rfl
theorem a_X9_read_4 : At m_X9_read 4 (.invokestatic 75) 3 7 := at_i (by decide +kernel) rfl
theorem a_X9_read_7 : AtJ m_X9_read 7 (.ifCond .ne 9) (9) 16 10 := at_j (by decide +kernel) (by decide) rfl
theorem a_X9_read_10 : At m_X9_read 10 (.aload_n 0) 1 11 := at_i (by decide +kernel) rfl
theorem a_X9_read_11 : At m_X9_read 11 (.iconst 0) 1 12 := at_i (by decide +kernel) rfl
theorem a_X9_read_12 : At m_X9_read 12 (.invokevirtual 79) 3 15 := at_i (by decide +kernel) rfl
theorem a_X9_read_15 : At m_X9_read 15 (.ireturn) 1 16 := at_i (by decide +kernel) rfl
theorem a_X9_read_16 : At m_X9_read 16 (.iload_n 1) 1 17 := at_i (by decide +kernel) rfl
theorem a_X9_read_17 : At m_X9_read 17 (.aload_n 0) 1 18 := at_i (by decide +kernel) rfl
theorem a_X9_read_18 : At m_X9_read 18 (.getfield 10) 3 21 := at_i (by decide +kernel) rfl
theorem a_X9_read_21 : At m_X9_read 21 (.invokevirtual 123) 3 24 := at_i (by decide +kernel) rfl
theorem a_X9_read_24 : AtJ m_X9_read 24 (.if_icmp .gt 21) (21) 45 27 := at_j (by decide +kernel) (by decide) rfl
theorem a_X9_read_27 : At m_X9_read 27 (.aload_n 0) 1 28 := at_i (by decide +kernel) rfl
theorem a_X9_read_28 : At m_X9_read 28 (.getfield 10) 3 31 := at_i (by decide +kernel) rfl
theorem a_X9_read_31 : At m_X9_read 31 (.getfield 127) 3 34 := at_i (by decide +kernel) rfl
theorem a_X9_read_34 : At m_X9_read 34 (.ldc 131) 2 36 := at_i (by decide +kernel) rfl
theorem a_X9_read_36 : At m_X9_read 36 (.aload_n 0) 1 37 := at_i (by decide +kernel) rfl
theorem a_X9_read_37 : At m_X9_read 37 (.iload_n 1) 1 38 := at_i (by decide +kernel) rfl
theorem a_X9_read_38 : At m_X9_read 38 (.invokevirtual 132) 3 41 := at_i (by decide +kernel) rfl
theorem a_X9_read_41 : At m_X9_read 41 (.isub) 1 42 := at_i (by decide +kernel) rfl
theorem a_X9_read_42 : AtJ m_X9_read 42 (.if_icmp .le 9) (9) 51 45 := at_j (by decide +kernel) (by decide) rfl
theorem a_X9_read_45 : At m_X9_read 45 (.aload_n 0) 1 46 := at_i (by decide +kernel) rfl
theorem a_X9_read_46 : At m_X9_read 46 (.iconst 4) 1 47 := at_i (by decide +kernel) rfl
theorem a_X9_read_47 : At m_X9_read 47 (.invokevirtual 79) 3 50 := at_i (by decide +kernel) rfl
theorem a_X9_read_50 : At m_X9_read 50 (.ireturn) 1 51 := at_i (by decide +kernel) rfl
theorem a_X9_read_51 : At m_X9_read 51 (.iconst 0) 1 52 := at_i (by decide +kernel) rfl
theorem a_X9_read_52 : At m_X9_read 52 (.istore_n 2) 1 53 := at_i (by decide +kernel) rfl
theorem a_X9_read_53 : At m_X9_read 53 (.iload_n 2) 1 54 := at_i (by decide +kernel) rfl
theorem a_X9_read_54 : At m_X9_read 54 (.iload_n 1) 1 55 := at_i (by decide +kernel) rfl
theorem a_X9_read_55 : AtJ m_X9_read 55 (.if_icmp .ge 20) (20) 75 58 := at_j (by decide +kernel) (by decide) rfl
theorem a_X9_read_58 : At m_X9_read 58 (.aload_n 0) 1 59 := at_i (by decide +kernel) rfl
theorem a_X9_read_59 : At m_X9_read 59 (.getfield 10) 3 62 := at_i (by decide +kernel) rfl
theorem a_X9_read_62 : At m_X9_read 62 (.aload_n 0) 1 63 := at_i (by decide +kernel) rfl
theorem a_X9_read_63 : At m_X9_read 63 (.getfield 25) 3 66 := at_i (by decide +kernel) rfl
theorem a_X9_read_66 : At m_X9_read 66 (.invokevirtual 135) 3 69 := at_i (by decide +kernel) rfl
theorem a_X9_read_69 : At m_X9_read 69 (.iinc 2 1) 3 72 := at_i (by decide +kernel) rfl
theorem a_X9_read_72 : AtJ m_X9_read 72 (.goto (-19)) (-19) 53 75 := at_j (by decide +kernel) (by decide) rfl
theorem a_X9_read_75 : At m_X9_read 75 (.aload_n 0) 1 76 := at_i (by decide +kernel) rfl
theorem a_X9_read_76 : At m_X9_read 76 (.getfield 10) 3 79 := at_i (by decide +kernel) rfl
theorem a_X9_read_79 : At m_X9_read 79 (.getfield 127) 3 82 := at_i (by decide +kernel) rfl
theorem a_X9_read_82 : At m_X9_read 82 (.ireturn) 1 83 := at_i (by decide +kernel) rfl
def f_X9_read_b53 (a1 : Int32)  (Q : Int32 → Mem → Prop)  (K53 : Int32 → Mem → Prop) (v2 : Int32) (h : Mem) : Prop :=
  if a1 ≤ v2 then (
    Q (h 1 7) h)
  else (
    f_X6_readOne 1 19 h fun h_14 =>
    ∀ v_15 : Int32, v_15 = v2 + (1 : Int32) →
    K53 v_15 h_14)
set_option maxRecDepth 20000 in
theorem t_X9_read_b53 (a1 : Int32)    (Q : Int32 → Mem → Prop)   : ∀ (n : Nat) (v2 : Int32) (h : Mem), gm_it1 (f_X9_read_b53 a1  Q ) n v2 h → EV m_X9_read (GI Q) 53 [(0, .ref 0), (1, .int a1), (2, .int v2)] [] h := by
  refine ge_loop1 (P := fun v2 h => EV m_X9_read (GI Q) 53 [(0, .ref 0), (1, .int a1), (2, .int v2)] [] h) (fun K53 hK53 v2 h hyp => ?_)
  unfold f_X9_read_b53 at hyp
  refine ge_iload_n a_X9_read_53 rfl 2 rfl ?_
  refine ge_iload_n a_X9_read_54 rfl 1 rfl ?_
  refine ge_icmp_ge a_X9_read_55 (fun c_13 => ?_) (fun c_13 => ?_)
  · have hyp := gm_ip hyp c_13
    refine ge_aload_n a_X9_read_75 rfl 0 rfl ?_
    refine ge_getR (q := 1) a_X9_read_76 fd_X9_10 (rfl : gm_cls 0 = 8) rfl ?_
    refine ge_getI a_X9_read_79 fd_X9_127 (rfl : gm_cls 1 = 5) ?_
    exact ge_iret rfl a_X9_read_82 hyp
  · have hyp := gm_in hyp c_13
    refine ge_aload_n a_X9_read_58 rfl 0 rfl ?_
    refine ge_getR (q := 1) a_X9_read_59 fd_X9_10 (rfl : gm_cls 0 = 8) rfl ?_
    refine ge_aload_n a_X9_read_62 rfl 0 rfl ?_
    refine ge_getR (q := 19) a_X9_read_63 fd_X9_25 (rfl : gm_cls 0 = 8) rfl ?_
    refine ge_cVV [.ref 19] (rest := []) a_X9_read_66 ok_X6_readOne lk_X9_135 ⟨Nat.le_of_ble_eq_true rfl, Nat.le_of_ble_eq_true rfl⟩ (rfl : gm_cls 1 = 5) vc_5 (by decide) rfl rfl (Nat.le_of_ble_eq_true rfl) (t_X6_readOne 1 19 (rfl : gm_cls 1 = 5) (rfl : gm_cls 19 = 0) h _ hyp) (fun h_14 hyp => ?_)
    obtain ⟨v_15, ev_15⟩ : ∃ y : Int32, y = v2 + (1 : Int32) := ⟨_, rfl⟩
    have hyp := hyp v_15 ev_15
    refine ge_iinc (v := v_15) (lv' := [(2, .int v_15), (0, .ref 0), (1, .int a1)]) a_X9_read_69 2 rfl ev_15.symm (Nat.le_of_ble_eq_true rfl) rfl ?_
    refine ge_goto a_X9_read_72 ?_
    exact ge_sub [1, 2, 0] rfl (hK53 v_15 h_14 hyp)
def f_X9_read (a1 : Int32) (h : Mem) (Q : Int32 → Mem → Prop) : Prop :=
  f_X9_isWithin a1 (1 : Int32) (12 : Int32) h fun r_2 h_1 =>
  if r_2 = 0 then (
    f_X9_finding (0 : Int32) h_1 fun r_19 h_18 =>
    Q r_19 h_18)
  else (
    f_X6_linesAhead 1 h_1 fun r_5 h_4 =>
    if r_5 < a1 then (
      f_X9_finding (4 : Int32) h_4 fun r_8 h_7 =>
      Q r_8 h_7)
    else (
      f_X9_takesAhead a1 h_4 fun r_10 h_9 =>
      ∀ v_11 : Int32, v_11 = (9999999 : Int32) - r_10 →
      if h_4 1 7 ≤ v_11 then (
        gm_it1 (f_X9_read_b53 a1  Q ) gm_F (0 : Int32) h_9)
      else (
        f_X9_finding (4 : Int32) h_9 fun r_17 h_16 =>
        Q r_17 h_16)))
set_option maxRecDepth 20000 in
theorem t_X9_read (a1 : Int32)  (h : Mem) (Q : Int32 → Mem → Prop) (hyp : f_X9_read a1 h Q) : Cn m_X9_read [.ref 0, .int a1] h (GI Q) := by
  refine ge_entry (lv := [(0, .ref 0), (1, .int a1)]) pn_X9 (Nat.le_of_ble_eq_true rfl) rfl ?_
  unfold f_X9_read at hyp
  refine ge_iload_n a_X9_read_0 rfl 1 rfl ?_
  refine ge_iconst (v := 1) a_X9_read_1 rfl ?_
  refine ge_bipush (v := 12) a_X9_read_2 rfl ?_
  refine ge_cSI [.int a1, .int (1 : Int32), .int (12 : Int32)] (rest := []) a_X9_read_4 ok_X9_isWithin lk_X9_75 ⟨Nat.le_of_ble_eq_true rfl, Nat.le_of_ble_eq_true rfl⟩ rfl rfl (Nat.le_of_ble_eq_true rfl) (t_X9_isWithin a1 (1 : Int32) (12 : Int32)  h _ hyp) (fun r_2 h_1 hyp => ?_)
  refine ge_if_ne a_X9_read_7 (fun c_3 => ?_) (fun c_3 => ?_)
  · have hyp := gm_in hyp c_3
    refine ge_iload_n a_X9_read_16 rfl 1 rfl ?_
    refine ge_aload_n a_X9_read_17 rfl 0 rfl ?_
    refine ge_getR (q := 1) a_X9_read_18 fd_X9_10 (rfl : gm_cls 0 = 8) rfl ?_
    refine ge_cVI [] (rest := [.int a1]) a_X9_read_21 ok_X6_linesAhead lk_X9_123 ⟨Nat.le_of_ble_eq_true rfl, Nat.le_of_ble_eq_true rfl⟩ (rfl : gm_cls 1 = 5) vc_5 (by decide) rfl rfl (Nat.le_of_ble_eq_true rfl) (t_X6_linesAhead 1 (rfl : gm_cls 1 = 5) h_1 _ hyp) (fun r_5 h_4 hyp => ?_)
    refine ge_icmp_gt a_X9_read_24 (fun c_6 => ?_) (fun c_6 => ?_)
    · have hyp := gm_ip hyp c_6
      refine ge_aload_n a_X9_read_45 rfl 0 rfl ?_
      refine ge_iconst (v := 4) a_X9_read_46 rfl ?_
      refine ge_cVI [.int (4 : Int32)] (rest := []) a_X9_read_47 ok_X9_finding lk_X9_79 ⟨Nat.le_of_ble_eq_true rfl, Nat.le_of_ble_eq_true rfl⟩ (rfl : gm_cls 0 = 8) vc_8 (by decide) rfl rfl (Nat.le_of_ble_eq_true rfl) (t_X9_finding (4 : Int32)  h_4 _ hyp) (fun r_8 h_7 hyp => ?_)
      exact ge_iret rfl a_X9_read_50 hyp
    · have hyp := gm_in hyp c_6
      refine ge_aload_n a_X9_read_27 rfl 0 rfl ?_
      refine ge_getR (q := 1) a_X9_read_28 fd_X9_10 (rfl : gm_cls 0 = 8) rfl ?_
      refine ge_getI a_X9_read_31 fd_X9_127 (rfl : gm_cls 1 = 5) ?_
      refine ge_ldc (v := 9999999) a_X9_read_34 ct_X9_131 ?_
      refine ge_aload_n a_X9_read_36 rfl 0 rfl ?_
      refine ge_iload_n a_X9_read_37 rfl 1 rfl ?_
      refine ge_cVI [.int a1] (rest := [.int (9999999 : Int32), .int (h_4 1 7)]) a_X9_read_38 ok_X9_takesAhead lk_X9_132 ⟨Nat.le_of_ble_eq_true rfl, Nat.le_of_ble_eq_true rfl⟩ (rfl : gm_cls 0 = 8) vc_8 (by decide) rfl rfl (Nat.le_of_ble_eq_true rfl) (t_X9_takesAhead a1  h_4 _ hyp) (fun r_10 h_9 hyp => ?_)
      refine ge_isub a_X9_read_41 ?_
      refine ge_topi (fun v_11 ev_11 => ?_)
      have hyp := hyp v_11 ev_11
      refine ge_icmp_le a_X9_read_42 (fun c_12 => ?_) (fun c_12 => ?_)
      · have hyp := gm_ip hyp c_12
        refine ge_iconst (v := 0) a_X9_read_51 rfl ?_
        refine ge_istore_n (lv' := [(2, .int (0 : Int32)), (0, .ref 0), (1, .int a1)]) a_X9_read_52 rfl (Nat.le_of_ble_eq_true rfl) rfl ?_
        exact ge_sub [1, 2, 0] rfl (t_X9_read_b53 a1    Q   gm_F (0 : Int32) h_9 hyp)
      · have hyp := gm_in hyp c_12
        refine ge_aload_n a_X9_read_45 rfl 0 rfl ?_
        refine ge_iconst (v := 4) a_X9_read_46 rfl ?_
        refine ge_cVI [.int (4 : Int32)] (rest := []) a_X9_read_47 ok_X9_finding lk_X9_79 ⟨Nat.le_of_ble_eq_true rfl, Nat.le_of_ble_eq_true rfl⟩ (rfl : gm_cls 0 = 8) vc_8 (by decide) rfl rfl (Nat.le_of_ble_eq_true rfl) (t_X9_finding (4 : Int32)  h_9 _ hyp) (fun r_17 h_16 hyp => ?_)
        exact ge_iret rfl a_X9_read_50 hyp
  · have hyp := gm_ip hyp c_3
    refine ge_aload_n a_X9_read_10 rfl 0 rfl ?_
    refine ge_iconst (v := 0) a_X9_read_11 rfl ?_
    refine ge_cVI [.int (0 : Int32)] (rest := []) a_X9_read_12 ok_X9_finding lk_X9_79 ⟨Nat.le_of_ble_eq_true rfl, Nat.le_of_ble_eq_true rfl⟩ (rfl : gm_cls 0 = 8) vc_8 (by decide) rfl rfl (Nat.le_of_ble_eq_true rfl) (t_X9_finding (0 : Int32)  h_1 _ hyp) (fun r_19 h_18 hyp => ?_)
    exact ge_iret rfl a_X9_read_15 hyp

theorem a_X9_go_0 : At m_X9_go 0 (.iload_n 1) 1 1 := at_i (by decide +kernel) rfl
theorem a_X9_go_1 : At m_X9_go 1 (.iconst 0) 1 2 := at_i (by decide +kernel) rfl
theorem a_X9_go_2 : At m_X9_go 2 (.aload_n 0) 1 3 := at_i (by decide +kernel) rfl
theorem a_X9_go_3 : At m_X9_go 3 (.getfield 10) 3 6 := at_i (by decide +kernel) rfl
theorem a_X9_go_6 : At m_X9_go 6 (.getfield 139) 3 9 := at_i (by decide +kernel) rfl
theorem a_X9_go_9 : At m_X9_go 9 (.invokestatic 75) 3 12 := at_i (by decide +kernel) rfl
theorem a_X9_go_12 : AtJ m_X9_go 12 (.ifCond .ne 9) (9) 21 15 := at_j (by decide +kernel) (by decide) rfl
theorem a_X9_go_15 : At m_X9_go 15 (.aload_n 0) 1 16 := at_i (by decide +kernel) rfl
theorem a_X9_go_16 : At m_X9_go 16 (.iconst 0) 1 17 := at_i (by decide +kernel) rfl
theorem a_X9_go_17 : At m_X9_go 17 (.invokevirtual 79) 3 20 := at_i (by decide +kernel) rfl
theorem a_X9_go_20 : At m_X9_go 20 (.ireturn) 1 21 := at_i (by decide +kernel) rfl
theorem a_X9_go_21 : At m_X9_go 21 (.aload_n 0) 1 22 := at_i (by decide +kernel) rfl
theorem a_X9_go_22 : At m_X9_go 22 (.getfield 10) 3 25 := at_i (by decide +kernel) rfl
theorem a_X9_go_25 : At m_X9_go 25 (.getfield 142) 3 28 := at_i (by decide +kernel) rfl
theorem a_X9_go_28 : At m_X9_go 28 (.istore_n 2) 1 29 := at_i (by decide +kernel) rfl
theorem a_X9_go_29 : At m_X9_go 29 (.aload_n 0) 1 30 := at_i (by decide +kernel) rfl
theorem a_X9_go_30 : At m_X9_go 30 (.getfield 10) 3 33 := at_i (by decide +kernel) rfl
theorem a_X9_go_33 : At m_X9_go 33 (.iload_n 1) 1 34 := at_i (by decide +kernel) rfl
theorem a_X9_go_34 : At m_X9_go 34 (.putfield 142) 3 37 := at_i (by decide +kernel) rfl
theorem a_X9_go_37 : At m_X9_go 37 (.iload_n 2) 1 38 := at_i (by decide +kernel) rfl
theorem a_X9_go_38 : At m_X9_go 38 (.ireturn) 1 39 := at_i (by decide +kernel) rfl
def f_X9_go (a1 : Int32) (h : Mem) (Q : Int32 → Mem → Prop) : Prop :=
  f_X9_isWithin a1 (0 : Int32) (h 1 5) h fun r_2 h_1 =>
  if r_2 = 0 then (
    f_X9_finding (0 : Int32) h_1 fun r_7 h_6 =>
    Q r_7 h_6)
  else (
    ∀ v_4 : Int32, v_4 = h_1 1 6 →
    ∀ h_5 : Mem, h_5 = gm_st h_1 1 6 a1 →
    Q v_4 h_5)
set_option maxRecDepth 20000 in
theorem t_X9_go (a1 : Int32)  (h : Mem) (Q : Int32 → Mem → Prop) (hyp : f_X9_go a1 h Q) : Cn m_X9_go [.ref 0, .int a1] h (GI Q) := by
  refine ge_entry (lv := [(0, .ref 0), (1, .int a1)]) pn_X9 (Nat.le_of_ble_eq_true rfl) rfl ?_
  unfold f_X9_go at hyp
  refine ge_iload_n a_X9_go_0 rfl 1 rfl ?_
  refine ge_iconst (v := 0) a_X9_go_1 rfl ?_
  refine ge_aload_n a_X9_go_2 rfl 0 rfl ?_
  refine ge_getR (q := 1) a_X9_go_3 fd_X9_10 (rfl : gm_cls 0 = 8) rfl ?_
  refine ge_getI a_X9_go_6 fd_X9_139 (rfl : gm_cls 1 = 5) ?_
  refine ge_cSI [.int a1, .int (0 : Int32), .int (h 1 5)] (rest := []) a_X9_go_9 ok_X9_isWithin lk_X9_75 ⟨Nat.le_of_ble_eq_true rfl, Nat.le_of_ble_eq_true rfl⟩ rfl rfl (Nat.le_of_ble_eq_true rfl) (t_X9_isWithin a1 (0 : Int32) (h 1 5)  h _ hyp) (fun r_2 h_1 hyp => ?_)
  refine ge_if_ne a_X9_go_12 (fun c_3 => ?_) (fun c_3 => ?_)
  · have hyp := gm_in hyp c_3
    refine ge_aload_n a_X9_go_21 rfl 0 rfl ?_
    refine ge_getR (q := 1) a_X9_go_22 fd_X9_10 (rfl : gm_cls 0 = 8) rfl ?_
    refine ge_getI a_X9_go_25 fd_X9_142 (rfl : gm_cls 1 = 5) ?_
    refine ge_topi (fun v_4 ev_4 => ?_)
    have hyp := hyp v_4 ev_4
    refine ge_istore_n (lv' := [(2, .int v_4), (0, .ref 0), (1, .int a1)]) a_X9_go_28 rfl (Nat.le_of_ble_eq_true rfl) rfl ?_
    refine ge_aload_n a_X9_go_29 rfl 1 rfl ?_
    refine ge_getR (q := 1) a_X9_go_30 fd_X9_10 (rfl : gm_cls 0 = 8) rfl ?_
    refine ge_iload_n a_X9_go_33 rfl 2 rfl ?_
    refine ge_putI a_X9_go_34 pd_X9_142 (rfl : gm_cls 1 = 5) ?_
    refine ge_nm (fun h_5 eh_5 => ?_)
    have hyp := hyp h_5 eh_5
    refine ge_iload_n a_X9_go_37 rfl 0 rfl ?_
    exact ge_iret rfl a_X9_go_38 hyp
  · have hyp := gm_ip hyp c_3
    refine ge_aload_n a_X9_go_15 rfl 0 rfl ?_
    refine ge_iconst (v := 0) a_X9_go_16 rfl ?_
    refine ge_cVI [.int (0 : Int32)] (rest := []) a_X9_go_17 ok_X9_finding lk_X9_79 ⟨Nat.le_of_ble_eq_true rfl, Nat.le_of_ble_eq_true rfl⟩ (rfl : gm_cls 0 = 8) vc_8 (by decide) rfl rfl (Nat.le_of_ble_eq_true rfl) (t_X9_finding (0 : Int32)  h_1 _ hyp) (fun r_7 h_6 hyp => ?_)
    exact ge_iret rfl a_X9_go_20 hyp

theorem a_X9_turn_0 : At m_X9_turn 0 (.aload_n 0) 1 1 := at_i (by decide +kernel) rfl
theorem a_X9_turn_1 : At m_X9_turn 1 (.getfield 10) 3 4 := at_i (by decide +kernel) rfl
theorem a_X9_turn_4 : At m_X9_turn 4 (.aload_n 0) 1 5 := at_i (by decide +kernel) rfl
theorem a_X9_turn_5 : At m_X9_turn 5 (.getfield 25) 3 8 := at_i (by decide +kernel) rfl
theorem a_X9_turn_8 : At m_X9_turn 8 (.invokevirtual 145) 3 11 := at_i (by decide +kernel) rfl
theorem a_X9_turn_11 : At m_X9_turn 11 (.aload_n 0) 1 12 := at_i (by decide +kernel) rfl
theorem a_X9_turn_12 : At m_X9_turn 12 (.getfield 10) 3 15 := at_i (by decide +kernel) rfl
theorem a_X9_turn_15 : At m_X9_turn 15 (.getfield 94) 3 18 := at_i (by decide +kernel) rfl
theorem a_X9_turn_18 : At m_X9_turn 18 (.iconst 0) 1 19 := at_i (by decide +kernel) rfl
theorem a_X9_turn_19 : At m_X9_turn 19 (.iaload) 1 20 := at_i (by decide +kernel) rfl
theorem a_X9_turn_20 : At m_X9_turn 20 (.ireturn) 1 21 := at_i (by decide +kernel) rfl
def f_X9_turn  (h : Mem) (Q : Int32 → Mem → Prop) : Prop :=
  f_X6_turnPaces 1 19 h fun h_1 =>
  Q (h_1 5 0) h_1
set_option maxRecDepth 20000 in
theorem t_X9_turn   (h : Mem) (Q : Int32 → Mem → Prop) (hyp : f_X9_turn  h Q) : Cn m_X9_turn [.ref 0] h (GI Q) := by
  refine ge_entry (lv := [(0, .ref 0)]) pn_X9 (Nat.le_of_ble_eq_true rfl) rfl ?_
  unfold f_X9_turn at hyp
  refine ge_aload_n a_X9_turn_0 rfl 0 rfl ?_
  refine ge_getR (q := 1) a_X9_turn_1 fd_X9_10 (rfl : gm_cls 0 = 8) rfl ?_
  refine ge_aload_n a_X9_turn_4 rfl 0 rfl ?_
  refine ge_getR (q := 19) a_X9_turn_5 fd_X9_25 (rfl : gm_cls 0 = 8) rfl ?_
  refine ge_cVV [.ref 19] (rest := []) a_X9_turn_8 ok_X6_turnPaces lk_X9_145 ⟨Nat.le_of_ble_eq_true rfl, Nat.le_of_ble_eq_true rfl⟩ (rfl : gm_cls 1 = 5) vc_5 (by decide) rfl rfl (Nat.le_of_ble_eq_true rfl) (t_X6_turnPaces 1 19 (rfl : gm_cls 1 = 5) (rfl : gm_cls 19 = 0) h _ hyp) (fun h_1 hyp => ?_)
  refine ge_aload_n a_X9_turn_11 rfl 0 rfl ?_
  refine ge_getR (q := 1) a_X9_turn_12 fd_X9_10 (rfl : gm_cls 0 = 8) rfl ?_
  refine ge_getR (q := 5) a_X9_turn_15 fd_X9_94 (rfl : gm_cls 1 = 5) rfl ?_
  refine ge_iconst (v := 0) a_X9_turn_18 rfl ?_
  refine ge_iald (j := 0) a_X9_turn_19 ga_5 li_0_10.1 li_0_10.2 ?_
  exact ge_iret rfl a_X9_turn_20 hyp

theorem a_X9_now_0 : At m_X9_now 0 (.iload_n 1) 1 1 := at_i (by decide +kernel) rfl
theorem a_X9_now_1 : decode cX9_now 1 = .ok (.tableswitch 63 0 3 #[31, 39, 47, 55], 31) := by decide +kernel
theorem a_X9_now_32 : At m_X9_now 32 (.aload_n 0) 1 33 := at_i (by decide +kernel) rfl
theorem a_X9_now_33 : At m_X9_now 33 (.getfield 10) 3 36 := at_i (by decide +kernel) rfl
theorem a_X9_now_36 : At m_X9_now 36 (.getfield 142) 3 39 := at_i (by decide +kernel) rfl
theorem a_X9_now_39 : At m_X9_now 39 (.ireturn) 1 40 := at_i (by decide +kernel) rfl
theorem a_X9_now_40 : At m_X9_now 40 (.aload_n 0) 1 41 := at_i (by decide +kernel) rfl
theorem a_X9_now_41 : At m_X9_now 41 (.getfield 10) 3 44 := at_i (by decide +kernel) rfl
theorem a_X9_now_44 : At m_X9_now 44 (.getfield 127) 3 47 := at_i (by decide +kernel) rfl
theorem a_X9_now_47 : At m_X9_now 47 (.ireturn) 1 48 := at_i (by decide +kernel) rfl
theorem a_X9_now_48 : At m_X9_now 48 (.aload_n 0) 1 49 := at_i (by decide +kernel) rfl
theorem a_X9_now_49 : At m_X9_now 49 (.getfield 10) 3 52 := at_i (by decide +kernel) rfl
theorem a_X9_now_52 : At m_X9_now 52 (.getfield 148) 3 55 := at_i (by decide +kernel) rfl
theorem a_X9_now_55 : At m_X9_now 55 (.ireturn) 1 56 := at_i (by decide +kernel) rfl
theorem a_X9_now_56 : At m_X9_now 56 (.aload_n 0) 1 57 := at_i (by decide +kernel) rfl
theorem a_X9_now_57 : At m_X9_now 57 (.getfield 10) 3 60 := at_i (by decide +kernel) rfl
theorem a_X9_now_60 : At m_X9_now 60 (.getfield 151) 3 63 := at_i (by decide +kernel) rfl
theorem a_X9_now_63 : At m_X9_now 63 (.ireturn) 1 64 := at_i (by decide +kernel) rfl
theorem a_X9_now_64 : At m_X9_now 64 (.aload_n 0) 1 65 := at_i (by decide +kernel) rfl
theorem a_X9_now_65 : At m_X9_now 65 (.iconst 0) 1 66 := at_i (by decide +kernel) rfl
theorem a_X9_now_66 : At m_X9_now 66 (.invokevirtual 79) 3 69 := at_i (by decide +kernel) rfl
theorem a_X9_now_69 : At m_X9_now 69 (.ireturn) 1 70 := at_i (by decide +kernel) rfl
def f_X9_now (a1 : Int32) (h : Mem) (Q : Int32 → Mem → Prop) : Prop :=
  if a1 = 0 then (
    Q (h 1 6) h)
  else (
  if a1 = 1 then (
    Q (h 1 7) h)
  else (
  if a1 = 2 then (
    Q (h 1 8) h)
  else (
  if a1 = 3 then (
    Q (h 1 9) h)
  else (
    f_X9_finding (0 : Int32) h fun r_6 h_5 =>
    Q r_6 h_5))))
set_option maxRecDepth 20000 in
theorem t_X9_now (a1 : Int32)  (h : Mem) (Q : Int32 → Mem → Prop) (hyp : f_X9_now a1 h Q) : Cn m_X9_now [.ref 0, .int a1] h (GI Q) := by
  refine ge_entry (lv := [(0, .ref 0), (1, .int a1)]) pn_X9 (Nat.le_of_ble_eq_true rfl) rfl ?_
  unfold f_X9_now at hyp
  refine ge_iload_n a_X9_now_0 rfl 1 rfl ?_
  refine ge_sw (dt := 64) [(0, 32), (1, 40), (2, 48), (3, 56)] a_X9_now_1 (by decide +kernel) (by decide) ?_
  refine ge_ite (fun c_1 => ?_) (fun c_1 => ?_)
  · have hyp := gm_ip hyp c_1
    refine ge_aload_n a_X9_now_32 rfl 0 rfl ?_
    refine ge_getR (q := 1) a_X9_now_33 fd_X9_10 (rfl : gm_cls 0 = 8) rfl ?_
    refine ge_getI a_X9_now_36 fd_X9_142 (rfl : gm_cls 1 = 5) ?_
    exact ge_iret rfl a_X9_now_39 hyp
  have hyp := gm_in hyp c_1
  refine ge_ite (fun c_2 => ?_) (fun c_2 => ?_)
  · have hyp := gm_ip hyp c_2
    refine ge_aload_n a_X9_now_40 rfl 0 rfl ?_
    refine ge_getR (q := 1) a_X9_now_41 fd_X9_10 (rfl : gm_cls 0 = 8) rfl ?_
    refine ge_getI a_X9_now_44 fd_X9_127 (rfl : gm_cls 1 = 5) ?_
    exact ge_iret rfl a_X9_now_47 hyp
  have hyp := gm_in hyp c_2
  refine ge_ite (fun c_3 => ?_) (fun c_3 => ?_)
  · have hyp := gm_ip hyp c_3
    refine ge_aload_n a_X9_now_48 rfl 0 rfl ?_
    refine ge_getR (q := 1) a_X9_now_49 fd_X9_10 (rfl : gm_cls 0 = 8) rfl ?_
    refine ge_getI a_X9_now_52 fd_X9_148 (rfl : gm_cls 1 = 5) ?_
    exact ge_iret rfl a_X9_now_55 hyp
  have hyp := gm_in hyp c_3
  refine ge_ite (fun c_4 => ?_) (fun c_4 => ?_)
  · have hyp := gm_ip hyp c_4
    refine ge_aload_n a_X9_now_56 rfl 0 rfl ?_
    refine ge_getR (q := 1) a_X9_now_57 fd_X9_10 (rfl : gm_cls 0 = 8) rfl ?_
    refine ge_getI a_X9_now_60 fd_X9_151 (rfl : gm_cls 1 = 5) ?_
    exact ge_iret rfl a_X9_now_63 hyp
  have hyp := gm_in hyp c_4
  show EV _ _ 64 _ _ _
  refine ge_aload_n a_X9_now_64 rfl 0 rfl ?_
  refine ge_iconst (v := 0) a_X9_now_65 rfl ?_
  refine ge_cVI [.int (0 : Int32)] (rest := []) a_X9_now_66 ok_X9_finding lk_X9_79 ⟨Nat.le_of_ble_eq_true rfl, Nat.le_of_ble_eq_true rfl⟩ (rfl : gm_cls 0 = 8) vc_8 (by decide) rfl rfl (Nat.le_of_ble_eq_true rfl) (t_X9_finding (0 : Int32)  h _ hyp) (fun r_6 h_5 hyp => ?_)
  exact ge_iret rfl a_X9_now_69 hyp

theorem a_X9_rest_0 : At m_X9_rest 0 (.iload_n 1) 1 1 := at_i (by decide +kernel) rfl
theorem a_X9_rest_1 : At m_X9_rest 1 (.iconst 0) 1 2 := at_i (by decide +kernel) rfl
theorem a_X9_rest_2 : At m_X9_rest 2 (.iconst 4) 1 3 := at_i (by decide +kernel) rfl
theorem a_X9_rest_3 : At m_X9_rest 3 (.invokestatic 75) 3 6 := at_i (by decide +kernel) rfl
theorem a_X9_rest_6 : AtJ m_X9_rest 6 (.ifCond .ne 9) (9) 15 9 := at_j (by decide +kernel) (by decide) rfl
theorem a_X9_rest_9 : At m_X9_rest 9 (.aload_n 0) 1 10 := at_i (by decide +kernel) rfl
theorem a_X9_rest_10 : At m_X9_rest 10 (.iconst 0) 1 11 := at_i (by decide +kernel) rfl
theorem a_X9_rest_11 : At m_X9_rest 11 (.invokevirtual 79) 3 14 := at_i (by decide +kernel) rfl
theorem a_X9_rest_14 : At m_X9_rest 14 (.ireturn) 1 15 := at_i (by decide +kernel) rfl
theorem a_X9_rest_15 : At m_X9_rest 15 (.iload_n 1) 1 16 := at_i (by decide +kernel) rfl
theorem a_X9_rest_16 : At m_X9_rest 16 (.iconst 1) 1 17 := at_i (by decide +kernel) rfl
theorem a_X9_rest_17 : AtJ m_X9_rest 17 (.if_icmp .ne 11) (11) 28 20 := at_j (by decide +kernel) (by decide) rfl
theorem a_X9_rest_20 : At m_X9_rest 20 (.aload_n 0) 1 21 := at_i (by decide +kernel) rfl
theorem a_X9_rest_21 : At m_X9_rest 21 (.getfield 10) 3 24 := at_i (by decide +kernel) rfl
theorem a_X9_rest_24 : At m_X9_rest 24 (.invokevirtual 154) 3 27 := at_i (by decide +kernel) rfl
theorem a_X9_rest_27 : At m_X9_rest 27 (.ireturn) 1 28 := at_i (by decide +kernel) rfl
theorem a_X9_rest_28 : At m_X9_rest 28 (.iload_n 1) 1 29 := at_i (by decide +kernel) rfl
theorem a_X9_rest_29 : At m_X9_rest 29 (.iconst 2) 1 30 := at_i (by decide +kernel) rfl
theorem a_X9_rest_30 : AtJ m_X9_rest 30 (.if_icmp .ne 11) (11) 41 33 := at_j (by decide +kernel) (by decide) rfl
theorem a_X9_rest_33 : At m_X9_rest 33 (.aload_n 0) 1 34 := at_i (by decide +kernel) rfl
theorem a_X9_rest_34 : At m_X9_rest 34 (.getfield 10) 3 37 := at_i (by decide +kernel) rfl
theorem a_X9_rest_37 : At m_X9_rest 37 (.invokevirtual 157) 3 40 := at_i (by decide +kernel) rfl
theorem a_X9_rest_40 : At m_X9_rest 40 (.ireturn) 1 41 := at_i (by decide +kernel) rfl
theorem a_X9_rest_41 : At m_X9_rest 41 (.aload_n 0) 1 42 := at_i (by decide +kernel) rfl
theorem a_X9_rest_42 : At m_X9_rest 42 (.aload_n 0) 1 43 := at_i (by decide +kernel) rfl
theorem a_X9_rest_43 : At m_X9_rest 43 (.getfield 10) 3 46 := at_i (by decide +kernel) rfl
theorem a_X9_rest_46 : At m_X9_rest 46 (.invokevirtual 123) 3 49 := at_i (by decide +kernel) rfl
theorem a_X9_rest_49 : At m_X9_rest 49 (.invokevirtual 132) 3 52 := at_i (by decide +kernel) rfl
theorem a_X9_rest_52 : At m_X9_rest 52 (.istore_n 2) 1 53 := at_i (by decide +kernel) rfl
theorem a_X9_rest_53 : At m_X9_rest 53 (.iload_n 1) 1 54 := at_i (by decide +kernel) rfl
theorem a_X9_rest_54 : AtJ m_X9_rest 54 (.ifCond .ne 5) (5) 59 57 := at_j (by decide +kernel) (by decide) rfl
theorem a_X9_rest_57 : At m_X9_rest 57 (.iload_n 2) 1 58 := at_i (by decide +kernel) rfl
theorem a_X9_rest_58 : At m_X9_rest 58 (.ireturn) 1 59 := at_i (by decide +kernel) rfl
theorem a_X9_rest_59 : At m_X9_rest 59 (.iload_n 1) 1 60 := at_i (by decide +kernel) rfl
theorem a_X9_rest_60 : At m_X9_rest 60 (.iconst 3) 1 61 := at_i (by decide +kernel) rfl
theorem a_X9_rest_61 : AtJ m_X9_rest 61 (.if_icmp .ne 13) (13) 74 64 := at_j (by decide +kernel) (by decide) rfl
theorem a_X9_rest_64 : At m_X9_rest 64 (.aload_n 0) 1 65 := at_i (by decide +kernel) rfl
theorem a_X9_rest_65 : At m_X9_rest 65 (.getfield 25) 3 68 := at_i (by decide +kernel) rfl
theorem a_X9_rest_68 : At m_X9_rest 68 (.getfield 160) 3 71 := at_i (by decide +kernel) rfl
theorem a_X9_rest_71 : AtJ m_X9_rest 71 (.goto 10) (10) 81 74 := at_j (by decide +kernel) (by decide) rfl
theorem a_X9_rest_74 : At m_X9_rest 74 (.aload_n 0) 1 75 := at_i (by decide +kernel) rfl
theorem a_X9_rest_75 : At m_X9_rest 75 (.getfield 25) 3 78 := at_i (by decide +kernel) rfl
theorem a_X9_rest_78 : At m_X9_rest 78 (.getfield 163) 3 81 := at_i (by decide +kernel) rfl
theorem a_X9_rest_81 : At m_X9_rest 81 (.ireturn) 1 82 := at_i (by decide +kernel) rfl
def f_X9_rest (a1 : Int32) (h : Mem) (Q : Int32 → Mem → Prop) : Prop :=
  f_X9_isWithin a1 (0 : Int32) (4 : Int32) h fun r_2 h_1 =>
  if r_2 = 0 then (
    f_X9_finding (0 : Int32) h_1 fun r_17 h_16 =>
    Q r_17 h_16)
  else (
    if a1 = (1 : Int32) then (
      f_X6_tripsAhead 1 h_1 fun r_15 h_14 =>
      Q r_15 h_14)
    else (
      if a1 = (2 : Int32) then (
        f_X6_seenAhead 1 h_1 fun r_13 h_12 =>
        Q r_13 h_12)
      else (
        f_X6_linesAhead 1 h_1 fun r_7 h_6 =>
        f_X9_takesAhead r_7 h_6 fun r_9 h_8 =>
        if a1 = 0 then (
          Q r_9 h_8)
        else (
          if a1 = (3 : Int32) then (
            Q (h_8 19 0) h_8)
          else (
            Q (h_8 19 1) h_8)))))
set_option maxRecDepth 20000 in
theorem t_X9_rest (a1 : Int32)  (h : Mem) (Q : Int32 → Mem → Prop) (hyp : f_X9_rest a1 h Q) : Cn m_X9_rest [.ref 0, .int a1] h (GI Q) := by
  refine ge_entry (lv := [(0, .ref 0), (1, .int a1)]) pn_X9 (Nat.le_of_ble_eq_true rfl) rfl ?_
  unfold f_X9_rest at hyp
  refine ge_iload_n a_X9_rest_0 rfl 1 rfl ?_
  refine ge_iconst (v := 0) a_X9_rest_1 rfl ?_
  refine ge_iconst (v := 4) a_X9_rest_2 rfl ?_
  refine ge_cSI [.int a1, .int (0 : Int32), .int (4 : Int32)] (rest := []) a_X9_rest_3 ok_X9_isWithin lk_X9_75 ⟨Nat.le_of_ble_eq_true rfl, Nat.le_of_ble_eq_true rfl⟩ rfl rfl (Nat.le_of_ble_eq_true rfl) (t_X9_isWithin a1 (0 : Int32) (4 : Int32)  h _ hyp) (fun r_2 h_1 hyp => ?_)
  refine ge_if_ne a_X9_rest_6 (fun c_3 => ?_) (fun c_3 => ?_)
  · have hyp := gm_in hyp c_3
    refine ge_iload_n a_X9_rest_15 rfl 1 rfl ?_
    refine ge_iconst (v := 1) a_X9_rest_16 rfl ?_
    refine ge_icmp_ne a_X9_rest_17 (fun c_4 => ?_) (fun c_4 => ?_)
    · have hyp := gm_in hyp c_4
      refine ge_iload_n a_X9_rest_28 rfl 1 rfl ?_
      refine ge_iconst (v := 2) a_X9_rest_29 rfl ?_
      refine ge_icmp_ne a_X9_rest_30 (fun c_5 => ?_) (fun c_5 => ?_)
      · have hyp := gm_in hyp c_5
        refine ge_aload_n a_X9_rest_41 rfl 0 rfl ?_
        refine ge_aload_n a_X9_rest_42 rfl 0 rfl ?_
        refine ge_getR (q := 1) a_X9_rest_43 fd_X9_10 (rfl : gm_cls 0 = 8) rfl ?_
        refine ge_cVI [] (rest := [.ref 0]) a_X9_rest_46 ok_X6_linesAhead lk_X9_123 ⟨Nat.le_of_ble_eq_true rfl, Nat.le_of_ble_eq_true rfl⟩ (rfl : gm_cls 1 = 5) vc_5 (by decide) rfl rfl (Nat.le_of_ble_eq_true rfl) (t_X6_linesAhead 1 (rfl : gm_cls 1 = 5) h_1 _ hyp) (fun r_7 h_6 hyp => ?_)
        refine ge_cVI [.int r_7] (rest := []) a_X9_rest_49 ok_X9_takesAhead lk_X9_132 ⟨Nat.le_of_ble_eq_true rfl, Nat.le_of_ble_eq_true rfl⟩ (rfl : gm_cls 0 = 8) vc_8 (by decide) rfl rfl (Nat.le_of_ble_eq_true rfl) (t_X9_takesAhead r_7  h_6 _ hyp) (fun r_9 h_8 hyp => ?_)
        refine ge_istore_n (lv' := [(2, .int r_9), (0, .ref 0), (1, .int a1)]) a_X9_rest_52 rfl (Nat.le_of_ble_eq_true rfl) rfl ?_
        refine ge_iload_n a_X9_rest_53 rfl 2 rfl ?_
        refine ge_if_ne a_X9_rest_54 (fun c_10 => ?_) (fun c_10 => ?_)
        · have hyp := gm_in hyp c_10
          refine ge_iload_n a_X9_rest_59 rfl 2 rfl ?_
          refine ge_iconst (v := 3) a_X9_rest_60 rfl ?_
          refine ge_icmp_ne a_X9_rest_61 (fun c_11 => ?_) (fun c_11 => ?_)
          · have hyp := gm_in hyp c_11
            refine ge_aload_n a_X9_rest_74 rfl 1 rfl ?_
            refine ge_getR (q := 19) a_X9_rest_75 fd_X9_25 (rfl : gm_cls 0 = 8) rfl ?_
            refine ge_getI a_X9_rest_78 fd_X9_163 (rfl : gm_cls 19 = 0) ?_
            exact ge_iret rfl a_X9_rest_81 hyp
          · have hyp := gm_ip hyp c_11
            refine ge_aload_n a_X9_rest_64 rfl 1 rfl ?_
            refine ge_getR (q := 19) a_X9_rest_65 fd_X9_25 (rfl : gm_cls 0 = 8) rfl ?_
            refine ge_getI a_X9_rest_68 fd_X9_160 (rfl : gm_cls 19 = 0) ?_
            refine ge_goto a_X9_rest_71 ?_
            exact ge_iret rfl a_X9_rest_81 hyp
        · have hyp := gm_ip hyp c_10
          refine ge_iload_n a_X9_rest_57 rfl 0 rfl ?_
          exact ge_iret rfl a_X9_rest_58 hyp
      · have hyp := gm_ip hyp c_5
        refine ge_aload_n a_X9_rest_33 rfl 0 rfl ?_
        refine ge_getR (q := 1) a_X9_rest_34 fd_X9_10 (rfl : gm_cls 0 = 8) rfl ?_
        refine ge_cVI [] (rest := []) a_X9_rest_37 ok_X6_seenAhead lk_X9_157 ⟨Nat.le_of_ble_eq_true rfl, Nat.le_of_ble_eq_true rfl⟩ (rfl : gm_cls 1 = 5) vc_5 (by decide) rfl rfl (Nat.le_of_ble_eq_true rfl) (t_X6_seenAhead 1 (rfl : gm_cls 1 = 5) h_1 _ hyp) (fun r_13 h_12 hyp => ?_)
        exact ge_iret rfl a_X9_rest_40 hyp
    · have hyp := gm_ip hyp c_4
      refine ge_aload_n a_X9_rest_20 rfl 0 rfl ?_
      refine ge_getR (q := 1) a_X9_rest_21 fd_X9_10 (rfl : gm_cls 0 = 8) rfl ?_
      refine ge_cVI [] (rest := []) a_X9_rest_24 ok_X6_tripsAhead lk_X9_154 ⟨Nat.le_of_ble_eq_true rfl, Nat.le_of_ble_eq_true rfl⟩ (rfl : gm_cls 1 = 5) vc_5 (by decide) rfl rfl (Nat.le_of_ble_eq_true rfl) (t_X6_tripsAhead 1 (rfl : gm_cls 1 = 5) h_1 _ hyp) (fun r_15 h_14 hyp => ?_)
      exact ge_iret rfl a_X9_rest_27 hyp
  · have hyp := gm_ip hyp c_3
    refine ge_aload_n a_X9_rest_9 rfl 0 rfl ?_
    refine ge_iconst (v := 0) a_X9_rest_10 rfl ?_
    refine ge_cVI [.int (0 : Int32)] (rest := []) a_X9_rest_11 ok_X9_finding lk_X9_79 ⟨Nat.le_of_ble_eq_true rfl, Nat.le_of_ble_eq_true rfl⟩ (rfl : gm_cls 0 = 8) vc_8 (by decide) rfl rfl (Nat.le_of_ble_eq_true rfl) (t_X9_finding (0 : Int32)  h_1 _ hyp) (fun r_17 h_16 hyp => ?_)
    exact ge_iret rfl a_X9_rest_14 hyp

theorem a_X9_pace_0 : At m_X9_pace 0 (.iload_n 1) 1 1 := at_i (by decide +kernel) rfl
theorem a_X9_pace_1 : At m_X9_pace 1 (.iconst 0) 1 2 := at_i (by decide +kernel) rfl
theorem a_X9_pace_2 : At m_X9_pace 2 (.sipush 200) 3 5 := at_i (by decide +kernel) rfl
theorem a_X9_pace_5 : At m_X9_pace 5 (.invokestatic 75) 3 8 := at_i (by decide +kernel) rfl
theorem a_X9_pace_8 : AtJ m_X9_pace 8 (.ifCond .eq 12) (12) 20 11 := at_j (by decide +kernel) (by decide) rfl
theorem a_X9_pace_11 : At m_X9_pace 11 (.iload_n 2) 1 12 := at_i (by decide +kernel) rfl
theorem a_X9_pace_12 : At m_X9_pace 12 (.iconst 0) 1 13 := at_i (by decide +kernel) rfl
theorem a_X9_pace_13 : At m_X9_pace 13 (.iconst 1) 1 14 := at_i (by decide +kernel) rfl
theorem a_X9_pace_14 : At m_X9_pace 14 (.invokestatic 75) 3 17 := at_i (by decide +kernel) rfl
theorem a_X9_pace_17 : AtJ m_X9_pace 17 (.ifCond .ne 9) (9) 26 20 := at_j (by decide +kernel) (by decide) rfl
theorem a_X9_pace_20 : At m_X9_pace 20 (.aload_n 0) 1 21 := at_i (by decide +kernel) rfl
theorem a_X9_pace_21 : At m_X9_pace 21 (.iconst 0) 1 22 := at_i (by decide +kernel) rfl
theorem a_X9_pace_22 : At m_X9_pace 22 (.invokevirtual 79) 3 25 := at_i (by decide +kernel) rfl
theorem a_X9_pace_25 : At m_X9_pace 25 (.ireturn) 1 26 := at_i (by decide +kernel) rfl
theorem a_X9_pace_26 : At m_X9_pace 26 (.aload_n 0) 1 27 := at_i (by decide +kernel) rfl
theorem a_X9_pace_27 : At m_X9_pace 27 (.getfield 25) 3 30 := at_i (by decide +kernel) rfl
theorem a_X9_pace_30 : At m_X9_pace 30 (.aload_n 0) 1 31 := at_i (by decide +kernel) rfl
theorem a_X9_pace_31 : At m_X9_pace 31 (.getfield 10) 3 34 := at_i (by decide +kernel) rfl
theorem a_X9_pace_34 : At m_X9_pace 34 (.getfield 94) 3 37 := at_i (by decide +kernel) rfl
theorem a_X9_pace_37 : At m_X9_pace 37 (.invokevirtual 166) 3 40 := at_i (by decide +kernel) rfl
theorem a_X9_pace_40 : At m_X9_pace 40 (.aload_n 0) 1 41 := at_i (by decide +kernel) rfl
theorem a_X9_pace_41 : At m_X9_pace 41 (.getfield 25) 3 44 := at_i (by decide +kernel) rfl
theorem a_X9_pace_44 : At m_X9_pace 44 (.iload_n 1) 1 45 := at_i (by decide +kernel) rfl
theorem a_X9_pace_45 : At m_X9_pace 45 (.invokevirtual 170) 3 48 := at_i (by decide +kernel) rfl
theorem a_X9_pace_48 : At m_X9_pace 48 (.iload_n 2) 1 49 := at_i (by decide +kernel) rfl
theorem a_X9_pace_49 : AtJ m_X9_pace 49 (.ifCond .ne 13) (13) 62 52 := at_j (by decide +kernel) (by decide) rfl
theorem a_X9_pace_52 : At m_X9_pace 52 (.aload_n 0) 1 53 := at_i (by decide +kernel) rfl
theorem a_X9_pace_53 : At m_X9_pace 53 (.getfield 25) 3 56 := at_i (by decide +kernel) rfl
theorem a_X9_pace_56 : At m_X9_pace 56 (.getfield 160) 3 59 := at_i (by decide +kernel) rfl
theorem a_X9_pace_59 : AtJ m_X9_pace 59 (.goto 10) (10) 69 62 := at_j (by decide +kernel) (by decide) rfl
theorem a_X9_pace_62 : At m_X9_pace 62 (.aload_n 0) 1 63 := at_i (by decide +kernel) rfl
theorem a_X9_pace_63 : At m_X9_pace 63 (.getfield 25) 3 66 := at_i (by decide +kernel) rfl
theorem a_X9_pace_66 : At m_X9_pace 66 (.getfield 163) 3 69 := at_i (by decide +kernel) rfl
theorem a_X9_pace_69 : At m_X9_pace 69 (.ireturn) 1 70 := at_i (by decide +kernel) rfl
def f_X9_pace (a1 : Int32) (a2 : Int32) (h : Mem) (Q : Int32 → Mem → Prop) : Prop :=
  f_X9_isWithin a1 (0 : Int32) (200 : Int32) h fun r_2 h_1 =>
  if r_2 = 0 then (
    f_X9_finding (0 : Int32) h_1 fun r_5 h_4 =>
    Q r_5 h_4)
  else (
    f_X9_isWithin a2 (0 : Int32) (1 : Int32) h_1 fun r_7 h_6 =>
    if r_7 = 0 then (
      f_X9_finding (0 : Int32) h_6 fun r_13 h_12 =>
      Q r_13 h_12)
    else (
      f_X1_takeFrom 19 5 10 h_6 fun h_9 =>
      f_X1_step 19 a1 h_9 fun h_10 =>
      if a2 = 0 then (
        Q (h_10 19 0) h_10)
      else (
        Q (h_10 19 1) h_10)))
set_option maxRecDepth 20000 in
theorem t_X9_pace (a1 : Int32) (a2 : Int32)  (h : Mem) (Q : Int32 → Mem → Prop) (hyp : f_X9_pace a1 a2 h Q) : Cn m_X9_pace [.ref 0, .int a1, .int a2] h (GI Q) := by
  refine ge_entry (lv := [(0, .ref 0), (1, .int a1), (2, .int a2)]) pn_X9 (Nat.le_of_ble_eq_true rfl) rfl ?_
  unfold f_X9_pace at hyp
  refine ge_iload_n a_X9_pace_0 rfl 1 rfl ?_
  refine ge_iconst (v := 0) a_X9_pace_1 rfl ?_
  refine ge_sipush (v := 200) a_X9_pace_2 rfl ?_
  refine ge_cSI [.int a1, .int (0 : Int32), .int (200 : Int32)] (rest := []) a_X9_pace_5 ok_X9_isWithin lk_X9_75 ⟨Nat.le_of_ble_eq_true rfl, Nat.le_of_ble_eq_true rfl⟩ rfl rfl (Nat.le_of_ble_eq_true rfl) (t_X9_isWithin a1 (0 : Int32) (200 : Int32)  h _ hyp) (fun r_2 h_1 hyp => ?_)
  refine ge_if_eq a_X9_pace_8 (fun c_3 => ?_) (fun c_3 => ?_)
  · have hyp := gm_ip hyp c_3
    refine ge_aload_n a_X9_pace_20 rfl 0 rfl ?_
    refine ge_iconst (v := 0) a_X9_pace_21 rfl ?_
    refine ge_cVI [.int (0 : Int32)] (rest := []) a_X9_pace_22 ok_X9_finding lk_X9_79 ⟨Nat.le_of_ble_eq_true rfl, Nat.le_of_ble_eq_true rfl⟩ (rfl : gm_cls 0 = 8) vc_8 (by decide) rfl rfl (Nat.le_of_ble_eq_true rfl) (t_X9_finding (0 : Int32)  h_1 _ hyp) (fun r_5 h_4 hyp => ?_)
    exact ge_iret rfl a_X9_pace_25 hyp
  · have hyp := gm_in hyp c_3
    refine ge_iload_n a_X9_pace_11 rfl 2 rfl ?_
    refine ge_iconst (v := 0) a_X9_pace_12 rfl ?_
    refine ge_iconst (v := 1) a_X9_pace_13 rfl ?_
    refine ge_cSI [.int a2, .int (0 : Int32), .int (1 : Int32)] (rest := []) a_X9_pace_14 ok_X9_isWithin lk_X9_75 ⟨Nat.le_of_ble_eq_true rfl, Nat.le_of_ble_eq_true rfl⟩ rfl rfl (Nat.le_of_ble_eq_true rfl) (t_X9_isWithin a2 (0 : Int32) (1 : Int32)  h_1 _ hyp) (fun r_7 h_6 hyp => ?_)
    refine ge_if_ne a_X9_pace_17 (fun c_8 => ?_) (fun c_8 => ?_)
    · have hyp := gm_in hyp c_8
      refine ge_aload_n a_X9_pace_26 rfl 0 rfl ?_
      refine ge_getR (q := 19) a_X9_pace_27 fd_X9_25 (rfl : gm_cls 0 = 8) rfl ?_
      refine ge_aload_n a_X9_pace_30 rfl 0 rfl ?_
      refine ge_getR (q := 1) a_X9_pace_31 fd_X9_10 (rfl : gm_cls 0 = 8) rfl ?_
      refine ge_getR (q := 5) a_X9_pace_34 fd_X9_94 (rfl : gm_cls 1 = 5) rfl ?_
      refine ge_cVV [.ref 5] (rest := []) a_X9_pace_37 ok_X1_takeFrom lk_X9_166 ⟨Nat.le_of_ble_eq_true rfl, Nat.le_of_ble_eq_true rfl⟩ (rfl : gm_cls 19 = 0) vc_0 (by decide) rfl rfl (Nat.le_of_ble_eq_true rfl) (t_X1_takeFrom 19 5 10 (rfl : gm_cls 19 = 0) ga_5 h_6 _ hyp) (fun h_9 hyp => ?_)
      refine ge_aload_n a_X9_pace_40 rfl 0 rfl ?_
      refine ge_getR (q := 19) a_X9_pace_41 fd_X9_25 (rfl : gm_cls 0 = 8) rfl ?_
      refine ge_iload_n a_X9_pace_44 rfl 1 rfl ?_
      refine ge_cVV [.int a1] (rest := []) a_X9_pace_45 ok_X1_step lk_X9_170 ⟨Nat.le_of_ble_eq_true rfl, Nat.le_of_ble_eq_true rfl⟩ (rfl : gm_cls 19 = 0) vc_0 (by decide) rfl rfl (Nat.le_of_ble_eq_true rfl) (t_X1_step 19 a1 (rfl : gm_cls 19 = 0) h_9 _ hyp) (fun h_10 hyp => ?_)
      refine ge_iload_n a_X9_pace_48 rfl 2 rfl ?_
      refine ge_if_ne a_X9_pace_49 (fun c_11 => ?_) (fun c_11 => ?_)
      · have hyp := gm_in hyp c_11
        refine ge_aload_n a_X9_pace_62 rfl 0 rfl ?_
        refine ge_getR (q := 19) a_X9_pace_63 fd_X9_25 (rfl : gm_cls 0 = 8) rfl ?_
        refine ge_getI a_X9_pace_66 fd_X9_163 (rfl : gm_cls 19 = 0) ?_
        exact ge_iret rfl a_X9_pace_69 hyp
      · have hyp := gm_ip hyp c_11
        refine ge_aload_n a_X9_pace_52 rfl 0 rfl ?_
        refine ge_getR (q := 19) a_X9_pace_53 fd_X9_25 (rfl : gm_cls 0 = 8) rfl ?_
        refine ge_getI a_X9_pace_56 fd_X9_160 (rfl : gm_cls 19 = 0) ?_
        refine ge_goto a_X9_pace_59 ?_
        exact ge_iret rfl a_X9_pace_69 hyp
    · have hyp := gm_ip hyp c_8
      refine ge_aload_n a_X9_pace_20 rfl 0 rfl ?_
      refine ge_iconst (v := 0) a_X9_pace_21 rfl ?_
      refine ge_cVI [.int (0 : Int32)] (rest := []) a_X9_pace_22 ok_X9_finding lk_X9_79 ⟨Nat.le_of_ble_eq_true rfl, Nat.le_of_ble_eq_true rfl⟩ (rfl : gm_cls 0 = 8) vc_8 (by decide) rfl rfl (Nat.le_of_ble_eq_true rfl) (t_X9_finding (0 : Int32)  h_6 _ hyp) (fun r_13 h_12 hyp => ?_)
      exact ge_iret rfl a_X9_pace_25 hyp

theorem a_X9_sign_0 : At m_X9_sign 0 (.aload_n 0) 1 1 := at_i (by decide +kernel) rfl
theorem a_X9_sign_1 : At m_X9_sign 1 (.getfield 25) 3 4 := at_i (by decide +kernel) rfl
theorem a_X9_sign_4 : At m_X9_sign 4 (.aload_n 0) 1 5 := at_i (by decide +kernel) rfl
theorem a_X9_sign_5 : At m_X9_sign 5 (.getfield 10) 3 8 := at_i (by decide +kernel) rfl
theorem a_X9_sign_8 : At m_X9_sign 8 (.getfield 94) 3 11 := at_i (by decide +kernel) rfl
theorem a_X9_sign_11 : At m_X9_sign 11 (.invokevirtual 166) 3 14 := at_i (by decide +kernel) rfl
theorem a_X9_sign_14 : At m_X9_sign 14 (.aload_n 0) 1 15 := at_i (by decide +kernel) rfl
theorem a_X9_sign_15 : At m_X9_sign 15 (.getfield 25) 3 18 := at_i (by decide +kernel) rfl
theorem a_X9_sign_18 : At m_X9_sign 18 (.sipush 200) 3 21 := at_i (by decide +kernel) rfl
theorem a_X9_sign_21 : At m_X9_sign 21 (.invokevirtual 170) 3 24 := at_i (by decide +kernel) rfl
theorem a_X9_sign_24 : At m_X9_sign 24 (.aload_n 0) 1 25 := at_i (by decide +kernel) rfl
theorem a_X9_sign_25 : At m_X9_sign 25 (.getfield 25) 3 28 := at_i (by decide +kernel) rfl
theorem a_X9_sign_28 : At m_X9_sign 28 (.invokevirtual 174) 3 31 := at_i (by decide +kernel) rfl
theorem a_X9_sign_31 : At m_X9_sign 31 (.ireturn) 1 32 := at_i (by decide +kernel) rfl
def f_X9_sign  (h : Mem) (Q : Int32 → Mem → Prop) : Prop :=
  f_X1_takeFrom 19 5 10 h fun h_1 =>
  f_X1_step 19 (200 : Int32) h_1 fun h_2 =>
  f_X1_habit 19 h_2 fun r_4 h_3 =>
  Q r_4 h_3
set_option maxRecDepth 20000 in
theorem t_X9_sign   (h : Mem) (Q : Int32 → Mem → Prop) (hyp : f_X9_sign  h Q) : Cn m_X9_sign [.ref 0] h (GI Q) := by
  refine ge_entry (lv := [(0, .ref 0)]) pn_X9 (Nat.le_of_ble_eq_true rfl) rfl ?_
  unfold f_X9_sign at hyp
  refine ge_aload_n a_X9_sign_0 rfl 0 rfl ?_
  refine ge_getR (q := 19) a_X9_sign_1 fd_X9_25 (rfl : gm_cls 0 = 8) rfl ?_
  refine ge_aload_n a_X9_sign_4 rfl 0 rfl ?_
  refine ge_getR (q := 1) a_X9_sign_5 fd_X9_10 (rfl : gm_cls 0 = 8) rfl ?_
  refine ge_getR (q := 5) a_X9_sign_8 fd_X9_94 (rfl : gm_cls 1 = 5) rfl ?_
  refine ge_cVV [.ref 5] (rest := []) a_X9_sign_11 ok_X1_takeFrom lk_X9_166 ⟨Nat.le_of_ble_eq_true rfl, Nat.le_of_ble_eq_true rfl⟩ (rfl : gm_cls 19 = 0) vc_0 (by decide) rfl rfl (Nat.le_of_ble_eq_true rfl) (t_X1_takeFrom 19 5 10 (rfl : gm_cls 19 = 0) ga_5 h _ hyp) (fun h_1 hyp => ?_)
  refine ge_aload_n a_X9_sign_14 rfl 0 rfl ?_
  refine ge_getR (q := 19) a_X9_sign_15 fd_X9_25 (rfl : gm_cls 0 = 8) rfl ?_
  refine ge_sipush (v := 200) a_X9_sign_18 rfl ?_
  refine ge_cVV [.int (200 : Int32)] (rest := []) a_X9_sign_21 ok_X1_step lk_X9_170 ⟨Nat.le_of_ble_eq_true rfl, Nat.le_of_ble_eq_true rfl⟩ (rfl : gm_cls 19 = 0) vc_0 (by decide) rfl rfl (Nat.le_of_ble_eq_true rfl) (t_X1_step 19 (200 : Int32) (rfl : gm_cls 19 = 0) h_1 _ hyp) (fun h_2 hyp => ?_)
  refine ge_aload_n a_X9_sign_24 rfl 0 rfl ?_
  refine ge_getR (q := 19) a_X9_sign_25 fd_X9_25 (rfl : gm_cls 0 = 8) rfl ?_
  refine ge_cVI [] (rest := []) a_X9_sign_28 ok_X1_habit lk_X9_174 ⟨Nat.le_of_ble_eq_true rfl, Nat.le_of_ble_eq_true rfl⟩ (rfl : gm_cls 19 = 0) vc_0 (by decide) rfl rfl (Nat.le_of_ble_eq_true rfl) (t_X1_habit 19 (rfl : gm_cls 19 = 0) h_2 _ hyp) (fun r_4 h_3 hyp => ?_)
  exact ge_iret rfl a_X9_sign_31 hyp
