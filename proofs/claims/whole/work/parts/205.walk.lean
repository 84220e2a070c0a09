theorem a_X10_read_0 : At m_X10_read 0 (.iload_n 1) 1 1 := at_i (by decide +kernel) rfl
theorem a_X10_read_1 : At m_X10_read 1 (.iconst 1) 1 2 := at_i (by decide +kernel) rfl
theorem a_X10_read_2 : At m_X10_read 2 (.bipush 12) 2 4 := at_i (by decide +kernel) rfl
theorem a_X10_read_4 : At m_X10_read 4 (.invokestatic 71) 3 7 := at_i (by decide +kernel) rfl
theorem a_X10_read_7 : AtJ m_X10_read 7 (.ifCond .ne 10) (10) 17 10 := at_j (by decide +kernel) (by decide) rfl
theorem a_X10_read_10 : At m_X10_read 10 (.aload_n 0) 1 11 := at_i (by decide +kernel) rfl
theorem a_X10_read_11 : At m_X10_read 11 (.ldc 66) 2 13 := at_i (by decide +kernel) rfl
theorem a_X10_read_13 : At m_X10_read 13 (.invokevirtual 83) 3 16 := at_i (by decide +kernel) rfl
theorem a_X10_read_16 : At m_X10_read 16 (.ireturn) 1 17 := at_i (by decide +kernel) rfl
theorem a_X10_read_17 : At m_X10_read 17 (.iload_n 1) 1 18 := at_i (by decide +kernel) rfl
theorem a_X10_read_18 : At m_X10_read 18 (.aload_n 0) 1 19 := at_i (by decide +kernel) rfl
theorem a_X10_read_19 : At m_X10_read 19 (.invokevirtual 141) 3 22 := at_i (by decide +kernel) rfl
theorem a_X10_read_22 : AtJ m_X10_read 22 (.if_icmp .le 10) (10) 32 25 := at_j (by decide +kernel) (by decide) rfl
theorem a_X10_read_25 : At m_X10_read 25 (.aload_n 0) 1 26 := at_i (by decide +kernel) rfl
theorem a_X10_read_26 : At m_X10_read 26 (.ldc 144) 2 28 := at_i (by decide +kernel) rfl
theorem a_X10_read_28 : At m_X10_read 28 (.invokevirtual 83) 3 31 := at_i (by decide +kernel) rfl
theorem a_X10_read_31 : At m_X10_read 31 (.ireturn) 1 32 := at_i (by decide +kernel) rfl
theorem a_X10_read_32 : At m_X10_read 32 (.aload_n 0) 1 33 := at_i (by decide +kernel) rfl
theorem a_X10_read_33 : At m_X10_read 33 (.getfield 9) 3 36 := at_i (by decide +kernel) rfl
theorem a_X10_read_36 : At m_X10_read 36 (.aload_n 0) 1 37 := at_i (by decide +kernel) rfl
theorem a_X10_read_37 : At m_X10_read 37 (.getfield 16) 3 40 := at_i (by decide +kernel) rfl
theorem a_X10_read_40 : At m_X10_read 40 (.invokestatic 67) 3 43 := at_i (by decide +kernel) rfl
theorem a_X10_read_43 : At m_X10_read 43 (.aload_n 0) 1 44 := at_i (by decide +kernel) rfl
theorem a_X10_read_44 : At m_X10_read 44 (.iload_n 1) 1 45 := at_i (by decide +kernel) rfl
theorem a_X10_read_45 : At m_X10_read 45 (.invokevirtual 145) 3 48 := at_i (by decide +kernel) rfl
theorem a_X10_read_48 : At m_X10_read 48 (.ldc 148) 2 50 := at_i (by decide +kernel) rfl
theorem a_X10_read_50 : At m_X10_read 50 (.aload_n 0) 1 51 := at_i (by decide +kernel) rfl
theorem a_X10_read_51 : At m_X10_read 51 (.getfield 16) 3 54 := at_i (by decide +kernel) rfl
theorem a_X10_read_54 : At m_X10_read 54 (.iconst 1) 1 55 := at_i (by decide +kernel) rfl
theorem a_X10_read_55 : At m_X10_read 55 (.iaload) 1 56 := at_i (by decide +kernel) rfl
theorem a_X10_read_56 : At m_X10_read 56 (.isub) 1 57 := at_i (by decide +kernel) rfl
theorem a_X10_read_57 : AtJ m_X10_read 57 (.if_icmp .le 7) (7) 64 60 := at_j (by decide +kernel) (by decide) rfl
theorem a_X10_read_60 : At m_X10_read 60 (.iconst 1) 1 61 := at_i (by decide +kernel) rfl
theorem a_X10_read_61 : AtJ m_X10_read 61 (.goto 4) (4) 65 64 := at_j (by decide +kernel) (by decide) rfl
theorem a_X10_read_64 : At m_X10_read 64 (.iconst 0) 1 65 := at_i (by decide +kernel) rfl
theorem a_X10_read_65 : At m_X10_read 65 (.istore_n 2) 1 66 := at_i (by decide +kernel) rfl
theorem a_X10_read_66 : At m_X10_read 66 (.iload_n 2) 1 67 := at_i (by decide +kernel) rfl
theorem a_X10_read_67 : AtJ m_X10_read 67 (.ifCond .eq 16) (16) 83 70 := at_j (by decide +kernel) (by decide) rfl
theorem a_X10_read_70 : At m_X10_read 70 (.aload_n 0) 1 71 := at_i (by decide +kernel) rfl
theorem a_X10_read_71 : At m_X10_read 71 (.aload_n 0) 1 72 := at_i (by decide +kernel) rfl
theorem a_X10_read_72 : At m_X10_read 72 (.ldc 144) 2 74 := at_i (by decide +kernel) rfl
theorem a_X10_read_74 : At m_X10_read 74 (.invokevirtual 149) 3 77 := at_i (by decide +kernel) rfl
theorem a_X10_read_77 : At m_X10_read 77 (.invokevirtual 83) 3 80 := at_i (by decide +kernel) rfl
theorem a_X10_read_80 : AtJ m_X10_read 80 (.goto 9) (9) 89 83 := at_j (by decide +kernel) (by decide) rfl
theorem a_X10_read_83 : At m_X10_read 83 (.aload_n 0) 1 84 := at_i (by decide +kernel) rfl
theorem a_X10_read_84 : At m_X10_read 84 (.getfield 9) 3 87 := at_i (by decide +kernel) rfl
theorem a_X10_read_87 : At m_X10_read 87 (.iconst 1) 1 88 := at_i (by decide +kernel) rfl
theorem a_X10_read_88 : At m_X10_read 88 (.iaload) 1 89 := at_i (by decide +kernel) rfl
theorem a_X10_read_89 : At m_X10_read 89 (.ireturn) 1 90 := at_i (by decide +kernel) rfl
def f_X10_read_b65 (a1 : Int32)  (Q : Int32 → Mem → Prop)  (s0 : Int32) (h : Mem) : Prop :=
  if s0 = 0 then (
    Q (h 44 1) h)
  else (
    f_X10_putBack (-1000005 : Int32) h fun r_14 h_13 =>
    f_X10_finding r_14 h_13 fun r_16 h_15 =>
    Q r_16 h_15)
set_option maxRecDepth 20000 in
theorem t_X10_read_b65 (a1 : Int32)    (Q : Int32 → Mem → Prop)   (s0 : Int32) (h : Mem) (hyp : f_X10_read_b65 a1  Q  s0 h) : EV m_X10_read (GI Q) 65 [(0, .ref 43)] [.int s0] h := by
  unfold f_X10_read_b65 at hyp
  refine ge_istore_n (lv' := [(2, .int s0), (0, .ref 43)]) a_X10_read_65 rfl (Nat.le_of_ble_eq_true rfl) rfl ?_
  refine ge_iload_n a_X10_read_66 rfl 0 rfl ?_
  refine ge_if_eq a_X10_read_67 (fun c_12 => ?_) (fun c_12 => ?_)
  · have hyp := gm_ip hyp c_12
    refine ge_aload_n a_X10_read_83 rfl 1 rfl ?_
    refine ge_getR (q := 44) a_X10_read_84 fd_X10_9 (rfl : gm_cls 43 = 9) rfl ?_
    refine ge_iconst (v := 1) a_X10_read_87 rfl ?_
    refine ge_iald (j := 1) a_X10_read_88 ga_44 li_1_62.1 li_1_62.2 ?_
    exact ge_iret rfl a_X10_read_89 hyp
  · have hyp := gm_in hyp c_12
    refine ge_aload_n a_X10_read_70 rfl 1 rfl ?_
    refine ge_aload_n a_X10_read_71 rfl 1 rfl ?_
    refine ge_ldc (v := -1000005) a_X10_read_72 ct_X10_144 ?_
    refine ge_cVI [.int (-1000005 : Int32)] (rest := [.ref 43]) a_X10_read_74 ok_X10_putBack lk_X10_149 ⟨Nat.le_of_ble_eq_true rfl, Nat.le_of_ble_eq_true rfl⟩ (rfl : gm_cls 43 = 9) vc_9 (by decide) rfl rfl (Nat.le_of_ble_eq_true rfl) (t_X10_putBack (-1000005 : Int32)  h _ hyp) (fun r_14 h_13 hyp => ?_)
    refine ge_cVI [.int r_14] (rest := []) a_X10_read_77 ok_X10_finding lk_X10_83 ⟨Nat.le_of_ble_eq_true rfl, Nat.le_of_ble_eq_true rfl⟩ (rfl : gm_cls 43 = 9) vc_9 (by decide) rfl rfl (Nat.le_of_ble_eq_true rfl) (t_X10_finding r_14  h_13 _ hyp) (fun r_16 h_15 hyp => ?_)
    refine ge_goto a_X10_read_80 ?_
    exact ge_iret rfl a_X10_read_89 hyp
def f_X10_read (a1 : Int32) (h : Mem) (Q : Int32 → Mem → Prop) : Prop :=
  f_X10_within a1 (1 : Int32) (12 : Int32) h fun r_2 h_1 =>
  if r_2 = 0 then (
    f_X10_finding (-1000001 : Int32) h_1 fun r_20 h_19 =>
    Q r_20 h_19)
  else (
    f_X10_left  h_1 fun r_5 h_4 =>
    if a1 ≤ r_5 then (
      f_X10_copyRow 44 62 46 62 h_4 fun h_7 =>
      f_X10_readsOn a1 h_7 fun r_9 h_8 =>
      ∀ v_10 : Int32, v_10 = (9999999 : Int32) - (h_8 46 1) →
      if r_9 ≤ v_10 then (
        f_X10_read_b65 a1  Q  (0 : Int32) h_8)
      else (
        f_X10_read_b65 a1  Q  (1 : Int32) h_8))
    else (
      f_X10_finding (-1000005 : Int32) h_4 fun r_18 h_17 =>
      Q r_18 h_17))
set_option maxRecDepth 20000 in
theorem t_X10_read (a1 : Int32)  (h : Mem) (Q : Int32 → Mem → Prop) (hyp : f_X10_read a1 h Q) : Cn m_X10_read [.ref 43, .int a1] h (GI Q) := by
  refine ge_entry (lv := [(0, .ref 43), (1, .int a1)]) pn_X10 (Nat.le_of_ble_eq_true rfl) rfl ?_
  unfold f_X10_read at hyp
  refine ge_iload_n a_X10_read_0 rfl 1 rfl ?_
  refine ge_iconst (v := 1) a_X10_read_1 rfl ?_
  refine ge_bipush (v := 12) a_X10_read_2 rfl ?_
  refine ge_cSI [.int a1, .int (1 : Int32), .int (12 : Int32)] (rest := []) a_X10_read_4 ok_X10_within lk_X10_71 ⟨Nat.le_of_ble_eq_true rfl, Nat.le_of_ble_eq_true rfl⟩ rfl rfl (Nat.le_of_ble_eq_true rfl) (t_X10_within a1 (1 : Int32) (12 : Int32)  h _ hyp) (fun r_2 h_1 hyp => ?_)
  refine ge_if_ne a_X10_read_7 (fun c_3 => ?_) (fun c_3 => ?_)
  · have hyp := gm_in hyp c_3
    refine ge_iload_n a_X10_read_17 rfl 1 rfl ?_
    refine ge_aload_n a_X10_read_18 rfl 0 rfl ?_
    refine ge_cVI [] (rest := [.int a1]) a_X10_read_19 ok_X10_left lk_X10_141 ⟨Nat.le_of_ble_eq_true rfl, Nat.le_of_ble_eq_true rfl⟩ (rfl : gm_cls 43 = 9) vc_9 (by decide) rfl rfl (Nat.le_of_ble_eq_true rfl) (t_X10_left   h_1 _ hyp) (fun r_5 h_4 hyp => ?_)
    refine ge_icmp_le a_X10_read_22 (fun c_6 => ?_) (fun c_6 => ?_)
    · have hyp := gm_ip hyp c_6
      refine ge_aload_n a_X10_read_32 rfl 0 rfl ?_
      refine ge_getR (q := 44) a_X10_read_33 fd_X10_9 (rfl : gm_cls 43 = 9) rfl ?_
      refine ge_aload_n a_X10_read_36 rfl 0 rfl ?_
      refine ge_getR (q := 46) a_X10_read_37 fd_X10_16 (rfl : gm_cls 43 = 9) rfl ?_
      refine ge_cSV [.ref 44, .ref 46] (rest := []) a_X10_read_40 ok_X10_copyRow lk_X10_67 ⟨Nat.le_of_ble_eq_true rfl, Nat.le_of_ble_eq_true rfl⟩ rfl rfl (Nat.le_of_ble_eq_true rfl) (t_X10_copyRow 44 62 46 62 ga_44 ga_46 h_4 _ hyp) (fun h_7 hyp => ?_)
      refine ge_aload_n a_X10_read_43 rfl 0 rfl ?_
      refine ge_iload_n a_X10_read_44 rfl 1 rfl ?_
      refine ge_cVI [.int a1] (rest := []) a_X10_read_45 ok_X10_readsOn lk_X10_145 ⟨Nat.le_of_ble_eq_true rfl, Nat.le_of_ble_eq_true rfl⟩ (rfl : gm_cls 43 = 9) vc_9 (by decide) rfl rfl (Nat.le_of_ble_eq_true rfl) (t_X10_readsOn a1  h_7 _ hyp) (fun r_9 h_8 hyp => ?_)
      refine ge_ldc (v := 9999999) a_X10_read_48 ct_X10_148 ?_
      refine ge_aload_n a_X10_read_50 rfl 0 rfl ?_
      refine ge_getR (q := 46) a_X10_read_51 fd_X10_16 (rfl : gm_cls 43 = 9) rfl ?_
      refine ge_iconst (v := 1) a_X10_read_54 rfl ?_
      refine ge_iald (j := 1) a_X10_read_55 ga_46 li_1_62.1 li_1_62.2 ?_
      refine ge_isub a_X10_read_56 ?_
      refine ge_topi (fun v_10 ev_10 => ?_)
      have hyp := hyp v_10 ev_10
      refine ge_icmp_le a_X10_read_57 (fun c_11 => ?_) (fun c_11 => ?_)
      · have hyp := gm_ip hyp c_11
        refine ge_iconst (v := 0) a_X10_read_64 rfl ?_
        exact ge_sub [0] rfl (t_X10_read_b65 a1    Q   (0 : Int32) h_8 hyp)
      · have hyp := gm_in hyp c_11
        refine ge_iconst (v := 1) a_X10_read_60 rfl ?_
        refine ge_goto a_X10_read_61 ?_
        exact ge_sub [0] rfl (t_X10_read_b65 a1    Q   (1 : Int32) h_8 hyp)
    · have hyp := gm_in hyp c_6
      refine ge_aload_n a_X10_read_25 rfl 0 rfl ?_
      refine ge_ldc (v := -1000005) a_X10_read_26 ct_X10_144 ?_
      refine ge_cVI [.int (-1000005 : Int32)] (rest := []) a_X10_read_28 ok_X10_finding lk_X10_83 ⟨Nat.le_of_ble_eq_true rfl, Nat.le_of_ble_eq_true rfl⟩ (rfl : gm_cls 43 = 9) vc_9 (by decide) rfl rfl (Nat.le_of_ble_eq_true rfl) (t_X10_finding (-1000005 : Int32)  h_4 _ hyp) (fun r_18 h_17 hyp => ?_)
      exact ge_iret rfl a_X10_read_31 hyp
  · have hyp := gm_ip hyp c_3
    refine ge_aload_n a_X10_read_10 rfl 0 rfl ?_
    refine ge_ldc (v := -1000001) a_X10_read_11 ct_X10_66 ?_
    refine ge_cVI [.int (-1000001 : Int32)] (rest := []) a_X10_read_13 ok_X10_finding lk_X10_83 ⟨Nat.le_of_ble_eq_true rfl, Nat.le_of_ble_eq_true rfl⟩ (rfl : gm_cls 43 = 9) vc_9 (by decide) rfl rfl (Nat.le_of_ble_eq_true rfl) (t_X10_finding (-1000001 : Int32)  h_1 _ hyp) (fun r_20 h_19 hyp => ?_)
    exact ge_iret rfl a_X10_read_16 hyp

theorem a_X10_go_0 : At m_X10_go 0 (.iload_n 1) 1 1 := at_i (by decide +kernel) rfl
theorem a_X10_go_1 : At m_X10_go 1 (.iconst 0) 1 2 := at_i (by decide +kernel) rfl
theorem a_X10_go_2 : At m_X10_go 2 (.aload_n 0) 1 3 := at_i (by decide +kernel) rfl
theorem a_X10_go_3 : At m_X10_go 3 (.getfield 9) 3 6 := at_i (by decide +kernel) rfl
theorem a_X10_go_6 : At m_X10_go 6 (.iconst 4) 1 7 := at_i (by decide +kernel) rfl
theorem a_X10_go_7 : At m_X10_go 7 (.iaload) 1 8 := at_i (by decide +kernel) rfl
theorem a_X10_go_8 : At m_X10_go 8 (.invokestatic 71) 3 11 := at_i (by decide +kernel) rfl
theorem a_X10_go_11 : AtJ m_X10_go 11 (.ifCond .eq 12) (12) 23 14 := at_j (by decide +kernel) (by decide) rfl
theorem a_X10_go_14 : At m_X10_go 14 (.aload_n 0) 1 15 := at_i (by decide +kernel) rfl
theorem a_X10_go_15 : At m_X10_go 15 (.iconst 0) 1 16 := at_i (by decide +kernel) rfl
theorem a_X10_go_16 : At m_X10_go 16 (.iload_n 1) 1 17 := at_i (by decide +kernel) rfl
theorem a_X10_go_17 : At m_X10_go 17 (.invokevirtual 115) 3 20 := at_i (by decide +kernel) rfl
theorem a_X10_go_20 : AtJ m_X10_go 20 (.goto 9) (9) 29 23 := at_j (by decide +kernel) (by decide) rfl
theorem a_X10_go_23 : At m_X10_go 23 (.aload_n 0) 1 24 := at_i (by decide +kernel) rfl
theorem a_X10_go_24 : At m_X10_go 24 (.ldc 66) 2 26 := at_i (by decide +kernel) rfl
theorem a_X10_go_26 : At m_X10_go 26 (.invokevirtual 83) 3 29 := at_i (by decide +kernel) rfl
theorem a_X10_go_29 : At m_X10_go 29 (.ireturn) 1 30 := at_i (by decide +kernel) rfl
def f_X10_go (a1 : Int32) (h : Mem) (Q : Int32 → Mem → Prop) : Prop :=
  f_X10_within a1 (0 : Int32) (h 44 4) h fun r_2 h_1 =>
  if r_2 = 0 then (
    f_X10_finding (-1000001 : Int32) h_1 fun r_5 h_4 =>
    Q r_5 h_4)
  else (
    f_X10_become (0 : Int32) a1 h_1 fun r_7 h_6 =>
    Q r_7 h_6)
set_option maxRecDepth 20000 in
theorem t_X10_go (a1 : Int32)  (h : Mem) (Q : Int32 → Mem → Prop) (hyp : f_X10_go a1 h Q) : Cn m_X10_go [.ref 43, .int a1] h (GI Q) := by
  refine ge_entry (lv := [(0, .ref 43), (1, .int a1)]) pn_X10 (Nat.le_of_ble_eq_true rfl) rfl ?_
  unfold f_X10_go at hyp
  refine ge_iload_n a_X10_go_0 rfl 1 rfl ?_
  refine ge_iconst (v := 0) a_X10_go_1 rfl ?_
  refine ge_aload_n a_X10_go_2 rfl 0 rfl ?_
  refine ge_getR (q := 44) a_X10_go_3 fd_X10_9 (rfl : gm_cls 43 = 9) rfl ?_
  refine ge_iconst (v := 4) a_X10_go_6 rfl ?_
  refine ge_iald (j := 4) a_X10_go_7 ga_44 li_4_62.1 li_4_62.2 ?_
  refine ge_cSI [.int a1, .int (0 : Int32), .int (h 44 4)] (rest := []) a_X10_go_8 ok_X10_within lk_X10_71 ⟨Nat.le_of_ble_eq_true rfl, Nat.le_of_ble_eq_true rfl⟩ rfl rfl (Nat.le_of_ble_eq_true rfl) (t_X10_within a1 (0 : Int32) (h 44 4)  h _ hyp) (fun r_2 h_1 hyp => ?_)
  refine ge_if_eq a_X10_go_11 (fun c_3 => ?_) (fun c_3 => ?_)
  · have hyp := gm_ip hyp c_3
    refine ge_aload_n a_X10_go_23 rfl 0 rfl ?_
    refine ge_ldc (v := -1000001) a_X10_go_24 ct_X10_66 ?_
    refine ge_cVI [.int (-1000001 : Int32)] (rest := []) a_X10_go_26 ok_X10_finding lk_X10_83 ⟨Nat.le_of_ble_eq_true rfl, Nat.le_of_ble_eq_true rfl⟩ (rfl : gm_cls 43 = 9) vc_9 (by decide) rfl rfl (Nat.le_of_ble_eq_true rfl) (t_X10_finding (-1000001 : Int32)  h_1 _ hyp) (fun r_5 h_4 hyp => ?_)
    exact ge_iret rfl a_X10_go_29 hyp
  · have hyp := gm_in hyp c_3
    refine ge_aload_n a_X10_go_14 rfl 0 rfl ?_
    refine ge_iconst (v := 0) a_X10_go_15 rfl ?_
    refine ge_iload_n a_X10_go_16 rfl 1 rfl ?_
    refine ge_cVI [.int (0 : Int32), .int a1] (rest := []) a_X10_go_17 ok_X10_become lk_X10_115 ⟨Nat.le_of_ble_eq_true rfl, Nat.le_of_ble_eq_true rfl⟩ (rfl : gm_cls 43 = 9) vc_9 (by decide) rfl rfl (Nat.le_of_ble_eq_true rfl) (t_X10_become (0 : Int32) a1  h_1 _ hyp) (fun r_7 h_6 hyp => ?_)
    refine ge_goto a_X10_go_20 ?_
    exact ge_iret rfl a_X10_go_29 hyp

theorem a_X10_turn_0 : At m_X10_turn 0 (.aload_n 0) 1 1 := at_i (by decide +kernel) rfl
theorem a_X10_turn_1 : At m_X10_turn 1 (.invokevirtual 134) 3 4 := at_i (by decide +kernel) rfl
theorem a_X10_turn_4 : At m_X10_turn 4 (.ireturn) 1 5 := at_i (by decide +kernel) rfl
def f_X10_turn  (h : Mem) (Q : Int32 → Mem → Prop) : Prop :=
  f_X10_turns  h fun r_2 h_1 =>
  Q r_2 h_1
set_option maxRecDepth 20000 in
theorem t_X10_turn   (h : Mem) (Q : Int32 → Mem → Prop) (hyp : f_X10_turn  h Q) : Cn m_X10_turn [.ref 43] h (GI Q) := by
  refine ge_entry (lv := [(0, .ref 43)]) pn_X10 (Nat.le_of_ble_eq_true rfl) rfl ?_
  unfold f_X10_turn at hyp
  refine ge_aload_n a_X10_turn_0 rfl 0 rfl ?_
  refine ge_cVI [] (rest := []) a_X10_turn_1 ok_X10_turns lk_X10_134 ⟨Nat.le_of_ble_eq_true rfl, Nat.le_of_ble_eq_true rfl⟩ (rfl : gm_cls 43 = 9) vc_9 (by decide) rfl rfl (Nat.le_of_ble_eq_true rfl) (t_X10_turns   h _ hyp) (fun r_2 h_1 hyp => ?_)
  exact ge_iret rfl a_X10_turn_4 hyp

theorem a_X10_now_0 : At m_X10_now 0 (.iload_n 1) 1 1 := at_i (by decide +kernel) rfl
theorem a_X10_now_1 : decode cX10_now 1 = .ok (.tableswitch 59 0 3 #[31, 38, 45, 52], 31) := by decide +kernel
theorem a_X10_now_32 : At m_X10_now 32 (.aload_n 0) 1 33 := at_i (by decide +kernel) rfl
theorem a_X10_now_33 : At m_X10_now 33 (.getfield 9) 3 36 := at_i (by decide +kernel) rfl
theorem a_X10_now_36 : At m_X10_now 36 (.iconst 0) 1 37 := at_i (by decide +kernel) rfl
theorem a_X10_now_37 : At m_X10_now 37 (.iaload) 1 38 := at_i (by decide +kernel) rfl
theorem a_X10_now_38 : At m_X10_now 38 (.ireturn) 1 39 := at_i (by decide +kernel) rfl
theorem a_X10_now_39 : At m_X10_now 39 (.aload_n 0) 1 40 := at_i (by decide +kernel) rfl
theorem a_X10_now_40 : At m_X10_now 40 (.getfield 9) 3 43 := at_i (by decide +kernel) rfl
theorem a_X10_now_43 : At m_X10_now 43 (.iconst 1) 1 44 := at_i (by decide +kernel) rfl
theorem a_X10_now_44 : At m_X10_now 44 (.iaload) 1 45 := at_i (by decide +kernel) rfl
theorem a_X10_now_45 : At m_X10_now 45 (.ireturn) 1 46 := at_i (by decide +kernel) rfl
theorem a_X10_now_46 : At m_X10_now 46 (.aload_n 0) 1 47 := at_i (by decide +kernel) rfl
theorem a_X10_now_47 : At m_X10_now 47 (.getfield 9) 3 50 := at_i (by decide +kernel) rfl
theorem a_X10_now_50 : At m_X10_now 50 (.iconst 2) 1 51 := at_i (by decide +kernel) rfl
theorem a_X10_now_51 : At m_X10_now 51 (.iaload) 1 52 := at_i (by decide +kernel) rfl
theorem a_X10_now_52 : At m_X10_now 52 (.ireturn) 1 53 := at_i (by decide +kernel) rfl
theorem a_X10_now_53 : At m_X10_now 53 (.aload_n 0) 1 54 := at_i (by decide +kernel) rfl
theorem a_X10_now_54 : At m_X10_now 54 (.getfield 9) 3 57 := at_i (by decide +kernel) rfl
theorem a_X10_now_57 : At m_X10_now 57 (.iconst 3) 1 58 := at_i (by decide +kernel) rfl
theorem a_X10_now_58 : At m_X10_now 58 (.iaload) 1 59 := at_i (by decide +kernel) rfl
theorem a_X10_now_59 : At m_X10_now 59 (.ireturn) 1 60 := at_i (by decide +kernel) rfl
theorem a_X10_now_60 : At m_X10_now 60 (.aload_n 0) 1 61 := at_i (by decide +kernel) rfl
theorem a_X10_now_61 : At m_X10_now 61 (.ldc 66) 2 63 := at_i (by decide +kernel) rfl
theorem a_X10_now_63 : At m_X10_now 63 (.invokevirtual 83) 3 66 := at_i (by decide +kernel) rfl
theorem a_X10_now_66 : At m_X10_now 66 (.ireturn) 1 67 := at_i (by decide +kernel) rfl
def f_X10_now (a1 : Int32) (h : Mem) (Q : Int32 → Mem → Prop) : Prop :=
  if a1 = 0 then (
    Q (h 44 0) h)
  else (
  if a1 = 1 then (
    Q (h 44 1) h)
  else (
  if a1 = 2 then (
    Q (h 44 2) h)
  else (
  if a1 = 3 then (
    Q (h 44 3) h)
  else (
    f_X10_finding (-1000001 : Int32) h fun r_6 h_5 =>
    Q r_6 h_5))))
set_option maxRecDepth 20000 in
theorem t_X10_now (a1 : Int32)  (h : Mem) (Q : Int32 → Mem → Prop) (hyp : f_X10_now a1 h Q) : Cn m_X10_now [.ref 43, .int a1] h (GI Q) := by
  refine ge_entry (lv := [(0, .ref 43), (1, .int a1)]) pn_X10 (Nat.le_of_ble_eq_true rfl) rfl ?_
  unfold f_X10_now at hyp
  refine ge_iload_n a_X10_now_0 rfl 1 rfl ?_
  refine ge_sw (dt := 60) [(0, 32), (1, 39), (2, 46), (3, 53)] a_X10_now_1 (by decide +kernel) (by decide) ?_
  refine ge_ite (fun c_1 => ?_) (fun c_1 => ?_)
  · have hyp := gm_ip hyp c_1
    refine ge_aload_n a_X10_now_32 rfl 0 rfl ?_
    refine ge_getR (q := 44) a_X10_now_33 fd_X10_9 (rfl : gm_cls 43 = 9) rfl ?_
    refine ge_iconst (v := 0) a_X10_now_36 rfl ?_
    refine ge_iald (j := 0) a_X10_now_37 ga_44 li_0_62.1 li_0_62.2 ?_
    exact ge_iret rfl a_X10_now_38 hyp
  have hyp := gm_in hyp c_1
  refine ge_ite (fun c_2 => ?_) (fun c_2 => ?_)
  · have hyp := gm_ip hyp c_2
    refine ge_aload_n a_X10_now_39 rfl 0 rfl ?_
    refine ge_getR (q := 44) a_X10_now_40 fd_X10_9 (rfl : gm_cls 43 = 9) rfl ?_
    refine ge_iconst (v := 1) a_X10_now_43 rfl ?_
    refine ge_iald (j := 1) a_X10_now_44 ga_44 li_1_62.1 li_1_62.2 ?_
    exact ge_iret rfl a_X10_now_45 hyp
  have hyp := gm_in hyp c_2
  refine ge_ite (fun c_3 => ?_) (fun c_3 => ?_)
  · have hyp := gm_ip hyp c_3
    refine ge_aload_n a_X10_now_46 rfl 0 rfl ?_
    refine ge_getR (q := 44) a_X10_now_47 fd_X10_9 (rfl : gm_cls 43 = 9) rfl ?_
    refine ge_iconst (v := 2) a_X10_now_50 rfl ?_
    refine ge_iald (j := 2) a_X10_now_51 ga_44 li_2_62.1 li_2_62.2 ?_
    exact ge_iret rfl a_X10_now_52 hyp
  have hyp := gm_in hyp c_3
  refine ge_ite (fun c_4 => ?_) (fun c_4 => ?_)
  · have hyp := gm_ip hyp c_4
    refine ge_aload_n a_X10_now_53 rfl 0 rfl ?_
    refine ge_getR (q := 44) a_X10_now_54 fd_X10_9 (rfl : gm_cls 43 = 9) rfl ?_
    refine ge_iconst (v := 3) a_X10_now_57 rfl ?_
    refine ge_iald (j := 3) a_X10_now_58 ga_44 li_3_62.1 li_3_62.2 ?_
    exact ge_iret rfl a_X10_now_59 hyp
  have hyp := gm_in hyp c_4
  show EV _ _ 60 _ _ _
  refine ge_aload_n a_X10_now_60 rfl 0 rfl ?_
  refine ge_ldc (v := -1000001) a_X10_now_61 ct_X10_66 ?_
  refine ge_cVI [.int (-1000001 : Int32)] (rest := []) a_X10_now_63 ok_X10_finding lk_X10_83 ⟨Nat.le_of_ble_eq_true rfl, Nat.le_of_ble_eq_true rfl⟩ (rfl : gm_cls 43 = 9) vc_9 (by decide) rfl rfl (Nat.le_of_ble_eq_true rfl) (t_X10_finding (-1000001 : Int32)  h _ hyp) (fun r_6 h_5 hyp => ?_)
  exact ge_iret rfl a_X10_now_66 hyp

theorem a_X10_restTakes_0 : At m_X10_restTakes 0 (.aload_n 0) 1 1 := at_i (by decide +kernel) rfl
theorem a_X10_restTakes_1 : At m_X10_restTakes 1 (.getfield 9) 3 4 := at_i (by decide +kernel) rfl
theorem a_X10_restTakes_4 : At m_X10_restTakes 4 (.aload_n 0) 1 5 := at_i (by decide +kernel) rfl
theorem a_X10_restTakes_5 : At m_X10_restTakes 5 (.getfield 16) 3 8 := at_i (by decide +kernel) rfl
theorem a_X10_restTakes_8 : At m_X10_restTakes 8 (.invokestatic 67) 3 11 := at_i (by decide +kernel) rfl
theorem a_X10_restTakes_11 : At m_X10_restTakes 11 (.aload_n 0) 1 12 := at_i (by decide +kernel) rfl
theorem a_X10_restTakes_12 : At m_X10_restTakes 12 (.aload_n 0) 1 13 := at_i (by decide +kernel) rfl
theorem a_X10_restTakes_13 : At m_X10_restTakes 13 (.aload_n 0) 1 14 := at_i (by decide +kernel) rfl
theorem a_X10_restTakes_14 : At m_X10_restTakes 14 (.invokevirtual 141) 3 17 := at_i (by decide +kernel) rfl
theorem a_X10_restTakes_17 : At m_X10_restTakes 17 (.invokevirtual 145) 3 20 := at_i (by decide +kernel) rfl
theorem a_X10_restTakes_20 : At m_X10_restTakes 20 (.invokevirtual 149) 3 23 := at_i (by decide +kernel) rfl
theorem a_X10_restTakes_23 : At m_X10_restTakes 23 (.ireturn) 1 24 := at_i (by decide +kernel) rfl
def f_X10_restTakes  (h : Mem) (Q : Int32 → Mem → Prop) : Prop :=
  f_X10_copyRow 44 62 46 62 h fun h_1 =>
  f_X10_left  h_1 fun r_3 h_2 =>
  f_X10_readsOn r_3 h_2 fun r_5 h_4 =>
  f_X10_putBack r_5 h_4 fun r_7 h_6 =>
  Q r_7 h_6
set_option maxRecDepth 20000 in
theorem t_X10_restTakes   (h : Mem) (Q : Int32 → Mem → Prop) (hyp : f_X10_restTakes  h Q) : Cn m_X10_restTakes [.ref 43] h (GI Q) := by
  refine ge_entry (lv := [(0, .ref 43)]) pn_X10 (Nat.le_of_ble_eq_true rfl) rfl ?_
  unfold f_X10_restTakes at hyp
  refine ge_aload_n a_X10_restTakes_0 rfl 0 rfl ?_
  refine ge_getR (q := 44) a_X10_restTakes_1 fd_X10_9 (rfl : gm_cls 43 = 9) rfl ?_
  refine ge_aload_n a_X10_restTakes_4 rfl 0 rfl ?_
  refine ge_getR (q := 46) a_X10_restTakes_5 fd_X10_16 (rfl : gm_cls 43 = 9) rfl ?_
  refine ge_cSV [.ref 44, .ref 46] (rest := []) a_X10_restTakes_8 ok_X10_copyRow lk_X10_67 ⟨Nat.le_of_ble_eq_true rfl, Nat.le_of_ble_eq_true rfl⟩ rfl rfl (Nat.le_of_ble_eq_true rfl) (t_X10_copyRow 44 62 46 62 ga_44 ga_46 h _ hyp) (fun h_1 hyp => ?_)
  refine ge_aload_n a_X10_restTakes_11 rfl 0 rfl ?_
  refine ge_aload_n a_X10_restTakes_12 rfl 0 rfl ?_
  refine ge_aload_n a_X10_restTakes_13 rfl 0 rfl ?_
  refine ge_cVI [] (rest := [.ref 43, .ref 43]) a_X10_restTakes_14 ok_X10_left lk_X10_141 ⟨Nat.le_of_ble_eq_true rfl, Nat.le_of_ble_eq_true rfl⟩ (rfl : gm_cls 43 = 9) vc_9 (by decide) rfl rfl (Nat.le_of_ble_eq_true rfl) (t_X10_left   h_1 _ hyp) (fun r_3 h_2 hyp => ?_)
  refine ge_cVI [.int r_3] (rest := [.ref 43]) a_X10_restTakes_17 ok_X10_readsOn lk_X10_145 ⟨Nat.le_of_ble_eq_true rfl, Nat.le_of_ble_eq_true rfl⟩ (rfl : gm_cls 43 = 9) vc_9 (by decide) rfl rfl (Nat.le_of_ble_eq_true rfl) (t_X10_readsOn r_3  h_2 _ hyp) (fun r_5 h_4 hyp => ?_)
  refine ge_cVI [.int r_5] (rest := []) a_X10_restTakes_20 ok_X10_putBack lk_X10_149 ⟨Nat.le_of_ble_eq_true rfl, Nat.le_of_ble_eq_true rfl⟩ (rfl : gm_cls 43 = 9) vc_9 (by decide) rfl rfl (Nat.le_of_ble_eq_true rfl) (t_X10_putBack r_5  h_4 _ hyp) (fun r_7 h_6 hyp => ?_)
  exact ge_iret rfl a_X10_restTakes_23 hyp

theorem a_X10_restTrips_0 : At m_X10_restTrips 0 (.iconst 0) 1 1 := at_i (by decide +kernel) rfl
theorem a_X10_restTrips_1 : At m_X10_restTrips 1 (.istore_n 1) 1 2 := at_i (by decide +kernel) rfl
theorem a_X10_restTrips_2 : At m_X10_restTrips 2 (.aload_n 0) 1 3 := at_i (by decide +kernel) rfl
theorem a_X10_restTrips_3 : At m_X10_restTrips 3 (.getfield 9) 3 6 := at_i (by decide +kernel) rfl
theorem a_X10_restTrips_6 : At m_X10_restTrips 6 (.iconst 0) 1 7 := at_i (by decide +kernel) rfl
theorem a_X10_restTrips_7 : At m_X10_restTrips 7 (.iaload) 1 8 := at_i (by decide +kernel) rfl
theorem a_X10_restTrips_8 : At m_X10_restTrips 8 (.istore_n 2) 1 9 := at_i (by decide +kernel) rfl
theorem a_X10_restTrips_9 : At m_X10_restTrips 9 (.iload_n 2) 1 10 := at_i (by decide +kernel) rfl
theorem a_X10_restTrips_10 : At m_X10_restTrips 10 (.aload_n 0) 1 11 := at_i (by decide +kernel) rfl
theorem a_X10_restTrips_11 : At m_X10_restTrips 11 (.getfield 9) 3 14 := at_i (by decide +kernel) rfl
theorem a_X10_restTrips_14 : At m_X10_restTrips 14 (.iconst 4) 1 15 := at_i (by decide +kernel) rfl
theorem a_X10_restTrips_15 : At m_X10_restTrips 15 (.iaload) 1 16 := at_i (by decide +kernel) rfl
theorem a_X10_restTrips_16 : AtJ m_X10_restTrips 16 (.if_icmp .ge 17) (17) 33 19 := at_j (by decide +kernel) (by decide) rfl
theorem a_X10_restTrips_19 : At m_X10_restTrips 19 (.iload_n 1) 1 20 := at_i (by decide +kernel) rfl
theorem a_X10_restTrips_20 : At m_X10_restTrips 20 (.aload_n 0) 1 21 := at_i (by decide +kernel) rfl
theorem a_X10_restTrips_21 : At m_X10_restTrips 21 (.iload_n 2) 1 22 := at_i (by decide +kernel) rfl
theorem a_X10_restTrips_22 : At m_X10_restTrips 22 (.invokevirtual 109) 3 25 := at_i (by decide +kernel) rfl
theorem a_X10_restTrips_25 : At m_X10_restTrips 25 (.iadd) 1 26 := at_i (by decide +kernel) rfl
theorem a_X10_restTrips_26 : At m_X10_restTrips 26 (.istore_n 1) 1 27 := at_i (by decide +kernel) rfl
theorem a_X10_restTrips_27 : At m_X10_restTrips 27 (.iinc 2 1) 3 30 := at_i (by decide +kernel) rfl
theorem a_X10_restTrips_30 : AtJ m_X10_restTrips 30 (.goto (-21)) (-21) 9 33 := at_j (by decide +kernel) (by decide) rfl
theorem a_X10_restTrips_33 : At m_X10_restTrips 33 (.iload_n 1) 1 34 := at_i (by decide +kernel) rfl
theorem a_X10_restTrips_34 : At m_X10_restTrips 34 (.ireturn) 1 35 := at_i (by decide +kernel) rfl
def f_X10_restTrips_b9   (Q : Int32 → Mem → Prop)  (K9 : Int32 → Int32 → Mem → Prop) (v1 : Int32) (v2 : Int32) (h : Mem) : Prop :=
  if h 44 4 ≤ v2 then (
    Q v1 h)
  else (
    f_X10_trips v2 h fun r_4 h_3 =>
    ∀ v_5 : Int32, v_5 = v1 + r_4 →
    ∀ v_6 : Int32, v_6 = v2 + (1 : Int32) →
    K9 v_5 v_6 h_3)
set_option maxRecDepth 20000 in
theorem t_X10_restTrips_b9     (Q : Int32 → Mem → Prop)   : ∀ (n : Nat) (v1 : Int32) (v2 : Int32) (h : Mem), gm_it2 (f_X10_restTrips_b9   Q ) n v1 v2 h → EV m_X10_restTrips (GI Q) 9 [(0, .ref 43), (1, .int v1), (2, .int v2)] [] h := by
  refine ge_loop2 (P := fun v1 v2 h => EV m_X10_restTrips (GI Q) 9 [(0, .ref 43), (1, .int v1), (2, .int v2)] [] h) (fun K9 hK9 v1 v2 h hyp => ?_)
  unfold f_X10_restTrips_b9 at hyp
  refine ge_iload_n a_X10_restTrips_9 rfl 2 rfl ?_
  refine ge_aload_n a_X10_restTrips_10 rfl 0 rfl ?_
  refine ge_getR (q := 44) a_X10_restTrips_11 fd_X10_9 (rfl : gm_cls 43 = 9) rfl ?_
  refine ge_iconst (v := 4) a_X10_restTrips_14 rfl ?_
  refine ge_iald (j := 4) a_X10_restTrips_15 ga_44 li_4_62.1 li_4_62.2 ?_
  refine ge_icmp_ge a_X10_restTrips_16 (fun c_2 => ?_) (fun c_2 => ?_)
  · have hyp := gm_ip hyp c_2
    refine ge_iload_n a_X10_restTrips_33 rfl 1 rfl ?_
    exact ge_iret rfl a_X10_restTrips_34 hyp
  · have hyp := gm_in hyp c_2
    refine ge_iload_n a_X10_restTrips_19 rfl 1 rfl ?_
    refine ge_aload_n a_X10_restTrips_20 rfl 0 rfl ?_
    refine ge_iload_n a_X10_restTrips_21 rfl 2 rfl ?_
    refine ge_cVI [.int v2] (rest := [.int v1]) a_X10_restTrips_22 ok_X10_trips lk_X10_109 ⟨Nat.le_of_ble_eq_true rfl, Nat.le_of_ble_eq_true rfl⟩ (rfl : gm_cls 43 = 9) vc_9 (by decide) rfl rfl (Nat.le_of_ble_eq_true rfl) (t_X10_trips v2  h _ hyp) (fun r_4 h_3 hyp => ?_)
    refine ge_iadd a_X10_restTrips_25 ?_
    refine ge_topi (fun v_5 ev_5 => ?_)
    have hyp := hyp v_5 ev_5
    refine ge_istore_n (lv' := [(1, .int v_5), (0, .ref 43), (2, .int v2)]) a_X10_restTrips_26 rfl (Nat.le_of_ble_eq_true rfl) rfl ?_
    obtain ⟨v_6, ev_6⟩ : ∃ y : Int32, y = v2 + (1 : Int32) := ⟨_, rfl⟩
    have hyp := hyp v_6 ev_6
    refine ge_iinc (v := v_6) (lv' := [(2, .int v_6), (1, .int v_5), (0, .ref 43)]) a_X10_restTrips_27 2 rfl ev_6.symm (Nat.le_of_ble_eq_true rfl) rfl ?_
    refine ge_goto a_X10_restTrips_30 ?_
    exact ge_sub [2, 1, 0] rfl (hK9 v_5 v_6 h_3 hyp)
def f_X10_restTrips  (h : Mem) (Q : Int32 → Mem → Prop) : Prop :=
  ∀ v_1 : Int32, v_1 = h 44 0 →
  gm_it2 (f_X10_restTrips_b9   Q ) gm_F (0 : Int32) v_1 h
set_option maxRecDepth 20000 in
theorem t_X10_restTrips   (h : Mem) (Q : Int32 → Mem → Prop) (hyp : f_X10_restTrips  h Q) : Cn m_X10_restTrips [.ref 43] h (GI Q) := by
  refine ge_entry (lv := [(0, .ref 43)]) pn_X10 (Nat.le_of_ble_eq_true rfl) rfl ?_
  unfold f_X10_restTrips at hyp
  refine ge_iconst (v := 0) a_X10_restTrips_0 rfl ?_
  refine ge_istore_n (lv' := [(1, .int (0 : Int32)), (0, .ref 43)]) a_X10_restTrips_1 rfl (Nat.le_of_ble_eq_true rfl) rfl ?_
  refine ge_aload_n a_X10_restTrips_2 rfl 1 rfl ?_
  refine ge_getR (q := 44) a_X10_restTrips_3 fd_X10_9 (rfl : gm_cls 43 = 9) rfl ?_
  refine ge_iconst (v := 0) a_X10_restTrips_6 rfl ?_
  refine ge_iald (j := 0) a_X10_restTrips_7 ga_44 li_0_62.1 li_0_62.2 ?_
  refine ge_topi (fun v_1 ev_1 => ?_)
  have hyp := hyp v_1 ev_1
  refine ge_istore_n (lv' := [(2, .int v_1), (1, .int (0 : Int32)), (0, .ref 43)]) a_X10_restTrips_8 rfl (Nat.le_of_ble_eq_true rfl) rfl ?_
  exact ge_sub [2, 1, 0] rfl (t_X10_restTrips_b9     Q   gm_F (0 : Int32) v_1 h hyp)

theorem a_X10_restSeen_0 : At m_X10_restSeen 0 (.iconst 0) 1 1 := at_i (by decide +kernel) rfl
theorem a_X10_restSeen_1 : At m_X10_restSeen 1 (.istore_n 1) 1 2 := at_i (by decide +kernel) rfl
theorem a_X10_restSeen_2 : At m_X10_restSeen 2 (.aload_n 0) 1 3 := at_i (by decide +kernel) rfl
theorem a_X10_restSeen_3 : At m_X10_restSeen 3 (.getfield 9) 3 6 := at_i (by decide +kernel) rfl
theorem a_X10_restSeen_6 : At m_X10_restSeen 6 (.iconst 0) 1 7 := at_i (by decide +kernel) rfl
theorem a_X10_restSeen_7 : At m_X10_restSeen 7 (.iaload) 1 8 := at_i (by decide +kernel) rfl
theorem a_X10_restSeen_8 : At m_X10_restSeen 8 (.istore_n 2) 1 9 := at_i (by decide +kernel) rfl
theorem a_X10_restSeen_9 : At m_X10_restSeen 9 (.iload_n 2) 1 10 := at_i (by decide +kernel) rfl
theorem a_X10_restSeen_10 : At m_X10_restSeen 10 (.aload_n 0) 1 11 := at_i (by decide +kernel) rfl
theorem a_X10_restSeen_11 : At m_X10_restSeen 11 (.getfield 9) 3 14 := at_i (by decide +kernel) rfl
theorem a_X10_restSeen_14 : At m_X10_restSeen 14 (.iconst 4) 1 15 := at_i (by decide +kernel) rfl
theorem a_X10_restSeen_15 : At m_X10_restSeen 15 (.iaload) 1 16 := at_i (by decide +kernel) rfl
theorem a_X10_restSeen_16 : AtJ m_X10_restSeen 16 (.if_icmp .ge 17) (17) 33 19 := at_j (by decide +kernel) (by decide) rfl
theorem a_X10_restSeen_19 : At m_X10_restSeen 19 (.iload_n 1) 1 20 := at_i (by decide +kernel) rfl
theorem a_X10_restSeen_20 : At m_X10_restSeen 20 (.aload_n 0) 1 21 := at_i (by decide +kernel) rfl
theorem a_X10_restSeen_21 : At m_X10_restSeen 21 (.iload_n 2) 1 22 := at_i (by decide +kernel) rfl
theorem a_X10_restSeen_22 : At m_X10_restSeen 22 (.invokevirtual 112) 3 25 := at_i (by decide +kernel) rfl
theorem a_X10_restSeen_25 : At m_X10_restSeen 25 (.iadd) 1 26 := at_i (by decide +kernel) rfl
theorem a_X10_restSeen_26 : At m_X10_restSeen 26 (.istore_n 1) 1 27 := at_i (by decide +kernel) rfl
theorem a_X10_restSeen_27 : At m_X10_restSeen 27 (.iinc 2 1) 3 30 := at_i (by decide +kernel) rfl
theorem a_X10_restSeen_30 : AtJ m_X10_restSeen 30 (.goto (-21)) (-21) 9 33 := at_j (by decide +kernel) (by decide) rfl
theorem a_X10_restSeen_33 : At m_X10_restSeen 33 (.iload_n 1) 1 34 := at_i (by decide +kernel) rfl
theorem a_X10_restSeen_34 : At m_X10_restSeen 34 (.ireturn) 1 35 := at_i (by decide +kernel) rfl
def f_X10_restSeen_b9   (Q : Int32 → Mem → Prop)  (K9 : Int32 → Int32 → Mem → Prop) (v1 : Int32) (v2 : Int32) (h : Mem) : Prop :=
  if h 44 4 ≤ v2 then (
    Q v1 h)
  else (
    f_X10_seen v2 h fun r_4 h_3 =>
    ∀ v_5 : Int32, v_5 = v1 + r_4 →
    ∀ v_6 : Int32, v_6 = v2 + (1 : Int32) →
    K9 v_5 v_6 h_3)
set_option maxRecDepth 20000 in
theorem t_X10_restSeen_b9     (Q : Int32 → Mem → Prop)   : ∀ (n : Nat) (v1 : Int32) (v2 : Int32) (h : Mem), gm_it2 (f_X10_restSeen_b9   Q ) n v1 v2 h → EV m_X10_restSeen (GI Q) 9 [(0, .ref 43), (1, .int v1), (2, .int v2)] [] h := by
  refine ge_loop2 (P := fun v1 v2 h => EV m_X10_restSeen (GI Q) 9 [(0, .ref 43), (1, .int v1), (2, .int v2)] [] h) (fun K9 hK9 v1 v2 h hyp => ?_)
  unfold f_X10_restSeen_b9 at hyp
  refine ge_iload_n a_X10_restSeen_9 rfl 2 rfl ?_
  refine ge_aload_n a_X10_restSeen_10 rfl 0 rfl ?_
  refine ge_getR (q := 44) a_X10_restSeen_11 fd_X10_9 (rfl : gm_cls 43 = 9) rfl ?_
  refine ge_iconst (v := 4) a_X10_restSeen_14 rfl ?_
  refine ge_iald (j := 4) a_X10_restSeen_15 ga_44 li_4_62.1 li_4_62.2 ?_
  refine ge_icmp_ge a_X10_restSeen_16 (fun c_2 => ?_) (fun c_2 => ?_)
  · have hyp := gm_ip hyp c_2
    refine ge_iload_n a_X10_restSeen_33 rfl 1 rfl ?_
    exact ge_iret rfl a_X10_restSeen_34 hyp
  · have hyp := gm_in hyp c_2
    refine ge_iload_n a_X10_restSeen_19 rfl 1 rfl ?_
    refine ge_aload_n a_X10_restSeen_20 rfl 0 rfl ?_
    refine ge_iload_n a_X10_restSeen_21 rfl 2 rfl ?_
    refine ge_cVI [.int v2] (rest := [.int v1]) a_X10_restSeen_22 ok_X10_seen lk_X10_112 ⟨Nat.le_of_ble_eq_true rfl, Nat.le_of_ble_eq_true rfl⟩ (rfl : gm_cls 43 = 9) vc_9 (by decide) rfl rfl (Nat.le_of_ble_eq_true rfl) (t_X10_seen v2  h _ hyp) (fun r_4 h_3 hyp => ?_)
    refine ge_iadd a_X10_restSeen_25 ?_
    refine ge_topi (fun v_5 ev_5 => ?_)
    have hyp := hyp v_5 ev_5
    refine ge_istore_n (lv' := [(1, .int v_5), (0, .ref 43), (2, .int v2)]) a_X10_restSeen_26 rfl (Nat.le_of_ble_eq_true rfl) rfl ?_
    obtain ⟨v_6, ev_6⟩ : ∃ y : Int32, y = v2 + (1 : Int32) := ⟨_, rfl⟩
    have hyp := hyp v_6 ev_6
    refine ge_iinc (v := v_6) (lv' := [(2, .int v_6), (1, .int v_5), (0, .ref 43)]) a_X10_restSeen_27 2 rfl ev_6.symm (Nat.le_of_ble_eq_true rfl) rfl ?_
    refine ge_goto a_X10_restSeen_30 ?_
    exact ge_sub [2, 1, 0] rfl (hK9 v_5 v_6 h_3 hyp)
def f_X10_restSeen  (h : Mem) (Q : Int32 → Mem → Prop) : Prop :=
  ∀ v_1 : Int32, v_1 = h 44 0 →
  gm_it2 (f_X10_restSeen_b9   Q ) gm_F (0 : Int32) v_1 h
set_option maxRecDepth 20000 in
theorem t_X10_restSeen   (h : Mem) (Q : Int32 → Mem → Prop) (hyp : f_X10_restSeen  h Q) : Cn m_X10_restSeen [.ref 43] h (GI Q) := by
  refine ge_entry (lv := [(0, .ref 43)]) pn_X10 (Nat.le_of_ble_eq_true rfl) rfl ?_
  unfold f_X10_restSeen at hyp
  refine ge_iconst (v := 0) a_X10_restSeen_0 rfl ?_
  refine ge_istore_n (lv' := [(1, .int (0 : Int32)), (0, .ref 43)]) a_X10_restSeen_1 rfl (Nat.le_of_ble_eq_true rfl) rfl ?_
  refine ge_aload_n a_X10_restSeen_2 rfl 1 rfl ?_
  refine ge_getR (q := 44) a_X10_restSeen_3 fd_X10_9 (rfl : gm_cls 43 = 9) rfl ?_
  refine ge_iconst (v := 0) a_X10_restSeen_6 rfl ?_
  refine ge_iald (j := 0) a_X10_restSeen_7 ga_44 li_0_62.1 li_0_62.2 ?_
  refine ge_topi (fun v_1 ev_1 => ?_)
  have hyp := hyp v_1 ev_1
  refine ge_istore_n (lv' := [(2, .int v_1), (1, .int (0 : Int32)), (0, .ref 43)]) a_X10_restSeen_8 rfl (Nat.le_of_ble_eq_true rfl) rfl ?_
  exact ge_sub [2, 1, 0] rfl (t_X10_restSeen_b9     Q   gm_F (0 : Int32) v_1 h hyp)

theorem a_X10_paceThen_0 : At m_X10_paceThen 0 (.aload_n 0) 1 1 := at_i (by decide +kernel) rfl
theorem a_X10_paceThen_1 : At m_X10_paceThen 1 (.getfield 9) 3 4 := at_i (by decide +kernel) rfl
theorem a_X10_paceThen_4 : At m_X10_paceThen 4 (.bipush 6) 2 6 := at_i (by decide +kernel) rfl
theorem a_X10_paceThen_6 : At m_X10_paceThen 6 (.iaload) 1 7 := at_i (by decide +kernel) rfl
theorem a_X10_paceThen_7 : At m_X10_paceThen 7 (.istore_n 3) 1 8 := at_i (by decide +kernel) rfl
theorem a_X10_paceThen_8 : At m_X10_paceThen 8 (.aload_n 0) 1 9 := at_i (by decide +kernel) rfl
theorem a_X10_paceThen_9 : At m_X10_paceThen 9 (.getfield 9) 3 12 := at_i (by decide +kernel) rfl
theorem a_X10_paceThen_12 : At m_X10_paceThen 12 (.bipush 7) 2 14 := at_i (by decide +kernel) rfl
theorem a_X10_paceThen_14 : At m_X10_paceThen 14 (.iaload) 1 15 := at_i (by decide +kernel) rfl
theorem a_X10_paceThen_15 : At m_X10_paceThen 15 (.istore 4) 2 17 := at_i (by decide +kernel) rfl
theorem a_X10_paceThen_17 : At m_X10_paceThen 17 (.iconst 0) 1 18 := at_i (by decide +kernel) rfl
theorem a_X10_paceThen_18 : At m_X10_paceThen 18 (.istore 5) 2 20 := at_i (by decide +kernel) rfl
theorem a_X10_paceThen_20 : At m_X10_paceThen 20 (.iload 5) 2 22 := at_i (by decide +kernel) rfl
theorem a_X10_paceThen_22 : At m_X10_paceThen 22 (.iload_n 1) 1 23 := at_i (by decide +kernel) rfl
theorem a_X10_paceThen_23 : AtJ m_X10_paceThen 23 (.if_icmp .ge 20) (20) 43 26 := at_j (by decide +kernel) (by decide) rfl
theorem a_X10_paceThen_26 : At m_X10_paceThen 26 (.aload_n 0) 1 27 := at_i (by decide +kernel) rfl
theorem a_X10_paceThen_27 : At m_X10_paceThen 27 (.getfield 9) 3 30 := at_i (by decide +kernel) rfl
theorem a_X10_paceThen_30 : At m_X10_paceThen 30 (.bipush 6) 2 32 := at_i (by decide +kernel) rfl
theorem a_X10_paceThen_32 : At m_X10_paceThen 32 (.aload_n 0) 1 33 := at_i (by decide +kernel) rfl
theorem a_X10_paceThen_33 : At m_X10_paceThen 33 (.invokevirtual 134) 3 36 := at_i (by decide +kernel) rfl
theorem a_X10_paceThen_36 : At m_X10_paceThen 36 (.iastore) 1 37 := at_i (by decide +kernel) rfl
theorem a_X10_paceThen_37 : At m_X10_paceThen 37 (.iinc 5 1) 3 40 := at_i (by decide +kernel) rfl
theorem a_X10_paceThen_40 : AtJ m_X10_paceThen 40 (.goto (-20)) (-20) 20 43 := at_j (by decide +kernel) (by decide) rfl
theorem a_X10_paceThen_43 : At m_X10_paceThen 43 (.aload_n 0) 1 44 := at_i (by decide +kernel) rfl
theorem a_X10_paceThen_44 : At m_X10_paceThen 44 (.getfield 9) 3 47 := at_i (by decide +kernel) rfl
theorem a_X10_paceThen_47 : At m_X10_paceThen 47 (.bipush 6) 2 49 := at_i (by decide +kernel) rfl
theorem a_X10_paceThen_49 : At m_X10_paceThen 49 (.iload_n 2) 1 50 := at_i (by decide +kernel) rfl
theorem a_X10_paceThen_50 : At m_X10_paceThen 50 (.iadd) 1 51 := at_i (by decide +kernel) rfl
theorem a_X10_paceThen_51 : At m_X10_paceThen 51 (.iaload) 1 52 := at_i (by decide +kernel) rfl
theorem a_X10_paceThen_52 : At m_X10_paceThen 52 (.istore 5) 2 54 := at_i (by decide +kernel) rfl
theorem a_X10_paceThen_54 : At m_X10_paceThen 54 (.aload_n 0) 1 55 := at_i (by decide +kernel) rfl
theorem a_X10_paceThen_55 : At m_X10_paceThen 55 (.getfield 9) 3 58 := at_i (by decide +kernel) rfl
theorem a_X10_paceThen_58 : At m_X10_paceThen 58 (.bipush 6) 2 60 := at_i (by decide +kernel) rfl
theorem a_X10_paceThen_60 : At m_X10_paceThen 60 (.iload_n 3) 1 61 := at_i (by decide +kernel) rfl
theorem a_X10_paceThen_61 : At m_X10_paceThen 61 (.iastore) 1 62 := at_i (by decide +kernel) rfl
theorem a_X10_paceThen_62 : At m_X10_paceThen 62 (.aload_n 0) 1 63 := at_i (by decide +kernel) rfl
theorem a_X10_paceThen_63 : At m_X10_paceThen 63 (.getfield 9) 3 66 := at_i (by decide +kernel) rfl
theorem a_X10_paceThen_66 : At m_X10_paceThen 66 (.bipush 7) 2 68 := at_i (by decide +kernel) rfl
theorem a_X10_paceThen_68 : At m_X10_paceThen 68 (.iload 4) 2 70 := at_i (by decide +kernel) rfl
theorem a_X10_paceThen_70 : At m_X10_paceThen 70 (.iastore) 1 71 := at_i (by decide +kernel) rfl
theorem a_X10_paceThen_71 : At m_X10_paceThen 71 (.iload 5) 2 73 := at_i (by decide +kernel) rfl
theorem a_X10_paceThen_73 : At m_X10_paceThen 73 (.ireturn) 1 74 := at_i (by decide +kernel) rfl
def f_X10_paceThen_b20 (a1 : Int32) (a2 : Int32) (v_1 : Int32) (v_2 : Int32) (Q : Int32 → Mem → Prop)  (K20 : Int32 → Mem → Prop) (v5 : Int32) (h : Mem) : Prop :=
  if a1 ≤ v5 then (
    vp_in ((6 : Int32) + a2) 62 ∧
    ∀ v_5 : Int32, v_5 = h 44 (((6 : Int32) + a2).toNatClampNeg) →
    ∀ h_6 : Mem, h_6 = gm_st h 44 6 v_1 →
    ∀ h_7 : Mem, h_7 = gm_st h_6 44 7 v_2 →
    Q v_5 h_7)
  else (
    f_X10_turns  h fun r_9 h_8 =>
    ∀ h_10 : Mem, h_10 = gm_st h_8 44 6 r_9 →
    ∀ v_11 : Int32, v_11 = v5 + (1 : Int32) →
    K20 v_11 h_10)
set_option maxRecDepth 20000 in
theorem t_X10_paceThen_b20 (a1 : Int32) (a2 : Int32) (v_1 : Int32) (v_2 : Int32)   (Q : Int32 → Mem → Prop)   : ∀ (n : Nat) (v5 : Int32) (h : Mem), gm_it1 (f_X10_paceThen_b20 a1 a2 v_1 v_2 Q ) n v5 h → EV m_X10_paceThen (GI Q) 20 [(0, .ref 43), (1, .int a1), (2, .int a2), (3, .int v_1), (4, .int v_2), (5, .int v5)] [] h := by
  refine ge_loop1 (P := fun v5 h => EV m_X10_paceThen (GI Q) 20 [(0, .ref 43), (1, .int a1), (2, .int a2), (3, .int v_1), (4, .int v_2), (5, .int v5)] [] h) (fun K20 hK20 v5 h hyp => ?_)
  unfold f_X10_paceThen_b20 at hyp
  refine ge_iload a_X10_paceThen_20 5 rfl ?_
  refine ge_iload_n a_X10_paceThen_22 rfl 1 rfl ?_
  refine ge_icmp_ge a_X10_paceThen_23 (fun c_3 => ?_) (fun c_3 => ?_)
  · have hyp := gm_ip hyp c_3
    refine ge_aload_n a_X10_paceThen_43 rfl 0 rfl ?_
    refine ge_getR (q := 44) a_X10_paceThen_44 fd_X10_9 (rfl : gm_cls 43 = 9) rfl ?_
    refine ge_bipush (v := 6) a_X10_paceThen_47 rfl ?_
    refine ge_iload_n a_X10_paceThen_49 rfl 2 rfl ?_
    refine ge_iadd a_X10_paceThen_50 ?_
    obtain ⟨b_4, hyp⟩ := hyp
    refine ge_iald (j := ((6 : Int32) + a2).toNatClampNeg) a_X10_paceThen_51 ga_44 b_4 rfl ?_
    refine ge_topi (fun v_5 ev_5 => ?_)
    have hyp := hyp v_5 ev_5
    refine ge_istore (lv' := [(5, .int v_5), (0, .ref 43), (1, .int a1), (2, .int a2), (3, .int v_1), (4, .int v_2)]) a_X10_paceThen_52 (Nat.le_of_ble_eq_true rfl) rfl ?_
    refine ge_aload_n a_X10_paceThen_54 rfl 1 rfl ?_
    refine ge_getR (q := 44) a_X10_paceThen_55 fd_X10_9 (rfl : gm_cls 43 = 9) rfl ?_
    refine ge_bipush (v := 6) a_X10_paceThen_58 rfl ?_
    refine ge_iload_n a_X10_paceThen_60 rfl 4 rfl ?_
    refine ge_iast (j := 6) a_X10_paceThen_61 ga_44 li_6_62.1 li_6_62.2 ?_
    refine ge_nm (fun h_6 eh_6 => ?_)
    have hyp := hyp h_6 eh_6
    refine ge_aload_n a_X10_paceThen_62 rfl 1 rfl ?_
    refine ge_getR (q := 44) a_X10_paceThen_63 fd_X10_9 (rfl : gm_cls 43 = 9) rfl ?_
    refine ge_bipush (v := 7) a_X10_paceThen_66 rfl ?_
    refine ge_iload a_X10_paceThen_68 5 rfl ?_
    refine ge_iast (j := 7) a_X10_paceThen_70 ga_44 li_7_62.1 li_7_62.2 ?_
    refine ge_nm (fun h_7 eh_7 => ?_)
    have hyp := hyp h_7 eh_7
    refine ge_iload a_X10_paceThen_71 0 rfl ?_
    exact ge_iret rfl a_X10_paceThen_73 hyp
  · have hyp := gm_in hyp c_3
    refine ge_aload_n a_X10_paceThen_26 rfl 0 rfl ?_
    refine ge_getR (q := 44) a_X10_paceThen_27 fd_X10_9 (rfl : gm_cls 43 = 9) rfl ?_
    refine ge_bipush (v := 6) a_X10_paceThen_30 rfl ?_
    refine ge_aload_n a_X10_paceThen_32 rfl 0 rfl ?_
    refine ge_cVI [] (rest := [.int (6 : Int32), .ref 44]) a_X10_paceThen_33 ok_X10_turns lk_X10_134 ⟨Nat.le_of_ble_eq_true rfl, Nat.le_of_ble_eq_true rfl⟩ (rfl : gm_cls 43 = 9) vc_9 (by decide) rfl rfl (Nat.le_of_ble_eq_true rfl) (t_X10_turns   h _ hyp) (fun r_9 h_8 hyp => ?_)
    refine ge_iast (j := 6) a_X10_paceThen_36 ga_44 li_6_62.1 li_6_62.2 ?_
    refine ge_nm (fun h_10 eh_10 => ?_)
    have hyp := hyp h_10 eh_10
    obtain ⟨v_11, ev_11⟩ : ∃ y : Int32, y = v5 + (1 : Int32) := ⟨_, rfl⟩
    have hyp := hyp v_11 ev_11
    refine ge_iinc (v := v_11) (lv' := [(5, .int v_11), (0, .ref 43), (1, .int a1), (2, .int a2), (3, .int v_1), (4, .int v_2)]) a_X10_paceThen_37 5 rfl ev_11.symm (Nat.le_of_ble_eq_true rfl) rfl ?_
    refine ge_goto a_X10_paceThen_40 ?_
    exact ge_sub [1, 2, 3, 4, 5, 0] rfl (hK20 v_11 h_10 hyp)
def f_X10_paceThen (a1 : Int32) (a2 : Int32) (h : Mem) (Q : Int32 → Mem → Prop) : Prop :=
  ∀ v_1 : Int32, v_1 = h 44 6 →
  ∀ v_2 : Int32, v_2 = h 44 7 →
  gm_it1 (f_X10_paceThen_b20 a1 a2 v_1 v_2 Q ) gm_F (0 : Int32) h
set_option maxRecDepth 20000 in
theorem t_X10_paceThen (a1 : Int32) (a2 : Int32)  (h : Mem) (Q : Int32 → Mem → Prop) (hyp : f_X10_paceThen a1 a2 h Q) : Cn m_X10_paceThen [.ref 43, .int a1, .int a2] h (GI Q) := by
  refine ge_entry (lv := [(0, .ref 43), (1, .int a1), (2, .int a2)]) pn_X10 (Nat.le_of_ble_eq_true rfl) rfl ?_
  unfold f_X10_paceThen at hyp
  refine ge_aload_n a_X10_paceThen_0 rfl 0 rfl ?_
  refine ge_getR (q := 44) a_X10_paceThen_1 fd_X10_9 (rfl : gm_cls 43 = 9) rfl ?_
  refine ge_bipush (v := 6) a_X10_paceThen_4 rfl ?_
  refine ge_iald (j := 6) a_X10_paceThen_6 ga_44 li_6_62.1 li_6_62.2 ?_
  refine ge_topi (fun v_1 ev_1 => ?_)
  have hyp := hyp v_1 ev_1
  refine ge_istore_n (lv' := [(3, .int v_1), (0, .ref 43), (1, .int a1), (2, .int a2)]) a_X10_paceThen_7 rfl (Nat.le_of_ble_eq_true rfl) rfl ?_
  refine ge_aload_n a_X10_paceThen_8 rfl 1 rfl ?_
  refine ge_getR (q := 44) a_X10_paceThen_9 fd_X10_9 (rfl : gm_cls 43 = 9) rfl ?_
  refine ge_bipush (v := 7) a_X10_paceThen_12 rfl ?_
  refine ge_iald (j := 7) a_X10_paceThen_14 ga_44 li_7_62.1 li_7_62.2 ?_
  refine ge_topi (fun v_2 ev_2 => ?_)
  have hyp := hyp v_2 ev_2
  refine ge_istore (lv' := [(4, .int v_2), (3, .int v_1), (0, .ref 43), (1, .int a1), (2, .int a2)]) a_X10_paceThen_15 (Nat.le_of_ble_eq_true rfl) rfl ?_
  refine ge_iconst (v := 0) a_X10_paceThen_17 rfl ?_
  refine ge_istore (lv' := [(5, .int (0 : Int32)), (4, .int v_2), (3, .int v_1), (0, .ref 43), (1, .int a1), (2, .int a2)]) a_X10_paceThen_18 (Nat.le_of_ble_eq_true rfl) rfl ?_
  exact ge_sub [3, 4, 5, 2, 1, 0] rfl (t_X10_paceThen_b20 a1 a2 v_1 v_2   Q   gm_F (0 : Int32) h hyp)

theorem a_X10_rest_0 : At m_X10_rest 0 (.iload_n 1) 1 1 := at_i (by decide +kernel) rfl
theorem a_X10_rest_1 : At m_X10_rest 1 (.iconst 0) 1 2 := at_i (by decide +kernel) rfl
theorem a_X10_rest_2 : At m_X10_rest 2 (.iconst 4) 1 3 := at_i (by decide +kernel) rfl
theorem a_X10_rest_3 : At m_X10_rest 3 (.invokestatic 71) 3 6 := at_i (by decide +kernel) rfl
theorem a_X10_rest_6 : AtJ m_X10_rest 6 (.ifCond .ne 10) (10) 16 9 := at_j (by decide +kernel) (by decide) rfl
theorem a_X10_rest_9 : At m_X10_rest 9 (.aload_n 0) 1 10 := at_i (by decide +kernel) rfl
theorem a_X10_rest_10 : At m_X10_rest 10 (.ldc 66) 2 12 := at_i (by decide +kernel) rfl
theorem a_X10_rest_12 : At m_X10_rest 12 (.invokevirtual 83) 3 15 := at_i (by decide +kernel) rfl
theorem a_X10_rest_15 : At m_X10_rest 15 (.ireturn) 1 16 := at_i (by decide +kernel) rfl
theorem a_X10_rest_16 : At m_X10_rest 16 (.iload_n 1) 1 17 := at_i (by decide +kernel) rfl
theorem a_X10_rest_17 : At m_X10_rest 17 (.iconst 3) 1 18 := at_i (by decide +kernel) rfl
theorem a_X10_rest_18 : AtJ m_X10_rest 18 (.if_icmp .ge 31) (31) 49 21 := at_j (by decide +kernel) (by decide) rfl
theorem a_X10_rest_21 : At m_X10_rest 21 (.iload_n 1) 1 22 := at_i (by decide +kernel) rfl
theorem a_X10_rest_22 : AtJ m_X10_rest 22 (.ifCond .ne 10) (10) 32 25 := at_j (by decide +kernel) (by decide) rfl
theorem a_X10_rest_25 : At m_X10_rest 25 (.aload_n 0) 1 26 := at_i (by decide +kernel) rfl
theorem a_X10_rest_26 : At m_X10_rest 26 (.invokevirtual 152) 3 29 := at_i (by decide +kernel) rfl
theorem a_X10_rest_29 : AtJ m_X10_rest 29 (.goto 19) (19) 48 32 := at_j (by decide +kernel) (by decide) rfl
theorem a_X10_rest_32 : At m_X10_rest 32 (.iload_n 1) 1 33 := at_i (by decide +kernel) rfl
theorem a_X10_rest_33 : At m_X10_rest 33 (.iconst 1) 1 34 := at_i (by decide +kernel) rfl
theorem a_X10_rest_34 : AtJ m_X10_rest 34 (.if_icmp .ne 10) (10) 44 37 := at_j (by decide +kernel) (by decide) rfl
theorem a_X10_rest_37 : At m_X10_rest 37 (.aload_n 0) 1 38 := at_i (by decide +kernel) rfl
theorem a_X10_rest_38 : At m_X10_rest 38 (.invokevirtual 155) 3 41 := at_i (by decide +kernel) rfl
theorem a_X10_rest_41 : AtJ m_X10_rest 41 (.goto 7) (7) 48 44 := at_j (by decide +kernel) (by decide) rfl
theorem a_X10_rest_44 : At m_X10_rest 44 (.aload_n 0) 1 45 := at_i (by decide +kernel) rfl
theorem a_X10_rest_45 : At m_X10_rest 45 (.invokevirtual 158) 3 48 := at_i (by decide +kernel) rfl
theorem a_X10_rest_48 : At m_X10_rest 48 (.ireturn) 1 49 := at_i (by decide +kernel) rfl
theorem a_X10_rest_49 : At m_X10_rest 49 (.aload_n 0) 1 50 := at_i (by decide +kernel) rfl
theorem a_X10_rest_50 : At m_X10_rest 50 (.aload_n 0) 1 51 := at_i (by decide +kernel) rfl
theorem a_X10_rest_51 : At m_X10_rest 51 (.invokevirtual 141) 3 54 := at_i (by decide +kernel) rfl
theorem a_X10_rest_54 : At m_X10_rest 54 (.iload_n 1) 1 55 := at_i (by decide +kernel) rfl
theorem a_X10_rest_55 : At m_X10_rest 55 (.iconst 3) 1 56 := at_i (by decide +kernel) rfl
theorem a_X10_rest_56 : At m_X10_rest 56 (.isub) 1 57 := at_i (by decide +kernel) rfl
theorem a_X10_rest_57 : At m_X10_rest 57 (.invokevirtual 161) 3 60 := at_i (by decide +kernel) rfl
theorem a_X10_rest_60 : At m_X10_rest 60 (.ireturn) 1 61 := at_i (by decide +kernel) rfl
def f_X10_rest (a1 : Int32) (h : Mem) (Q : Int32 → Mem → Prop) : Prop :=
  f_X10_within a1 (0 : Int32) (4 : Int32) h fun r_2 h_1 =>
  if r_2 = 0 then (
    f_X10_finding (-1000001 : Int32) h_1 fun r_18 h_17 =>
    Q r_18 h_17)
  else (
    if (3 : Int32) ≤ a1 then (
      f_X10_left  h_1 fun r_6 h_5 =>
      f_X10_paceThen r_6 (a1 - (3 : Int32)) h_5 fun r_8 h_7 =>
      Q r_8 h_7)
    else (
      if a1 = 0 then (
        f_X10_restTakes  h_1 fun r_16 h_15 =>
        Q r_16 h_15)
      else (
        if a1 = (1 : Int32) then (
          f_X10_restTrips  h_1 fun r_14 h_13 =>
          Q r_14 h_13)
        else (
          f_X10_restSeen  h_1 fun r_12 h_11 =>
          Q r_12 h_11))))
set_option maxRecDepth 20000 in
theorem t_X10_rest (a1 : Int32)  (h : Mem) (Q : Int32 → Mem → Prop) (hyp : f_X10_rest a1 h Q) : Cn m_X10_rest [.ref 43, .int a1] h (GI Q) := by
  refine ge_entry (lv := [(0, .ref 43), (1, .int a1)]) pn_X10 (Nat.le_of_ble_eq_true rfl) rfl ?_
  unfold f_X10_rest at hyp
  refine ge_iload_n a_X10_rest_0 rfl 1 rfl ?_
  refine ge_iconst (v := 0) a_X10_rest_1 rfl ?_
  refine ge_iconst (v := 4) a_X10_rest_2 rfl ?_
  refine ge_cSI [.int a1, .int (0 : Int32), .int (4 : Int32)] (rest := []) a_X10_rest_3 ok_X10_within lk_X10_71 ⟨Nat.le_of_ble_eq_true rfl, Nat.le_of_ble_eq_true rfl⟩ rfl rfl (Nat.le_of_ble_eq_true rfl) (t_X10_within a1 (0 : Int32) (4 : Int32)  h _ hyp) (fun r_2 h_1 hyp => ?_)
  refine ge_if_ne a_X10_rest_6 (fun c_3 => ?_) (fun c_3 => ?_)
  · have hyp := gm_in hyp c_3
    refine ge_iload_n a_X10_rest_16 rfl 1 rfl ?_
    refine ge_iconst (v := 3) a_X10_rest_17 rfl ?_
    refine ge_icmp_ge a_X10_rest_18 (fun c_4 => ?_) (fun c_4 => ?_)
    · have hyp := gm_ip hyp c_4
      refine ge_aload_n a_X10_rest_49 rfl 0 rfl ?_
      refine ge_aload_n a_X10_rest_50 rfl 0 rfl ?_
      refine ge_cVI [] (rest := [.ref 43]) a_X10_rest_51 ok_X10_left lk_X10_141 ⟨Nat.le_of_ble_eq_true rfl, Nat.le_of_ble_eq_true rfl⟩ (rfl : gm_cls 43 = 9) vc_9 (by decide) rfl rfl (Nat.le_of_ble_eq_true rfl) (t_X10_left   h_1 _ hyp) (fun r_6 h_5 hyp => ?_)
      refine ge_iload_n a_X10_rest_54 rfl 1 rfl ?_
      refine ge_iconst (v := 3) a_X10_rest_55 rfl ?_
      refine ge_isub a_X10_rest_56 ?_
      refine ge_cVI [.int r_6, .int (a1 - (3 : Int32))] (rest := []) a_X10_rest_57 ok_X10_paceThen lk_X10_161 ⟨Nat.le_of_ble_eq_true rfl, Nat.le_of_ble_eq_true rfl⟩ (rfl : gm_cls 43 = 9) vc_9 (by decide) rfl rfl (Nat.le_of_ble_eq_true rfl) (t_X10_paceThen r_6 (a1 - (3 : Int32))  h_5 _ hyp) (fun r_8 h_7 hyp => ?_)
      exact ge_iret rfl a_X10_rest_60 hyp
    · have hyp := gm_in hyp c_4
      refine ge_iload_n a_X10_rest_21 rfl 1 rfl ?_
      refine ge_if_ne a_X10_rest_22 (fun c_9 => ?_) (fun c_9 => ?_)
      · have hyp := gm_in hyp c_9
        refine ge_iload_n a_X10_rest_32 rfl 1 rfl ?_
        refine ge_iconst (v := 1) a_X10_rest_33 rfl ?_
        refine ge_icmp_ne a_X10_rest_34 (fun c_10 => ?_) (fun c_10 => ?_)
        · have hyp := gm_in hyp c_10
          refine ge_aload_n a_X10_rest_44 rfl 0 rfl ?_
          refine ge_cVI [] (rest := []) a_X10_rest_45 ok_X10_restSeen lk_X10_158 ⟨Nat.le_of_ble_eq_true rfl, Nat.le_of_ble_eq_true rfl⟩ (rfl : gm_cls 43 = 9) vc_9 (by decide) rfl rfl (Nat.le_of_ble_eq_true rfl) (t_X10_restSeen   h_1 _ hyp) (fun r_12 h_11 hyp => ?_)
          exact ge_iret rfl a_X10_rest_48 hyp
        · have hyp := gm_ip hyp c_10
          refine ge_aload_n a_X10_rest_37 rfl 0 rfl ?_
          refine ge_cVI [] (rest := []) a_X10_rest_38 ok_X10_restTrips lk_X10_155 ⟨Nat.le_of_ble_eq_true rfl, Nat.le_of_ble_eq_true rfl⟩ (rfl : gm_cls 43 = 9) vc_9 (by decide) rfl rfl (Nat.le_of_ble_eq_true rfl) (t_X10_restTrips   h_1 _ hyp) (fun r_14 h_13 hyp => ?_)
          refine ge_goto a_X10_rest_41 ?_
          exact ge_iret rfl a_X10_rest_48 hyp
      · have hyp := gm_ip hyp c_9
        refine ge_aload_n a_X10_rest_25 rfl 0 rfl ?_
        refine ge_cVI [] (rest := []) a_X10_rest_26 ok_X10_restTakes lk_X10_152 ⟨Nat.le_of_ble_eq_true rfl, Nat.le_of_ble_eq_true rfl⟩ (rfl : gm_cls 43 = 9) vc_9 (by decide) rfl rfl (Nat.le_of_ble_eq_true rfl) (t_X10_restTakes   h_1 _ hyp) (fun r_16 h_15 hyp => ?_)
        refine ge_goto a_X10_rest_29 ?_
        exact ge_iret rfl a_X10_rest_48 hyp
  · have hyp := gm_ip hyp c_3
    refine ge_aload_n a_X10_rest_9 rfl 0 rfl ?_
    refine ge_ldc (v := -1000001) a_X10_rest_10 ct_X10_66 ?_
    refine ge_cVI [.int (-1000001 : Int32)] (rest := []) a_X10_rest_12 ok_X10_finding lk_X10_83 ⟨Nat.le_of_ble_eq_true rfl, Nat.le_of_ble_eq_true rfl⟩ (rfl : gm_cls 43 = 9) vc_9 (by decide) rfl rfl (Nat.le_of_ble_eq_true rfl) (t_X10_finding (-1000001 : Int32)  h_1 _ hyp) (fun r_18 h_17 hyp => ?_)
    exact ge_iret rfl a_X10_rest_15 hyp

theorem a_X10_pace_0 : At m_X10_pace 0 (.iload_n 1) 1 1 := at_i (by decide +kernel) rfl
theorem a_X10_pace_1 : At m_X10_pace 1 (.iconst 0) 1 2 := at_i (by decide +kernel) rfl
theorem a_X10_pace_2 : At m_X10_pace 2 (.sipush 200) 3 5 := at_i (by decide +kernel) rfl
theorem a_X10_pace_5 : At m_X10_pace 5 (.invokestatic 71) 3 8 := at_i (by decide +kernel) rfl
theorem a_X10_pace_8 : AtJ m_X10_pace 8 (.ifCond .eq 21) (21) 29 11 := at_j (by decide +kernel) (by decide) rfl
theorem a_X10_pace_11 : At m_X10_pace 11 (.iload_n 2) 1 12 := at_i (by decide +kernel) rfl
theorem a_X10_pace_12 : At m_X10_pace 12 (.iconst 0) 1 13 := at_i (by decide +kernel) rfl
theorem a_X10_pace_13 : At m_X10_pace 13 (.iconst 1) 1 14 := at_i (by decide +kernel) rfl
theorem a_X10_pace_14 : At m_X10_pace 14 (.invokestatic 71) 3 17 := at_i (by decide +kernel) rfl
theorem a_X10_pace_17 : AtJ m_X10_pace 17 (.ifCond .eq 12) (12) 29 20 := at_j (by decide +kernel) (by decide) rfl
theorem a_X10_pace_20 : At m_X10_pace 20 (.aload_n 0) 1 21 := at_i (by decide +kernel) rfl
theorem a_X10_pace_21 : At m_X10_pace 21 (.iload_n 1) 1 22 := at_i (by decide +kernel) rfl
theorem a_X10_pace_22 : At m_X10_pace 22 (.iload_n 2) 1 23 := at_i (by decide +kernel) rfl
theorem a_X10_pace_23 : At m_X10_pace 23 (.invokevirtual 161) 3 26 := at_i (by decide +kernel) rfl
theorem a_X10_pace_26 : AtJ m_X10_pace 26 (.goto 9) (9) 35 29 := at_j (by decide +kernel) (by decide) rfl
theorem a_X10_pace_29 : At m_X10_pace 29 (.aload_n 0) 1 30 := at_i (by decide +kernel) rfl
theorem a_X10_pace_30 : At m_X10_pace 30 (.ldc 66) 2 32 := at_i (by decide +kernel) rfl
theorem a_X10_pace_32 : At m_X10_pace 32 (.invokevirtual 83) 3 35 := at_i (by decide +kernel) rfl
theorem a_X10_pace_35 : At m_X10_pace 35 (.ireturn) 1 36 := at_i (by decide +kernel) rfl
def f_X10_pace (a1 : Int32) (a2 : Int32) (h : Mem) (Q : Int32 → Mem → Prop) : Prop :=
  f_X10_within a1 (0 : Int32) (200 : Int32) h fun r_2 h_1 =>
  if r_2 = 0 then (
    f_X10_finding (-1000001 : Int32) h_1 fun r_5 h_4 =>
    Q r_5 h_4)
  else (
    f_X10_within a2 (0 : Int32) (1 : Int32) h_1 fun r_7 h_6 =>
    if r_7 = 0 then (
      f_X10_finding (-1000001 : Int32) h_6 fun r_10 h_9 =>
      Q r_10 h_9)
    else (
      f_X10_paceThen a1 a2 h_6 fun r_12 h_11 =>
      Q r_12 h_11))
set_option maxRecDepth 20000 in
theorem t_X10_pace (a1 : Int32) (a2 : Int32)  (h : Mem) (Q : Int32 → Mem → Prop) (hyp : f_X10_pace a1 a2 h Q) : Cn m_X10_pace [.ref 43, .int a1, .int a2] h (GI Q) := by
  refine ge_entry (lv := [(0, .ref 43), (1, .int a1), (2, .int a2)]) pn_X10 (Nat.le_of_ble_eq_true rfl) rfl ?_
  unfold f_X10_pace at hyp
  refine ge_iload_n a_X10_pace_0 rfl 1 rfl ?_
  refine ge_iconst (v := 0) a_X10_pace_1 rfl ?_
  refine ge_sipush (v := 200) a_X10_pace_2 rfl ?_
  refine ge_cSI [.int a1, .int (0 : Int32), .int (200 : Int32)] (rest := []) a_X10_pace_5 ok_X10_within lk_X10_71 ⟨Nat.le_of_ble_eq_true rfl, Nat.le_of_ble_eq_true rfl⟩ rfl rfl (Nat.le_of_ble_eq_true rfl) (t_X10_within a1 (0 : Int32) (200 : Int32)  h _ hyp) (fun r_2 h_1 hyp => ?_)
  refine ge_if_eq a_X10_pace_8 (fun c_3 => ?_) (fun c_3 => ?_)
  · have hyp := gm_ip hyp c_3
    refine ge_aload_n a_X10_pace_29 rfl 0 rfl ?_
    refine ge_ldc (v := -1000001) a_X10_pace_30 ct_X10_66 ?_
    refine ge_cVI [.int (-1000001 : Int32)] (rest := []) a_X10_pace_32 ok_X10_finding lk_X10_83 ⟨Nat.le_of_ble_eq_true rfl, Nat.le_of_ble_eq_true rfl⟩ (rfl : gm_cls 43 = 9) vc_9 (by decide) rfl rfl (Nat.le_of_ble_eq_true rfl) (t_X10_finding (-1000001 : Int32)  h_1 _ hyp) (fun r_5 h_4 hyp => ?_)
    exact ge_iret rfl a_X10_pace_35 hyp
  · have hyp := gm_in hyp c_3
    refine ge_iload_n a_X10_pace_11 rfl 2 rfl ?_
    refine ge_iconst (v := 0) a_X10_pace_12 rfl ?_
    refine ge_iconst (v := 1) a_X10_pace_13 rfl ?_
    refine ge_cSI [.int a2, .int (0 : Int32), .int (1 : Int32)] (rest := []) a_X10_pace_14 ok_X10_within lk_X10_71 ⟨Nat.le_of_ble_eq_true rfl, Nat.le_of_ble_eq_true rfl⟩ rfl rfl (Nat.le_of_ble_eq_true rfl) (t_X10_within a2 (0 : Int32) (1 : Int32)  h_1 _ hyp) (fun r_7 h_6 hyp => ?_)
    refine ge_if_eq a_X10_pace_17 (fun c_8 => ?_) (fun c_8 => ?_)
    · have hyp := gm_ip hyp c_8
      refine ge_aload_n a_X10_pace_29 rfl 0 rfl ?_
      refine ge_ldc (v := -1000001) a_X10_pace_30 ct_X10_66 ?_
      refine ge_cVI [.int (-1000001 : Int32)] (rest := []) a_X10_pace_32 ok_X10_finding lk_X10_83 ⟨Nat.le_of_ble_eq_true rfl, Nat.le_of_ble_eq_true rfl⟩ (rfl : gm_cls 43 = 9) vc_9 (by decide) rfl rfl (Nat.le_of_ble_eq_true rfl) (t_X10_finding (-1000001 : Int32)  h_6 _ hyp) (fun r_10 h_9 hyp => ?_)
      exact ge_iret rfl a_X10_pace_35 hyp
    · have hyp := gm_in hyp c_8
      refine ge_aload_n a_X10_pace_20 rfl 0 rfl ?_
      refine ge_iload_n a_X10_pace_21 rfl 1 rfl ?_
      refine ge_iload_n a_X10_pace_22 rfl 2 rfl ?_
      refine ge_cVI [.int a1, .int a2] (rest := []) a_X10_pace_23 ok_X10_paceThen lk_X10_161 ⟨Nat.le_of_ble_eq_true rfl, Nat.le_of_ble_eq_true rfl⟩ (rfl : gm_cls 43 = 9) vc_9 (by decide) rfl rfl (Nat.le_of_ble_eq_true rfl) (t_X10_paceThen a1 a2  h_6 _ hyp) (fun r_12 h_11 hyp => ?_)
      refine ge_goto a_X10_pace_26 ?_
      exact ge_iret rfl a_X10_pace_35 hyp

theorem a_X10_signThen_0 : At m_X10_signThen 0 (.aload_n 0) 1 1 := at_i (by decide +kernel) rfl
theorem a_X10_signThen_1 : At m_X10_signThen 1 (.getfield 9) 3 4 := at_i (by decide +kernel) rfl
theorem a_X10_signThen_4 : At m_X10_signThen 4 (.bipush 6) 2 6 := at_i (by decide +kernel) rfl
theorem a_X10_signThen_6 : At m_X10_signThen 6 (.iaload) 1 7 := at_i (by decide +kernel) rfl
theorem a_X10_signThen_7 : At m_X10_signThen 7 (.istore_n 1) 1 8 := at_i (by decide +kernel) rfl
theorem a_X10_signThen_8 : At m_X10_signThen 8 (.aload_n 0) 1 9 := at_i (by decide +kernel) rfl
theorem a_X10_signThen_9 : At m_X10_signThen 9 (.getfield 9) 3 12 := at_i (by decide +kernel) rfl
theorem a_X10_signThen_12 : At m_X10_signThen 12 (.bipush 7) 2 14 := at_i (by decide +kernel) rfl
theorem a_X10_signThen_14 : At m_X10_signThen 14 (.iaload) 1 15 := at_i (by decide +kernel) rfl
theorem a_X10_signThen_15 : At m_X10_signThen 15 (.istore_n 2) 1 16 := at_i (by decide +kernel) rfl
theorem a_X10_signThen_16 : At m_X10_signThen 16 (.iconst 0) 1 17 := at_i (by decide +kernel) rfl
theorem a_X10_signThen_17 : At m_X10_signThen 17 (.istore_n 3) 1 18 := at_i (by decide +kernel) rfl
theorem a_X10_signThen_18 : At m_X10_signThen 18 (.iconst 0) 1 19 := at_i (by decide +kernel) rfl
theorem a_X10_signThen_19 : At m_X10_signThen 19 (.istore 4) 2 21 := at_i (by decide +kernel) rfl
theorem a_X10_signThen_21 : At m_X10_signThen 21 (.iload 4) 2 23 := at_i (by decide +kernel) rfl
theorem a_X10_signThen_23 : At m_X10_signThen 23 (.bipush 100) 2 25 := at_i (by decide +kernel) rfl
theorem a_X10_signThen_25 : AtJ m_X10_signThen 25 (.if_icmp .ge 52) (52) 77 28 := at_j (by decide +kernel) (by decide) rfl
theorem a_X10_signThen_28 : At m_X10_signThen 28 (.iload_n 3) 1 29 := at_i (by decide +kernel) rfl
theorem a_X10_signThen_29 : AtJ m_X10_signThen 29 (.ifCond .ne 48) (48) 77 32 := at_j (by decide +kernel) (by decide) rfl
theorem a_X10_signThen_32 : At m_X10_signThen 32 (.aload_n 0) 1 33 := at_i (by decide +kernel) rfl
theorem a_X10_signThen_33 : At m_X10_signThen 33 (.getfield 9) 3 36 := at_i (by decide +kernel) rfl
theorem a_X10_signThen_36 : At m_X10_signThen 36 (.bipush 6) 2 38 := at_i (by decide +kernel) rfl
theorem a_X10_signThen_38 : At m_X10_signThen 38 (.aload_n 0) 1 39 := at_i (by decide +kernel) rfl
theorem a_X10_signThen_39 : At m_X10_signThen 39 (.invokevirtual 134) 3 42 := at_i (by decide +kernel) rfl
theorem a_X10_signThen_42 : At m_X10_signThen 42 (.iastore) 1 43 := at_i (by decide +kernel) rfl
theorem a_X10_signThen_43 : At m_X10_signThen 43 (.aload_n 0) 1 44 := at_i (by decide +kernel) rfl
theorem a_X10_signThen_44 : At m_X10_signThen 44 (.getfield 9) 3 47 := at_i (by decide +kernel) rfl
theorem a_X10_signThen_47 : At m_X10_signThen 47 (.bipush 6) 2 49 := at_i (by decide +kernel) rfl
theorem a_X10_signThen_49 : At m_X10_signThen 49 (.iaload) 1 50 := at_i (by decide +kernel) rfl
theorem a_X10_signThen_50 : At m_X10_signThen 50 (.iload_n 1) 1 51 := at_i (by decide +kernel) rfl
theorem a_X10_signThen_51 : AtJ m_X10_signThen 51 (.if_icmp .ne 18) (18) 69 54 := at_j (by decide +kernel) (by decide) rfl
theorem a_X10_signThen_54 : At m_X10_signThen 54 (.aload_n 0) 1 55 := at_i (by decide +kernel) rfl
theorem a_X10_signThen_55 : At m_X10_signThen 55 (.getfield 9) 3 58 := at_i (by decide +kernel) rfl
theorem a_X10_signThen_58 : At m_X10_signThen 58 (.bipush 7) 2 60 := at_i (by decide +kernel) rfl
theorem a_X10_signThen_60 : At m_X10_signThen 60 (.iaload) 1 61 := at_i (by decide +kernel) rfl
theorem a_X10_signThen_61 : At m_X10_signThen 61 (.iload_n 2) 1 62 := at_i (by decide +kernel) rfl
theorem a_X10_signThen_62 : AtJ m_X10_signThen 62 (.if_icmp .ne 7) (7) 69 65 := at_j (by decide +kernel) (by decide) rfl
theorem a_X10_signThen_65 : At m_X10_signThen 65 (.iconst 1) 1 66 := at_i (by decide +kernel) rfl
theorem a_X10_signThen_66 : AtJ m_X10_signThen 66 (.goto 4) (4) 70 69 := at_j (by decide +kernel) (by decide) rfl
theorem a_X10_signThen_69 : At m_X10_signThen 69 (.iconst 0) 1 70 := at_i (by decide +kernel) rfl
theorem a_X10_signThen_70 : At m_X10_signThen 70 (.istore_n 3) 1 71 := at_i (by decide +kernel) rfl
theorem a_X10_signThen_71 : At m_X10_signThen 71 (.iinc 4 1) 3 74 := at_i (by decide +kernel) rfl
theorem a_X10_signThen_74 : AtJ m_X10_signThen 74 (.goto (-53)) (-53) 21 77 := at_j (by decide +kernel) (by decide) rfl
theorem a_X10_signThen_77 : At m_X10_signThen 77 (.iload_n 3) 1 78 := at_i (by decide +kernel) rfl
theorem a_X10_signThen_78 : AtJ m_X10_signThen 78 (.ifCond .eq 13) (13) 91 81 := at_j (by decide +kernel) (by decide) rfl
theorem a_X10_signThen_81 : At m_X10_signThen 81 (.iload 4) 2 83 := at_i (by decide +kernel) rfl
theorem a_X10_signThen_83 : At m_X10_signThen 83 (.iconst 1) 1 84 := at_i (by decide +kernel) rfl
theorem a_X10_signThen_84 : AtJ m_X10_signThen 84 (.if_icmp .ne 7) (7) 91 87 := at_j (by decide +kernel) (by decide) rfl
theorem a_X10_signThen_87 : At m_X10_signThen 87 (.iconst 0) 1 88 := at_i (by decide +kernel) rfl
theorem a_X10_signThen_88 : AtJ m_X10_signThen 88 (.goto 28) (28) 116 91 := at_j (by decide +kernel) (by decide) rfl
theorem a_X10_signThen_91 : At m_X10_signThen 91 (.iload_n 1) 1 92 := at_i (by decide +kernel) rfl
theorem a_X10_signThen_92 : At m_X10_signThen 92 (.bipush 50) 2 94 := at_i (by decide +kernel) rfl
theorem a_X10_signThen_94 : AtJ m_X10_signThen 94 (.if_icmp .lt 13) (13) 107 97 := at_j (by decide +kernel) (by decide) rfl
theorem a_X10_signThen_97 : At m_X10_signThen 97 (.iload_n 2) 1 98 := at_i (by decide +kernel) rfl
theorem a_X10_signThen_98 : At m_X10_signThen 98 (.bipush 50) 2 100 := at_i (by decide +kernel) rfl
theorem a_X10_signThen_100 : AtJ m_X10_signThen 100 (.if_icmp .lt 7) (7) 107 103 := at_j (by decide +kernel) (by decide) rfl
theorem a_X10_signThen_103 : At m_X10_signThen 103 (.iconst 1) 1 104 := at_i (by decide +kernel) rfl
theorem a_X10_signThen_104 : AtJ m_X10_signThen 104 (.goto 12) (12) 116 107 := at_j (by decide +kernel) (by decide) rfl
theorem a_X10_signThen_107 : At m_X10_signThen 107 (.iload_n 3) 1 108 := at_i (by decide +kernel) rfl
theorem a_X10_signThen_108 : AtJ m_X10_signThen 108 (.ifCond .eq 7) (7) 115 111 := at_j (by decide +kernel) (by decide) rfl
theorem a_X10_signThen_111 : At m_X10_signThen 111 (.iconst 2) 1 112 := at_i (by decide +kernel) rfl
theorem a_X10_signThen_112 : AtJ m_X10_signThen 112 (.goto 4) (4) 116 115 := at_j (by decide +kernel) (by decide) rfl
theorem a_X10_signThen_115 : At m_X10_signThen 115 (.iconst 3) 1 116 := at_i (by decide +kernel) rfl
theorem a_X10_signThen_116 : At m_X10_signThen 116 (.ireturn) 1 117 := at_i (by decide +kernel) rfl
def f_X10_signThen_b107   (Q : Int32 → Mem → Prop)  (v3 : Int32) (h : Mem) : Prop :=
  if v3 = 0 then (
    Q (3 : Int32) h)
  else (
    Q (2 : Int32) h)
set_option maxRecDepth 20000 in
theorem t_X10_signThen_b107     (Q : Int32 → Mem → Prop)   (v3 : Int32) (h : Mem) (hyp : f_X10_signThen_b107   Q  v3 h) : EV m_X10_signThen (GI Q) 107 [(3, .int v3)] [] h := by
  unfold f_X10_signThen_b107 at hyp
  refine ge_iload_n a_X10_signThen_107 rfl 0 rfl ?_
  refine ge_if_eq a_X10_signThen_108 (fun c_6 => ?_) (fun c_6 => ?_)
  · have hyp := gm_ip hyp c_6
    refine ge_iconst (v := 3) a_X10_signThen_115 rfl ?_
    exact ge_iret rfl a_X10_signThen_116 hyp
  · have hyp := gm_in hyp c_6
    refine ge_iconst (v := 2) a_X10_signThen_111 rfl ?_
    refine ge_goto a_X10_signThen_112 ?_
    exact ge_iret rfl a_X10_signThen_116 hyp
def f_X10_signThen_b91   (Q : Int32 → Mem → Prop)  (v1 : Int32) (v2 : Int32) (v3 : Int32) (h : Mem) : Prop :=
  if v1 < (50 : Int32) then (
    f_X10_signThen_b107   Q  v3 h)
  else (
    if v2 < (50 : Int32) then (
      f_X10_signThen_b107   Q  v3 h)
    else (
      Q (1 : Int32) h))
set_option maxRecDepth 20000 in
theorem t_X10_signThen_b91     (Q : Int32 → Mem → Prop)   (v1 : Int32) (v2 : Int32) (v3 : Int32) (h : Mem) (hyp : f_X10_signThen_b91   Q  v1 v2 v3 h) : EV m_X10_signThen (GI Q) 91 [(1, .int v1), (2, .int v2), (3, .int v3)] [] h := by
  unfold f_X10_signThen_b91 at hyp
  refine ge_iload_n a_X10_signThen_91 rfl 0 rfl ?_
  refine ge_bipush (v := 50) a_X10_signThen_92 rfl ?_
  refine ge_icmp_lt a_X10_signThen_94 (fun c_5 => ?_) (fun c_5 => ?_)
  · have hyp := gm_ip hyp c_5
    exact ge_sub [2] rfl (t_X10_signThen_b107     Q   v3 h hyp)
  · have hyp := gm_in hyp c_5
    refine ge_iload_n a_X10_signThen_97 rfl 1 rfl ?_
    refine ge_bipush (v := 50) a_X10_signThen_98 rfl ?_
    refine ge_icmp_lt a_X10_signThen_100 (fun c_7 => ?_) (fun c_7 => ?_)
    · have hyp := gm_ip hyp c_7
      exact ge_sub [2] rfl (t_X10_signThen_b107     Q   v3 h hyp)
    · have hyp := gm_in hyp c_7
      refine ge_iconst (v := 1) a_X10_signThen_103 rfl ?_
      refine ge_goto a_X10_signThen_104 ?_
      exact ge_iret rfl a_X10_signThen_116 hyp
def f_X10_signThen_b77   (Q : Int32 → Mem → Prop)  (v1 : Int32) (v2 : Int32) (v3 : Int32) (v4 : Int32) (h : Mem) : Prop :=
  if v3 = 0 then (
    f_X10_signThen_b91   Q  v1 v2 v3 h)
  else (
    if v4 = (1 : Int32) then (
      Q (0 : Int32) h)
    else (
      f_X10_signThen_b91   Q  v1 v2 v3 h))
set_option maxRecDepth 20000 in
theorem t_X10_signThen_b77     (Q : Int32 → Mem → Prop)   (v1 : Int32) (v2 : Int32) (v3 : Int32) (v4 : Int32) (h : Mem) (hyp : f_X10_signThen_b77   Q  v1 v2 v3 v4 h) : EV m_X10_signThen (GI Q) 77 [(1, .int v1), (2, .int v2), (3, .int v3), (4, .int v4)] [] h := by
  unfold f_X10_signThen_b77 at hyp
  refine ge_iload_n a_X10_signThen_77 rfl 2 rfl ?_
  refine ge_if_eq a_X10_signThen_78 (fun c_4 => ?_) (fun c_4 => ?_)
  · have hyp := gm_ip hyp c_4
    exact ge_sub [0, 1, 2] rfl (t_X10_signThen_b91     Q   v1 v2 v3 h hyp)
  · have hyp := gm_in hyp c_4
    refine ge_iload a_X10_signThen_81 3 rfl ?_
    refine ge_iconst (v := 1) a_X10_signThen_83 rfl ?_
    refine ge_icmp_ne a_X10_signThen_84 (fun c_8 => ?_) (fun c_8 => ?_)
    · have hyp := gm_in hyp c_8
      exact ge_sub [0, 1, 2] rfl (t_X10_signThen_b91     Q   v1 v2 v3 h hyp)
    · have hyp := gm_ip hyp c_8
      refine ge_iconst (v := 0) a_X10_signThen_87 rfl ?_
      refine ge_goto a_X10_signThen_88 ?_
      exact ge_iret rfl a_X10_signThen_116 hyp
def f_X10_signThen_b21  (v_1 : Int32) (v_2 : Int32) (Q : Int32 → Mem → Prop)  (K21 : Int32 → Int32 → Mem → Prop) (v3 : Int32) (v4 : Int32) (h : Mem) : Prop :=
  if (100 : Int32) ≤ v4 then (
    f_X10_signThen_b77   Q  v_1 v_2 v3 v4 h)
  else (
    if v3 = 0 then (
      f_X10_turns  h fun r_11 h_10 =>
      ∀ h_12 : Mem, h_12 = gm_st h_10 44 6 r_11 →
      if h_12 44 6 = v_1 then (
        if h_12 44 7 = v_2 then (
          ∀ v_17 : Int32, v_17 = v4 + (1 : Int32) →
          K21 (1 : Int32) v_17 h_12)
        else (
          ∀ v_16 : Int32, v_16 = v4 + (1 : Int32) →
          K21 (0 : Int32) v_16 h_12))
      else (
        ∀ v_14 : Int32, v_14 = v4 + (1 : Int32) →
        K21 (0 : Int32) v_14 h_12))
    else (
      f_X10_signThen_b77   Q  v_1 v_2 v3 v4 h))
set_option maxRecDepth 20000 in
theorem t_X10_signThen_b21  (v_1 : Int32) (v_2 : Int32)   (Q : Int32 → Mem → Prop)   : ∀ (n : Nat) (v3 : Int32) (v4 : Int32) (h : Mem), gm_it2 (f_X10_signThen_b21  v_1 v_2 Q ) n v3 v4 h → EV m_X10_signThen (GI Q) 21 [(0, .ref 43), (1, .int v_1), (2, .int v_2), (3, .int v3), (4, .int v4)] [] h := by
  refine ge_loop2 (P := fun v3 v4 h => EV m_X10_signThen (GI Q) 21 [(0, .ref 43), (1, .int v_1), (2, .int v_2), (3, .int v3), (4, .int v4)] [] h) (fun K21 hK21 v3 v4 h hyp => ?_)
  unfold f_X10_signThen_b21 at hyp
  refine ge_iload a_X10_signThen_21 4 rfl ?_
  refine ge_bipush (v := 100) a_X10_signThen_23 rfl ?_
  refine ge_icmp_ge a_X10_signThen_25 (fun c_3 => ?_) (fun c_3 => ?_)
  · have hyp := gm_ip hyp c_3
    exact ge_sub [1, 2, 3, 4] rfl (t_X10_signThen_b77     Q   v_1 v_2 v3 v4 h hyp)
  · have hyp := gm_in hyp c_3
    refine ge_iload_n a_X10_signThen_28 rfl 3 rfl ?_
    refine ge_if_ne a_X10_signThen_29 (fun c_9 => ?_) (fun c_9 => ?_)
    · have hyp := gm_in hyp c_9
      exact ge_sub [1, 2, 3, 4] rfl (t_X10_signThen_b77     Q   v_1 v_2 v3 v4 h hyp)
    · have hyp := gm_ip hyp c_9
      refine ge_aload_n a_X10_signThen_32 rfl 0 rfl ?_
      refine ge_getR (q := 44) a_X10_signThen_33 fd_X10_9 (rfl : gm_cls 43 = 9) rfl ?_
      refine ge_bipush (v := 6) a_X10_signThen_36 rfl ?_
      refine ge_aload_n a_X10_signThen_38 rfl 0 rfl ?_
      refine ge_cVI [] (rest := [.int (6 : Int32), .ref 44]) a_X10_signThen_39 ok_X10_turns lk_X10_134 ⟨Nat.le_of_ble_eq_true rfl, Nat.le_of_ble_eq_true rfl⟩ (rfl : gm_cls 43 = 9) vc_9 (by decide) rfl rfl (Nat.le_of_ble_eq_true rfl) (t_X10_turns   h _ hyp) (fun r_11 h_10 hyp => ?_)
      refine ge_iast (j := 6) a_X10_signThen_42 ga_44 li_6_62.1 li_6_62.2 ?_
      refine ge_nm (fun h_12 eh_12 => ?_)
      have hyp := hyp h_12 eh_12
      refine ge_aload_n a_X10_signThen_43 rfl 0 rfl ?_
      refine ge_getR (q := 44) a_X10_signThen_44 fd_X10_9 (rfl : gm_cls 43 = 9) rfl ?_
      refine ge_bipush (v := 6) a_X10_signThen_47 rfl ?_
      refine ge_iald (j := 6) a_X10_signThen_49 ga_44 li_6_62.1 li_6_62.2 ?_
      refine ge_iload_n a_X10_signThen_50 rfl 1 rfl ?_
      refine ge_icmp_ne a_X10_signThen_51 (fun c_13 => ?_) (fun c_13 => ?_)
      · have hyp := gm_in hyp c_13
        refine ge_iconst (v := 0) a_X10_signThen_69 rfl ?_
        refine ge_istore_n (lv' := [(3, .int (0 : Int32)), (0, .ref 43), (1, .int v_1), (2, .int v_2), (4, .int v4)]) a_X10_signThen_70 rfl (Nat.le_of_ble_eq_true rfl) rfl ?_
        obtain ⟨v_14, ev_14⟩ : ∃ y : Int32, y = v4 + (1 : Int32) := ⟨_, rfl⟩
        have hyp := hyp v_14 ev_14
        refine ge_iinc (v := v_14) (lv' := [(4, .int v_14), (3, .int (0 : Int32)), (0, .ref 43), (1, .int v_1), (2, .int v_2)]) a_X10_signThen_71 4 rfl ev_14.symm (Nat.le_of_ble_eq_true rfl) rfl ?_
        refine ge_goto a_X10_signThen_74 ?_
        exact ge_sub [2, 3, 4, 1, 0] rfl (hK21 (0 : Int32) v_14 h_12 hyp)
      · have hyp := gm_ip hyp c_13
        refine ge_aload_n a_X10_signThen_54 rfl 0 rfl ?_
        refine ge_getR (q := 44) a_X10_signThen_55 fd_X10_9 (rfl : gm_cls 43 = 9) rfl ?_
        refine ge_bipush (v := 7) a_X10_signThen_58 rfl ?_
        refine ge_iald (j := 7) a_X10_signThen_60 ga_44 li_7_62.1 li_7_62.2 ?_
        refine ge_iload_n a_X10_signThen_61 rfl 2 rfl ?_
        refine ge_icmp_ne a_X10_signThen_62 (fun c_15 => ?_) (fun c_15 => ?_)
        · have hyp := gm_in hyp c_15
          refine ge_iconst (v := 0) a_X10_signThen_69 rfl ?_
          refine ge_istore_n (lv' := [(3, .int (0 : Int32)), (0, .ref 43), (1, .int v_1), (2, .int v_2), (4, .int v4)]) a_X10_signThen_70 rfl (Nat.le_of_ble_eq_true rfl) rfl ?_
          obtain ⟨v_16, ev_16⟩ : ∃ y : Int32, y = v4 + (1 : Int32) := ⟨_, rfl⟩
          have hyp := hyp v_16 ev_16
          refine ge_iinc (v := v_16) (lv' := [(4, .int v_16), (3, .int (0 : Int32)), (0, .ref 43), (1, .int v_1), (2, .int v_2)]) a_X10_signThen_71 4 rfl ev_16.symm (Nat.le_of_ble_eq_true rfl) rfl ?_
          refine ge_goto a_X10_signThen_74 ?_
          exact ge_sub [2, 3, 4, 1, 0] rfl (hK21 (0 : Int32) v_16 h_12 hyp)
        · have hyp := gm_ip hyp c_15
          refine ge_iconst (v := 1) a_X10_signThen_65 rfl ?_
          refine ge_goto a_X10_signThen_66 ?_
          refine ge_istore_n (lv' := [(3, .int (1 : Int32)), (0, .ref 43), (1, .int v_1), (2, .int v_2), (4, .int v4)]) a_X10_signThen_70 rfl (Nat.le_of_ble_eq_true rfl) rfl ?_
          obtain ⟨v_17, ev_17⟩ : ∃ y : Int32, y = v4 + (1 : Int32) := ⟨_, rfl⟩
          have hyp := hyp v_17 ev_17
          refine ge_iinc (v := v_17) (lv' := [(4, .int v_17), (3, .int (1 : Int32)), (0, .ref 43), (1, .int v_1), (2, .int v_2)]) a_X10_signThen_71 4 rfl ev_17.symm (Nat.le_of_ble_eq_true rfl) rfl ?_
          refine ge_goto a_X10_signThen_74 ?_
          exact ge_sub [2, 3, 4, 1, 0] rfl (hK21 (1 : Int32) v_17 h_12 hyp)
def f_X10_signThen  (h : Mem) (Q : Int32 → Mem → Prop) : Prop :=
  ∀ v_1 : Int32, v_1 = h 44 6 →
  ∀ v_2 : Int32, v_2 = h 44 7 →
  gm_it2 (f_X10_signThen_b21  v_1 v_2 Q ) gm_F (0 : Int32) (0 : Int32) h
set_option maxRecDepth 20000 in
theorem t_X10_signThen   (h : Mem) (Q : Int32 → Mem → Prop) (hyp : f_X10_signThen  h Q) : Cn m_X10_signThen [.ref 43] h (GI Q) := by
  refine ge_entry (lv := [(0, .ref 43)]) pn_X10 (Nat.le_of_ble_eq_true rfl) rfl ?_
  unfold f_X10_signThen at hyp
  refine ge_aload_n a_X10_signThen_0 rfl 0 rfl ?_
  refine ge_getR (q := 44) a_X10_signThen_1 fd_X10_9 (rfl : gm_cls 43 = 9) rfl ?_
  refine ge_bipush (v := 6) a_X10_signThen_4 rfl ?_
  refine ge_iald (j := 6) a_X10_signThen_6 ga_44 li_6_62.1 li_6_62.2 ?_
  refine ge_topi (fun v_1 ev_1 => ?_)
  have hyp := hyp v_1 ev_1
  refine ge_istore_n (lv' := [(1, .int v_1), (0, .ref 43)]) a_X10_signThen_7 rfl (Nat.le_of_ble_eq_true rfl) rfl ?_
  refine ge_aload_n a_X10_signThen_8 rfl 1 rfl ?_
  refine ge_getR (q := 44) a_X10_signThen_9 fd_X10_9 (rfl : gm_cls 43 = 9) rfl ?_
  refine ge_bipush (v := 7) a_X10_signThen_12 rfl ?_
  refine ge_iald (j := 7) a_X10_signThen_14 ga_44 li_7_62.1 li_7_62.2 ?_
  refine ge_topi (fun v_2 ev_2 => ?_)
  have hyp := hyp v_2 ev_2
  refine ge_istore_n (lv' := [(2, .int v_2), (1, .int v_1), (0, .ref 43)]) a_X10_signThen_15 rfl (Nat.le_of_ble_eq_true rfl) rfl ?_
  refine ge_iconst (v := 0) a_X10_signThen_16 rfl ?_
  refine ge_istore_n (lv' := [(3, .int (0 : Int32)), (2, .int v_2), (1, .int v_1), (0, .ref 43)]) a_X10_signThen_17 rfl (Nat.le_of_ble_eq_true rfl) rfl ?_
  refine ge_iconst (v := 0) a_X10_signThen_18 rfl ?_
  refine ge_istore (lv' := [(4, .int (0 : Int32)), (3, .int (0 : Int32)), (2, .int v_2), (1, .int v_1), (0, .ref 43)]) a_X10_signThen_19 (Nat.le_of_ble_eq_true rfl) rfl ?_
  exact ge_sub [4, 3, 2, 1, 0] rfl (t_X10_signThen_b21  v_1 v_2   Q   gm_F (0 : Int32) (0 : Int32) h hyp)

theorem a_X10_sign_0 : At m_X10_sign 0 (.aload_n 0) 1 1 := at_i (by decide +kernel) rfl
theorem a_X10_sign_1 : At m_X10_sign 1 (.getfield 9) 3 4 := at_i (by decide +kernel) rfl
theorem a_X10_sign_4 : At m_X10_sign 4 (.bipush 6) 2 6 := at_i (by decide +kernel) rfl
theorem a_X10_sign_6 : At m_X10_sign 6 (.iaload) 1 7 := at_i (by decide +kernel) rfl
theorem a_X10_sign_7 : At m_X10_sign 7 (.istore_n 1) 1 8 := at_i (by decide +kernel) rfl
theorem a_X10_sign_8 : At m_X10_sign 8 (.aload_n 0) 1 9 := at_i (by decide +kernel) rfl
theorem a_X10_sign_9 : At m_X10_sign 9 (.getfield 9) 3 12 := at_i (by decide +kernel) rfl
theorem a_X10_sign_12 : At m_X10_sign 12 (.bipush 7) 2 14 := at_i (by decide +kernel) rfl
theorem a_X10_sign_14 : At m_X10_sign 14 (.iaload) 1 15 := at_i (by decide +kernel) rfl
theorem a_X10_sign_15 : At m_X10_sign 15 (.istore_n 2) 1 16 := at_i (by decide +kernel) rfl
theorem a_X10_sign_16 : At m_X10_sign 16 (.iconst 0) 1 17 := at_i (by decide +kernel) rfl
theorem a_X10_sign_17 : At m_X10_sign 17 (.istore_n 3) 1 18 := at_i (by decide +kernel) rfl
theorem a_X10_sign_18 : At m_X10_sign 18 (.iload_n 3) 1 19 := at_i (by decide +kernel) rfl
theorem a_X10_sign_19 : At m_X10_sign 19 (.sipush 200) 3 22 := at_i (by decide +kernel) rfl
theorem a_X10_sign_22 : AtJ m_X10_sign 22 (.if_icmp .ge 20) (20) 42 25 := at_j (by decide +kernel) (by decide) rfl
theorem a_X10_sign_25 : At m_X10_sign 25 (.aload_n 0) 1 26 := at_i (by decide +kernel) rfl
theorem a_X10_sign_26 : At m_X10_sign 26 (.getfield 9) 3 29 := at_i (by decide +kernel) rfl
theorem a_X10_sign_29 : At m_X10_sign 29 (.bipush 6) 2 31 := at_i (by decide +kernel) rfl
theorem a_X10_sign_31 : At m_X10_sign 31 (.aload_n 0) 1 32 := at_i (by decide +kernel) rfl
theorem a_X10_sign_32 : At m_X10_sign 32 (.invokevirtual 134) 3 35 := at_i (by decide +kernel) rfl
theorem a_X10_sign_35 : At m_X10_sign 35 (.iastore) 1 36 := at_i (by decide +kernel) rfl
theorem a_X10_sign_36 : At m_X10_sign 36 (.iinc 3 1) 3 39 := at_i (by decide +kernel) rfl
theorem a_X10_sign_39 : AtJ m_X10_sign 39 (.goto (-21)) (-21) 18 42 := at_j (by decide +kernel) (by decide) rfl
theorem a_X10_sign_42 : At m_X10_sign 42 (.aload_n 0) 1 43 := at_i (by decide +kernel) rfl
theorem a_X10_sign_43 : At m_X10_sign 43 (.invokevirtual 164) 3 46 := at_i (by decide +kernel) rfl
theorem a_X10_sign_46 : At m_X10_sign 46 (.istore_n 3) 1 47 := at_i (by decide +kernel) rfl
theorem a_X10_sign_47 : At m_X10_sign 47 (.aload_n 0) 1 48 := at_i (by decide +kernel) rfl
theorem a_X10_sign_48 : At m_X10_sign 48 (.getfield 9) 3 51 := at_i (by decide +kernel) rfl
theorem a_X10_sign_51 : At m_X10_sign 51 (.bipush 6) 2 53 := at_i (by decide +kernel) rfl
theorem a_X10_sign_53 : At m_X10_sign 53 (.iload_n 1) 1 54 := at_i (by decide +kernel) rfl
theorem a_X10_sign_54 : At m_X10_sign 54 (.iastore) 1 55 := at_i (by decide +kernel) rfl
theorem a_X10_sign_55 : At m_X10_sign 55 (.aload_n 0) 1 56 := at_i (by decide +kernel) rfl
theorem a_X10_sign_56 : At m_X10_sign 56 (.getfield 9) 3 59 := at_i (by decide +kernel) rfl
theorem a_X10_sign_59 : At m_X10_sign 59 (.bipush 7) 2 61 := at_i (by decide +kernel) rfl
theorem a_X10_sign_61 : At m_X10_sign 61 (.iload_n 2) 1 62 := at_i (by decide +kernel) rfl
theorem a_X10_sign_62 : At m_X10_sign 62 (.iastore) 1 63 := at_i (by decide +kernel) rfl
theorem a_X10_sign_63 : At m_X10_sign 63 (.iload_n 3) 1 64 := at_i (by decide +kernel) rfl
theorem a_X10_sign_64 : At m_X10_sign 64 (.ireturn) 1 65 := at_i (by decide +kernel) rfl
def f_X10_sign_b18  (v_1 : Int32) (v_2 : Int32) (Q : Int32 → Mem → Prop)  (K18 : Int32 → Mem → Prop) (v3 : Int32) (h : Mem) : Prop :=
  if (200 : Int32) ≤ v3 then (
    f_X10_signThen  h fun r_5 h_4 =>
    ∀ h_6 : Mem, h_6 = gm_st h_4 44 6 v_1 →
    ∀ h_7 : Mem, h_7 = gm_st h_6 44 7 v_2 →
    Q r_5 h_7)
  else (
    f_X10_turns  h fun r_9 h_8 =>
    ∀ h_10 : Mem, h_10 = gm_st h_8 44 6 r_9 →
    ∀ v_11 : Int32, v_11 = v3 + (1 : Int32) →
    K18 v_11 h_10)
set_option maxRecDepth 20000 in
theorem t_X10_sign_b18  (v_1 : Int32) (v_2 : Int32)   (Q : Int32 → Mem → Prop)   : ∀ (n : Nat) (v3 : Int32) (h : Mem), gm_it1 (f_X10_sign_b18  v_1 v_2 Q ) n v3 h → EV m_X10_sign (GI Q) 18 [(0, .ref 43), (1, .int v_1), (2, .int v_2), (3, .int v3)] [] h := by
  refine ge_loop1 (P := fun v3 h => EV m_X10_sign (GI Q) 18 [(0, .ref 43), (1, .int v_1), (2, .int v_2), (3, .int v3)] [] h) (fun K18 hK18 v3 h hyp => ?_)
  unfold f_X10_sign_b18 at hyp
  refine ge_iload_n a_X10_sign_18 rfl 3 rfl ?_
  refine ge_sipush (v := 200) a_X10_sign_19 rfl ?_
  refine ge_icmp_ge a_X10_sign_22 (fun c_3 => ?_) (fun c_3 => ?_)
  · have hyp := gm_ip hyp c_3
    refine ge_aload_n a_X10_sign_42 rfl 0 rfl ?_
    refine ge_cVI [] (rest := []) a_X10_sign_43 ok_X10_signThen lk_X10_164 ⟨Nat.le_of_ble_eq_true rfl, Nat.le_of_ble_eq_true rfl⟩ (rfl : gm_cls 43 = 9) vc_9 (by decide) rfl rfl (Nat.le_of_ble_eq_true rfl) (t_X10_signThen   h _ hyp) (fun r_5 h_4 hyp => ?_)
    refine ge_istore_n (lv' := [(3, .int r_5), (0, .ref 43), (1, .int v_1), (2, .int v_2)]) a_X10_sign_46 rfl (Nat.le_of_ble_eq_true rfl) rfl ?_
    refine ge_aload_n a_X10_sign_47 rfl 1 rfl ?_
    refine ge_getR (q := 44) a_X10_sign_48 fd_X10_9 (rfl : gm_cls 43 = 9) rfl ?_
    refine ge_bipush (v := 6) a_X10_sign_51 rfl ?_
    refine ge_iload_n a_X10_sign_53 rfl 2 rfl ?_
    refine ge_iast (j := 6) a_X10_sign_54 ga_44 li_6_62.1 li_6_62.2 ?_
    refine ge_nm (fun h_6 eh_6 => ?_)
    have hyp := hyp h_6 eh_6
    refine ge_aload_n a_X10_sign_55 rfl 1 rfl ?_
    refine ge_getR (q := 44) a_X10_sign_56 fd_X10_9 (rfl : gm_cls 43 = 9) rfl ?_
    refine ge_bipush (v := 7) a_X10_sign_59 rfl ?_
    refine ge_iload_n a_X10_sign_61 rfl 3 rfl ?_
    refine ge_iast (j := 7) a_X10_sign_62 ga_44 li_7_62.1 li_7_62.2 ?_
    refine ge_nm (fun h_7 eh_7 => ?_)
    have hyp := hyp h_7 eh_7
    refine ge_iload_n a_X10_sign_63 rfl 0 rfl ?_
    exact ge_iret rfl a_X10_sign_64 hyp
  · have hyp := gm_in hyp c_3
    refine ge_aload_n a_X10_sign_25 rfl 0 rfl ?_
    refine ge_getR (q := 44) a_X10_sign_26 fd_X10_9 (rfl : gm_cls 43 = 9) rfl ?_
    refine ge_bipush (v := 6) a_X10_sign_29 rfl ?_
    refine ge_aload_n a_X10_sign_31 rfl 0 rfl ?_
    refine ge_cVI [] (rest := [.int (6 : Int32), .ref 44]) a_X10_sign_32 ok_X10_turns lk_X10_134 ⟨Nat.le_of_ble_eq_true rfl, Nat.le_of_ble_eq_true rfl⟩ (rfl : gm_cls 43 = 9) vc_9 (by decide) rfl rfl (Nat.le_of_ble_eq_true rfl) (t_X10_turns   h _ hyp) (fun r_9 h_8 hyp => ?_)
    refine ge_iast (j := 6) a_X10_sign_35 ga_44 li_6_62.1 li_6_62.2 ?_
    refine ge_nm (fun h_10 eh_10 => ?_)
    have hyp := hyp h_10 eh_10
    obtain ⟨v_11, ev_11⟩ : ∃ y : Int32, y = v3 + (1 : Int32) := ⟨_, rfl⟩
    have hyp := hyp v_11 ev_11
    refine ge_iinc (v := v_11) (lv' := [(3, .int v_11), (0, .ref 43), (1, .int v_1), (2, .int v_2)]) a_X10_sign_36 3 rfl ev_11.symm (Nat.le_of_ble_eq_true rfl) rfl ?_
    refine ge_goto a_X10_sign_39 ?_
    exact ge_sub [1, 2, 3, 0] rfl (hK18 v_11 h_10 hyp)
def f_X10_sign  (h : Mem) (Q : Int32 → Mem → Prop) : Prop :=
  ∀ v_1 : Int32, v_1 = h 44 6 →
  ∀ v_2 : Int32, v_2 = h 44 7 →
  gm_it1 (f_X10_sign_b18  v_1 v_2 Q ) gm_F (0 : Int32) h
set_option maxRecDepth 20000 in
theorem t_X10_sign   (h : Mem) (Q : Int32 → Mem → Prop) (hyp : f_X10_sign  h Q) : Cn m_X10_sign [.ref 43] h (GI Q) := by
  refine ge_entry (lv := [(0, .ref 43)]) pn_X10 (Nat.le_of_ble_eq_true rfl) rfl ?_
  unfold f_X10_sign at hyp
  refine ge_aload_n a_X10_sign_0 rfl 0 rfl ?_
  refine ge_getR (q := 44) a_X10_sign_1 fd_X10_9 (rfl : gm_cls 43 = 9) rfl ?_
  refine ge_bipush (v := 6) a_X10_sign_4 rfl ?_
  refine ge_iald (j := 6) a_X10_sign_6 ga_44 li_6_62.1 li_6_62.2 ?_
  refine ge_topi (fun v_1 ev_1 => ?_)
  have hyp := hyp v_1 ev_1
  refine ge_istore_n (lv' := [(1, .int v_1), (0, .ref 43)]) a_X10_sign_7 rfl (Nat.le_of_ble_eq_true rfl) rfl ?_
  refine ge_aload_n a_X10_sign_8 rfl 1 rfl ?_
  refine ge_getR (q := 44) a_X10_sign_9 fd_X10_9 (rfl : gm_cls 43 = 9) rfl ?_
  refine ge_bipush (v := 7) a_X10_sign_12 rfl ?_
  refine ge_iald (j := 7) a_X10_sign_14 ga_44 li_7_62.1 li_7_62.2 ?_
  refine ge_topi (fun v_2 ev_2 => ?_)
  have hyp := hyp v_2 ev_2
  refine ge_istore_n (lv' := [(2, .int v_2), (1, .int v_1), (0, .ref 43)]) a_X10_sign_15 rfl (Nat.le_of_ble_eq_true rfl) rfl ?_
  refine ge_iconst (v := 0) a_X10_sign_16 rfl ?_
  refine ge_istore_n (lv' := [(3, .int (0 : Int32)), (2, .int v_2), (1, .int v_1), (0, .ref 43)]) a_X10_sign_17 rfl (Nat.le_of_ble_eq_true rfl) rfl ?_
  exact ge_sub [3, 2, 1, 0] rfl (t_X10_sign_b18  v_1 v_2   Q   gm_F (0 : Int32) h hyp)

theorem a_X10_round_0 : At m_X10_round 0 (.iload_n 1) 1 1 := at_i (by decide +kernel) rfl
theorem a_X10_round_1 : At m_X10_round 1 (.iconst 0) 1 2 := at_i (by decide +kernel) rfl
theorem a_X10_round_2 : At m_X10_round 2 (.iconst 1) 1 3 := at_i (by decide +kernel) rfl
theorem a_X10_round_3 : At m_X10_round 3 (.invokestatic 71) 3 6 := at_i (by decide +kernel) rfl
theorem a_X10_round_6 : AtJ m_X10_round 6 (.ifCond .ne 10) (10) 16 9 := at_j (by decide +kernel) (by decide) rfl
theorem a_X10_round_9 : At m_X10_round 9 (.aload_n 0) 1 10 := at_i (by decide +kernel) rfl
theorem a_X10_round_10 : At m_X10_round 10 (.ldc 66) 2 12 := at_i (by decide +kernel) rfl
theorem a_X10_round_12 : At m_X10_round 12 (.invokevirtual 83) 3 15 := at_i (by decide +kernel) rfl
theorem a_X10_round_15 : At m_X10_round 15 (.ireturn) 1 16 := at_i (by decide +kernel) rfl
theorem a_X10_round_16 : At m_X10_round 16 (.aload_n 0) 1 17 := at_i (by decide +kernel) rfl
theorem a_X10_round_17 : At m_X10_round 17 (.getfield 9) 3 20 := at_i (by decide +kernel) rfl
theorem a_X10_round_20 : At m_X10_round 20 (.bipush 6) 2 22 := at_i (by decide +kernel) rfl
theorem a_X10_round_22 : At m_X10_round 22 (.iaload) 1 23 := at_i (by decide +kernel) rfl
theorem a_X10_round_23 : At m_X10_round 23 (.istore_n 2) 1 24 := at_i (by decide +kernel) rfl
theorem a_X10_round_24 : At m_X10_round 24 (.aload_n 0) 1 25 := at_i (by decide +kernel) rfl
theorem a_X10_round_25 : At m_X10_round 25 (.getfield 9) 3 28 := at_i (by decide +kernel) rfl
theorem a_X10_round_28 : At m_X10_round 28 (.bipush 7) 2 30 := at_i (by decide +kernel) rfl
theorem a_X10_round_30 : At m_X10_round 30 (.iaload) 1 31 := at_i (by decide +kernel) rfl
theorem a_X10_round_31 : At m_X10_round 31 (.istore_n 3) 1 32 := at_i (by decide +kernel) rfl
theorem a_X10_round_32 : At m_X10_round 32 (.iconst 0) 1 33 := at_i (by decide +kernel) rfl
theorem a_X10_round_33 : At m_X10_round 33 (.istore 4) 2 35 := at_i (by decide +kernel) rfl
theorem a_X10_round_35 : At m_X10_round 35 (.iload 4) 2 37 := at_i (by decide +kernel) rfl
theorem a_X10_round_37 : At m_X10_round 37 (.aload_n 0) 1 38 := at_i (by decide +kernel) rfl
theorem a_X10_round_38 : At m_X10_round 38 (.getfield 22) 3 41 := at_i (by decide +kernel) rfl
theorem a_X10_round_41 : At m_X10_round 41 (.arraylength) 1 42 := at_i (by decide +kernel) rfl
theorem a_X10_round_42 : AtJ m_X10_round 42 (.if_icmp .ge 17) (17) 59 45 := at_j (by decide +kernel) (by decide) rfl
theorem a_X10_round_45 : At m_X10_round 45 (.aload_n 0) 1 46 := at_i (by decide +kernel) rfl
theorem a_X10_round_46 : At m_X10_round 46 (.getfield 22) 3 49 := at_i (by decide +kernel) rfl
theorem a_X10_round_49 : At m_X10_round 49 (.iload 4) 2 51 := at_i (by decide +kernel) rfl
theorem a_X10_round_51 : At m_X10_round 51 (.iconst 0) 1 52 := at_i (by decide +kernel) rfl
theorem a_X10_round_52 : At m_X10_round 52 (.iastore) 1 53 := at_i (by decide +kernel) rfl
theorem a_X10_round_53 : At m_X10_round 53 (.iinc 4 1) 3 56 := at_i (by decide +kernel) rfl
theorem a_X10_round_56 : AtJ m_X10_round 56 (.goto (-21)) (-21) 35 59 := at_j (by decide +kernel) (by decide) rfl
theorem a_X10_round_59 : At m_X10_round 59 (.iconst 0) 1 60 := at_i (by decide +kernel) rfl
theorem a_X10_round_60 : At m_X10_round 60 (.istore 4) 2 62 := at_i (by decide +kernel) rfl
theorem a_X10_round_62 : At m_X10_round 62 (.aload_n 0) 1 63 := at_i (by decide +kernel) rfl
theorem a_X10_round_63 : At m_X10_round 63 (.getfield 22) 3 66 := at_i (by decide +kernel) rfl
theorem a_X10_round_66 : At m_X10_round 66 (.bipush 100) 2 68 := at_i (by decide +kernel) rfl
theorem a_X10_round_68 : At m_X10_round 68 (.aload_n 0) 1 69 := at_i (by decide +kernel) rfl
theorem a_X10_round_69 : At m_X10_round 69 (.getfield 9) 3 72 := at_i (by decide +kernel) rfl
theorem a_X10_round_72 : At m_X10_round 72 (.bipush 6) 2 74 := at_i (by decide +kernel) rfl
theorem a_X10_round_74 : At m_X10_round 74 (.iaload) 1 75 := at_i (by decide +kernel) rfl
theorem a_X10_round_75 : At m_X10_round 75 (.imul) 1 76 := at_i (by decide +kernel) rfl
theorem a_X10_round_76 : At m_X10_round 76 (.aload_n 0) 1 77 := at_i (by decide +kernel) rfl
theorem a_X10_round_77 : At m_X10_round 77 (.getfield 9) 3 80 := at_i (by decide +kernel) rfl
theorem a_X10_round_80 : At m_X10_round 80 (.bipush 7) 2 82 := at_i (by decide +kernel) rfl
theorem a_X10_round_82 : At m_X10_round 82 (.iaload) 1 83 := at_i (by decide +kernel) rfl
theorem a_X10_round_83 : At m_X10_round 83 (.iadd) 1 84 := at_i (by decide +kernel) rfl
theorem a_X10_round_84 : At m_X10_round 84 (.iaload) 1 85 := at_i (by decide +kernel) rfl
theorem a_X10_round_85 : AtJ m_X10_round 85 (.ifCond .ne 45) (45) 130 88 := at_j (by decide +kernel) (by decide) rfl
theorem a_X10_round_88 : At m_X10_round 88 (.iinc 4 1) 3 91 := at_i (by decide +kernel) rfl
theorem a_X10_round_91 : At m_X10_round 91 (.aload_n 0) 1 92 := at_i (by decide +kernel) rfl
theorem a_X10_round_92 : At m_X10_round 92 (.getfield 22) 3 95 := at_i (by decide +kernel) rfl
theorem a_X10_round_95 : At m_X10_round 95 (.bipush 100) 2 97 := at_i (by decide +kernel) rfl
theorem a_X10_round_97 : At m_X10_round 97 (.aload_n 0) 1 98 := at_i (by decide +kernel) rfl
theorem a_X10_round_98 : At m_X10_round 98 (.getfield 9) 3 101 := at_i (by decide +kernel) rfl
theorem a_X10_round_101 : At m_X10_round 101 (.bipush 6) 2 103 := at_i (by decide +kernel) rfl
theorem a_X10_round_103 : At m_X10_round 103 (.iaload) 1 104 := at_i (by decide +kernel) rfl
theorem a_X10_round_104 : At m_X10_round 104 (.imul) 1 105 := at_i (by decide +kernel) rfl
theorem a_X10_round_105 : At m_X10_round 105 (.aload_n 0) 1 106 := at_i (by decide +kernel) rfl
theorem a_X10_round_106 : At m_X10_round 106 (.getfield 9) 3 109 := at_i (by decide +kernel) rfl
theorem a_X10_round_109 : At m_X10_round 109 (.bipush 7) 2 111 := at_i (by decide +kernel) rfl
theorem a_X10_round_111 : At m_X10_round 111 (.iaload) 1 112 := at_i (by decide +kernel) rfl
theorem a_X10_round_112 : At m_X10_round 112 (.iadd) 1 113 := at_i (by decide +kernel) rfl
theorem a_X10_round_113 : At m_X10_round 113 (.iload 4) 2 115 := at_i (by decide +kernel) rfl
theorem a_X10_round_115 : At m_X10_round 115 (.iastore) 1 116 := at_i (by decide +kernel) rfl
theorem a_X10_round_116 : At m_X10_round 116 (.aload_n 0) 1 117 := at_i (by decide +kernel) rfl
theorem a_X10_round_117 : At m_X10_round 117 (.getfield 9) 3 120 := at_i (by decide +kernel) rfl
theorem a_X10_round_120 : At m_X10_round 120 (.bipush 6) 2 122 := at_i (by decide +kernel) rfl
theorem a_X10_round_122 : At m_X10_round 122 (.aload_n 0) 1 123 := at_i (by decide +kernel) rfl
theorem a_X10_round_123 : At m_X10_round 123 (.invokevirtual 134) 3 126 := at_i (by decide +kernel) rfl
theorem a_X10_round_126 : At m_X10_round 126 (.iastore) 1 127 := at_i (by decide +kernel) rfl
theorem a_X10_round_127 : AtJ m_X10_round 127 (.goto (-65)) (-65) 62 130 := at_j (by decide +kernel) (by decide) rfl
theorem a_X10_round_130 : At m_X10_round 130 (.aload_n 0) 1 131 := at_i (by decide +kernel) rfl
theorem a_X10_round_131 : At m_X10_round 131 (.getfield 22) 3 134 := at_i (by decide +kernel) rfl
theorem a_X10_round_134 : At m_X10_round 134 (.bipush 100) 2 136 := at_i (by decide +kernel) rfl
theorem a_X10_round_136 : At m_X10_round 136 (.aload_n 0) 1 137 := at_i (by decide +kernel) rfl
theorem a_X10_round_137 : At m_X10_round 137 (.getfield 9) 3 140 := at_i (by decide +kernel) rfl
theorem a_X10_round_140 : At m_X10_round 140 (.bipush 6) 2 142 := at_i (by decide +kernel) rfl
theorem a_X10_round_142 : At m_X10_round 142 (.iaload) 1 143 := at_i (by decide +kernel) rfl
theorem a_X10_round_143 : At m_X10_round 143 (.imul) 1 144 := at_i (by decide +kernel) rfl
theorem a_X10_round_144 : At m_X10_round 144 (.aload_n 0) 1 145 := at_i (by decide +kernel) rfl
theorem a_X10_round_145 : At m_X10_round 145 (.getfield 9) 3 148 := at_i (by decide +kernel) rfl
theorem a_X10_round_148 : At m_X10_round 148 (.bipush 7) 2 150 := at_i (by decide +kernel) rfl
theorem a_X10_round_150 : At m_X10_round 150 (.iaload) 1 151 := at_i (by decide +kernel) rfl
theorem a_X10_round_151 : At m_X10_round 151 (.iadd) 1 152 := at_i (by decide +kernel) rfl
theorem a_X10_round_152 : At m_X10_round 152 (.iaload) 1 153 := at_i (by decide +kernel) rfl
theorem a_X10_round_153 : At m_X10_round 153 (.iconst 1) 1 154 := at_i (by decide +kernel) rfl
theorem a_X10_round_154 : At m_X10_round 154 (.isub) 1 155 := at_i (by decide +kernel) rfl
theorem a_X10_round_155 : At m_X10_round 155 (.istore 5) 2 157 := at_i (by decide +kernel) rfl
theorem a_X10_round_157 : At m_X10_round 157 (.aload_n 0) 1 158 := at_i (by decide +kernel) rfl
theorem a_X10_round_158 : At m_X10_round 158 (.getfield 9) 3 161 := at_i (by decide +kernel) rfl
theorem a_X10_round_161 : At m_X10_round 161 (.bipush 6) 2 163 := at_i (by decide +kernel) rfl
theorem a_X10_round_163 : At m_X10_round 163 (.iload_n 2) 1 164 := at_i (by decide +kernel) rfl
theorem a_X10_round_164 : At m_X10_round 164 (.iastore) 1 165 := at_i (by decide +kernel) rfl
theorem a_X10_round_165 : At m_X10_round 165 (.aload_n 0) 1 166 := at_i (by decide +kernel) rfl
theorem a_X10_round_166 : At m_X10_round 166 (.getfield 9) 3 169 := at_i (by decide +kernel) rfl
theorem a_X10_round_169 : At m_X10_round 169 (.bipush 7) 2 171 := at_i (by decide +kernel) rfl
theorem a_X10_round_171 : At m_X10_round 171 (.iload_n 3) 1 172 := at_i (by decide +kernel) rfl
theorem a_X10_round_172 : At m_X10_round 172 (.iastore) 1 173 := at_i (by decide +kernel) rfl
theorem a_X10_round_173 : At m_X10_round 173 (.iload_n 1) 1 174 := at_i (by decide +kernel) rfl
theorem a_X10_round_174 : AtJ m_X10_round 174 (.ifCond .ne 8) (8) 182 177 := at_j (by decide +kernel) (by decide) rfl
theorem a_X10_round_177 : At m_X10_round 177 (.iload 5) 2 179 := at_i (by decide +kernel) rfl
theorem a_X10_round_179 : AtJ m_X10_round 179 (.goto 8) (8) 187 182 := at_j (by decide +kernel) (by decide) rfl
theorem a_X10_round_182 : At m_X10_round 182 (.iload 4) 2 184 := at_i (by decide +kernel) rfl
theorem a_X10_round_184 : At m_X10_round 184 (.iload 5) 2 186 := at_i (by decide +kernel) rfl
theorem a_X10_round_186 : At m_X10_round 186 (.isub) 1 187 := at_i (by decide +kernel) rfl
theorem a_X10_round_187 : At m_X10_round 187 (.ireturn) 1 188 := at_i (by decide +kernel) rfl
def f_X10_round_b62 (a1 : Int32) (v_4 : Int32) (v_5 : Int32) (Q : Int32 → Mem → Prop)  (K62 : Int32 → Mem → Prop) (v4 : Int32) (h : Mem) : Prop :=
  vp_in (((100 : Int32) * (h 44 6)) + (h 44 7)) 10000 ∧
  if h 48 ((((100 : Int32) * (h 44 6)) + (h 44 7)).toNatClampNeg) = 0 then (
    ∀ v_14 : Int32, v_14 = v4 + (1 : Int32) →
    vp_in (((100 : Int32) * (h 44 6)) + (h 44 7)) 10000 ∧
    ∀ h_16 : Mem, h_16 = gm_st h 48 ((((100 : Int32) * (h 44 6)) + (h 44 7)).toNatClampNeg) v_14 →
    f_X10_turns  h_16 fun r_18 h_17 =>
    ∀ h_19 : Mem, h_19 = gm_st h_17 44 6 r_18 →
    K62 v_14 h_19)
  else (
    vp_in (((100 : Int32) * (h 44 6)) + (h 44 7)) 10000 ∧
    ∀ v_10 : Int32, v_10 = (h 48 ((((100 : Int32) * (h 44 6)) + (h 44 7)).toNatClampNeg)) - (1 : Int32) →
    ∀ h_11 : Mem, h_11 = gm_st h 44 6 v_4 →
    ∀ h_12 : Mem, h_12 = gm_st h_11 44 7 v_5 →
    if a1 = 0 then (
      Q v_10 h_12)
    else (
      Q (v4 - v_10) h_12))
set_option maxRecDepth 20000 in
theorem t_X10_round_b62 (a1 : Int32) (v_4 : Int32) (v_5 : Int32)   (Q : Int32 → Mem → Prop)   : ∀ (n : Nat) (v4 : Int32) (h : Mem), gm_it1 (f_X10_round_b62 a1 v_4 v_5 Q ) n v4 h → EV m_X10_round (GI Q) 62 [(0, .ref 43), (1, .int a1), (2, .int v_4), (3, .int v_5), (4, .int v4)] [] h := by
  refine ge_loop1 (P := fun v4 h => EV m_X10_round (GI Q) 62 [(0, .ref 43), (1, .int a1), (2, .int v_4), (3, .int v_5), (4, .int v4)] [] h) (fun K62 hK62 v4 h hyp => ?_)
  unfold f_X10_round_b62 at hyp
  refine ge_aload_n a_X10_round_62 rfl 0 rfl ?_
  refine ge_getR (q := 48) a_X10_round_63 fd_X10_22 (rfl : gm_cls 43 = 9) rfl ?_
  refine ge_bipush (v := 100) a_X10_round_66 rfl ?_
  refine ge_aload_n a_X10_round_68 rfl 0 rfl ?_
  refine ge_getR (q := 44) a_X10_round_69 fd_X10_9 (rfl : gm_cls 43 = 9) rfl ?_
  refine ge_bipush (v := 6) a_X10_round_72 rfl ?_
  refine ge_iald (j := 6) a_X10_round_74 ga_44 li_6_62.1 li_6_62.2 ?_
  refine ge_imul a_X10_round_75 ?_
  refine ge_aload_n a_X10_round_76 rfl 0 rfl ?_
  refine ge_getR (q := 44) a_X10_round_77 fd_X10_9 (rfl : gm_cls 43 = 9) rfl ?_
  refine ge_bipush (v := 7) a_X10_round_80 rfl ?_
  refine ge_iald (j := 7) a_X10_round_82 ga_44 li_7_62.1 li_7_62.2 ?_
  refine ge_iadd a_X10_round_83 ?_
  obtain ⟨b_7, hyp⟩ := hyp
  refine ge_iald (j := (((100 : Int32) * (h 44 6)) + (h 44 7)).toNatClampNeg) a_X10_round_84 ga_48 b_7 rfl ?_
  refine ge_if_ne a_X10_round_85 (fun c_8 => ?_) (fun c_8 => ?_)
  · have hyp := gm_in hyp c_8
    refine ge_aload_n a_X10_round_130 rfl 0 rfl ?_
    refine ge_getR (q := 48) a_X10_round_131 fd_X10_22 (rfl : gm_cls 43 = 9) rfl ?_
    refine ge_bipush (v := 100) a_X10_round_134 rfl ?_
    refine ge_aload_n a_X10_round_136 rfl 0 rfl ?_
    refine ge_getR (q := 44) a_X10_round_137 fd_X10_9 (rfl : gm_cls 43 = 9) rfl ?_
    refine ge_bipush (v := 6) a_X10_round_140 rfl ?_
    refine ge_iald (j := 6) a_X10_round_142 ga_44 li_6_62.1 li_6_62.2 ?_
    refine ge_imul a_X10_round_143 ?_
    refine ge_aload_n a_X10_round_144 rfl 0 rfl ?_
    refine ge_getR (q := 44) a_X10_round_145 fd_X10_9 (rfl : gm_cls 43 = 9) rfl ?_
    refine ge_bipush (v := 7) a_X10_round_148 rfl ?_
    refine ge_iald (j := 7) a_X10_round_150 ga_44 li_7_62.1 li_7_62.2 ?_
    refine ge_iadd a_X10_round_151 ?_
    obtain ⟨b_9, hyp⟩ := hyp
    refine ge_iald (j := (((100 : Int32) * (h 44 6)) + (h 44 7)).toNatClampNeg) a_X10_round_152 ga_48 b_9 rfl ?_
    refine ge_iconst (v := 1) a_X10_round_153 rfl ?_
    refine ge_isub a_X10_round_154 ?_
    refine ge_topi (fun v_10 ev_10 => ?_)
    have hyp := hyp v_10 ev_10
    refine ge_istore (lv' := [(5, .int v_10), (0, .ref 43), (1, .int a1), (2, .int v_4), (3, .int v_5), (4, .int v4)]) a_X10_round_155 (Nat.le_of_ble_eq_true rfl) rfl ?_
    refine ge_aload_n a_X10_round_157 rfl 1 rfl ?_
    refine ge_getR (q := 44) a_X10_round_158 fd_X10_9 (rfl : gm_cls 43 = 9) rfl ?_
    refine ge_bipush (v := 6) a_X10_round_161 rfl ?_
    refine ge_iload_n a_X10_round_163 rfl 3 rfl ?_
    refine ge_iast (j := 6) a_X10_round_164 ga_44 li_6_62.1 li_6_62.2 ?_
    refine ge_nm (fun h_11 eh_11 => ?_)
    have hyp := hyp h_11 eh_11
    refine ge_aload_n a_X10_round_165 rfl 1 rfl ?_
    refine ge_getR (q := 44) a_X10_round_166 fd_X10_9 (rfl : gm_cls 43 = 9) rfl ?_
    refine ge_bipush (v := 7) a_X10_round_169 rfl ?_
    refine ge_iload_n a_X10_round_171 rfl 4 rfl ?_
    refine ge_iast (j := 7) a_X10_round_172 ga_44 li_7_62.1 li_7_62.2 ?_
    refine ge_nm (fun h_12 eh_12 => ?_)
    have hyp := hyp h_12 eh_12
    refine ge_iload_n a_X10_round_173 rfl 2 rfl ?_
    refine ge_if_ne a_X10_round_174 (fun c_13 => ?_) (fun c_13 => ?_)
    · have hyp := gm_in hyp c_13
      refine ge_iload a_X10_round_182 5 rfl ?_
      refine ge_iload a_X10_round_184 0 rfl ?_
      refine ge_isub a_X10_round_186 ?_
      exact ge_iret rfl a_X10_round_187 hyp
    · have hyp := gm_ip hyp c_13
      refine ge_iload a_X10_round_177 0 rfl ?_
      refine ge_goto a_X10_round_179 ?_
      exact ge_iret rfl a_X10_round_187 hyp
  · have hyp := gm_ip hyp c_8
    obtain ⟨v_14, ev_14⟩ : ∃ y : Int32, y = v4 + (1 : Int32) := ⟨_, rfl⟩
    have hyp := hyp v_14 ev_14
    refine ge_iinc (v := v_14) (lv' := [(4, .int v_14), (0, .ref 43), (1, .int a1), (2, .int v_4), (3, .int v_5)]) a_X10_round_88 4 rfl ev_14.symm (Nat.le_of_ble_eq_true rfl) rfl ?_
    refine ge_aload_n a_X10_round_91 rfl 1 rfl ?_
    refine ge_getR (q := 48) a_X10_round_92 fd_X10_22 (rfl : gm_cls 43 = 9) rfl ?_
    refine ge_bipush (v := 100) a_X10_round_95 rfl ?_
    refine ge_aload_n a_X10_round_97 rfl 1 rfl ?_
    refine ge_getR (q := 44) a_X10_round_98 fd_X10_9 (rfl : gm_cls 43 = 9) rfl ?_
    refine ge_bipush (v := 6) a_X10_round_101 rfl ?_
    refine ge_iald (j := 6) a_X10_round_103 ga_44 li_6_62.1 li_6_62.2 ?_
    refine ge_imul a_X10_round_104 ?_
    refine ge_aload_n a_X10_round_105 rfl 1 rfl ?_
    refine ge_getR (q := 44) a_X10_round_106 fd_X10_9 (rfl : gm_cls 43 = 9) rfl ?_
    refine ge_bipush (v := 7) a_X10_round_109 rfl ?_
    refine ge_iald (j := 7) a_X10_round_111 ga_44 li_7_62.1 li_7_62.2 ?_
    refine ge_iadd a_X10_round_112 ?_
    refine ge_iload a_X10_round_113 0 rfl ?_
    obtain ⟨b_15, hyp⟩ := hyp
    refine ge_iast (j := (((100 : Int32) * (h 44 6)) + (h 44 7)).toNatClampNeg) a_X10_round_115 ga_48 b_15 rfl ?_
    refine ge_nm (fun h_16 eh_16 => ?_)
    have hyp := hyp h_16 eh_16
    refine ge_aload_n a_X10_round_116 rfl 1 rfl ?_
    refine ge_getR (q := 44) a_X10_round_117 fd_X10_9 (rfl : gm_cls 43 = 9) rfl ?_
    refine ge_bipush (v := 6) a_X10_round_120 rfl ?_
    refine ge_aload_n a_X10_round_122 rfl 1 rfl ?_
    refine ge_cVI [] (rest := [.int (6 : Int32), .ref 44]) a_X10_round_123 ok_X10_turns lk_X10_134 ⟨Nat.le_of_ble_eq_true rfl, Nat.le_of_ble_eq_true rfl⟩ (rfl : gm_cls 43 = 9) vc_9 (by decide) rfl rfl (Nat.le_of_ble_eq_true rfl) (t_X10_turns   h_16 _ hyp) (fun r_18 h_17 hyp => ?_)
    refine ge_iast (j := 6) a_X10_round_126 ga_44 li_6_62.1 li_6_62.2 ?_
    refine ge_nm (fun h_19 eh_19 => ?_)
    have hyp := hyp h_19 eh_19
    refine ge_goto a_X10_round_127 ?_
    exact ge_sub [1, 2, 3, 4, 0] rfl (hK62 v_14 h_19 hyp)
def f_X10_round_b35 (a1 : Int32) (v_4 : Int32) (v_5 : Int32) (Q : Int32 → Mem → Prop)  (K35 : Int32 → Mem → Prop) (v4 : Int32) (h : Mem) : Prop :=
  if (10000 : Int32) ≤ v4 then (
    gm_it1 (f_X10_round_b62 a1 v_4 v_5 Q ) gm_F (0 : Int32) h)
  else (
    vp_in v4 10000 ∧
    ∀ h_21 : Mem, h_21 = gm_st h 48 v4.toNatClampNeg (0 : Int32) →
    ∀ v_22 : Int32, v_22 = v4 + (1 : Int32) →
    K35 v_22 h_21)
set_option maxRecDepth 20000 in
theorem t_X10_round_b35 (a1 : Int32) (v_4 : Int32) (v_5 : Int32)   (Q : Int32 → Mem → Prop)   : ∀ (n : Nat) (v4 : Int32) (h : Mem), gm_it1 (f_X10_round_b35 a1 v_4 v_5 Q ) n v4 h → EV m_X10_round (GI Q) 35 [(0, .ref 43), (1, .int a1), (2, .int v_4), (3, .int v_5), (4, .int v4)] [] h := by
  refine ge_loop1 (P := fun v4 h => EV m_X10_round (GI Q) 35 [(0, .ref 43), (1, .int a1), (2, .int v_4), (3, .int v_5), (4, .int v4)] [] h) (fun K35 hK35 v4 h hyp => ?_)
  unfold f_X10_round_b35 at hyp
  refine ge_iload a_X10_round_35 4 rfl ?_
  refine ge_aload_n a_X10_round_37 rfl 0 rfl ?_
  refine ge_getR (q := 48) a_X10_round_38 fd_X10_22 (rfl : gm_cls 43 = 9) rfl ?_
  refine ge_alen (v := 10000) a_X10_round_41 ga_48 rfl ?_
  refine ge_icmp_ge a_X10_round_42 (fun c_6 => ?_) (fun c_6 => ?_)
  · have hyp := gm_ip hyp c_6
    refine ge_iconst (v := 0) a_X10_round_59 rfl ?_
    refine ge_istore (lv' := [(4, .int (0 : Int32)), (0, .ref 43), (1, .int a1), (2, .int v_4), (3, .int v_5)]) a_X10_round_60 (Nat.le_of_ble_eq_true rfl) rfl ?_
    exact ge_sub [1, 2, 3, 4, 0] rfl (t_X10_round_b62 a1 v_4 v_5   Q   gm_F (0 : Int32) h hyp)
  · have hyp := gm_in hyp c_6
    refine ge_aload_n a_X10_round_45 rfl 0 rfl ?_
    refine ge_getR (q := 48) a_X10_round_46 fd_X10_22 (rfl : gm_cls 43 = 9) rfl ?_
    refine ge_iload a_X10_round_49 4 rfl ?_
    refine ge_iconst (v := 0) a_X10_round_51 rfl ?_
    obtain ⟨b_20, hyp⟩ := hyp
    refine ge_iast (j := v4.toNatClampNeg) a_X10_round_52 ga_48 b_20 rfl ?_
    refine ge_nm (fun h_21 eh_21 => ?_)
    have hyp := hyp h_21 eh_21
    obtain ⟨v_22, ev_22⟩ : ∃ y : Int32, y = v4 + (1 : Int32) := ⟨_, rfl⟩
    have hyp := hyp v_22 ev_22
    refine ge_iinc (v := v_22) (lv' := [(4, .int v_22), (0, .ref 43), (1, .int a1), (2, .int v_4), (3, .int v_5)]) a_X10_round_53 4 rfl ev_22.symm (Nat.le_of_ble_eq_true rfl) rfl ?_
    refine ge_goto a_X10_round_56 ?_
    exact ge_sub [1, 2, 3, 4, 0] rfl (hK35 v_22 h_21 hyp)
def f_X10_round (a1 : Int32) (h : Mem) (Q : Int32 → Mem → Prop) : Prop :=
  f_X10_within a1 (0 : Int32) (1 : Int32) h fun r_2 h_1 =>
  if r_2 = 0 then (
    f_X10_finding (-1000001 : Int32) h_1 fun r_24 h_23 =>
    Q r_24 h_23)
  else (
    ∀ v_4 : Int32, v_4 = h_1 44 6 →
    ∀ v_5 : Int32, v_5 = h_1 44 7 →
    gm_it1 (f_X10_round_b35 a1 v_4 v_5 Q ) gm_F (0 : Int32) h_1)
set_option maxRecDepth 20000 in
theorem t_X10_round (a1 : Int32)  (h : Mem) (Q : Int32 → Mem → Prop) (hyp : f_X10_round a1 h Q) : Cn m_X10_round [.ref 43, .int a1] h (GI Q) := by
  refine ge_entry (lv := [(0, .ref 43), (1, .int a1)]) pn_X10 (Nat.le_of_ble_eq_true rfl) rfl ?_
  unfold f_X10_round at hyp
  refine ge_iload_n a_X10_round_0 rfl 1 rfl ?_
  refine ge_iconst (v := 0) a_X10_round_1 rfl ?_
  refine ge_iconst (v := 1) a_X10_round_2 rfl ?_
  refine ge_cSI [.int a1, .int (0 : Int32), .int (1 : Int32)] (rest := []) a_X10_round_3 ok_X10_within lk_X10_71 ⟨Nat.le_of_ble_eq_true rfl, Nat.le_of_ble_eq_true rfl⟩ rfl rfl (Nat.le_of_ble_eq_true rfl) (t_X10_within a1 (0 : Int32) (1 : Int32)  h _ hyp) (fun r_2 h_1 hyp => ?_)
  refine ge_if_ne a_X10_round_6 (fun c_3 => ?_) (fun c_3 => ?_)
  · have hyp := gm_in hyp c_3
    refine ge_aload_n a_X10_round_16 rfl 0 rfl ?_
    refine ge_getR (q := 44) a_X10_round_17 fd_X10_9 (rfl : gm_cls 43 = 9) rfl ?_
    refine ge_bipush (v := 6) a_X10_round_20 rfl ?_
    refine ge_iald (j := 6) a_X10_round_22 ga_44 li_6_62.1 li_6_62.2 ?_
    refine ge_topi (fun v_4 ev_4 => ?_)
    have hyp := hyp v_4 ev_4
    refine ge_istore_n (lv' := [(2, .int v_4), (0, .ref 43), (1, .int a1)]) a_X10_round_23 rfl (Nat.le_of_ble_eq_true rfl) rfl ?_
    refine ge_aload_n a_X10_round_24 rfl 1 rfl ?_
    refine ge_getR (q := 44) a_X10_round_25 fd_X10_9 (rfl : gm_cls 43 = 9) rfl ?_
    refine ge_bipush (v := 7) a_X10_round_28 rfl ?_
    refine ge_iald (j := 7) a_X10_round_30 ga_44 li_7_62.1 li_7_62.2 ?_
    refine ge_topi (fun v_5 ev_5 => ?_)
    have hyp := hyp v_5 ev_5
    refine ge_istore_n (lv' := [(3, .int v_5), (2, .int v_4), (0, .ref 43), (1, .int a1)]) a_X10_round_31 rfl (Nat.le_of_ble_eq_true rfl) rfl ?_
    refine ge_iconst (v := 0) a_X10_round_32 rfl ?_
    refine ge_istore (lv' := [(4, .int (0 : Int32)), (3, .int v_5), (2, .int v_4), (0, .ref 43), (1, .int a1)]) a_X10_round_33 (Nat.le_of_ble_eq_true rfl) rfl ?_
    exact ge_sub [3, 4, 2, 1, 0] rfl (t_X10_round_b35 a1 v_4 v_5   Q   gm_F (0 : Int32) h_1 hyp)
  · have hyp := gm_ip hyp c_3
    refine ge_aload_n a_X10_round_9 rfl 0 rfl ?_
    refine ge_ldc (v := -1000001) a_X10_round_10 ct_X10_66 ?_
    refine ge_cVI [.int (-1000001 : Int32)] (rest := []) a_X10_round_12 ok_X10_finding lk_X10_83 ⟨Nat.le_of_ble_eq_true rfl, Nat.le_of_ble_eq_true rfl⟩ (rfl : gm_cls 43 = 9) vc_9 (by decide) rfl rfl (Nat.le_of_ble_eq_true rfl) (t_X10_finding (-1000001 : Int32)  h_1 _ hyp) (fun r_24 h_23 hyp => ?_)
    exact ge_iret rfl a_X10_round_15 hyp

theorem a_X10_leads_0 : At m_X10_leads 0 (.aload_n 0) 1 1 := at_i (by decide +kernel) rfl
theorem a_X10_leads_1 : At m_X10_leads 1 (.sipush 200) 3 4 := at_i (by decide +kernel) rfl
theorem a_X10_leads_4 : At m_X10_leads 4 (.iconst 0) 1 5 := at_i (by decide +kernel) rfl
theorem a_X10_leads_5 : At m_X10_leads 5 (.invokevirtual 161) 3 8 := at_i (by decide +kernel) rfl
theorem a_X10_leads_8 : At m_X10_leads 8 (.aload_n 0) 1 9 := at_i (by decide +kernel) rfl
theorem a_X10_leads_9 : At m_X10_leads 9 (.sipush 200) 3 12 := at_i (by decide +kernel) rfl
theorem a_X10_leads_12 : At m_X10_leads 12 (.iconst 1) 1 13 := at_i (by decide +kernel) rfl
theorem a_X10_leads_13 : At m_X10_leads 13 (.invokevirtual 161) 3 16 := at_i (by decide +kernel) rfl
theorem a_X10_leads_16 : At m_X10_leads 16 (.iadd) 1 17 := at_i (by decide +kernel) rfl
theorem a_X10_leads_17 : At m_X10_leads 17 (.istore_n 1) 1 18 := at_i (by decide +kernel) rfl
theorem a_X10_leads_18 : At m_X10_leads 18 (.iload_n 1) 1 19 := at_i (by decide +kernel) rfl
theorem a_X10_leads_19 : At m_X10_leads 19 (.iconst 2) 1 20 := at_i (by decide +kernel) rfl
theorem a_X10_leads_20 : At m_X10_leads 20 (.aload_n 0) 1 21 := at_i (by decide +kernel) rfl
theorem a_X10_leads_21 : At m_X10_leads 21 (.getfield 9) 3 24 := at_i (by decide +kernel) rfl
theorem a_X10_leads_24 : At m_X10_leads 24 (.bipush 6) 2 26 := at_i (by decide +kernel) rfl
theorem a_X10_leads_26 : At m_X10_leads 26 (.iaload) 1 27 := at_i (by decide +kernel) rfl
theorem a_X10_leads_27 : At m_X10_leads 27 (.imul) 1 28 := at_i (by decide +kernel) rfl
theorem a_X10_leads_28 : At m_X10_leads 28 (.isub) 1 29 := at_i (by decide +kernel) rfl
theorem a_X10_leads_29 : At m_X10_leads 29 (.invokestatic 167) 3 32 := at_i (by decide +kernel) rfl
theorem a_X10_leads_32 : At m_X10_leads 32 (.istore_n 2) 1 33 := at_i (by decide +kernel) rfl
theorem a_X10_leads_33 : At m_X10_leads 33 (.iload_n 1) 1 34 := at_i (by decide +kernel) rfl
theorem a_X10_leads_34 : At m_X10_leads 34 (.iconst 2) 1 35 := at_i (by decide +kernel) rfl
theorem a_X10_leads_35 : At m_X10_leads 35 (.aload_n 0) 1 36 := at_i (by decide +kernel) rfl
theorem a_X10_leads_36 : At m_X10_leads 36 (.getfield 9) 3 39 := at_i (by decide +kernel) rfl
theorem a_X10_leads_39 : At m_X10_leads 39 (.bipush 7) 2 41 := at_i (by decide +kernel) rfl
theorem a_X10_leads_41 : At m_X10_leads 41 (.iaload) 1 42 := at_i (by decide +kernel) rfl
theorem a_X10_leads_42 : At m_X10_leads 42 (.imul) 1 43 := at_i (by decide +kernel) rfl
theorem a_X10_leads_43 : At m_X10_leads 43 (.isub) 1 44 := at_i (by decide +kernel) rfl
theorem a_X10_leads_44 : At m_X10_leads 44 (.invokestatic 167) 3 47 := at_i (by decide +kernel) rfl
theorem a_X10_leads_47 : At m_X10_leads 47 (.istore_n 3) 1 48 := at_i (by decide +kernel) rfl
theorem a_X10_leads_48 : At m_X10_leads 48 (.iload_n 2) 1 49 := at_i (by decide +kernel) rfl
theorem a_X10_leads_49 : At m_X10_leads 49 (.iload_n 3) 1 50 := at_i (by decide +kernel) rfl
theorem a_X10_leads_50 : AtJ m_X10_leads 50 (.if_icmp .ge 7) (7) 57 53 := at_j (by decide +kernel) (by decide) rfl
theorem a_X10_leads_53 : At m_X10_leads 53 (.iconst 0) 1 54 := at_i (by decide +kernel) rfl
theorem a_X10_leads_54 : AtJ m_X10_leads 54 (.goto 13) (13) 67 57 := at_j (by decide +kernel) (by decide) rfl
theorem a_X10_leads_57 : At m_X10_leads 57 (.iload_n 2) 1 58 := at_i (by decide +kernel) rfl
theorem a_X10_leads_58 : At m_X10_leads 58 (.iload_n 3) 1 59 := at_i (by decide +kernel) rfl
theorem a_X10_leads_59 : AtJ m_X10_leads 59 (.if_icmp .le 7) (7) 66 62 := at_j (by decide +kernel) (by decide) rfl
theorem a_X10_leads_62 : At m_X10_leads 62 (.iconst 1) 1 63 := at_i (by decide +kernel) rfl
theorem a_X10_leads_63 : AtJ m_X10_leads 63 (.goto 4) (4) 67 66 := at_j (by decide +kernel) (by decide) rfl
theorem a_X10_leads_66 : At m_X10_leads 66 (.iconst 2) 1 67 := at_i (by decide +kernel) rfl
theorem a_X10_leads_67 : At m_X10_leads 67 (.ireturn) 1 68 := at_i (by decide +kernel) rfl
def f_X10_leads  (h : Mem) (Q : Int32 → Mem → Prop) : Prop :=
  f_X10_paceThen (200 : Int32) (0 : Int32) h fun r_2 h_1 =>
  f_X10_paceThen (200 : Int32) (1 : Int32) h_1 fun r_4 h_3 =>
  ∀ v_5 : Int32, v_5 = r_2 + r_4 →
  ∀ v_6 : Int32, v_6 = (if 0 ≤ v_5 - ((2 : Int32) * (h_3 44 6)) then v_5 - ((2 : Int32) * (h_3 44 6)) else 0 - (v_5 - ((2 : Int32) * (h_3 44 6)))) →
  ∀ v_7 : Int32, v_7 = (if 0 ≤ v_5 - ((2 : Int32) * (h_3 44 7)) then v_5 - ((2 : Int32) * (h_3 44 7)) else 0 - (v_5 - ((2 : Int32) * (h_3 44 7)))) →
  if v_7 ≤ v_6 then (
    if v_6 ≤ v_7 then (
      Q (2 : Int32) h_3)
    else (
      Q (1 : Int32) h_3))
  else (
    Q (0 : Int32) h_3)
set_option maxRecDepth 20000 in
theorem t_X10_leads   (h : Mem) (Q : Int32 → Mem → Prop) (hyp : f_X10_leads  h Q) : Cn m_X10_leads [.ref 43] h (GI Q) := by
  refine ge_entry (lv := [(0, .ref 43)]) pn_X10 (Nat.le_of_ble_eq_true rfl) rfl ?_
  unfold f_X10_leads at hyp
  refine ge_aload_n a_X10_leads_0 rfl 0 rfl ?_
  refine ge_sipush (v := 200) a_X10_leads_1 rfl ?_
  refine ge_iconst (v := 0) a_X10_leads_4 rfl ?_
  refine ge_cVI [.int (200 : Int32), .int (0 : Int32)] (rest := []) a_X10_leads_5 ok_X10_paceThen lk_X10_161 ⟨Nat.le_of_ble_eq_true rfl, Nat.le_of_ble_eq_true rfl⟩ (rfl : gm_cls 43 = 9) vc_9 (by decide) rfl rfl (Nat.le_of_ble_eq_true rfl) (t_X10_paceThen (200 : Int32) (0 : Int32)  h _ hyp) (fun r_2 h_1 hyp => ?_)
  refine ge_aload_n a_X10_leads_8 rfl 0 rfl ?_
  refine ge_sipush (v := 200) a_X10_leads_9 rfl ?_
  refine ge_iconst (v := 1) a_X10_leads_12 rfl ?_
  refine ge_cVI [.int (200 : Int32), .int (1 : Int32)] (rest := [.int r_2]) a_X10_leads_13 ok_X10_paceThen lk_X10_161 ⟨Nat.le_of_ble_eq_true rfl, Nat.le_of_ble_eq_true rfl⟩ (rfl : gm_cls 43 = 9) vc_9 (by decide) rfl rfl (Nat.le_of_ble_eq_true rfl) (t_X10_paceThen (200 : Int32) (1 : Int32)  h_1 _ hyp) (fun r_4 h_3 hyp => ?_)
  refine ge_iadd a_X10_leads_16 ?_
  refine ge_topi (fun v_5 ev_5 => ?_)
  have hyp := hyp v_5 ev_5
  refine ge_istore_n (lv' := [(1, .int v_5), (0, .ref 43)]) a_X10_leads_17 rfl (Nat.le_of_ble_eq_true rfl) rfl ?_
  refine ge_iload_n a_X10_leads_18 rfl 0 rfl ?_
  refine ge_iconst (v := 2) a_X10_leads_19 rfl ?_
  refine ge_aload_n a_X10_leads_20 rfl 1 rfl ?_
  refine ge_getR (q := 44) a_X10_leads_21 fd_X10_9 (rfl : gm_cls 43 = 9) rfl ?_
  refine ge_bipush (v := 6) a_X10_leads_24 rfl ?_
  refine ge_iald (j := 6) a_X10_leads_26 ga_44 li_6_62.1 li_6_62.2 ?_
  refine ge_imul a_X10_leads_27 ?_
  refine ge_isub a_X10_leads_28 ?_
  refine ge_mabs (rest := []) a_X10_leads_29 lk_X10_167 (Nat.le_of_ble_eq_true rfl) (Nat.le_of_ble_eq_true rfl) ?_
  refine ge_topi (fun v_6 ev_6 => ?_)
  have hyp := hyp v_6 ev_6
  refine ge_istore_n (lv' := [(2, .int v_6), (1, .int v_5), (0, .ref 43)]) a_X10_leads_32 rfl (Nat.le_of_ble_eq_true rfl) rfl ?_
  refine ge_iload_n a_X10_leads_33 rfl 1 rfl ?_
  refine ge_iconst (v := 2) a_X10_leads_34 rfl ?_
  refine ge_aload_n a_X10_leads_35 rfl 2 rfl ?_
  refine ge_getR (q := 44) a_X10_leads_36 fd_X10_9 (rfl : gm_cls 43 = 9) rfl ?_
  refine ge_bipush (v := 7) a_X10_leads_39 rfl ?_
  refine ge_iald (j := 7) a_X10_leads_41 ga_44 li_7_62.1 li_7_62.2 ?_
  refine ge_imul a_X10_leads_42 ?_
  refine ge_isub a_X10_leads_43 ?_
  refine ge_mabs (rest := []) a_X10_leads_44 lk_X10_167 (Nat.le_of_ble_eq_true rfl) (Nat.le_of_ble_eq_true rfl) ?_
  refine ge_topi (fun v_7 ev_7 => ?_)
  have hyp := hyp v_7 ev_7
  refine ge_istore_n (lv' := [(3, .int v_7), (2, .int v_6), (1, .int v_5), (0, .ref 43)]) a_X10_leads_47 rfl (Nat.le_of_ble_eq_true rfl) rfl ?_
  refine ge_iload_n a_X10_leads_48 rfl 1 rfl ?_
  refine ge_iload_n a_X10_leads_49 rfl 0 rfl ?_
  refine ge_icmp_ge a_X10_leads_50 (fun c_8 => ?_) (fun c_8 => ?_)
  · have hyp := gm_ip hyp c_8
    refine ge_iload_n a_X10_leads_57 rfl 1 rfl ?_
    refine ge_iload_n a_X10_leads_58 rfl 0 rfl ?_
    refine ge_icmp_le a_X10_leads_59 (fun c_9 => ?_) (fun c_9 => ?_)
    · have hyp := gm_ip hyp c_9
      refine ge_iconst (v := 2) a_X10_leads_66 rfl ?_
      exact ge_iret rfl a_X10_leads_67 hyp
    · have hyp := gm_in hyp c_9
      refine ge_iconst (v := 1) a_X10_leads_62 rfl ?_
      refine ge_goto a_X10_leads_63 ?_
      exact ge_iret rfl a_X10_leads_67 hyp
  · have hyp := gm_in hyp c_8
    refine ge_iconst (v := 0) a_X10_leads_53 rfl ?_
    refine ge_goto a_X10_leads_54 ?_
    exact ge_iret rfl a_X10_leads_67 hyp

theorem a_X10_findWeights_0 : At m_X10_findWeights 0 (.aload_n 0) 1 1 := at_i (by decide +kernel) rfl
theorem a_X10_findWeights_1 : At m_X10_findWeights 1 (.getfield 9) 3 4 := at_i (by decide +kernel) rfl
theorem a_X10_findWeights_4 : At m_X10_findWeights 4 (.bipush 8) 2 6 := at_i (by decide +kernel) rfl
theorem a_X10_findWeights_6 : At m_X10_findWeights 6 (.iaload) 1 7 := at_i (by decide +kernel) rfl
theorem a_X10_findWeights_7 : At m_X10_findWeights 7 (.istore_n 1) 1 8 := at_i (by decide +kernel) rfl
theorem a_X10_findWeights_8 : At m_X10_findWeights 8 (.aload_n 0) 1 9 := at_i (by decide +kernel) rfl
theorem a_X10_findWeights_9 : At m_X10_findWeights 9 (.getfield 9) 3 12 := at_i (by decide +kernel) rfl
theorem a_X10_findWeights_12 : At m_X10_findWeights 12 (.bipush 9) 2 14 := at_i (by decide +kernel) rfl
theorem a_X10_findWeights_14 : At m_X10_findWeights 14 (.iaload) 1 15 := at_i (by decide +kernel) rfl
theorem a_X10_findWeights_15 : At m_X10_findWeights 15 (.istore_n 2) 1 16 := at_i (by decide +kernel) rfl
theorem a_X10_findWeights_16 : At m_X10_findWeights 16 (.iconst (-1)) 1 17 := at_i (by decide +kernel) rfl
theorem a_X10_findWeights_17 : At m_X10_findWeights 17 (.istore_n 3) 1 18 := at_i (by decide +kernel) rfl
theorem a_X10_findWeights_18 : At m_X10_findWeights 18 (.aload_n 0) 1 19 := at_i (by decide +kernel) rfl
theorem a_X10_findWeights_19 : At m_X10_findWeights 19 (.ldc 170) 2 21 := at_i (by decide +kernel) rfl
theorem a_X10_findWeights_21 : At m_X10_findWeights 21 (.putfield 171) 3 24 := at_i (by decide +kernel) rfl
theorem a_X10_findWeights_24 : At m_X10_findWeights 24 (.iconst 0) 1 25 := at_i (by decide +kernel) rfl
theorem a_X10_findWeights_25 : At m_X10_findWeights 25 (.istore 4) 2 27 := at_i (by decide +kernel) rfl
theorem a_X10_findWeights_27 : At m_X10_findWeights 27 (.iload 4) 2 29 := at_i (by decide +kernel) rfl
theorem a_X10_findWeights_29 : At m_X10_findWeights 29 (.bipush 121) 2 31 := at_i (by decide +kernel) rfl
theorem a_X10_findWeights_31 : AtJ m_X10_findWeights 31 (.if_icmp .ge 79) (79) 110 34 := at_j (by decide +kernel) (by decide) rfl
theorem a_X10_findWeights_34 : At m_X10_findWeights 34 (.aload_n 0) 1 35 := at_i (by decide +kernel) rfl
theorem a_X10_findWeights_35 : At m_X10_findWeights 35 (.getfield 9) 3 38 := at_i (by decide +kernel) rfl
theorem a_X10_findWeights_38 : At m_X10_findWeights 38 (.bipush 8) 2 40 := at_i (by decide +kernel) rfl
theorem a_X10_findWeights_40 : At m_X10_findWeights 40 (.iload 4) 2 42 := at_i (by decide +kernel) rfl
theorem a_X10_findWeights_42 : At m_X10_findWeights 42 (.bipush 11) 2 44 := at_i (by decide +kernel) rfl
theorem a_X10_findWeights_44 : At m_X10_findWeights 44 (.idiv) 1 45 := at_i (by decide +kernel) rfl
theorem a_X10_findWeights_45 : At m_X10_findWeights 45 (.iastore) 1 46 := at_i (by decide +kernel) rfl
theorem a_X10_findWeights_46 : At m_X10_findWeights 46 (.aload_n 0) 1 47 := at_i (by decide +kernel) rfl
theorem a_X10_findWeights_47 : At m_X10_findWeights 47 (.getfield 9) 3 50 := at_i (by decide +kernel) rfl
theorem a_X10_findWeights_50 : At m_X10_findWeights 50 (.bipush 9) 2 52 := at_i (by decide +kernel) rfl
theorem a_X10_findWeights_52 : At m_X10_findWeights 52 (.iload 4) 2 54 := at_i (by decide +kernel) rfl
theorem a_X10_findWeights_54 : At m_X10_findWeights 54 (.bipush 11) 2 56 := at_i (by decide +kernel) rfl
theorem a_X10_findWeights_56 : At m_X10_findWeights 56 (.irem) 1 57 := at_i (by decide +kernel) rfl
theorem a_X10_findWeights_57 : At m_X10_findWeights 57 (.iastore) 1 58 := at_i (by decide +kernel) rfl
theorem a_X10_findWeights_58 : At m_X10_findWeights 58 (.aload_n 0) 1 59 := at_i (by decide +kernel) rfl
theorem a_X10_findWeights_59 : At m_X10_findWeights 59 (.invokevirtual 152) 3 62 := at_i (by decide +kernel) rfl
theorem a_X10_findWeights_62 : At m_X10_findWeights 62 (.aload_n 0) 1 63 := at_i (by decide +kernel) rfl
theorem a_X10_findWeights_63 : At m_X10_findWeights 63 (.getfield 9) 3 66 := at_i (by decide +kernel) rfl
theorem a_X10_findWeights_66 : At m_X10_findWeights 66 (.bipush 15) 2 68 := at_i (by decide +kernel) rfl
theorem a_X10_findWeights_68 : At m_X10_findWeights 68 (.iaload) 1 69 := at_i (by decide +kernel) rfl
theorem a_X10_findWeights_69 : At m_X10_findWeights 69 (.isub) 1 70 := at_i (by decide +kernel) rfl
theorem a_X10_findWeights_70 : At m_X10_findWeights 70 (.invokestatic 167) 3 73 := at_i (by decide +kernel) rfl
theorem a_X10_findWeights_73 : At m_X10_findWeights 73 (.istore 5) 2 75 := at_i (by decide +kernel) rfl
theorem a_X10_findWeights_75 : At m_X10_findWeights 75 (.iload 5) 2 77 := at_i (by decide +kernel) rfl
theorem a_X10_findWeights_77 : At m_X10_findWeights 77 (.aload_n 0) 1 78 := at_i (by decide +kernel) rfl
theorem a_X10_findWeights_78 : At m_X10_findWeights 78 (.getfield 171) 3 81 := at_i (by decide +kernel) rfl
theorem a_X10_findWeights_81 : AtJ m_X10_findWeights 81 (.if_icmp .ge 8) (8) 89 84 := at_j (by decide +kernel) (by decide) rfl
theorem a_X10_findWeights_84 : At m_X10_findWeights 84 (.iload 4) 2 86 := at_i (by decide +kernel) rfl
theorem a_X10_findWeights_86 : AtJ m_X10_findWeights 86 (.goto 4) (4) 90 89 := at_j (by decide +kernel) (by decide) rfl
theorem a_X10_findWeights_89 : At m_X10_findWeights 89 (.iload_n 3) 1 90 := at_i (by decide +kernel) rfl
theorem a_X10_findWeights_90 : At m_X10_findWeights 90 (.istore_n 3) 1 91 := at_i (by decide +kernel) rfl
theorem a_X10_findWeights_91 : At m_X10_findWeights 91 (.aload_n 0) 1 92 := at_i (by decide +kernel) rfl
theorem a_X10_findWeights_92 : At m_X10_findWeights 92 (.aload_n 0) 1 93 := at_i (by decide +kernel) rfl
theorem a_X10_findWeights_93 : At m_X10_findWeights 93 (.getfield 171) 3 96 := at_i (by decide +kernel) rfl
theorem a_X10_findWeights_96 : At m_X10_findWeights 96 (.iload 5) 2 98 := at_i (by decide +kernel) rfl
theorem a_X10_findWeights_98 : At m_X10_findWeights 98 (.invokestatic 128) 3 101 := at_i (by decide +kernel) rfl
theorem a_X10_findWeights_101 : At m_X10_findWeights 101 (.putfield 171) 3 104 := at_i (by decide +kernel) rfl
theorem a_X10_findWeights_104 : At m_X10_findWeights 104 (.iinc 4 1) 3 107 := at_i (by decide +kernel) rfl
theorem a_X10_findWeights_107 : AtJ m_X10_findWeights 107 (.goto (-80)) (-80) 27 110 := at_j (by decide +kernel) (by decide) rfl
theorem a_X10_findWeights_110 : At m_X10_findWeights 110 (.aload_n 0) 1 111 := at_i (by decide +kernel) rfl
theorem a_X10_findWeights_111 : At m_X10_findWeights 111 (.getfield 9) 3 114 := at_i (by decide +kernel) rfl
theorem a_X10_findWeights_114 : At m_X10_findWeights 114 (.bipush 8) 2 116 := at_i (by decide +kernel) rfl
theorem a_X10_findWeights_116 : At m_X10_findWeights 116 (.iload_n 1) 1 117 := at_i (by decide +kernel) rfl
theorem a_X10_findWeights_117 : At m_X10_findWeights 117 (.iastore) 1 118 := at_i (by decide +kernel) rfl
theorem a_X10_findWeights_118 : At m_X10_findWeights 118 (.aload_n 0) 1 119 := at_i (by decide +kernel) rfl
theorem a_X10_findWeights_119 : At m_X10_findWeights 119 (.getfield 9) 3 122 := at_i (by decide +kernel) rfl
theorem a_X10_findWeights_122 : At m_X10_findWeights 122 (.bipush 9) 2 124 := at_i (by decide +kernel) rfl
theorem a_X10_findWeights_124 : At m_X10_findWeights 124 (.iload_n 2) 1 125 := at_i (by decide +kernel) rfl
theorem a_X10_findWeights_125 : At m_X10_findWeights 125 (.iastore) 1 126 := at_i (by decide +kernel) rfl
theorem a_X10_findWeights_126 : At m_X10_findWeights 126 (.iload_n 3) 1 127 := at_i (by decide +kernel) rfl
theorem a_X10_findWeights_127 : At m_X10_findWeights 127 (.ireturn) 1 128 := at_i (by decide +kernel) rfl
def f_X10_findWeights_b27  (v_1 : Int32) (v_2 : Int32) (Q : Int32 → Mem → Prop)  (K27 : Int32 → Int32 → Mem → Prop) (v3 : Int32) (v4 : Int32) (h : Mem) : Prop :=
  if (121 : Int32) ≤ v4 then (
    ∀ h_5 : Mem, h_5 = gm_st h 44 8 v_1 →
    ∀ h_6 : Mem, h_6 = gm_st h_5 44 9 v_2 →
    Q v3 h_6)
  else (
    ∀ h_7 : Mem, h_7 = gm_st h 44 8 (v4 / (11 : Int32)) →
    ∀ h_8 : Mem, h_8 = gm_st h_7 44 9 (v4 - v4 / (11 : Int32) * (11 : Int32)) →
    f_X10_restTakes  h_8 fun r_10 h_9 =>
    ∀ v_11 : Int32, v_11 = (if 0 ≤ r_10 - (h_9 44 15) then r_10 - (h_9 44 15) else 0 - (r_10 - (h_9 44 15))) →
    if h_9 43 6 ≤ v_11 then (
      ∀ v_13 : Int32, v_13 = (if v_11 < h_9 43 6 then v_11 else h_9 43 6) →
      ∀ h_14 : Mem, h_14 = gm_st h_9 43 6 v_13 →
      ∀ v_15 : Int32, v_15 = v4 + (1 : Int32) →
      K27 v3 v_15 h_14)
    else (
      ∀ v_16 : Int32, v_16 = (if v_11 < h_9 43 6 then v_11 else h_9 43 6) →
      ∀ h_17 : Mem, h_17 = gm_st h_9 43 6 v_16 →
      ∀ v_18 : Int32, v_18 = v4 + (1 : Int32) →
      K27 v4 v_18 h_17))
set_option maxRecDepth 20000 in
theorem t_X10_findWeights_b27  (v_1 : Int32) (v_2 : Int32)   (Q : Int32 → Mem → Prop)   : ∀ (n : Nat) (v3 : Int32) (v4 : Int32) (h : Mem), gm_it2 (f_X10_findWeights_b27  v_1 v_2 Q ) n v3 v4 h → EV m_X10_findWeights (GI Q) 27 [(0, .ref 43), (1, .int v_1), (2, .int v_2), (3, .int v3), (4, .int v4)] [] h := by
  refine ge_loop2 (P := fun v3 v4 h => EV m_X10_findWeights (GI Q) 27 [(0, .ref 43), (1, .int v_1), (2, .int v_2), (3, .int v3), (4, .int v4)] [] h) (fun K27 hK27 v3 v4 h hyp => ?_)
  unfold f_X10_findWeights_b27 at hyp
  refine ge_iload a_X10_findWeights_27 4 rfl ?_
  refine ge_bipush (v := 121) a_X10_findWeights_29 rfl ?_
  refine ge_icmp_ge a_X10_findWeights_31 (fun c_4 => ?_) (fun c_4 => ?_)
  · have hyp := gm_ip hyp c_4
    refine ge_aload_n a_X10_findWeights_110 rfl 0 rfl ?_
    refine ge_getR (q := 44) a_X10_findWeights_111 fd_X10_9 (rfl : gm_cls 43 = 9) rfl ?_
    refine ge_bipush (v := 8) a_X10_findWeights_114 rfl ?_
    refine ge_iload_n a_X10_findWeights_116 rfl 1 rfl ?_
    refine ge_iast (j := 8) a_X10_findWeights_117 ga_44 li_8_62.1 li_8_62.2 ?_
    refine ge_nm (fun h_5 eh_5 => ?_)
    have hyp := hyp h_5 eh_5
    refine ge_aload_n a_X10_findWeights_118 rfl 0 rfl ?_
    refine ge_getR (q := 44) a_X10_findWeights_119 fd_X10_9 (rfl : gm_cls 43 = 9) rfl ?_
    refine ge_bipush (v := 9) a_X10_findWeights_122 rfl ?_
    refine ge_iload_n a_X10_findWeights_124 rfl 2 rfl ?_
    refine ge_iast (j := 9) a_X10_findWeights_125 ga_44 li_9_62.1 li_9_62.2 ?_
    refine ge_nm (fun h_6 eh_6 => ?_)
    have hyp := hyp h_6 eh_6
    refine ge_iload_n a_X10_findWeights_126 rfl 3 rfl ?_
    exact ge_iret rfl a_X10_findWeights_127 hyp
  · have hyp := gm_in hyp c_4
    refine ge_aload_n a_X10_findWeights_34 rfl 0 rfl ?_
    refine ge_getR (q := 44) a_X10_findWeights_35 fd_X10_9 (rfl : gm_cls 43 = 9) rfl ?_
    refine ge_bipush (v := 8) a_X10_findWeights_38 rfl ?_
    refine ge_iload a_X10_findWeights_40 4 rfl ?_
    refine ge_bipush (v := 11) a_X10_findWeights_42 rfl ?_
    refine ge_idiv a_X10_findWeights_44 (by decide) ?_
    refine ge_iast (j := 8) a_X10_findWeights_45 ga_44 li_8_62.1 li_8_62.2 ?_
    refine ge_nm (fun h_7 eh_7 => ?_)
    have hyp := hyp h_7 eh_7
    refine ge_aload_n a_X10_findWeights_46 rfl 0 rfl ?_
    refine ge_getR (q := 44) a_X10_findWeights_47 fd_X10_9 (rfl : gm_cls 43 = 9) rfl ?_
    refine ge_bipush (v := 9) a_X10_findWeights_50 rfl ?_
    refine ge_iload a_X10_findWeights_52 4 rfl ?_
    refine ge_bipush (v := 11) a_X10_findWeights_54 rfl ?_
    refine ge_irem a_X10_findWeights_56 (by decide) ?_
    refine ge_iast (j := 9) a_X10_findWeights_57 ga_44 li_9_62.1 li_9_62.2 ?_
    refine ge_nm (fun h_8 eh_8 => ?_)
    have hyp := hyp h_8 eh_8
    refine ge_aload_n a_X10_findWeights_58 rfl 0 rfl ?_
    refine ge_cVI [] (rest := []) a_X10_findWeights_59 ok_X10_restTakes lk_X10_152 ⟨Nat.le_of_ble_eq_true rfl, Nat.le_of_ble_eq_true rfl⟩ (rfl : gm_cls 43 = 9) vc_9 (by decide) rfl rfl (Nat.le_of_ble_eq_true rfl) (t_X10_restTakes   h_8 _ hyp) (fun r_10 h_9 hyp => ?_)
    refine ge_aload_n a_X10_findWeights_62 rfl 0 rfl ?_
    refine ge_getR (q := 44) a_X10_findWeights_63 fd_X10_9 (rfl : gm_cls 43 = 9) rfl ?_
    refine ge_bipush (v := 15) a_X10_findWeights_66 rfl ?_
    refine ge_iald (j := 15) a_X10_findWeights_68 ga_44 li_15_62.1 li_15_62.2 ?_
    refine ge_isub a_X10_findWeights_69 ?_
    refine ge_mabs (rest := []) a_X10_findWeights_70 lk_X10_167 (Nat.le_of_ble_eq_true rfl) (Nat.le_of_ble_eq_true rfl) ?_
    refine ge_topi (fun v_11 ev_11 => ?_)
    have hyp := hyp v_11 ev_11
    refine ge_istore (lv' := [(5, .int v_11), (0, .ref 43), (1, .int v_1), (2, .int v_2), (3, .int v3), (4, .int v4)]) a_X10_findWeights_73 (Nat.le_of_ble_eq_true rfl) rfl ?_
    refine ge_iload a_X10_findWeights_75 0 rfl ?_
    refine ge_aload_n a_X10_findWeights_77 rfl 1 rfl ?_
    refine ge_getI a_X10_findWeights_78 fd_X10_171 (rfl : gm_cls 43 = 9) ?_
    refine ge_icmp_ge a_X10_findWeights_81 (fun c_12 => ?_) (fun c_12 => ?_)
    · have hyp := gm_ip hyp c_12
      refine ge_iload_n a_X10_findWeights_89 rfl 4 rfl ?_
      refine ge_istore_n (lv' := [(3, .int v3), (5, .int v_11), (0, .ref 43), (1, .int v_1), (2, .int v_2), (4, .int v4)]) a_X10_findWeights_90 rfl (Nat.le_of_ble_eq_true rfl) rfl ?_
      refine ge_aload_n a_X10_findWeights_91 rfl 2 rfl ?_
      refine ge_aload_n a_X10_findWeights_92 rfl 2 rfl ?_
      refine ge_getI a_X10_findWeights_93 fd_X10_171 (rfl : gm_cls 43 = 9) ?_
      refine ge_iload a_X10_findWeights_96 1 rfl ?_
      refine ge_mmin (rest := [.ref 43]) a_X10_findWeights_98 lk_X10_128 (Nat.le_of_ble_eq_true rfl) (Nat.le_of_ble_eq_true rfl) ?_
      refine ge_topi (fun v_13 ev_13 => ?_)
      have hyp := hyp v_13 ev_13
      refine ge_putI a_X10_findWeights_101 pd_X10_171 (rfl : gm_cls 43 = 9) ?_
      refine ge_nm (fun h_14 eh_14 => ?_)
      have hyp := hyp h_14 eh_14
      obtain ⟨v_15, ev_15⟩ : ∃ y : Int32, y = v4 + (1 : Int32) := ⟨_, rfl⟩
      have hyp := hyp v_15 ev_15
      refine ge_iinc (v := v_15) (lv' := [(4, .int v_15), (3, .int v3), (5, .int v_11), (0, .ref 43), (1, .int v_1), (2, .int v_2)]) a_X10_findWeights_104 5 rfl ev_15.symm (Nat.le_of_ble_eq_true rfl) rfl ?_
      refine ge_goto a_X10_findWeights_107 ?_
      exact ge_sub [3, 4, 5, 1, 0] rfl (hK27 v3 v_15 h_14 hyp)
    · have hyp := gm_in hyp c_12
      refine ge_iload a_X10_findWeights_84 5 rfl ?_
      refine ge_goto a_X10_findWeights_86 ?_
      refine ge_istore_n (lv' := [(3, .int v4), (5, .int v_11), (0, .ref 43), (1, .int v_1), (2, .int v_2), (4, .int v4)]) a_X10_findWeights_90 rfl (Nat.le_of_ble_eq_true rfl) rfl ?_
      refine ge_aload_n a_X10_findWeights_91 rfl 2 rfl ?_
      refine ge_aload_n a_X10_findWeights_92 rfl 2 rfl ?_
      refine ge_getI a_X10_findWeights_93 fd_X10_171 (rfl : gm_cls 43 = 9) ?_
      refine ge_iload a_X10_findWeights_96 1 rfl ?_
      refine ge_mmin (rest := [.ref 43]) a_X10_findWeights_98 lk_X10_128 (Nat.le_of_ble_eq_true rfl) (Nat.le_of_ble_eq_true rfl) ?_
      refine ge_topi (fun v_16 ev_16 => ?_)
      have hyp := hyp v_16 ev_16
      refine ge_putI a_X10_findWeights_101 pd_X10_171 (rfl : gm_cls 43 = 9) ?_
      refine ge_nm (fun h_17 eh_17 => ?_)
      have hyp := hyp h_17 eh_17
      obtain ⟨v_18, ev_18⟩ : ∃ y : Int32, y = v4 + (1 : Int32) := ⟨_, rfl⟩
      have hyp := hyp v_18 ev_18
      refine ge_iinc (v := v_18) (lv' := [(4, .int v_18), (3, .int v4), (5, .int v_11), (0, .ref 43), (1, .int v_1), (2, .int v_2)]) a_X10_findWeights_104 5 rfl ev_18.symm (Nat.le_of_ble_eq_true rfl) rfl ?_
      refine ge_goto a_X10_findWeights_107 ?_
      exact ge_sub [3, 4, 5, 1, 0] rfl (hK27 v4 v_18 h_17 hyp)
def f_X10_findWeights  (h : Mem) (Q : Int32 → Mem → Prop) : Prop :=
  ∀ v_1 : Int32, v_1 = h 44 8 →
  ∀ v_2 : Int32, v_2 = h 44 9 →
  ∀ h_3 : Mem, h_3 = gm_st h 43 6 (100000000 : Int32) →
  gm_it2 (f_X10_findWeights_b27  v_1 v_2 Q ) gm_F (-1 : Int32) (0 : Int32) h_3
set_option maxRecDepth 20000 in
theorem t_X10_findWeights   (h : Mem) (Q : Int32 → Mem → Prop) (hyp : f_X10_findWeights  h Q) : Cn m_X10_findWeights [.ref 43] h (GI Q) := by
  refine ge_entry (lv := [(0, .ref 43)]) pn_X10 (Nat.le_of_ble_eq_true rfl) rfl ?_
  unfold f_X10_findWeights at hyp
  refine ge_aload_n a_X10_findWeights_0 rfl 0 rfl ?_
  refine ge_getR (q := 44) a_X10_findWeights_1 fd_X10_9 (rfl : gm_cls 43 = 9) rfl ?_
  refine ge_bipush (v := 8) a_X10_findWeights_4 rfl ?_
  refine ge_iald (j := 8) a_X10_findWeights_6 ga_44 li_8_62.1 li_8_62.2 ?_
  refine ge_topi (fun v_1 ev_1 => ?_)
  have hyp := hyp v_1 ev_1
  refine ge_istore_n (lv' := [(1, .int v_1), (0, .ref 43)]) a_X10_findWeights_7 rfl (Nat.le_of_ble_eq_true rfl) rfl ?_
  refine ge_aload_n a_X10_findWeights_8 rfl 1 rfl ?_
  refine ge_getR (q := 44) a_X10_findWeights_9 fd_X10_9 (rfl : gm_cls 43 = 9) rfl ?_
  refine ge_bipush (v := 9) a_X10_findWeights_12 rfl ?_
  refine ge_iald (j := 9) a_X10_findWeights_14 ga_44 li_9_62.1 li_9_62.2 ?_
  refine ge_topi (fun v_2 ev_2 => ?_)
  have hyp := hyp v_2 ev_2
  refine ge_istore_n (lv' := [(2, .int v_2), (1, .int v_1), (0, .ref 43)]) a_X10_findWeights_15 rfl (Nat.le_of_ble_eq_true rfl) rfl ?_
  refine ge_iconst (v := -1) a_X10_findWeights_16 rfl ?_
  refine ge_istore_n (lv' := [(3, .int (-1 : Int32)), (2, .int v_2), (1, .int v_1), (0, .ref 43)]) a_X10_findWeights_17 rfl (Nat.le_of_ble_eq_true rfl) rfl ?_
  refine ge_aload_n a_X10_findWeights_18 rfl 3 rfl ?_
  refine ge_ldc (v := 100000000) a_X10_findWeights_19 ct_X10_170 ?_
  refine ge_putI a_X10_findWeights_21 pd_X10_171 (rfl : gm_cls 43 = 9) ?_
  refine ge_nm (fun h_3 eh_3 => ?_)
  have hyp := hyp h_3 eh_3
  refine ge_iconst (v := 0) a_X10_findWeights_24 rfl ?_
  refine ge_istore (lv' := [(4, .int (0 : Int32)), (3, .int (-1 : Int32)), (2, .int v_2), (1, .int v_1), (0, .ref 43)]) a_X10_findWeights_25 (Nat.le_of_ble_eq_true rfl) rfl ?_
  exact ge_sub [4, 3, 2, 1, 0] rfl (t_X10_findWeights_b27  v_1 v_2   Q   gm_F (-1 : Int32) (0 : Int32) h_3 hyp)

theorem a_X10_found_0 : At m_X10_found 0 (.aload_n 0) 1 1 := at_i (by decide +kernel) rfl
theorem a_X10_found_1 : At m_X10_found 1 (.invokevirtual 175) 3 4 := at_i (by decide +kernel) rfl
theorem a_X10_found_4 : At m_X10_found 4 (.ireturn) 1 5 := at_i (by decide +kernel) rfl
def f_X10_found  (h : Mem) (Q : Int32 → Mem → Prop) : Prop :=
  f_X10_findWeights  h fun r_2 h_1 =>
  Q r_2 h_1
set_option maxRecDepth 20000 in
theorem t_X10_found   (h : Mem) (Q : Int32 → Mem → Prop) (hyp : f_X10_found  h Q) : Cn m_X10_found [.ref 43] h (GI Q) := by
  refine ge_entry (lv := [(0, .ref 43)]) pn_X10 (Nat.le_of_ble_eq_true rfl) rfl ?_
  unfold f_X10_found at hyp
  refine ge_aload_n a_X10_found_0 rfl 0 rfl ?_
  refine ge_cVI [] (rest := []) a_X10_found_1 ok_X10_findWeights lk_X10_175 ⟨Nat.le_of_ble_eq_true rfl, Nat.le_of_ble_eq_true rfl⟩ (rfl : gm_cls 43 = 9) vc_9 (by decide) rfl rfl (Nat.le_of_ble_eq_true rfl) (t_X10_findWeights   h _ hyp) (fun r_2 h_1 hyp => ?_)
  exact ge_iret rfl a_X10_found_4 hyp

theorem a_X10_off_0 : At m_X10_off 0 (.aload_n 0) 1 1 := at_i (by decide +kernel) rfl
theorem a_X10_off_1 : At m_X10_off 1 (.invokevirtual 175) 3 4 := at_i (by decide +kernel) rfl
theorem a_X10_off_4 : At m_X10_off 4 (.istore_n 1) 1 5 := at_i (by decide +kernel) rfl
theorem a_X10_off_5 : At m_X10_off 5 (.iload_n 1) 1 6 := at_i (by decide +kernel) rfl
theorem a_X10_off_6 : AtJ m_X10_off 6 (.ifCond .ge 8) (8) 14 9 := at_j (by decide +kernel) (by decide) rfl
theorem a_X10_off_9 : At m_X10_off 9 (.ldc 170) 2 11 := at_i (by decide +kernel) rfl
theorem a_X10_off_11 : AtJ m_X10_off 11 (.goto 7) (7) 18 14 := at_j (by decide +kernel) (by decide) rfl
theorem a_X10_off_14 : At m_X10_off 14 (.aload_n 0) 1 15 := at_i (by decide +kernel) rfl
theorem a_X10_off_15 : At m_X10_off 15 (.getfield 171) 3 18 := at_i (by decide +kernel) rfl
theorem a_X10_off_18 : At m_X10_off 18 (.ireturn) 1 19 := at_i (by decide +kernel) rfl
def f_X10_off  (h : Mem) (Q : Int32 → Mem → Prop) : Prop :=
  f_X10_findWeights  h fun r_2 h_1 =>
  if 0 ≤ r_2 then (
    Q (h_1 43 6) h_1)
  else (
    Q (100000000 : Int32) h_1)
set_option maxRecDepth 20000 in
theorem t_X10_off   (h : Mem) (Q : Int32 → Mem → Prop) (hyp : f_X10_off  h Q) : Cn m_X10_off [.ref 43] h (GI Q) := by
  refine ge_entry (lv := [(0, .ref 43)]) pn_X10 (Nat.le_of_ble_eq_true rfl) rfl ?_
  unfold f_X10_off at hyp
  refine ge_aload_n a_X10_off_0 rfl 0 rfl ?_
  refine ge_cVI [] (rest := []) a_X10_off_1 ok_X10_findWeights lk_X10_175 ⟨Nat.le_of_ble_eq_true rfl, Nat.le_of_ble_eq_true rfl⟩ (rfl : gm_cls 43 = 9) vc_9 (by decide) rfl rfl (Nat.le_of_ble_eq_true rfl) (t_X10_findWeights   h _ hyp) (fun r_2 h_1 hyp => ?_)
  refine ge_istore_n (lv' := [(1, .int r_2), (0, .ref 43)]) a_X10_off_4 rfl (Nat.le_of_ble_eq_true rfl) rfl ?_
  refine ge_iload_n a_X10_off_5 rfl 0 rfl ?_
  refine ge_if_ge a_X10_off_6 (fun c_3 => ?_) (fun c_3 => ?_)
  · have hyp := gm_ip hyp c_3
    refine ge_aload_n a_X10_off_14 rfl 1 rfl ?_
    refine ge_getI a_X10_off_15 fd_X10_171 (rfl : gm_cls 43 = 9) ?_
    exact ge_iret rfl a_X10_off_18 hyp
  · have hyp := gm_in hyp c_3
    refine ge_ldc (v := 100000000) a_X10_off_9 ct_X10_170 ?_
    refine ge_goto a_X10_off_11 ?_
    exact ge_iret rfl a_X10_off_18 hyp

theorem a_X10_findGrid_0 : At m_X10_findGrid 0 (.aload_n 0) 1 1 := at_i (by decide +kernel) rfl
theorem a_X10_findGrid_1 : At m_X10_findGrid 1 (.getfield 9) 3 4 := at_i (by decide +kernel) rfl
theorem a_X10_findGrid_4 : At m_X10_findGrid 4 (.bipush 13) 2 6 := at_i (by decide +kernel) rfl
theorem a_X10_findGrid_6 : At m_X10_findGrid 6 (.iaload) 1 7 := at_i (by decide +kernel) rfl
theorem a_X10_findGrid_7 : At m_X10_findGrid 7 (.istore_n 1) 1 8 := at_i (by decide +kernel) rfl
theorem a_X10_findGrid_8 : At m_X10_findGrid 8 (.aload_n 0) 1 9 := at_i (by decide +kernel) rfl
theorem a_X10_findGrid_9 : At m_X10_findGrid 9 (.getfield 9) 3 12 := at_i (by decide +kernel) rfl
theorem a_X10_findGrid_12 : At m_X10_findGrid 12 (.bipush 12) 2 14 := at_i (by decide +kernel) rfl
theorem a_X10_findGrid_14 : At m_X10_findGrid 14 (.iaload) 1 15 := at_i (by decide +kernel) rfl
theorem a_X10_findGrid_15 : At m_X10_findGrid 15 (.istore_n 2) 1 16 := at_i (by decide +kernel) rfl
theorem a_X10_findGrid_16 : At m_X10_findGrid 16 (.iconst (-1)) 1 17 := at_i (by decide +kernel) rfl
theorem a_X10_findGrid_17 : At m_X10_findGrid 17 (.istore_n 3) 1 18 := at_i (by decide +kernel) rfl
theorem a_X10_findGrid_18 : At m_X10_findGrid 18 (.aload_n 0) 1 19 := at_i (by decide +kernel) rfl
theorem a_X10_findGrid_19 : At m_X10_findGrid 19 (.ldc 170) 2 21 := at_i (by decide +kernel) rfl
theorem a_X10_findGrid_21 : At m_X10_findGrid 21 (.putfield 178) 3 24 := at_i (by decide +kernel) rfl
theorem a_X10_findGrid_24 : At m_X10_findGrid 24 (.bipush 10) 2 26 := at_i (by decide +kernel) rfl
theorem a_X10_findGrid_26 : At m_X10_findGrid 26 (.istore 4) 2 28 := at_i (by decide +kernel) rfl
theorem a_X10_findGrid_28 : At m_X10_findGrid 28 (.iload 4) 2 30 := at_i (by decide +kernel) rfl
theorem a_X10_findGrid_30 : At m_X10_findGrid 30 (.bipush 70) 2 32 := at_i (by decide +kernel) rfl
theorem a_X10_findGrid_32 : AtJ m_X10_findGrid 32 (.if_icmp .ge 73) (73) 105 35 := at_j (by decide +kernel) (by decide) rfl
theorem a_X10_findGrid_35 : At m_X10_findGrid 35 (.aload_n 0) 1 36 := at_i (by decide +kernel) rfl
theorem a_X10_findGrid_36 : At m_X10_findGrid 36 (.getfield 9) 3 39 := at_i (by decide +kernel) rfl
theorem a_X10_findGrid_39 : At m_X10_findGrid 39 (.bipush 13) 2 41 := at_i (by decide +kernel) rfl
theorem a_X10_findGrid_41 : At m_X10_findGrid 41 (.iload 4) 2 43 := at_i (by decide +kernel) rfl
theorem a_X10_findGrid_43 : At m_X10_findGrid 43 (.bipush 10) 2 45 := at_i (by decide +kernel) rfl
theorem a_X10_findGrid_45 : At m_X10_findGrid 45 (.idiv) 1 46 := at_i (by decide +kernel) rfl
theorem a_X10_findGrid_46 : At m_X10_findGrid 46 (.iastore) 1 47 := at_i (by decide +kernel) rfl
theorem a_X10_findGrid_47 : At m_X10_findGrid 47 (.aload_n 0) 1 48 := at_i (by decide +kernel) rfl
theorem a_X10_findGrid_48 : At m_X10_findGrid 48 (.getfield 9) 3 51 := at_i (by decide +kernel) rfl
theorem a_X10_findGrid_51 : At m_X10_findGrid 51 (.bipush 12) 2 53 := at_i (by decide +kernel) rfl
theorem a_X10_findGrid_53 : At m_X10_findGrid 53 (.iload 4) 2 55 := at_i (by decide +kernel) rfl
theorem a_X10_findGrid_55 : At m_X10_findGrid 55 (.bipush 10) 2 57 := at_i (by decide +kernel) rfl
theorem a_X10_findGrid_57 : At m_X10_findGrid 57 (.irem) 1 58 := at_i (by decide +kernel) rfl
theorem a_X10_findGrid_58 : At m_X10_findGrid 58 (.iastore) 1 59 := at_i (by decide +kernel) rfl
theorem a_X10_findGrid_59 : At m_X10_findGrid 59 (.aload_n 0) 1 60 := at_i (by decide +kernel) rfl
theorem a_X10_findGrid_60 : At m_X10_findGrid 60 (.invokevirtual 155) 3 63 := at_i (by decide +kernel) rfl
theorem a_X10_findGrid_63 : At m_X10_findGrid 63 (.aload_n 0) 1 64 := at_i (by decide +kernel) rfl
theorem a_X10_findGrid_64 : At m_X10_findGrid 64 (.invokevirtual 158) 3 67 := at_i (by decide +kernel) rfl
theorem a_X10_findGrid_67 : At m_X10_findGrid 67 (.iadd) 1 68 := at_i (by decide +kernel) rfl
theorem a_X10_findGrid_68 : At m_X10_findGrid 68 (.istore 5) 2 70 := at_i (by decide +kernel) rfl
theorem a_X10_findGrid_70 : At m_X10_findGrid 70 (.iload 5) 2 72 := at_i (by decide +kernel) rfl
theorem a_X10_findGrid_72 : At m_X10_findGrid 72 (.aload_n 0) 1 73 := at_i (by decide +kernel) rfl
theorem a_X10_findGrid_73 : At m_X10_findGrid 73 (.getfield 178) 3 76 := at_i (by decide +kernel) rfl
theorem a_X10_findGrid_76 : AtJ m_X10_findGrid 76 (.if_icmp .ge 8) (8) 84 79 := at_j (by decide +kernel) (by decide) rfl
theorem a_X10_findGrid_79 : At m_X10_findGrid 79 (.iload 4) 2 81 := at_i (by decide +kernel) rfl
theorem a_X10_findGrid_81 : AtJ m_X10_findGrid 81 (.goto 4) (4) 85 84 := at_j (by decide +kernel) (by decide) rfl
theorem a_X10_findGrid_84 : At m_X10_findGrid 84 (.iload_n 3) 1 85 := at_i (by decide +kernel) rfl
theorem a_X10_findGrid_85 : At m_X10_findGrid 85 (.istore_n 3) 1 86 := at_i (by decide +kernel) rfl
theorem a_X10_findGrid_86 : At m_X10_findGrid 86 (.aload_n 0) 1 87 := at_i (by decide +kernel) rfl
theorem a_X10_findGrid_87 : At m_X10_findGrid 87 (.aload_n 0) 1 88 := at_i (by decide +kernel) rfl
theorem a_X10_findGrid_88 : At m_X10_findGrid 88 (.getfield 178) 3 91 := at_i (by decide +kernel) rfl
theorem a_X10_findGrid_91 : At m_X10_findGrid 91 (.iload 5) 2 93 := at_i (by decide +kernel) rfl
theorem a_X10_findGrid_93 : At m_X10_findGrid 93 (.invokestatic 128) 3 96 := at_i (by decide +kernel) rfl
theorem a_X10_findGrid_96 : At m_X10_findGrid 96 (.putfield 178) 3 99 := at_i (by decide +kernel) rfl
theorem a_X10_findGrid_99 : At m_X10_findGrid 99 (.iinc 4 1) 3 102 := at_i (by decide +kernel) rfl
theorem a_X10_findGrid_102 : AtJ m_X10_findGrid 102 (.goto (-74)) (-74) 28 105 := at_j (by decide +kernel) (by decide) rfl
theorem a_X10_findGrid_105 : At m_X10_findGrid 105 (.aload_n 0) 1 106 := at_i (by decide +kernel) rfl
theorem a_X10_findGrid_106 : At m_X10_findGrid 106 (.getfield 9) 3 109 := at_i (by decide +kernel) rfl
theorem a_X10_findGrid_109 : At m_X10_findGrid 109 (.bipush 13) 2 111 := at_i (by decide +kernel) rfl
theorem a_X10_findGrid_111 : At m_X10_findGrid 111 (.iload_n 1) 1 112 := at_i (by decide +kernel) rfl
theorem a_X10_findGrid_112 : At m_X10_findGrid 112 (.iastore) 1 113 := at_i (by decide +kernel) rfl
theorem a_X10_findGrid_113 : At m_X10_findGrid 113 (.aload_n 0) 1 114 := at_i (by decide +kernel) rfl
theorem a_X10_findGrid_114 : At m_X10_findGrid 114 (.getfield 9) 3 117 := at_i (by decide +kernel) rfl
theorem a_X10_findGrid_117 : At m_X10_findGrid 117 (.bipush 12) 2 119 := at_i (by decide +kernel) rfl
theorem a_X10_findGrid_119 : At m_X10_findGrid 119 (.iload_n 2) 1 120 := at_i (by decide +kernel) rfl
theorem a_X10_findGrid_120 : At m_X10_findGrid 120 (.iastore) 1 121 := at_i (by decide +kernel) rfl
theorem a_X10_findGrid_121 : At m_X10_findGrid 121 (.iload_n 3) 1 122 := at_i (by decide +kernel) rfl
theorem a_X10_findGrid_122 : At m_X10_findGrid 122 (.ireturn) 1 123 := at_i (by decide +kernel) rfl
def f_X10_findGrid_b28  (v_1 : Int32) (v_2 : Int32) (Q : Int32 → Mem → Prop)  (K28 : Int32 → Int32 → Mem → Prop) (v3 : Int32) (v4 : Int32) (h : Mem) : Prop :=
  if (70 : Int32) ≤ v4 then (
    ∀ h_5 : Mem, h_5 = gm_st h 44 13 v_1 →
    ∀ h_6 : Mem, h_6 = gm_st h_5 44 12 v_2 →
    Q v3 h_6)
  else (
    ∀ h_7 : Mem, h_7 = gm_st h 44 13 (v4 / (10 : Int32)) →
    ∀ h_8 : Mem, h_8 = gm_st h_7 44 12 (v4 - v4 / (10 : Int32) * (10 : Int32)) →
    f_X10_restTrips  h_8 fun r_10 h_9 =>
    f_X10_restSeen  h_9 fun r_12 h_11 =>
    ∀ v_13 : Int32, v_13 = r_10 + r_12 →
    if h_11 43 7 ≤ v_13 then (
      ∀ v_15 : Int32, v_15 = (if v_13 < h_11 43 7 then v_13 else h_11 43 7) →
      ∀ h_16 : Mem, h_16 = gm_st h_11 43 7 v_15 →
      ∀ v_17 : Int32, v_17 = v4 + (1 : Int32) →
      K28 v3 v_17 h_16)
    else (
      ∀ v_18 : Int32, v_18 = (if v_13 < h_11 43 7 then v_13 else h_11 43 7) →
      ∀ h_19 : Mem, h_19 = gm_st h_11 43 7 v_18 →
      ∀ v_20 : Int32, v_20 = v4 + (1 : Int32) →
      K28 v4 v_20 h_19))
set_option maxRecDepth 20000 in
theorem t_X10_findGrid_b28  (v_1 : Int32) (v_2 : Int32)   (Q : Int32 → Mem → Prop)   : ∀ (n : Nat) (v3 : Int32) (v4 : Int32) (h : Mem), gm_it2 (f_X10_findGrid_b28  v_1 v_2 Q ) n v3 v4 h → EV m_X10_findGrid (GI Q) 28 [(0, .ref 43), (1, .int v_1), (2, .int v_2), (3, .int v3), (4, .int v4)] [] h := by
  refine ge_loop2 (P := fun v3 v4 h => EV m_X10_findGrid (GI Q) 28 [(0, .ref 43), (1, .int v_1), (2, .int v_2), (3, .int v3), (4, .int v4)] [] h) (fun K28 hK28 v3 v4 h hyp => ?_)
  unfold f_X10_findGrid_b28 at hyp
  refine ge_iload a_X10_findGrid_28 4 rfl ?_
  refine ge_bipush (v := 70) a_X10_findGrid_30 rfl ?_
  refine ge_icmp_ge a_X10_findGrid_32 (fun c_4 => ?_) (fun c_4 => ?_)
  · have hyp := gm_ip hyp c_4
    refine ge_aload_n a_X10_findGrid_105 rfl 0 rfl ?_
    refine ge_getR (q := 44) a_X10_findGrid_106 fd_X10_9 (rfl : gm_cls 43 = 9) rfl ?_
    refine ge_bipush (v := 13) a_X10_findGrid_109 rfl ?_
    refine ge_iload_n a_X10_findGrid_111 rfl 1 rfl ?_
    refine ge_iast (j := 13) a_X10_findGrid_112 ga_44 li_13_62.1 li_13_62.2 ?_
    refine ge_nm (fun h_5 eh_5 => ?_)
    have hyp := hyp h_5 eh_5
    refine ge_aload_n a_X10_findGrid_113 rfl 0 rfl ?_
    refine ge_getR (q := 44) a_X10_findGrid_114 fd_X10_9 (rfl : gm_cls 43 = 9) rfl ?_
    refine ge_bipush (v := 12) a_X10_findGrid_117 rfl ?_
    refine ge_iload_n a_X10_findGrid_119 rfl 2 rfl ?_
    refine ge_iast (j := 12) a_X10_findGrid_120 ga_44 li_12_62.1 li_12_62.2 ?_
    refine ge_nm (fun h_6 eh_6 => ?_)
    have hyp := hyp h_6 eh_6
    refine ge_iload_n a_X10_findGrid_121 rfl 3 rfl ?_
    exact ge_iret rfl a_X10_findGrid_122 hyp
  · have hyp := gm_in hyp c_4
    refine ge_aload_n a_X10_findGrid_35 rfl 0 rfl ?_
    refine ge_getR (q := 44) a_X10_findGrid_36 fd_X10_9 (rfl : gm_cls 43 = 9) rfl ?_
    refine ge_bipush (v := 13) a_X10_findGrid_39 rfl ?_
    refine ge_iload a_X10_findGrid_41 4 rfl ?_
    refine ge_bipush (v := 10) a_X10_findGrid_43 rfl ?_
    refine ge_idiv a_X10_findGrid_45 (by decide) ?_
    refine ge_iast (j := 13) a_X10_findGrid_46 ga_44 li_13_62.1 li_13_62.2 ?_
    refine ge_nm (fun h_7 eh_7 => ?_)
    have hyp := hyp h_7 eh_7
    refine ge_aload_n a_X10_findGrid_47 rfl 0 rfl ?_
    refine ge_getR (q := 44) a_X10_findGrid_48 fd_X10_9 (rfl : gm_cls 43 = 9) rfl ?_
    refine ge_bipush (v := 12) a_X10_findGrid_51 rfl ?_
    refine ge_iload a_X10_findGrid_53 4 rfl ?_
    refine ge_bipush (v := 10) a_X10_findGrid_55 rfl ?_
    refine ge_irem a_X10_findGrid_57 (by decide) ?_
    refine ge_iast (j := 12) a_X10_findGrid_58 ga_44 li_12_62.1 li_12_62.2 ?_
    refine ge_nm (fun h_8 eh_8 => ?_)
    have hyp := hyp h_8 eh_8
    refine ge_aload_n a_X10_findGrid_59 rfl 0 rfl ?_
    refine ge_cVI [] (rest := []) a_X10_findGrid_60 ok_X10_restTrips lk_X10_155 ⟨Nat.le_of_ble_eq_true rfl, Nat.le_of_ble_eq_true rfl⟩ (rfl : gm_cls 43 = 9) vc_9 (by decide) rfl rfl (Nat.le_of_ble_eq_true rfl) (t_X10_restTrips   h_8 _ hyp) (fun r_10 h_9 hyp => ?_)
    refine ge_aload_n a_X10_findGrid_63 rfl 0 rfl ?_
    refine ge_cVI [] (rest := [.int r_10]) a_X10_findGrid_64 ok_X10_restSeen lk_X10_158 ⟨Nat.le_of_ble_eq_true rfl, Nat.le_of_ble_eq_true rfl⟩ (rfl : gm_cls 43 = 9) vc_9 (by decide) rfl rfl (Nat.le_of_ble_eq_true rfl) (t_X10_restSeen   h_9 _ hyp) (fun r_12 h_11 hyp => ?_)
    refine ge_iadd a_X10_findGrid_67 ?_
    refine ge_topi (fun v_13 ev_13 => ?_)
    have hyp := hyp v_13 ev_13
    refine ge_istore (lv' := [(5, .int v_13), (0, .ref 43), (1, .int v_1), (2, .int v_2), (3, .int v3), (4, .int v4)]) a_X10_findGrid_68 (Nat.le_of_ble_eq_true rfl) rfl ?_
    refine ge_iload a_X10_findGrid_70 0 rfl ?_
    refine ge_aload_n a_X10_findGrid_72 rfl 1 rfl ?_
    refine ge_getI a_X10_findGrid_73 fd_X10_178 (rfl : gm_cls 43 = 9) ?_
    refine ge_icmp_ge a_X10_findGrid_76 (fun c_14 => ?_) (fun c_14 => ?_)
    · have hyp := gm_ip hyp c_14
      refine ge_iload_n a_X10_findGrid_84 rfl 4 rfl ?_
      refine ge_istore_n (lv' := [(3, .int v3), (5, .int v_13), (0, .ref 43), (1, .int v_1), (2, .int v_2), (4, .int v4)]) a_X10_findGrid_85 rfl (Nat.le_of_ble_eq_true rfl) rfl ?_
      refine ge_aload_n a_X10_findGrid_86 rfl 2 rfl ?_
      refine ge_aload_n a_X10_findGrid_87 rfl 2 rfl ?_
      refine ge_getI a_X10_findGrid_88 fd_X10_178 (rfl : gm_cls 43 = 9) ?_
      refine ge_iload a_X10_findGrid_91 1 rfl ?_
      refine ge_mmin (rest := [.ref 43]) a_X10_findGrid_93 lk_X10_128 (Nat.le_of_ble_eq_true rfl) (Nat.le_of_ble_eq_true rfl) ?_
      refine ge_topi (fun v_15 ev_15 => ?_)
      have hyp := hyp v_15 ev_15
      refine ge_putI a_X10_findGrid_96 pd_X10_178 (rfl : gm_cls 43 = 9) ?_
      refine ge_nm (fun h_16 eh_16 => ?_)
      have hyp := hyp h_16 eh_16
      obtain ⟨v_17, ev_17⟩ : ∃ y : Int32, y = v4 + (1 : Int32) := ⟨_, rfl⟩
      have hyp := hyp v_17 ev_17
      refine ge_iinc (v := v_17) (lv' := [(4, .int v_17), (3, .int v3), (5, .int v_13), (0, .ref 43), (1, .int v_1), (2, .int v_2)]) a_X10_findGrid_99 5 rfl ev_17.symm (Nat.le_of_ble_eq_true rfl) rfl ?_
      refine ge_goto a_X10_findGrid_102 ?_
      exact ge_sub [3, 4, 5, 1, 0] rfl (hK28 v3 v_17 h_16 hyp)
    · have hyp := gm_in hyp c_14
      refine ge_iload a_X10_findGrid_79 5 rfl ?_
      refine ge_goto a_X10_findGrid_81 ?_
      refine ge_istore_n (lv' := [(3, .int v4), (5, .int v_13), (0, .ref 43), (1, .int v_1), (2, .int v_2), (4, .int v4)]) a_X10_findGrid_85 rfl (Nat.le_of_ble_eq_true rfl) rfl ?_
      refine ge_aload_n a_X10_findGrid_86 rfl 2 rfl ?_
      refine ge_aload_n a_X10_findGrid_87 rfl 2 rfl ?_
      refine ge_getI a_X10_findGrid_88 fd_X10_178 (rfl : gm_cls 43 = 9) ?_
      refine ge_iload a_X10_findGrid_91 1 rfl ?_
      refine ge_mmin (rest := [.ref 43]) a_X10_findGrid_93 lk_X10_128 (Nat.le_of_ble_eq_true rfl) (Nat.le_of_ble_eq_true rfl) ?_
      refine ge_topi (fun v_18 ev_18 => ?_)
      have hyp := hyp v_18 ev_18
      refine ge_putI a_X10_findGrid_96 pd_X10_178 (rfl : gm_cls 43 = 9) ?_
      refine ge_nm (fun h_19 eh_19 => ?_)
      have hyp := hyp h_19 eh_19
      obtain ⟨v_20, ev_20⟩ : ∃ y : Int32, y = v4 + (1 : Int32) := ⟨_, rfl⟩
      have hyp := hyp v_20 ev_20
      refine ge_iinc (v := v_20) (lv' := [(4, .int v_20), (3, .int v4), (5, .int v_13), (0, .ref 43), (1, .int v_1), (2, .int v_2)]) a_X10_findGrid_99 5 rfl ev_20.symm (Nat.le_of_ble_eq_true rfl) rfl ?_
      refine ge_goto a_X10_findGrid_102 ?_
      exact ge_sub [3, 4, 5, 1, 0] rfl (hK28 v4 v_20 h_19 hyp)
def f_X10_findGrid  (h : Mem) (Q : Int32 → Mem → Prop) : Prop :=
  ∀ v_1 : Int32, v_1 = h 44 13 →
  ∀ v_2 : Int32, v_2 = h 44 12 →
  ∀ h_3 : Mem, h_3 = gm_st h 43 7 (100000000 : Int32) →
  gm_it2 (f_X10_findGrid_b28  v_1 v_2 Q ) gm_F (-1 : Int32) (10 : Int32) h_3
set_option maxRecDepth 20000 in
theorem t_X10_findGrid   (h : Mem) (Q : Int32 → Mem → Prop) (hyp : f_X10_findGrid  h Q) : Cn m_X10_findGrid [.ref 43] h (GI Q) := by
  refine ge_entry (lv := [(0, .ref 43)]) pn_X10 (Nat.le_of_ble_eq_true rfl) rfl ?_
  unfold f_X10_findGrid at hyp
  refine ge_aload_n a_X10_findGrid_0 rfl 0 rfl ?_
  refine ge_getR (q := 44) a_X10_findGrid_1 fd_X10_9 (rfl : gm_cls 43 = 9) rfl ?_
  refine ge_bipush (v := 13) a_X10_findGrid_4 rfl ?_
  refine ge_iald (j := 13) a_X10_findGrid_6 ga_44 li_13_62.1 li_13_62.2 ?_
  refine ge_topi (fun v_1 ev_1 => ?_)
  have hyp := hyp v_1 ev_1
  refine ge_istore_n (lv' := [(1, .int v_1), (0, .ref 43)]) a_X10_findGrid_7 rfl (Nat.le_of_ble_eq_true rfl) rfl ?_
  refine ge_aload_n a_X10_findGrid_8 rfl 1 rfl ?_
  refine ge_getR (q := 44) a_X10_findGrid_9 fd_X10_9 (rfl : gm_cls 43 = 9) rfl ?_
  refine ge_bipush (v := 12) a_X10_findGrid_12 rfl ?_
  refine ge_iald (j := 12) a_X10_findGrid_14 ga_44 li_12_62.1 li_12_62.2 ?_
  refine ge_topi (fun v_2 ev_2 => ?_)
  have hyp := hyp v_2 ev_2
  refine ge_istore_n (lv' := [(2, .int v_2), (1, .int v_1), (0, .ref 43)]) a_X10_findGrid_15 rfl (Nat.le_of_ble_eq_true rfl) rfl ?_
  refine ge_iconst (v := -1) a_X10_findGrid_16 rfl ?_
  refine ge_istore_n (lv' := [(3, .int (-1 : Int32)), (2, .int v_2), (1, .int v_1), (0, .ref 43)]) a_X10_findGrid_17 rfl (Nat.le_of_ble_eq_true rfl) rfl ?_
  refine ge_aload_n a_X10_findGrid_18 rfl 3 rfl ?_
  refine ge_ldc (v := 100000000) a_X10_findGrid_19 ct_X10_170 ?_
  refine ge_putI a_X10_findGrid_21 pd_X10_178 (rfl : gm_cls 43 = 9) ?_
  refine ge_nm (fun h_3 eh_3 => ?_)
  have hyp := hyp h_3 eh_3
  refine ge_bipush (v := 10) a_X10_findGrid_24 rfl ?_
  refine ge_istore (lv' := [(4, .int (10 : Int32)), (3, .int (-1 : Int32)), (2, .int v_2), (1, .int v_1), (0, .ref 43)]) a_X10_findGrid_26 (Nat.le_of_ble_eq_true rfl) rfl ?_
  exact ge_sub [4, 3, 2, 1, 0] rfl (t_X10_findGrid_b28  v_1 v_2   Q   gm_F (-1 : Int32) (10 : Int32) h_3 hyp)

theorem a_X10_grid_0 : At m_X10_grid 0 (.aload_n 0) 1 1 := at_i (by decide +kernel) rfl
theorem a_X10_grid_1 : At m_X10_grid 1 (.invokevirtual 181) 3 4 := at_i (by decide +kernel) rfl
theorem a_X10_grid_4 : At m_X10_grid 4 (.ireturn) 1 5 := at_i (by decide +kernel) rfl
def f_X10_grid  (h : Mem) (Q : Int32 → Mem → Prop) : Prop :=
  f_X10_findGrid  h fun r_2 h_1 =>
  Q r_2 h_1
set_option maxRecDepth 20000 in
theorem t_X10_grid   (h : Mem) (Q : Int32 → Mem → Prop) (hyp : f_X10_grid  h Q) : Cn m_X10_grid [.ref 43] h (GI Q) := by
  refine ge_entry (lv := [(0, .ref 43)]) pn_X10 (Nat.le_of_ble_eq_true rfl) rfl ?_
  unfold f_X10_grid at hyp
  refine ge_aload_n a_X10_grid_0 rfl 0 rfl ?_
  refine ge_cVI [] (rest := []) a_X10_grid_1 ok_X10_findGrid lk_X10_181 ⟨Nat.le_of_ble_eq_true rfl, Nat.le_of_ble_eq_true rfl⟩ (rfl : gm_cls 43 = 9) vc_9 (by decide) rfl rfl (Nat.le_of_ble_eq_true rfl) (t_X10_findGrid   h _ hyp) (fun r_2 h_1 hyp => ?_)
  exact ge_iret rfl a_X10_grid_4 hyp

theorem a_X10_worst_0 : At m_X10_worst 0 (.aload_n 0) 1 1 := at_i (by decide +kernel) rfl
theorem a_X10_worst_1 : At m_X10_worst 1 (.invokevirtual 181) 3 4 := at_i (by decide +kernel) rfl
theorem a_X10_worst_4 : At m_X10_worst 4 (.istore_n 1) 1 5 := at_i (by decide +kernel) rfl
theorem a_X10_worst_5 : At m_X10_worst 5 (.iload_n 1) 1 6 := at_i (by decide +kernel) rfl
theorem a_X10_worst_6 : AtJ m_X10_worst 6 (.ifCond .ge 8) (8) 14 9 := at_j (by decide +kernel) (by decide) rfl
theorem a_X10_worst_9 : At m_X10_worst 9 (.ldc 170) 2 11 := at_i (by decide +kernel) rfl
theorem a_X10_worst_11 : AtJ m_X10_worst 11 (.goto 7) (7) 18 14 := at_j (by decide +kernel) (by decide) rfl
theorem a_X10_worst_14 : At m_X10_worst 14 (.aload_n 0) 1 15 := at_i (by decide +kernel) rfl
theorem a_X10_worst_15 : At m_X10_worst 15 (.getfield 178) 3 18 := at_i (by decide +kernel) rfl
theorem a_X10_worst_18 : At m_X10_worst 18 (.ireturn) 1 19 := at_i (by decide +kernel) rfl
def f_X10_worst  (h : Mem) (Q : Int32 → Mem → Prop) : Prop :=
  f_X10_findGrid  h fun r_2 h_1 =>
  if 0 ≤ r_2 then (
    Q (h_1 43 7) h_1)
  else (
    Q (100000000 : Int32) h_1)
set_option maxRecDepth 20000 in
theorem t_X10_worst   (h : Mem) (Q : Int32 → Mem → Prop) (hyp : f_X10_worst  h Q) : Cn m_X10_worst [.ref 43] h (GI Q) := by
  refine ge_entry (lv := [(0, .ref 43)]) pn_X10 (Nat.le_of_ble_eq_true rfl) rfl ?_
  unfold f_X10_worst at hyp
  refine ge_aload_n a_X10_worst_0 rfl 0 rfl ?_
  refine ge_cVI [] (rest := []) a_X10_worst_1 ok_X10_findGrid lk_X10_181 ⟨Nat.le_of_ble_eq_true rfl, Nat.le_of_ble_eq_true rfl⟩ (rfl : gm_cls 43 = 9) vc_9 (by decide) rfl rfl (Nat.le_of_ble_eq_true rfl) (t_X10_findGrid   h _ hyp) (fun r_2 h_1 hyp => ?_)
  refine ge_istore_n (lv' := [(1, .int r_2), (0, .ref 43)]) a_X10_worst_4 rfl (Nat.le_of_ble_eq_true rfl) rfl ?_
  refine ge_iload_n a_X10_worst_5 rfl 0 rfl ?_
  refine ge_if_ge a_X10_worst_6 (fun c_3 => ?_) (fun c_3 => ?_)
  · have hyp := gm_ip hyp c_3
    refine ge_aload_n a_X10_worst_14 rfl 1 rfl ?_
    refine ge_getI a_X10_worst_15 fd_X10_178 (rfl : gm_cls 43 = 9) ?_
    exact ge_iret rfl a_X10_worst_18 hyp
  · have hyp := gm_in hyp c_3
    refine ge_ldc (v := 100000000) a_X10_worst_9 ct_X10_170 ?_
    refine ge_goto a_X10_worst_11 ?_
    exact ge_iret rfl a_X10_worst_18 hyp

theorem a_X10_trips__0 : At m_X10_trips_ 0 (.iconst (-1)) 1 1 := at_i (by decide +kernel) rfl
theorem a_X10_trips__1 : At m_X10_trips_ 1 (.istore_n 1) 1 2 := at_i (by decide +kernel) rfl
theorem a_X10_trips__2 : At m_X10_trips_ 2 (.iconst (-1)) 1 3 := at_i (by decide +kernel) rfl
theorem a_X10_trips__3 : At m_X10_trips_ 3 (.istore_n 2) 1 4 := at_i (by decide +kernel) rfl
theorem a_X10_trips__4 : At m_X10_trips_ 4 (.iconst 0) 1 5 := at_i (by decide +kernel) rfl
theorem a_X10_trips__5 : At m_X10_trips_ 5 (.istore_n 3) 1 6 := at_i (by decide +kernel) rfl
theorem a_X10_trips__6 : At m_X10_trips_ 6 (.iload_n 3) 1 7 := at_i (by decide +kernel) rfl
theorem a_X10_trips__7 : At m_X10_trips_ 7 (.aload_n 0) 1 8 := at_i (by decide +kernel) rfl
theorem a_X10_trips__8 : At m_X10_trips_ 8 (.getfield 9) 3 11 := at_i (by decide +kernel) rfl
theorem a_X10_trips__11 : At m_X10_trips_ 11 (.iconst 4) 1 12 := at_i (by decide +kernel) rfl
theorem a_X10_trips__12 : At m_X10_trips_ 12 (.iaload) 1 13 := at_i (by decide +kernel) rfl
theorem a_X10_trips__13 : AtJ m_X10_trips_ 13 (.if_icmp .ge 34) (34) 47 16 := at_j (by decide +kernel) (by decide) rfl
theorem a_X10_trips__16 : At m_X10_trips_ 16 (.aload_n 0) 1 17 := at_i (by decide +kernel) rfl
theorem a_X10_trips__17 : At m_X10_trips_ 17 (.iload_n 3) 1 18 := at_i (by decide +kernel) rfl
theorem a_X10_trips__18 : At m_X10_trips_ 18 (.invokevirtual 109) 3 21 := at_i (by decide +kernel) rfl
theorem a_X10_trips__21 : At m_X10_trips_ 21 (.iload_n 2) 1 22 := at_i (by decide +kernel) rfl
theorem a_X10_trips__22 : AtJ m_X10_trips_ 22 (.if_icmp .le 7) (7) 29 25 := at_j (by decide +kernel) (by decide) rfl
theorem a_X10_trips__25 : At m_X10_trips_ 25 (.iload_n 3) 1 26 := at_i (by decide +kernel) rfl
theorem a_X10_trips__26 : AtJ m_X10_trips_ 26 (.goto 4) (4) 30 29 := at_j (by decide +kernel) (by decide) rfl
theorem a_X10_trips__29 : At m_X10_trips_ 29 (.iload_n 1) 1 30 := at_i (by decide +kernel) rfl
theorem a_X10_trips__30 : At m_X10_trips_ 30 (.istore_n 1) 1 31 := at_i (by decide +kernel) rfl
theorem a_X10_trips__31 : At m_X10_trips_ 31 (.iload_n 2) 1 32 := at_i (by decide +kernel) rfl
theorem a_X10_trips__32 : At m_X10_trips_ 32 (.aload_n 0) 1 33 := at_i (by decide +kernel) rfl
theorem a_X10_trips__33 : At m_X10_trips_ 33 (.iload_n 3) 1 34 := at_i (by decide +kernel) rfl
theorem a_X10_trips__34 : At m_X10_trips_ 34 (.invokevirtual 109) 3 37 := at_i (by decide +kernel) rfl
theorem a_X10_trips__37 : At m_X10_trips_ 37 (.invokestatic 98) 3 40 := at_i (by decide +kernel) rfl
theorem a_X10_trips__40 : At m_X10_trips_ 40 (.istore_n 2) 1 41 := at_i (by decide +kernel) rfl
theorem a_X10_trips__41 : At m_X10_trips_ 41 (.iinc 3 1) 3 44 := at_i (by decide +kernel) rfl
theorem a_X10_trips__44 : AtJ m_X10_trips_ 44 (.goto (-38)) (-38) 6 47 := at_j (by decide +kernel) (by decide) rfl
theorem a_X10_trips__47 : At m_X10_trips_ 47 (.iload_n 1) 1 48 := at_i (by decide +kernel) rfl
theorem a_X10_trips__48 : AtJ m_X10_trips_ 48 (.ifCond .ge 12) (12) 60 51 := at_j (by decide +kernel) (by decide) rfl
theorem a_X10_trips__51 : At m_X10_trips_ 51 (.aload_n 0) 1 52 := at_i (by decide +kernel) rfl
theorem a_X10_trips__52 : At m_X10_trips_ 52 (.ldc 184) 2 54 := at_i (by decide +kernel) rfl
theorem a_X10_trips__54 : At m_X10_trips_ 54 (.invokevirtual 83) 3 57 := at_i (by decide +kernel) rfl
theorem a_X10_trips__57 : AtJ m_X10_trips_ 57 (.goto 4) (4) 61 60 := at_j (by decide +kernel) (by decide) rfl
theorem a_X10_trips__60 : At m_X10_trips_ 60 (.iload_n 1) 1 61 := at_i (by decide +kernel) rfl
theorem a_X10_trips__61 : At m_X10_trips_ 61 (.ireturn) 1 62 := at_i (by decide +kernel) rfl
def f_X10_trips__b6   (Q : Int32 → Mem → Prop)  (K6 : Int32 → Int32 → Int32 → Mem → Prop) (v1 : Int32) (v2 : Int32) (v3 : Int32) (h : Mem) : Prop :=
  if h 44 4 ≤ v3 then (
    if 0 ≤ v1 then (
      Q v1 h)
    else (
      f_X10_finding (-1000004 : Int32) h fun r_4 h_3 =>
      Q r_4 h_3))
  else (
    f_X10_trips v3 h fun r_6 h_5 =>
    if r_6 ≤ v2 then (
      f_X10_trips v3 h_5 fun r_9 h_8 =>
      ∀ v_10 : Int32, v_10 = (if v2 < r_9 then r_9 else v2) →
      ∀ v_11 : Int32, v_11 = v3 + (1 : Int32) →
      K6 v1 v_10 v_11 h_8)
    else (
      f_X10_trips v3 h_5 fun r_13 h_12 =>
      ∀ v_14 : Int32, v_14 = (if v2 < r_13 then r_13 else v2) →
      ∀ v_15 : Int32, v_15 = v3 + (1 : Int32) →
      K6 v3 v_14 v_15 h_12))
set_option maxRecDepth 20000 in
theorem t_X10_trips__b6     (Q : Int32 → Mem → Prop)   : ∀ (n : Nat) (v1 : Int32) (v2 : Int32) (v3 : Int32) (h : Mem), gm_it3 (f_X10_trips__b6   Q ) n v1 v2 v3 h → EV m_X10_trips_ (GI Q) 6 [(0, .ref 43), (1, .int v1), (2, .int v2), (3, .int v3)] [] h := by
  refine ge_loop3 (P := fun v1 v2 v3 h => EV m_X10_trips_ (GI Q) 6 [(0, .ref 43), (1, .int v1), (2, .int v2), (3, .int v3)] [] h) (fun K6 hK6 v1 v2 v3 h hyp => ?_)
  unfold f_X10_trips__b6 at hyp
  refine ge_iload_n a_X10_trips__6 rfl 3 rfl ?_
  refine ge_aload_n a_X10_trips__7 rfl 0 rfl ?_
  refine ge_getR (q := 44) a_X10_trips__8 fd_X10_9 (rfl : gm_cls 43 = 9) rfl ?_
  refine ge_iconst (v := 4) a_X10_trips__11 rfl ?_
  refine ge_iald (j := 4) a_X10_trips__12 ga_44 li_4_62.1 li_4_62.2 ?_
  refine ge_icmp_ge a_X10_trips__13 (fun c_1 => ?_) (fun c_1 => ?_)
  · have hyp := gm_ip hyp c_1
    refine ge_iload_n a_X10_trips__47 rfl 1 rfl ?_
    refine ge_if_ge a_X10_trips__48 (fun c_2 => ?_) (fun c_2 => ?_)
    · have hyp := gm_ip hyp c_2
      refine ge_iload_n a_X10_trips__60 rfl 1 rfl ?_
      exact ge_iret rfl a_X10_trips__61 hyp
    · have hyp := gm_in hyp c_2
      refine ge_aload_n a_X10_trips__51 rfl 0 rfl ?_
      refine ge_ldc (v := -1000004) a_X10_trips__52 ct_X10_184 ?_
      refine ge_cVI [.int (-1000004 : Int32)] (rest := []) a_X10_trips__54 ok_X10_finding lk_X10_83 ⟨Nat.le_of_ble_eq_true rfl, Nat.le_of_ble_eq_true rfl⟩ (rfl : gm_cls 43 = 9) vc_9 (by decide) rfl rfl (Nat.le_of_ble_eq_true rfl) (t_X10_finding (-1000004 : Int32)  h _ hyp) (fun r_4 h_3 hyp => ?_)
      refine ge_goto a_X10_trips__57 ?_
      exact ge_iret rfl a_X10_trips__61 hyp
  · have hyp := gm_in hyp c_1
    refine ge_aload_n a_X10_trips__16 rfl 0 rfl ?_
    refine ge_iload_n a_X10_trips__17 rfl 3 rfl ?_
    refine ge_cVI [.int v3] (rest := []) a_X10_trips__18 ok_X10_trips lk_X10_109 ⟨Nat.le_of_ble_eq_true rfl, Nat.le_of_ble_eq_true rfl⟩ (rfl : gm_cls 43 = 9) vc_9 (by decide) rfl rfl (Nat.le_of_ble_eq_true rfl) (t_X10_trips v3  h _ hyp) (fun r_6 h_5 hyp => ?_)
    refine ge_iload_n a_X10_trips__21 rfl 2 rfl ?_
    refine ge_icmp_le a_X10_trips__22 (fun c_7 => ?_) (fun c_7 => ?_)
    · have hyp := gm_ip hyp c_7
      refine ge_iload_n a_X10_trips__29 rfl 1 rfl ?_
      refine ge_istore_n (lv' := [(1, .int v1), (0, .ref 43), (2, .int v2), (3, .int v3)]) a_X10_trips__30 rfl (Nat.le_of_ble_eq_true rfl) rfl ?_
      refine ge_iload_n a_X10_trips__31 rfl 2 rfl ?_
      refine ge_aload_n a_X10_trips__32 rfl 1 rfl ?_
      refine ge_iload_n a_X10_trips__33 rfl 3 rfl ?_
      refine ge_cVI [.int v3] (rest := [.int v2]) a_X10_trips__34 ok_X10_trips lk_X10_109 ⟨Nat.le_of_ble_eq_true rfl, Nat.le_of_ble_eq_true rfl⟩ (rfl : gm_cls 43 = 9) vc_9 (by decide) rfl rfl (Nat.le_of_ble_eq_true rfl) (t_X10_trips v3  h_5 _ hyp) (fun r_9 h_8 hyp => ?_)
      refine ge_mmax (rest := []) a_X10_trips__37 lk_X10_98 (Nat.le_of_ble_eq_true rfl) (Nat.le_of_ble_eq_true rfl) ?_
      refine ge_topi (fun v_10 ev_10 => ?_)
      have hyp := hyp v_10 ev_10
      refine ge_istore_n (lv' := [(2, .int v_10), (1, .int v1), (0, .ref 43), (3, .int v3)]) a_X10_trips__40 rfl (Nat.le_of_ble_eq_true rfl) rfl ?_
      obtain ⟨v_11, ev_11⟩ : ∃ y : Int32, y = v3 + (1 : Int32) := ⟨_, rfl⟩
      have hyp := hyp v_11 ev_11
      refine ge_iinc (v := v_11) (lv' := [(3, .int v_11), (2, .int v_10), (1, .int v1), (0, .ref 43)]) a_X10_trips__41 3 rfl ev_11.symm (Nat.le_of_ble_eq_true rfl) rfl ?_
      refine ge_goto a_X10_trips__44 ?_
      exact ge_sub [3, 2, 1, 0] rfl (hK6 v1 v_10 v_11 h_8 hyp)
    · have hyp := gm_in hyp c_7
      refine ge_iload_n a_X10_trips__25 rfl 3 rfl ?_
      refine ge_goto a_X10_trips__26 ?_
      refine ge_istore_n (lv' := [(1, .int v3), (0, .ref 43), (2, .int v2), (3, .int v3)]) a_X10_trips__30 rfl (Nat.le_of_ble_eq_true rfl) rfl ?_
      refine ge_iload_n a_X10_trips__31 rfl 2 rfl ?_
      refine ge_aload_n a_X10_trips__32 rfl 1 rfl ?_
      refine ge_iload_n a_X10_trips__33 rfl 3 rfl ?_
      refine ge_cVI [.int v3] (rest := [.int v2]) a_X10_trips__34 ok_X10_trips lk_X10_109 ⟨Nat.le_of_ble_eq_true rfl, Nat.le_of_ble_eq_true rfl⟩ (rfl : gm_cls 43 = 9) vc_9 (by decide) rfl rfl (Nat.le_of_ble_eq_true rfl) (t_X10_trips v3  h_5 _ hyp) (fun r_13 h_12 hyp => ?_)
      refine ge_mmax (rest := []) a_X10_trips__37 lk_X10_98 (Nat.le_of_ble_eq_true rfl) (Nat.le_of_ble_eq_true rfl) ?_
      refine ge_topi (fun v_14 ev_14 => ?_)
      have hyp := hyp v_14 ev_14
      refine ge_istore_n (lv' := [(2, .int v_14), (1, .int v3), (0, .ref 43), (3, .int v3)]) a_X10_trips__40 rfl (Nat.le_of_ble_eq_true rfl) rfl ?_
      obtain ⟨v_15, ev_15⟩ : ∃ y : Int32, y = v3 + (1 : Int32) := ⟨_, rfl⟩
      have hyp := hyp v_15 ev_15
      refine ge_iinc (v := v_15) (lv' := [(3, .int v_15), (2, .int v_14), (1, .int v3), (0, .ref 43)]) a_X10_trips__41 3 rfl ev_15.symm (Nat.le_of_ble_eq_true rfl) rfl ?_
      refine ge_goto a_X10_trips__44 ?_
      exact ge_sub [3, 2, 1, 0] rfl (hK6 v3 v_14 v_15 h_12 hyp)
def f_X10_trips_  (h : Mem) (Q : Int32 → Mem → Prop) : Prop :=
  gm_it3 (f_X10_trips__b6   Q ) gm_F (-1 : Int32) (-1 : Int32) (0 : Int32) h
set_option maxRecDepth 20000 in
theorem t_X10_trips_   (h : Mem) (Q : Int32 → Mem → Prop) (hyp : f_X10_trips_  h Q) : Cn m_X10_trips_ [.ref 43] h (GI Q) := by
  refine ge_entry (lv := [(0, .ref 43)]) pn_X10 (Nat.le_of_ble_eq_true rfl) rfl ?_
  unfold f_X10_trips_ at hyp
  refine ge_iconst (v := -1) a_X10_trips__0 rfl ?_
  refine ge_istore_n (lv' := [(1, .int (-1 : Int32)), (0, .ref 43)]) a_X10_trips__1 rfl (Nat.le_of_ble_eq_true rfl) rfl ?_
  refine ge_iconst (v := -1) a_X10_trips__2 rfl ?_
  refine ge_istore_n (lv' := [(2, .int (-1 : Int32)), (1, .int (-1 : Int32)), (0, .ref 43)]) a_X10_trips__3 rfl (Nat.le_of_ble_eq_true rfl) rfl ?_
  refine ge_iconst (v := 0) a_X10_trips__4 rfl ?_
  refine ge_istore_n (lv' := [(3, .int (0 : Int32)), (2, .int (-1 : Int32)), (1, .int (-1 : Int32)), (0, .ref 43)]) a_X10_trips__5 rfl (Nat.le_of_ble_eq_true rfl) rfl ?_
  exact ge_sub [3, 2, 1, 0] rfl (t_X10_trips__b6     Q   gm_F (-1 : Int32) (-1 : Int32) (0 : Int32) h hyp)

theorem a_X10_kindFor_0 : At m_X10_kindFor 0 (.aload_n 0) 1 1 := at_i (by decide +kernel) rfl
theorem a_X10_kindFor_1 : At m_X10_kindFor 1 (.iload_n 1) 1 2 := at_i (by decide +kernel) rfl
theorem a_X10_kindFor_2 : At m_X10_kindFor 2 (.invokevirtual 103) 3 5 := at_i (by decide +kernel) rfl
theorem a_X10_kindFor_5 : AtJ m_X10_kindFor 5 (.ifCond .ne 10) (10) 15 8 := at_j (by decide +kernel) (by decide) rfl
theorem a_X10_kindFor_8 : At m_X10_kindFor 8 (.aload_n 0) 1 9 := at_i (by decide +kernel) rfl
theorem a_X10_kindFor_9 : At m_X10_kindFor 9 (.ldc 66) 2 11 := at_i (by decide +kernel) rfl
theorem a_X10_kindFor_11 : At m_X10_kindFor 11 (.invokevirtual 83) 3 14 := at_i (by decide +kernel) rfl
theorem a_X10_kindFor_14 : At m_X10_kindFor 14 (.ireturn) 1 15 := at_i (by decide +kernel) rfl
theorem a_X10_kindFor_15 : At m_X10_kindFor 15 (.aload_n 0) 1 16 := at_i (by decide +kernel) rfl
theorem a_X10_kindFor_16 : At m_X10_kindFor 16 (.iload_n 1) 1 17 := at_i (by decide +kernel) rfl
theorem a_X10_kindFor_17 : At m_X10_kindFor 17 (.iconst 0) 1 18 := at_i (by decide +kernel) rfl
theorem a_X10_kindFor_18 : At m_X10_kindFor 18 (.invokevirtual 95) 3 21 := at_i (by decide +kernel) rfl
theorem a_X10_kindFor_21 : At m_X10_kindFor 21 (.istore_n 2) 1 22 := at_i (by decide +kernel) rfl
theorem a_X10_kindFor_22 : At m_X10_kindFor 22 (.iconst (-1)) 1 23 := at_i (by decide +kernel) rfl
theorem a_X10_kindFor_23 : At m_X10_kindFor 23 (.istore_n 3) 1 24 := at_i (by decide +kernel) rfl
theorem a_X10_kindFor_24 : At m_X10_kindFor 24 (.ldc 170) 2 26 := at_i (by decide +kernel) rfl
theorem a_X10_kindFor_26 : At m_X10_kindFor 26 (.istore 4) 2 28 := at_i (by decide +kernel) rfl
theorem a_X10_kindFor_28 : At m_X10_kindFor 28 (.iconst 0) 1 29 := at_i (by decide +kernel) rfl
theorem a_X10_kindFor_29 : At m_X10_kindFor 29 (.istore 5) 2 31 := at_i (by decide +kernel) rfl
theorem a_X10_kindFor_31 : At m_X10_kindFor 31 (.iload 5) 2 33 := at_i (by decide +kernel) rfl
theorem a_X10_kindFor_33 : At m_X10_kindFor 33 (.bipush 6) 2 35 := at_i (by decide +kernel) rfl
theorem a_X10_kindFor_35 : AtJ m_X10_kindFor 35 (.if_icmp .gt 50) (50) 85 38 := at_j (by decide +kernel) (by decide) rfl
theorem a_X10_kindFor_38 : At m_X10_kindFor 38 (.aload_n 0) 1 39 := at_i (by decide +kernel) rfl
theorem a_X10_kindFor_39 : At m_X10_kindFor 39 (.getfield 9) 3 42 := at_i (by decide +kernel) rfl
theorem a_X10_kindFor_42 : At m_X10_kindFor 42 (.iload_n 1) 1 43 := at_i (by decide +kernel) rfl
theorem a_X10_kindFor_43 : At m_X10_kindFor 43 (.iconst 0) 1 44 := at_i (by decide +kernel) rfl
theorem a_X10_kindFor_44 : At m_X10_kindFor 44 (.invokestatic 75) 3 47 := at_i (by decide +kernel) rfl
theorem a_X10_kindFor_47 : At m_X10_kindFor 47 (.iload 5) 2 49 := at_i (by decide +kernel) rfl
theorem a_X10_kindFor_49 : At m_X10_kindFor 49 (.iastore) 1 50 := at_i (by decide +kernel) rfl
theorem a_X10_kindFor_50 : At m_X10_kindFor 50 (.aload_n 0) 1 51 := at_i (by decide +kernel) rfl
theorem a_X10_kindFor_51 : At m_X10_kindFor 51 (.invokevirtual 152) 3 54 := at_i (by decide +kernel) rfl
theorem a_X10_kindFor_54 : At m_X10_kindFor 54 (.istore 6) 2 56 := at_i (by decide +kernel) rfl
theorem a_X10_kindFor_56 : At m_X10_kindFor 56 (.iload 6) 2 58 := at_i (by decide +kernel) rfl
theorem a_X10_kindFor_58 : At m_X10_kindFor 58 (.iload 4) 2 60 := at_i (by decide +kernel) rfl
theorem a_X10_kindFor_60 : AtJ m_X10_kindFor 60 (.if_icmp .ge 8) (8) 68 63 := at_j (by decide +kernel) (by decide) rfl
theorem a_X10_kindFor_63 : At m_X10_kindFor 63 (.iload 5) 2 65 := at_i (by decide +kernel) rfl
theorem a_X10_kindFor_65 : AtJ m_X10_kindFor 65 (.goto 4) (4) 69 68 := at_j (by decide +kernel) (by decide) rfl
theorem a_X10_kindFor_68 : At m_X10_kindFor 68 (.iload_n 3) 1 69 := at_i (by decide +kernel) rfl
theorem a_X10_kindFor_69 : At m_X10_kindFor 69 (.istore_n 3) 1 70 := at_i (by decide +kernel) rfl
theorem a_X10_kindFor_70 : At m_X10_kindFor 70 (.iload 4) 2 72 := at_i (by decide +kernel) rfl
theorem a_X10_kindFor_72 : At m_X10_kindFor 72 (.iload 6) 2 74 := at_i (by decide +kernel) rfl
theorem a_X10_kindFor_74 : At m_X10_kindFor 74 (.invokestatic 128) 3 77 := at_i (by decide +kernel) rfl
theorem a_X10_kindFor_77 : At m_X10_kindFor 77 (.istore 4) 2 79 := at_i (by decide +kernel) rfl
theorem a_X10_kindFor_79 : At m_X10_kindFor 79 (.iinc 5 1) 3 82 := at_i (by decide +kernel) rfl
theorem a_X10_kindFor_82 : AtJ m_X10_kindFor 82 (.goto (-51)) (-51) 31 85 := at_j (by decide +kernel) (by decide) rfl
theorem a_X10_kindFor_85 : At m_X10_kindFor 85 (.aload_n 0) 1 86 := at_i (by decide +kernel) rfl
theorem a_X10_kindFor_86 : At m_X10_kindFor 86 (.getfield 9) 3 89 := at_i (by decide +kernel) rfl
theorem a_X10_kindFor_89 : At m_X10_kindFor 89 (.iload_n 1) 1 90 := at_i (by decide +kernel) rfl
theorem a_X10_kindFor_90 : At m_X10_kindFor 90 (.iconst 0) 1 91 := at_i (by decide +kernel) rfl
theorem a_X10_kindFor_91 : At m_X10_kindFor 91 (.invokestatic 75) 3 94 := at_i (by decide +kernel) rfl
theorem a_X10_kindFor_94 : At m_X10_kindFor 94 (.iload_n 2) 1 95 := at_i (by decide +kernel) rfl
theorem a_X10_kindFor_95 : At m_X10_kindFor 95 (.iastore) 1 96 := at_i (by decide +kernel) rfl
theorem a_X10_kindFor_96 : At m_X10_kindFor 96 (.iload_n 3) 1 97 := at_i (by decide +kernel) rfl
theorem a_X10_kindFor_97 : At m_X10_kindFor 97 (.ireturn) 1 98 := at_i (by decide +kernel) rfl
def f_X10_kindFor_b31 (a1 : Int32) (r_5 : Int32) (Q : Int32 → Mem → Prop)  (K31 : Int32 → Int32 → Int32 → Mem → Prop) (v3 : Int32) (v4 : Int32) (v5 : Int32) (h : Mem) : Prop :=
  if (6 : Int32) < v5 then (
    f_X10_at a1 (0 : Int32) h fun r_8 h_7 =>
    vp_in r_8 62 ∧
    ∀ h_10 : Mem, h_10 = gm_st h_7 44 r_8.toNatClampNeg r_5 →
    Q v3 h_10)
  else (
    f_X10_at a1 (0 : Int32) h fun r_12 h_11 =>
    vp_in r_12 62 ∧
    ∀ h_14 : Mem, h_14 = gm_st h_11 44 r_12.toNatClampNeg v5 →
    f_X10_restTakes  h_14 fun r_16 h_15 =>
    if v4 ≤ r_16 then (
      ∀ v_18 : Int32, v_18 = (if r_16 < v4 then r_16 else v4) →
      ∀ v_19 : Int32, v_19 = v5 + (1 : Int32) →
      K31 v3 v_18 v_19 h_15)
    else (
      ∀ v_20 : Int32, v_20 = (if r_16 < v4 then r_16 else v4) →
      ∀ v_21 : Int32, v_21 = v5 + (1 : Int32) →
      K31 v5 v_20 v_21 h_15))
set_option maxRecDepth 20000 in
theorem t_X10_kindFor_b31 (a1 : Int32) (r_5 : Int32)   (Q : Int32 → Mem → Prop)   : ∀ (n : Nat) (v3 : Int32) (v4 : Int32) (v5 : Int32) (h : Mem), gm_it3 (f_X10_kindFor_b31 a1 r_5 Q ) n v3 v4 v5 h → EV m_X10_kindFor (GI Q) 31 [(0, .ref 43), (1, .int a1), (2, .int r_5), (3, .int v3), (4, .int v4), (5, .int v5)] [] h := by
  refine ge_loop3 (P := fun v3 v4 v5 h => EV m_X10_kindFor (GI Q) 31 [(0, .ref 43), (1, .int a1), (2, .int r_5), (3, .int v3), (4, .int v4), (5, .int v5)] [] h) (fun K31 hK31 v3 v4 v5 h hyp => ?_)
  unfold f_X10_kindFor_b31 at hyp
  refine ge_iload a_X10_kindFor_31 5 rfl ?_
  refine ge_bipush (v := 6) a_X10_kindFor_33 rfl ?_
  refine ge_icmp_gt a_X10_kindFor_35 (fun c_6 => ?_) (fun c_6 => ?_)
  · have hyp := gm_ip hyp c_6
    refine ge_aload_n a_X10_kindFor_85 rfl 0 rfl ?_
    refine ge_getR (q := 44) a_X10_kindFor_86 fd_X10_9 (rfl : gm_cls 43 = 9) rfl ?_
    refine ge_iload_n a_X10_kindFor_89 rfl 1 rfl ?_
    refine ge_iconst (v := 0) a_X10_kindFor_90 rfl ?_
    refine ge_cSI [.int a1, .int (0 : Int32)] (rest := [.ref 44]) a_X10_kindFor_91 ok_X10_at lk_X10_75 ⟨Nat.le_of_ble_eq_true rfl, Nat.le_of_ble_eq_true rfl⟩ rfl rfl (Nat.le_of_ble_eq_true rfl) (t_X10_at a1 (0 : Int32)  h _ hyp) (fun r_8 h_7 hyp => ?_)
    refine ge_iload_n a_X10_kindFor_94 rfl 2 rfl ?_
    obtain ⟨b_9, hyp⟩ := hyp
    refine ge_iast (j := r_8.toNatClampNeg) a_X10_kindFor_95 ga_44 b_9 rfl ?_
    refine ge_nm (fun h_10 eh_10 => ?_)
    have hyp := hyp h_10 eh_10
    refine ge_iload_n a_X10_kindFor_96 rfl 3 rfl ?_
    exact ge_iret rfl a_X10_kindFor_97 hyp
  · have hyp := gm_in hyp c_6
    refine ge_aload_n a_X10_kindFor_38 rfl 0 rfl ?_
    refine ge_getR (q := 44) a_X10_kindFor_39 fd_X10_9 (rfl : gm_cls 43 = 9) rfl ?_
    refine ge_iload_n a_X10_kindFor_42 rfl 1 rfl ?_
    refine ge_iconst (v := 0) a_X10_kindFor_43 rfl ?_
    refine ge_cSI [.int a1, .int (0 : Int32)] (rest := [.ref 44]) a_X10_kindFor_44 ok_X10_at lk_X10_75 ⟨Nat.le_of_ble_eq_true rfl, Nat.le_of_ble_eq_true rfl⟩ rfl rfl (Nat.le_of_ble_eq_true rfl) (t_X10_at a1 (0 : Int32)  h _ hyp) (fun r_12 h_11 hyp => ?_)
    refine ge_iload a_X10_kindFor_47 5 rfl ?_
    obtain ⟨b_13, hyp⟩ := hyp
    refine ge_iast (j := r_12.toNatClampNeg) a_X10_kindFor_49 ga_44 b_13 rfl ?_
    refine ge_nm (fun h_14 eh_14 => ?_)
    have hyp := hyp h_14 eh_14
    refine ge_aload_n a_X10_kindFor_50 rfl 0 rfl ?_
    refine ge_cVI [] (rest := []) a_X10_kindFor_51 ok_X10_restTakes lk_X10_152 ⟨Nat.le_of_ble_eq_true rfl, Nat.le_of_ble_eq_true rfl⟩ (rfl : gm_cls 43 = 9) vc_9 (by decide) rfl rfl (Nat.le_of_ble_eq_true rfl) (t_X10_restTakes   h_14 _ hyp) (fun r_16 h_15 hyp => ?_)
    refine ge_istore (lv' := [(6, .int r_16), (0, .ref 43), (1, .int a1), (2, .int r_5), (3, .int v3), (4, .int v4), (5, .int v5)]) a_X10_kindFor_54 (Nat.le_of_ble_eq_true rfl) rfl ?_
    refine ge_iload a_X10_kindFor_56 0 rfl ?_
    refine ge_iload a_X10_kindFor_58 5 rfl ?_
    refine ge_icmp_ge a_X10_kindFor_60 (fun c_17 => ?_) (fun c_17 => ?_)
    · have hyp := gm_ip hyp c_17
      refine ge_iload_n a_X10_kindFor_68 rfl 4 rfl ?_
      refine ge_istore_n (lv' := [(3, .int v3), (6, .int r_16), (0, .ref 43), (1, .int a1), (2, .int r_5), (4, .int v4), (5, .int v5)]) a_X10_kindFor_69 rfl (Nat.le_of_ble_eq_true rfl) rfl ?_
      refine ge_iload a_X10_kindFor_70 5 rfl ?_
      refine ge_iload a_X10_kindFor_72 1 rfl ?_
      refine ge_mmin (rest := []) a_X10_kindFor_74 lk_X10_128 (Nat.le_of_ble_eq_true rfl) (Nat.le_of_ble_eq_true rfl) ?_
      refine ge_topi (fun v_18 ev_18 => ?_)
      have hyp := hyp v_18 ev_18
      refine ge_istore (lv' := [(4, .int v_18), (3, .int v3), (6, .int r_16), (0, .ref 43), (1, .int a1), (2, .int r_5), (5, .int v5)]) a_X10_kindFor_77 (Nat.le_of_ble_eq_true rfl) rfl ?_
      obtain ⟨v_19, ev_19⟩ : ∃ y : Int32, y = v5 + (1 : Int32) := ⟨_, rfl⟩
      have hyp := hyp v_19 ev_19
      refine ge_iinc (v := v_19) (lv' := [(5, .int v_19), (4, .int v_18), (3, .int v3), (6, .int r_16), (0, .ref 43), (1, .int a1), (2, .int r_5)]) a_X10_kindFor_79 6 rfl ev_19.symm (Nat.le_of_ble_eq_true rfl) rfl ?_
      refine ge_goto a_X10_kindFor_82 ?_
      exact ge_sub [4, 5, 6, 2, 1, 0] rfl (hK31 v3 v_18 v_19 h_15 hyp)
    · have hyp := gm_in hyp c_17
      refine ge_iload a_X10_kindFor_63 6 rfl ?_
      refine ge_goto a_X10_kindFor_65 ?_
      refine ge_istore_n (lv' := [(3, .int v5), (6, .int r_16), (0, .ref 43), (1, .int a1), (2, .int r_5), (4, .int v4), (5, .int v5)]) a_X10_kindFor_69 rfl (Nat.le_of_ble_eq_true rfl) rfl ?_
      refine ge_iload a_X10_kindFor_70 5 rfl ?_
      refine ge_iload a_X10_kindFor_72 1 rfl ?_
      refine ge_mmin (rest := []) a_X10_kindFor_74 lk_X10_128 (Nat.le_of_ble_eq_true rfl) (Nat.le_of_ble_eq_true rfl) ?_
      refine ge_topi (fun v_20 ev_20 => ?_)
      have hyp := hyp v_20 ev_20
      refine ge_istore (lv' := [(4, .int v_20), (3, .int v5), (6, .int r_16), (0, .ref 43), (1, .int a1), (2, .int r_5), (5, .int v5)]) a_X10_kindFor_77 (Nat.le_of_ble_eq_true rfl) rfl ?_
      obtain ⟨v_21, ev_21⟩ : ∃ y : Int32, y = v5 + (1 : Int32) := ⟨_, rfl⟩
      have hyp := hyp v_21 ev_21
      refine ge_iinc (v := v_21) (lv' := [(5, .int v_21), (4, .int v_20), (3, .int v5), (6, .int r_16), (0, .ref 43), (1, .int a1), (2, .int r_5)]) a_X10_kindFor_79 6 rfl ev_21.symm (Nat.le_of_ble_eq_true rfl) rfl ?_
      refine ge_goto a_X10_kindFor_82 ?_
      exact ge_sub [4, 5, 6, 2, 1, 0] rfl (hK31 v5 v_20 v_21 h_15 hyp)
def f_X10_kindFor (a1 : Int32) (h : Mem) (Q : Int32 → Mem → Prop) : Prop :=
  f_X10_isLine a1 h fun r_2 h_1 =>
  if r_2 = 0 then (
    f_X10_finding (-1000001 : Int32) h_1 fun r_23 h_22 =>
    Q r_23 h_22)
  else (
    f_X10_lineIs a1 (0 : Int32) h_1 fun r_5 h_4 =>
    gm_it3 (f_X10_kindFor_b31 a1 r_5 Q ) gm_F (-1 : Int32) (100000000 : Int32) (0 : Int32) h_4)
set_option maxRecDepth 20000 in
theorem t_X10_kindFor (a1 : Int32)  (h : Mem) (Q : Int32 → Mem → Prop) (hyp : f_X10_kindFor a1 h Q) : Cn m_X10_kindFor [.ref 43, .int a1] h (GI Q) := by
  refine ge_entry (lv := [(0, .ref 43), (1, .int a1)]) pn_X10 (Nat.le_of_ble_eq_true rfl) rfl ?_
  unfold f_X10_kindFor at hyp
  refine ge_aload_n a_X10_kindFor_0 rfl 0 rfl ?_
  refine ge_iload_n a_X10_kindFor_1 rfl 1 rfl ?_
  refine ge_cVI [.int a1] (rest := []) a_X10_kindFor_2 ok_X10_isLine lk_X10_103 ⟨Nat.le_of_ble_eq_true rfl, Nat.le_of_ble_eq_true rfl⟩ (rfl : gm_cls 43 = 9) vc_9 (by decide) rfl rfl (Nat.le_of_ble_eq_true rfl) (t_X10_isLine a1  h _ hyp) (fun r_2 h_1 hyp => ?_)
  refine ge_if_ne a_X10_kindFor_5 (fun c_3 => ?_) (fun c_3 => ?_)
  · have hyp := gm_in hyp c_3
    refine ge_aload_n a_X10_kindFor_15 rfl 0 rfl ?_
    refine ge_iload_n a_X10_kindFor_16 rfl 1 rfl ?_
    refine ge_iconst (v := 0) a_X10_kindFor_17 rfl ?_
    refine ge_cVI [.int a1, .int (0 : Int32)] (rest := []) a_X10_kindFor_18 ok_X10_lineIs lk_X10_95 ⟨Nat.le_of_ble_eq_true rfl, Nat.le_of_ble_eq_true rfl⟩ (rfl : gm_cls 43 = 9) vc_9 (by decide) rfl rfl (Nat.le_of_ble_eq_true rfl) (t_X10_lineIs a1 (0 : Int32)  h_1 _ hyp) (fun r_5 h_4 hyp => ?_)
    refine ge_istore_n (lv' := [(2, .int r_5), (0, .ref 43), (1, .int a1)]) a_X10_kindFor_21 rfl (Nat.le_of_ble_eq_true rfl) rfl ?_
    refine ge_iconst (v := -1) a_X10_kindFor_22 rfl ?_
    refine ge_istore_n (lv' := [(3, .int (-1 : Int32)), (2, .int r_5), (0, .ref 43), (1, .int a1)]) a_X10_kindFor_23 rfl (Nat.le_of_ble_eq_true rfl) rfl ?_
    refine ge_ldc (v := 100000000) a_X10_kindFor_24 ct_X10_170 ?_
    refine ge_istore (lv' := [(4, .int (100000000 : Int32)), (3, .int (-1 : Int32)), (2, .int r_5), (0, .ref 43), (1, .int a1)]) a_X10_kindFor_26 (Nat.le_of_ble_eq_true rfl) rfl ?_
    refine ge_iconst (v := 0) a_X10_kindFor_28 rfl ?_
    refine ge_istore (lv' := [(5, .int (0 : Int32)), (4, .int (100000000 : Int32)), (3, .int (-1 : Int32)), (2, .int r_5), (0, .ref 43), (1, .int a1)]) a_X10_kindFor_29 (Nat.le_of_ble_eq_true rfl) rfl ?_
    exact ge_sub [4, 5, 3, 2, 1, 0] rfl (t_X10_kindFor_b31 a1 r_5   Q   gm_F (-1 : Int32) (100000000 : Int32) (0 : Int32) h_4 hyp)
  · have hyp := gm_ip hyp c_3
    refine ge_aload_n a_X10_kindFor_8 rfl 0 rfl ?_
    refine ge_ldc (v := -1000001) a_X10_kindFor_9 ct_X10_66 ?_
    refine ge_cVI [.int (-1000001 : Int32)] (rest := []) a_X10_kindFor_11 ok_X10_finding lk_X10_83 ⟨Nat.le_of_ble_eq_true rfl, Nat.le_of_ble_eq_true rfl⟩ (rfl : gm_cls 43 = 9) vc_9 (by decide) rfl rfl (Nat.le_of_ble_eq_true rfl) (t_X10_finding (-1000001 : Int32)  h_1 _ hyp) (fun r_23 h_22 hyp => ?_)
    exact ge_iret rfl a_X10_kindFor_14 hyp

theorem a_X10_eases_0 : At m_X10_eases 0 (.aload_n 0) 1 1 := at_i (by decide +kernel) rfl
theorem a_X10_eases_1 : At m_X10_eases 1 (.iload_n 1) 1 2 := at_i (by decide +kernel) rfl
theorem a_X10_eases_2 : At m_X10_eases 2 (.invokevirtual 109) 3 5 := at_i (by decide +kernel) rfl
theorem a_X10_eases_5 : At m_X10_eases 5 (.istore_n 2) 1 6 := at_i (by decide +kernel) rfl
theorem a_X10_eases_6 : At m_X10_eases 6 (.aload_n 0) 1 7 := at_i (by decide +kernel) rfl
theorem a_X10_eases_7 : At m_X10_eases 7 (.iload_n 1) 1 8 := at_i (by decide +kernel) rfl
theorem a_X10_eases_8 : At m_X10_eases 8 (.iconst 2) 1 9 := at_i (by decide +kernel) rfl
theorem a_X10_eases_9 : At m_X10_eases 9 (.invokestatic 75) 3 12 := at_i (by decide +kernel) rfl
theorem a_X10_eases_12 : At m_X10_eases 12 (.iconst 0) 1 13 := at_i (by decide +kernel) rfl
theorem a_X10_eases_13 : At m_X10_eases 13 (.invokevirtual 115) 3 16 := at_i (by decide +kernel) rfl
theorem a_X10_eases_16 : At m_X10_eases 16 (.istore_n 3) 1 17 := at_i (by decide +kernel) rfl
theorem a_X10_eases_17 : At m_X10_eases 17 (.iload_n 2) 1 18 := at_i (by decide +kernel) rfl
theorem a_X10_eases_18 : At m_X10_eases 18 (.aload_n 0) 1 19 := at_i (by decide +kernel) rfl
theorem a_X10_eases_19 : At m_X10_eases 19 (.iload_n 1) 1 20 := at_i (by decide +kernel) rfl
theorem a_X10_eases_20 : At m_X10_eases 20 (.invokevirtual 109) 3 23 := at_i (by decide +kernel) rfl
theorem a_X10_eases_23 : At m_X10_eases 23 (.isub) 1 24 := at_i (by decide +kernel) rfl
theorem a_X10_eases_24 : At m_X10_eases 24 (.istore 4) 2 26 := at_i (by decide +kernel) rfl
theorem a_X10_eases_26 : At m_X10_eases 26 (.aload_n 0) 1 27 := at_i (by decide +kernel) rfl
theorem a_X10_eases_27 : At m_X10_eases 27 (.getfield 9) 3 30 := at_i (by decide +kernel) rfl
theorem a_X10_eases_30 : At m_X10_eases 30 (.iload_n 1) 1 31 := at_i (by decide +kernel) rfl
theorem a_X10_eases_31 : At m_X10_eases 31 (.iconst 2) 1 32 := at_i (by decide +kernel) rfl
theorem a_X10_eases_32 : At m_X10_eases 32 (.invokestatic 75) 3 35 := at_i (by decide +kernel) rfl
theorem a_X10_eases_35 : At m_X10_eases 35 (.iload_n 3) 1 36 := at_i (by decide +kernel) rfl
theorem a_X10_eases_36 : At m_X10_eases 36 (.iastore) 1 37 := at_i (by decide +kernel) rfl
theorem a_X10_eases_37 : At m_X10_eases 37 (.iload_n 1) 1 38 := at_i (by decide +kernel) rfl
theorem a_X10_eases_38 : At m_X10_eases 38 (.aload_n 0) 1 39 := at_i (by decide +kernel) rfl
theorem a_X10_eases_39 : At m_X10_eases 39 (.getfield 9) 3 42 := at_i (by decide +kernel) rfl
theorem a_X10_eases_42 : At m_X10_eases 42 (.iconst 0) 1 43 := at_i (by decide +kernel) rfl
theorem a_X10_eases_43 : At m_X10_eases 43 (.iaload) 1 44 := at_i (by decide +kernel) rfl
theorem a_X10_eases_44 : AtJ m_X10_eases 44 (.if_icmp .ge 7) (7) 51 47 := at_j (by decide +kernel) (by decide) rfl
theorem a_X10_eases_47 : At m_X10_eases 47 (.iconst 0) 1 48 := at_i (by decide +kernel) rfl
theorem a_X10_eases_48 : AtJ m_X10_eases 48 (.goto 5) (5) 53 51 := at_j (by decide +kernel) (by decide) rfl
theorem a_X10_eases_51 : At m_X10_eases 51 (.iload 4) 2 53 := at_i (by decide +kernel) rfl
theorem a_X10_eases_53 : At m_X10_eases 53 (.ireturn) 1 54 := at_i (by decide +kernel) rfl
def f_X10_eases (a1 : Int32) (h : Mem) (Q : Int32 → Mem → Prop) : Prop :=
  f_X10_trips a1 h fun r_2 h_1 =>
  f_X10_at a1 (2 : Int32) h_1 fun r_4 h_3 =>
  f_X10_become r_4 (0 : Int32) h_3 fun r_6 h_5 =>
  f_X10_trips a1 h_5 fun r_8 h_7 =>
  ∀ v_9 : Int32, v_9 = r_2 - r_8 →
  f_X10_at a1 (2 : Int32) h_7 fun r_11 h_10 =>
  vp_in r_11 62 ∧
  ∀ h_13 : Mem, h_13 = gm_st h_10 44 r_11.toNatClampNeg r_6 →
  if h_13 44 0 ≤ a1 then (
    Q v_9 h_13)
  else (
    Q (0 : Int32) h_13)
set_option maxRecDepth 20000 in
theorem t_X10_eases (a1 : Int32)  (h : Mem) (Q : Int32 → Mem → Prop) (hyp : f_X10_eases a1 h Q) : Cn m_X10_eases [.ref 43, .int a1] h (GI Q) := by
  refine ge_entry (lv := [(0, .ref 43), (1, .int a1)]) pn_X10 (Nat.le_of_ble_eq_true rfl) rfl ?_
  unfold f_X10_eases at hyp
  refine ge_aload_n a_X10_eases_0 rfl 0 rfl ?_
  refine ge_iload_n a_X10_eases_1 rfl 1 rfl ?_
  refine ge_cVI [.int a1] (rest := []) a_X10_eases_2 ok_X10_trips lk_X10_109 ⟨Nat.le_of_ble_eq_true rfl, Nat.le_of_ble_eq_true rfl⟩ (rfl : gm_cls 43 = 9) vc_9 (by decide) rfl rfl (Nat.le_of_ble_eq_true rfl) (t_X10_trips a1  h _ hyp) (fun r_2 h_1 hyp => ?_)
  refine ge_istore_n (lv' := [(2, .int r_2), (0, .ref 43), (1, .int a1)]) a_X10_eases_5 rfl (Nat.le_of_ble_eq_true rfl) rfl ?_
  refine ge_aload_n a_X10_eases_6 rfl 1 rfl ?_
  refine ge_iload_n a_X10_eases_7 rfl 2 rfl ?_
  refine ge_iconst (v := 2) a_X10_eases_8 rfl ?_
  refine ge_cSI [.int a1, .int (2 : Int32)] (rest := [.ref 43]) a_X10_eases_9 ok_X10_at lk_X10_75 ⟨Nat.le_of_ble_eq_true rfl, Nat.le_of_ble_eq_true rfl⟩ rfl rfl (Nat.le_of_ble_eq_true rfl) (t_X10_at a1 (2 : Int32)  h_1 _ hyp) (fun r_4 h_3 hyp => ?_)
  refine ge_iconst (v := 0) a_X10_eases_12 rfl ?_
  refine ge_cVI [.int r_4, .int (0 : Int32)] (rest := []) a_X10_eases_13 ok_X10_become lk_X10_115 ⟨Nat.le_of_ble_eq_true rfl, Nat.le_of_ble_eq_true rfl⟩ (rfl : gm_cls 43 = 9) vc_9 (by decide) rfl rfl (Nat.le_of_ble_eq_true rfl) (t_X10_become r_4 (0 : Int32)  h_3 _ hyp) (fun r_6 h_5 hyp => ?_)
  refine ge_istore_n (lv' := [(3, .int r_6), (2, .int r_2), (0, .ref 43), (1, .int a1)]) a_X10_eases_16 rfl (Nat.le_of_ble_eq_true rfl) rfl ?_
  refine ge_iload_n a_X10_eases_17 rfl 1 rfl ?_
  refine ge_aload_n a_X10_eases_18 rfl 2 rfl ?_
  refine ge_iload_n a_X10_eases_19 rfl 3 rfl ?_
  refine ge_cVI [.int a1] (rest := [.int r_2]) a_X10_eases_20 ok_X10_trips lk_X10_109 ⟨Nat.le_of_ble_eq_true rfl, Nat.le_of_ble_eq_true rfl⟩ (rfl : gm_cls 43 = 9) vc_9 (by decide) rfl rfl (Nat.le_of_ble_eq_true rfl) (t_X10_trips a1  h_5 _ hyp) (fun r_8 h_7 hyp => ?_)
  refine ge_isub a_X10_eases_23 ?_
  refine ge_topi (fun v_9 ev_9 => ?_)
  have hyp := hyp v_9 ev_9
  refine ge_istore (lv' := [(4, .int v_9), (3, .int r_6), (2, .int r_2), (0, .ref 43), (1, .int a1)]) a_X10_eases_24 (Nat.le_of_ble_eq_true rfl) rfl ?_
  refine ge_aload_n a_X10_eases_26 rfl 3 rfl ?_
  refine ge_getR (q := 44) a_X10_eases_27 fd_X10_9 (rfl : gm_cls 43 = 9) rfl ?_
  refine ge_iload_n a_X10_eases_30 rfl 4 rfl ?_
  refine ge_iconst (v := 2) a_X10_eases_31 rfl ?_
  refine ge_cSI [.int a1, .int (2 : Int32)] (rest := [.ref 44]) a_X10_eases_32 ok_X10_at lk_X10_75 ⟨Nat.le_of_ble_eq_true rfl, Nat.le_of_ble_eq_true rfl⟩ rfl rfl (Nat.le_of_ble_eq_true rfl) (t_X10_at a1 (2 : Int32)  h_7 _ hyp) (fun r_11 h_10 hyp => ?_)
  refine ge_iload_n a_X10_eases_35 rfl 1 rfl ?_
  obtain ⟨b_12, hyp⟩ := hyp
  refine ge_iast (j := r_11.toNatClampNeg) a_X10_eases_36 ga_44 b_12 rfl ?_
  refine ge_nm (fun h_13 eh_13 => ?_)
  have hyp := hyp h_13 eh_13
  refine ge_iload_n a_X10_eases_37 rfl 4 rfl ?_
  refine ge_aload_n a_X10_eases_38 rfl 3 rfl ?_
  refine ge_getR (q := 44) a_X10_eases_39 fd_X10_9 (rfl : gm_cls 43 = 9) rfl ?_
  refine ge_iconst (v := 0) a_X10_eases_42 rfl ?_
  refine ge_iald (j := 0) a_X10_eases_43 ga_44 li_0_62.1 li_0_62.2 ?_
  refine ge_icmp_ge a_X10_eases_44 (fun c_14 => ?_) (fun c_14 => ?_)
  · have hyp := gm_ip hyp c_14
    refine ge_iload a_X10_eases_51 0 rfl ?_
    exact ge_iret rfl a_X10_eases_53 hyp
  · have hyp := gm_in hyp c_14
    refine ge_iconst (v := 0) a_X10_eases_47 rfl ?_
    refine ge_goto a_X10_eases_48 ?_
    exact ge_iret rfl a_X10_eases_53 hyp

theorem a_X10_ease_0 : At m_X10_ease 0 (.iload_n 1) 1 1 := at_i (by decide +kernel) rfl
theorem a_X10_ease_1 : At m_X10_ease 1 (.iconst 0) 1 2 := at_i (by decide +kernel) rfl
theorem a_X10_ease_2 : At m_X10_ease 2 (.sipush 999) 3 5 := at_i (by decide +kernel) rfl
theorem a_X10_ease_5 : At m_X10_ease 5 (.invokestatic 71) 3 8 := at_i (by decide +kernel) rfl
theorem a_X10_ease_8 : AtJ m_X10_ease 8 (.ifCond .ne 10) (10) 18 11 := at_j (by decide +kernel) (by decide) rfl
theorem a_X10_ease_11 : At m_X10_ease 11 (.aload_n 0) 1 12 := at_i (by decide +kernel) rfl
theorem a_X10_ease_12 : At m_X10_ease 12 (.ldc 66) 2 14 := at_i (by decide +kernel) rfl
theorem a_X10_ease_14 : At m_X10_ease 14 (.invokevirtual 83) 3 17 := at_i (by decide +kernel) rfl
theorem a_X10_ease_17 : At m_X10_ease 17 (.ireturn) 1 18 := at_i (by decide +kernel) rfl
theorem a_X10_ease_18 : At m_X10_ease 18 (.aload_n 0) 1 19 := at_i (by decide +kernel) rfl
theorem a_X10_ease_19 : At m_X10_ease 19 (.invokevirtual 155) 3 22 := at_i (by decide +kernel) rfl
theorem a_X10_ease_22 : At m_X10_ease 22 (.istore_n 2) 1 23 := at_i (by decide +kernel) rfl
theorem a_X10_ease_23 : At m_X10_ease 23 (.iconst (-1)) 1 24 := at_i (by decide +kernel) rfl
theorem a_X10_ease_24 : At m_X10_ease 24 (.istore_n 3) 1 25 := at_i (by decide +kernel) rfl
theorem a_X10_ease_25 : At m_X10_ease 25 (.iconst 0) 1 26 := at_i (by decide +kernel) rfl
theorem a_X10_ease_26 : At m_X10_ease 26 (.istore 4) 2 28 := at_i (by decide +kernel) rfl
theorem a_X10_ease_28 : At m_X10_ease 28 (.iload 4) 2 30 := at_i (by decide +kernel) rfl
theorem a_X10_ease_30 : At m_X10_ease 30 (.iconst 1) 1 31 := at_i (by decide +kernel) rfl
theorem a_X10_ease_31 : At m_X10_ease 31 (.aload_n 0) 1 32 := at_i (by decide +kernel) rfl
theorem a_X10_ease_32 : At m_X10_ease 32 (.getfield 9) 3 35 := at_i (by decide +kernel) rfl
theorem a_X10_ease_35 : At m_X10_ease 35 (.iconst 4) 1 36 := at_i (by decide +kernel) rfl
theorem a_X10_ease_36 : At m_X10_ease 36 (.iaload) 1 37 := at_i (by decide +kernel) rfl
theorem a_X10_ease_37 : At m_X10_ease 37 (.ishl) 1 38 := at_i (by decide +kernel) rfl
theorem a_X10_ease_38 : AtJ m_X10_ease 38 (.if_icmp .ge 86) (86) 124 41 := at_j (by decide +kernel) (by decide) rfl
theorem a_X10_ease_41 : At m_X10_ease 41 (.iload_n 2) 1 42 := at_i (by decide +kernel) rfl
theorem a_X10_ease_42 : At m_X10_ease 42 (.istore 5) 2 44 := at_i (by decide +kernel) rfl
theorem a_X10_ease_44 : At m_X10_ease 44 (.iconst 0) 1 45 := at_i (by decide +kernel) rfl
theorem a_X10_ease_45 : At m_X10_ease 45 (.istore 6) 2 47 := at_i (by decide +kernel) rfl
theorem a_X10_ease_47 : At m_X10_ease 47 (.iload 6) 2 49 := at_i (by decide +kernel) rfl
theorem a_X10_ease_49 : At m_X10_ease 49 (.aload_n 0) 1 50 := at_i (by decide +kernel) rfl
theorem a_X10_ease_50 : At m_X10_ease 50 (.getfield 9) 3 53 := at_i (by decide +kernel) rfl
theorem a_X10_ease_53 : At m_X10_ease 53 (.iconst 4) 1 54 := at_i (by decide +kernel) rfl
theorem a_X10_ease_54 : At m_X10_ease 54 (.iaload) 1 55 := at_i (by decide +kernel) rfl
theorem a_X10_ease_55 : AtJ m_X10_ease 55 (.if_icmp .ge 34) (34) 89 58 := at_j (by decide +kernel) (by decide) rfl
theorem a_X10_ease_58 : At m_X10_ease 58 (.iload 5) 2 60 := at_i (by decide +kernel) rfl
theorem a_X10_ease_60 : At m_X10_ease 60 (.iload 4) 2 62 := at_i (by decide +kernel) rfl
theorem a_X10_ease_62 : At m_X10_ease 62 (.iload 6) 2 64 := at_i (by decide +kernel) rfl
theorem a_X10_ease_64 : At m_X10_ease 64 (.invokestatic 185) 3 67 := at_i (by decide +kernel) rfl
theorem a_X10_ease_67 : AtJ m_X10_ease 67 (.ifCond .eq 12) (12) 79 70 := at_j (by decide +kernel) (by decide) rfl
theorem a_X10_ease_70 : At m_X10_ease 70 (.aload_n 0) 1 71 := at_i (by decide +kernel) rfl
theorem a_X10_ease_71 : At m_X10_ease 71 (.iload 6) 2 73 := at_i (by decide +kernel) rfl
theorem a_X10_ease_73 : At m_X10_ease 73 (.invokevirtual 189) 3 76 := at_i (by decide +kernel) rfl
theorem a_X10_ease_76 : AtJ m_X10_ease 76 (.goto 4) (4) 80 79 := at_j (by decide +kernel) (by decide) rfl
theorem a_X10_ease_79 : At m_X10_ease 79 (.iconst 0) 1 80 := at_i (by decide +kernel) rfl
theorem a_X10_ease_80 : At m_X10_ease 80 (.isub) 1 81 := at_i (by decide +kernel) rfl
theorem a_X10_ease_81 : At m_X10_ease 81 (.istore 5) 2 83 := at_i (by decide +kernel) rfl
theorem a_X10_ease_83 : At m_X10_ease 83 (.iinc 6 1) 3 86 := at_i (by decide +kernel) rfl
theorem a_X10_ease_86 : AtJ m_X10_ease 86 (.goto (-39)) (-39) 47 89 := at_j (by decide +kernel) (by decide) rfl
theorem a_X10_ease_89 : At m_X10_ease 89 (.iload 5) 2 91 := at_i (by decide +kernel) rfl
theorem a_X10_ease_91 : At m_X10_ease 91 (.iload_n 1) 1 92 := at_i (by decide +kernel) rfl
theorem a_X10_ease_92 : AtJ m_X10_ease 92 (.if_icmp .gt 24) (24) 116 95 := at_j (by decide +kernel) (by decide) rfl
theorem a_X10_ease_95 : At m_X10_ease 95 (.iload_n 3) 1 96 := at_i (by decide +kernel) rfl
theorem a_X10_ease_96 : AtJ m_X10_ease 96 (.ifCond .lt 15) (15) 111 99 := at_j (by decide +kernel) (by decide) rfl
theorem a_X10_ease_99 : At m_X10_ease 99 (.iload 4) 2 101 := at_i (by decide +kernel) rfl
theorem a_X10_ease_101 : At m_X10_ease 101 (.invokestatic 192) 3 104 := at_i (by decide +kernel) rfl
theorem a_X10_ease_104 : At m_X10_ease 104 (.iload_n 3) 1 105 := at_i (by decide +kernel) rfl
theorem a_X10_ease_105 : At m_X10_ease 105 (.invokestatic 192) 3 108 := at_i (by decide +kernel) rfl
theorem a_X10_ease_108 : AtJ m_X10_ease 108 (.if_icmp .ge 8) (8) 116 111 := at_j (by decide +kernel) (by decide) rfl
theorem a_X10_ease_111 : At m_X10_ease 111 (.iload 4) 2 113 := at_i (by decide +kernel) rfl
theorem a_X10_ease_113 : AtJ m_X10_ease 113 (.goto 4) (4) 117 116 := at_j (by decide +kernel) (by decide) rfl
theorem a_X10_ease_116 : At m_X10_ease 116 (.iload_n 3) 1 117 := at_i (by decide +kernel) rfl
theorem a_X10_ease_117 : At m_X10_ease 117 (.istore_n 3) 1 118 := at_i (by decide +kernel) rfl
theorem a_X10_ease_118 : At m_X10_ease 118 (.iinc 4 1) 3 121 := at_i (by decide +kernel) rfl
theorem a_X10_ease_121 : AtJ m_X10_ease 121 (.goto (-93)) (-93) 28 124 := at_j (by decide +kernel) (by decide) rfl
theorem a_X10_ease_124 : At m_X10_ease 124 (.iload_n 3) 1 125 := at_i (by decide +kernel) rfl
theorem a_X10_ease_125 : AtJ m_X10_ease 125 (.ifCond .ge 12) (12) 137 128 := at_j (by decide +kernel) (by decide) rfl
theorem a_X10_ease_128 : At m_X10_ease 128 (.aload_n 0) 1 129 := at_i (by decide +kernel) rfl
theorem a_X10_ease_129 : At m_X10_ease 129 (.ldc 184) 2 131 := at_i (by decide +kernel) rfl
theorem a_X10_ease_131 : At m_X10_ease 131 (.invokevirtual 83) 3 134 := at_i (by decide +kernel) rfl
theorem a_X10_ease_134 : AtJ m_X10_ease 134 (.goto 4) (4) 138 137 := at_j (by decide +kernel) (by decide) rfl
theorem a_X10_ease_137 : At m_X10_ease 137 (.iload_n 3) 1 138 := at_i (by decide +kernel) rfl
theorem a_X10_ease_138 : At m_X10_ease 138 (.ireturn) 1 139 := at_i (by decide +kernel) rfl
def f_X10_ease_b47 (a1 : Int32) (r_5 : Int32) (v3 : Int32) (v4 : Int32) (Q : Int32 → Mem → Prop) (K28 : Int32 → Int32 → Mem → Prop) (K47 : Int32 → Int32 → Mem → Prop) (v5 : Int32) (v6 : Int32) (h : Mem) : Prop :=
  if h 44 4 ≤ v6 then (
    if a1 < v5 then (
      ∀ v_12 : Int32, v_12 = v4 + (1 : Int32) →
      K28 v3 v_12 h)
    else (
      if v3 < 0 then (
        ∀ v_14 : Int32, v_14 = v4 + (1 : Int32) →
        K28 v4 v_14 h)
      else (
        f_X10_bits v4 h fun r_16 h_15 =>
        f_X10_bits v3 h_15 fun r_18 h_17 =>
        if r_18 ≤ r_16 then (
          ∀ v_20 : Int32, v_20 = v4 + (1 : Int32) →
          K28 v3 v_20 h_17)
        else (
          ∀ v_21 : Int32, v_21 = v4 + (1 : Int32) →
          K28 v4 v_21 h_17))))
  else (
    f_X10_has v4 v6 h fun r_23 h_22 =>
    if r_23 = 0 then (
      ∀ v_25 : Int32, v_25 = v5 - (0 : Int32) →
      ∀ v_26 : Int32, v_26 = v6 + (1 : Int32) →
      K47 v_25 v_26 h_22)
    else (
      f_X10_eases v6 h_22 fun r_28 h_27 =>
      ∀ v_29 : Int32, v_29 = v5 - r_28 →
      ∀ v_30 : Int32, v_30 = v6 + (1 : Int32) →
      K47 v_29 v_30 h_27))
set_option maxRecDepth 20000 in
theorem t_X10_ease_b47 (a1 : Int32) (r_5 : Int32) (v3 : Int32) (v4 : Int32)   (Q : Int32 → Mem → Prop) (K28 : Int32 → Int32 → Mem → Prop) (hK28 : ∀ (v3 : Int32) (v4 : Int32) h, K28 v3 v4 h → EV m_X10_ease (GI Q) 28 [(0, .ref 43), (1, .int a1), (2, .int r_5), (3, .int v3), (4, .int v4)] [] h) : ∀ (n : Nat) (v5 : Int32) (v6 : Int32) (h : Mem), gm_it2 (f_X10_ease_b47 a1 r_5 v3 v4 Q K28) n v5 v6 h → EV m_X10_ease (GI Q) 47 [(0, .ref 43), (1, .int a1), (2, .int r_5), (3, .int v3), (4, .int v4), (5, .int v5), (6, .int v6)] [] h := by
  refine ge_loop2 (P := fun v5 v6 h => EV m_X10_ease (GI Q) 47 [(0, .ref 43), (1, .int a1), (2, .int r_5), (3, .int v3), (4, .int v4), (5, .int v5), (6, .int v6)] [] h) (fun K47 hK47 v5 v6 h hyp => ?_)
  unfold f_X10_ease_b47 at hyp
  refine ge_iload a_X10_ease_47 6 rfl ?_
  refine ge_aload_n a_X10_ease_49 rfl 0 rfl ?_
  refine ge_getR (q := 44) a_X10_ease_50 fd_X10_9 (rfl : gm_cls 43 = 9) rfl ?_
  refine ge_iconst (v := 4) a_X10_ease_53 rfl ?_
  refine ge_iald (j := 4) a_X10_ease_54 ga_44 li_4_62.1 li_4_62.2 ?_
  refine ge_icmp_ge a_X10_ease_55 (fun c_10 => ?_) (fun c_10 => ?_)
  · have hyp := gm_ip hyp c_10
    refine ge_iload a_X10_ease_89 5 rfl ?_
    refine ge_iload_n a_X10_ease_91 rfl 1 rfl ?_
    refine ge_icmp_gt a_X10_ease_92 (fun c_11 => ?_) (fun c_11 => ?_)
    · have hyp := gm_ip hyp c_11
      refine ge_iload_n a_X10_ease_116 rfl 3 rfl ?_
      refine ge_istore_n (lv' := [(3, .int v3), (0, .ref 43), (1, .int a1), (2, .int r_5), (4, .int v4), (5, .int v5), (6, .int v6)]) a_X10_ease_117 rfl (Nat.le_of_ble_eq_true rfl) rfl ?_
      obtain ⟨v_12, ev_12⟩ : ∃ y : Int32, y = v4 + (1 : Int32) := ⟨_, rfl⟩
      have hyp := hyp v_12 ev_12
      refine ge_iinc (v := v_12) (lv' := [(4, .int v_12), (3, .int v3), (0, .ref 43), (1, .int a1), (2, .int r_5), (5, .int v5), (6, .int v6)]) a_X10_ease_118 4 rfl ev_12.symm (Nat.le_of_ble_eq_true rfl) rfl ?_
      refine ge_goto a_X10_ease_121 ?_
      exact ge_sub [2, 3, 4, 1, 0] rfl (hK28 v3 v_12 h hyp)
    · have hyp := gm_in hyp c_11
      refine ge_iload_n a_X10_ease_95 rfl 3 rfl ?_
      refine ge_if_lt a_X10_ease_96 (fun c_13 => ?_) (fun c_13 => ?_)
      · have hyp := gm_ip hyp c_13
        refine ge_iload a_X10_ease_111 4 rfl ?_
        refine ge_goto a_X10_ease_113 ?_
        refine ge_istore_n (lv' := [(3, .int v4), (0, .ref 43), (1, .int a1), (2, .int r_5), (4, .int v4), (5, .int v5), (6, .int v6)]) a_X10_ease_117 rfl (Nat.le_of_ble_eq_true rfl) rfl ?_
        obtain ⟨v_14, ev_14⟩ : ∃ y : Int32, y = v4 + (1 : Int32) := ⟨_, rfl⟩
        have hyp := hyp v_14 ev_14
        refine ge_iinc (v := v_14) (lv' := [(4, .int v_14), (3, .int v4), (0, .ref 43), (1, .int a1), (2, .int r_5), (5, .int v5), (6, .int v6)]) a_X10_ease_118 4 rfl ev_14.symm (Nat.le_of_ble_eq_true rfl) rfl ?_
        refine ge_goto a_X10_ease_121 ?_
        exact ge_sub [2, 3, 4, 1, 0] rfl (hK28 v4 v_14 h hyp)
      · have hyp := gm_in hyp c_13
        refine ge_iload a_X10_ease_99 4 rfl ?_
        refine ge_cSI [.int v4] (rest := []) a_X10_ease_101 ok_X10_bits lk_X10_192 ⟨Nat.le_of_ble_eq_true rfl, Nat.le_of_ble_eq_true rfl⟩ rfl rfl (Nat.le_of_ble_eq_true rfl) (t_X10_bits v4  h _ hyp) (fun r_16 h_15 hyp => ?_)
        refine ge_iload_n a_X10_ease_104 rfl 3 rfl ?_
        refine ge_cSI [.int v3] (rest := [.int r_16]) a_X10_ease_105 ok_X10_bits lk_X10_192 ⟨Nat.le_of_ble_eq_true rfl, Nat.le_of_ble_eq_true rfl⟩ rfl rfl (Nat.le_of_ble_eq_true rfl) (t_X10_bits v3  h_15 _ hyp) (fun r_18 h_17 hyp => ?_)
        refine ge_icmp_ge a_X10_ease_108 (fun c_19 => ?_) (fun c_19 => ?_)
        · have hyp := gm_ip hyp c_19
          refine ge_iload_n a_X10_ease_116 rfl 3 rfl ?_
          refine ge_istore_n (lv' := [(3, .int v3), (0, .ref 43), (1, .int a1), (2, .int r_5), (4, .int v4), (5, .int v5), (6, .int v6)]) a_X10_ease_117 rfl (Nat.le_of_ble_eq_true rfl) rfl ?_
          obtain ⟨v_20, ev_20⟩ : ∃ y : Int32, y = v4 + (1 : Int32) := ⟨_, rfl⟩
          have hyp := hyp v_20 ev_20
          refine ge_iinc (v := v_20) (lv' := [(4, .int v_20), (3, .int v3), (0, .ref 43), (1, .int a1), (2, .int r_5), (5, .int v5), (6, .int v6)]) a_X10_ease_118 4 rfl ev_20.symm (Nat.le_of_ble_eq_true rfl) rfl ?_
          refine ge_goto a_X10_ease_121 ?_
          exact ge_sub [2, 3, 4, 1, 0] rfl (hK28 v3 v_20 h_17 hyp)
        · have hyp := gm_in hyp c_19
          refine ge_iload a_X10_ease_111 4 rfl ?_
          refine ge_goto a_X10_ease_113 ?_
          refine ge_istore_n (lv' := [(3, .int v4), (0, .ref 43), (1, .int a1), (2, .int r_5), (4, .int v4), (5, .int v5), (6, .int v6)]) a_X10_ease_117 rfl (Nat.le_of_ble_eq_true rfl) rfl ?_
          obtain ⟨v_21, ev_21⟩ : ∃ y : Int32, y = v4 + (1 : Int32) := ⟨_, rfl⟩
          have hyp := hyp v_21 ev_21
          refine ge_iinc (v := v_21) (lv' := [(4, .int v_21), (3, .int v4), (0, .ref 43), (1, .int a1), (2, .int r_5), (5, .int v5), (6, .int v6)]) a_X10_ease_118 4 rfl ev_21.symm (Nat.le_of_ble_eq_true rfl) rfl ?_
          refine ge_goto a_X10_ease_121 ?_
          exact ge_sub [2, 3, 4, 1, 0] rfl (hK28 v4 v_21 h_17 hyp)
  · have hyp := gm_in hyp c_10
    refine ge_iload a_X10_ease_58 5 rfl ?_
    refine ge_iload a_X10_ease_60 4 rfl ?_
    refine ge_iload a_X10_ease_62 6 rfl ?_
    refine ge_cSI [.int v4, .int v6] (rest := [.int v5]) a_X10_ease_64 ok_X10_has lk_X10_185 ⟨Nat.le_of_ble_eq_true rfl, Nat.le_of_ble_eq_true rfl⟩ rfl rfl (Nat.le_of_ble_eq_true rfl) (t_X10_has v4 v6  h _ hyp) (fun r_23 h_22 hyp => ?_)
    refine ge_if_eq a_X10_ease_67 (fun c_24 => ?_) (fun c_24 => ?_)
    · have hyp := gm_ip hyp c_24
      refine ge_iconst (v := 0) a_X10_ease_79 rfl ?_
      refine ge_isub a_X10_ease_80 ?_
      refine ge_topi (fun v_25 ev_25 => ?_)
      have hyp := hyp v_25 ev_25
      refine ge_istore (lv' := [(5, .int v_25), (0, .ref 43), (1, .int a1), (2, .int r_5), (3, .int v3), (4, .int v4), (6, .int v6)]) a_X10_ease_81 (Nat.le_of_ble_eq_true rfl) rfl ?_
      obtain ⟨v_26, ev_26⟩ : ∃ y : Int32, y = v6 + (1 : Int32) := ⟨_, rfl⟩
      have hyp := hyp v_26 ev_26
      refine ge_iinc (v := v_26) (lv' := [(6, .int v_26), (5, .int v_25), (0, .ref 43), (1, .int a1), (2, .int r_5), (3, .int v3), (4, .int v4)]) a_X10_ease_83 6 rfl ev_26.symm (Nat.le_of_ble_eq_true rfl) rfl ?_
      refine ge_goto a_X10_ease_86 ?_
      exact ge_sub [2, 3, 4, 5, 6, 1, 0] rfl (hK47 v_25 v_26 h_22 hyp)
    · have hyp := gm_in hyp c_24
      refine ge_aload_n a_X10_ease_70 rfl 0 rfl ?_
      refine ge_iload a_X10_ease_71 6 rfl ?_
      refine ge_cVI [.int v6] (rest := [.int v5]) a_X10_ease_73 ok_X10_eases lk_X10_189 ⟨Nat.le_of_ble_eq_true rfl, Nat.le_of_ble_eq_true rfl⟩ (rfl : gm_cls 43 = 9) vc_9 (by decide) rfl rfl (Nat.le_of_ble_eq_true rfl) (t_X10_eases v6  h_22 _ hyp) (fun r_28 h_27 hyp => ?_)
      refine ge_goto a_X10_ease_76 ?_
      refine ge_isub a_X10_ease_80 ?_
      refine ge_topi (fun v_29 ev_29 => ?_)
      have hyp := hyp v_29 ev_29
      refine ge_istore (lv' := [(5, .int v_29), (0, .ref 43), (1, .int a1), (2, .int r_5), (3, .int v3), (4, .int v4), (6, .int v6)]) a_X10_ease_81 (Nat.le_of_ble_eq_true rfl) rfl ?_
      obtain ⟨v_30, ev_30⟩ : ∃ y : Int32, y = v6 + (1 : Int32) := ⟨_, rfl⟩
      have hyp := hyp v_30 ev_30
      refine ge_iinc (v := v_30) (lv' := [(6, .int v_30), (5, .int v_29), (0, .ref 43), (1, .int a1), (2, .int r_5), (3, .int v3), (4, .int v4)]) a_X10_ease_83 6 rfl ev_30.symm (Nat.le_of_ble_eq_true rfl) rfl ?_
      refine ge_goto a_X10_ease_86 ?_
      exact ge_sub [2, 3, 4, 5, 6, 1, 0] rfl (hK47 v_29 v_30 h_27 hyp)
def f_X10_ease_b28 (a1 : Int32) (r_5 : Int32) (Q : Int32 → Mem → Prop)  (K28 : Int32 → Int32 → Mem → Prop) (v3 : Int32) (v4 : Int32) (h : Mem) : Prop :=
  if (1 : Int32) <<< ((h 44 4) &&& 31) ≤ v4 then (
    if 0 ≤ v3 then (
      Q v3 h)
    else (
      f_X10_finding (-1000004 : Int32) h fun r_9 h_8 =>
      Q r_9 h_8))
  else (
    gm_it2 (f_X10_ease_b47 a1 r_5 v3 v4 Q K28) gm_F r_5 (0 : Int32) h)
set_option maxRecDepth 20000 in
theorem t_X10_ease_b28 (a1 : Int32) (r_5 : Int32)   (Q : Int32 → Mem → Prop)   : ∀ (n : Nat) (v3 : Int32) (v4 : Int32) (h : Mem), gm_it2 (f_X10_ease_b28 a1 r_5 Q ) n v3 v4 h → EV m_X10_ease (GI Q) 28 [(0, .ref 43), (1, .int a1), (2, .int r_5), (3, .int v3), (4, .int v4)] [] h := by
  refine ge_loop2 (P := fun v3 v4 h => EV m_X10_ease (GI Q) 28 [(0, .ref 43), (1, .int a1), (2, .int r_5), (3, .int v3), (4, .int v4)] [] h) (fun K28 hK28 v3 v4 h hyp => ?_)
  unfold f_X10_ease_b28 at hyp
  refine ge_iload a_X10_ease_28 4 rfl ?_
  refine ge_iconst (v := 1) a_X10_ease_30 rfl ?_
  refine ge_aload_n a_X10_ease_31 rfl 0 rfl ?_
  refine ge_getR (q := 44) a_X10_ease_32 fd_X10_9 (rfl : gm_cls 43 = 9) rfl ?_
  refine ge_iconst (v := 4) a_X10_ease_35 rfl ?_
  refine ge_iald (j := 4) a_X10_ease_36 ga_44 li_4_62.1 li_4_62.2 ?_
  refine ge_ishl a_X10_ease_37 ?_
  refine ge_icmp_ge a_X10_ease_38 (fun c_6 => ?_) (fun c_6 => ?_)
  · have hyp := gm_ip hyp c_6
    refine ge_iload_n a_X10_ease_124 rfl 3 rfl ?_
    refine ge_if_ge a_X10_ease_125 (fun c_7 => ?_) (fun c_7 => ?_)
    · have hyp := gm_ip hyp c_7
      refine ge_iload_n a_X10_ease_137 rfl 3 rfl ?_
      exact ge_iret rfl a_X10_ease_138 hyp
    · have hyp := gm_in hyp c_7
      refine ge_aload_n a_X10_ease_128 rfl 0 rfl ?_
      refine ge_ldc (v := -1000004) a_X10_ease_129 ct_X10_184 ?_
      refine ge_cVI [.int (-1000004 : Int32)] (rest := []) a_X10_ease_131 ok_X10_finding lk_X10_83 ⟨Nat.le_of_ble_eq_true rfl, Nat.le_of_ble_eq_true rfl⟩ (rfl : gm_cls 43 = 9) vc_9 (by decide) rfl rfl (Nat.le_of_ble_eq_true rfl) (t_X10_finding (-1000004 : Int32)  h _ hyp) (fun r_9 h_8 hyp => ?_)
      refine ge_goto a_X10_ease_134 ?_
      exact ge_iret rfl a_X10_ease_138 hyp
  · have hyp := gm_in hyp c_6
    refine ge_iload_n a_X10_ease_41 rfl 2 rfl ?_
    refine ge_istore (lv' := [(5, .int r_5), (0, .ref 43), (1, .int a1), (2, .int r_5), (3, .int v3), (4, .int v4)]) a_X10_ease_42 (Nat.le_of_ble_eq_true rfl) rfl ?_
    refine ge_iconst (v := 0) a_X10_ease_44 rfl ?_
    refine ge_istore (lv' := [(6, .int (0 : Int32)), (5, .int r_5), (0, .ref 43), (1, .int a1), (2, .int r_5), (3, .int v3), (4, .int v4)]) a_X10_ease_45 (Nat.le_of_ble_eq_true rfl) rfl ?_
    exact ge_sub [2, 3, 4, 5, 6, 1, 0] rfl (t_X10_ease_b47 a1 r_5 v3 v4   Q K28 hK28 gm_F r_5 (0 : Int32) h hyp)
def f_X10_ease (a1 : Int32) (h : Mem) (Q : Int32 → Mem → Prop) : Prop :=
  f_X10_within a1 (0 : Int32) (999 : Int32) h fun r_2 h_1 =>
  if r_2 = 0 then (
    f_X10_finding (-1000001 : Int32) h_1 fun r_32 h_31 =>
    Q r_32 h_31)
  else (
    f_X10_restTrips  h_1 fun r_5 h_4 =>
    gm_it2 (f_X10_ease_b28 a1 r_5 Q ) gm_F (-1 : Int32) (0 : Int32) h_4)
set_option maxRecDepth 20000 in
theorem t_X10_ease (a1 : Int32)  (h : Mem) (Q : Int32 → Mem → Prop) (hyp : f_X10_ease a1 h Q) : Cn m_X10_ease [.ref 43, .int a1] h (GI Q) := by
  refine ge_entry (lv := [(0, .ref 43), (1, .int a1)]) pn_X10 (Nat.le_of_ble_eq_true rfl) rfl ?_
  unfold f_X10_ease at hyp
  refine ge_iload_n a_X10_ease_0 rfl 1 rfl ?_
  refine ge_iconst (v := 0) a_X10_ease_1 rfl ?_
  refine ge_sipush (v := 999) a_X10_ease_2 rfl ?_
  refine ge_cSI [.int a1, .int (0 : Int32), .int (999 : Int32)] (rest := []) a_X10_ease_5 ok_X10_within lk_X10_71 ⟨Nat.le_of_ble_eq_true rfl, Nat.le_of_ble_eq_true rfl⟩ rfl rfl (Nat.le_of_ble_eq_true rfl) (t_X10_within a1 (0 : Int32) (999 : Int32)  h _ hyp) (fun r_2 h_1 hyp => ?_)
  refine ge_if_ne a_X10_ease_8 (fun c_3 => ?_) (fun c_3 => ?_)
  · have hyp := gm_in hyp c_3
    refine ge_aload_n a_X10_ease_18 rfl 0 rfl ?_
    refine ge_cVI [] (rest := []) a_X10_ease_19 ok_X10_restTrips lk_X10_155 ⟨Nat.le_of_ble_eq_true rfl, Nat.le_of_ble_eq_true rfl⟩ (rfl : gm_cls 43 = 9) vc_9 (by decide) rfl rfl (Nat.le_of_ble_eq_true rfl) (t_X10_restTrips   h_1 _ hyp) (fun r_5 h_4 hyp => ?_)
    refine ge_istore_n (lv' := [(2, .int r_5), (0, .ref 43), (1, .int a1)]) a_X10_ease_22 rfl (Nat.le_of_ble_eq_true rfl) rfl ?_
    refine ge_iconst (v := -1) a_X10_ease_23 rfl ?_
    refine ge_istore_n (lv' := [(3, .int (-1 : Int32)), (2, .int r_5), (0, .ref 43), (1, .int a1)]) a_X10_ease_24 rfl (Nat.le_of_ble_eq_true rfl) rfl ?_
    refine ge_iconst (v := 0) a_X10_ease_25 rfl ?_
    refine ge_istore (lv' := [(4, .int (0 : Int32)), (3, .int (-1 : Int32)), (2, .int r_5), (0, .ref 43), (1, .int a1)]) a_X10_ease_26 (Nat.le_of_ble_eq_true rfl) rfl ?_
    exact ge_sub [3, 4, 2, 1, 0] rfl (t_X10_ease_b28 a1 r_5   Q   gm_F (-1 : Int32) (0 : Int32) h_4 hyp)
  · have hyp := gm_ip hyp c_3
    refine ge_aload_n a_X10_ease_11 rfl 0 rfl ?_
    refine ge_ldc (v := -1000001) a_X10_ease_12 ct_X10_66 ?_
    refine ge_cVI [.int (-1000001 : Int32)] (rest := []) a_X10_ease_14 ok_X10_finding lk_X10_83 ⟨Nat.le_of_ble_eq_true rfl, Nat.le_of_ble_eq_true rfl⟩ (rfl : gm_cls 43 = 9) vc_9 (by decide) rfl rfl (Nat.le_of_ble_eq_true rfl) (t_X10_finding (-1000001 : Int32)  h_1 _ hyp) (fun r_32 h_31 hyp => ?_)
    exact ge_iret rfl a_X10_ease_17 hyp
