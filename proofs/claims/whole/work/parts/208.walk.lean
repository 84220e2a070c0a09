theorem a_X10_image_0 : At m_X10_image 0 (.aload_n 0) 1 1 := at_i (by decide +kernel) rfl
theorem a_X10_image_1 : At m_X10_image 1 (.getfield 9) 3 4 := at_i (by decide +kernel) rfl
theorem a_X10_image_4 : At m_X10_image 4 (.aload_n 0) 1 5 := at_i (by decide +kernel) rfl
theorem a_X10_image_5 : At m_X10_image 5 (.getfield 13) 3 8 := at_i (by decide +kernel) rfl
theorem a_X10_image_8 : At m_X10_image 8 (.invokestatic 67) 3 11 := at_i (by decide +kernel) rfl
theorem a_X10_image_11 : At m_X10_image 11 (.aload_n 0) 1 12 := at_i (by decide +kernel) rfl
theorem a_X10_image_12 : At m_X10_image 12 (.iconst 1) 1 13 := at_i (by decide +kernel) rfl
theorem a_X10_image_13 : At m_X10_image 13 (.putfield 350) 3 16 := at_i (by decide +kernel) rfl
theorem a_X10_image_16 : At m_X10_image 16 (.iconst 1) 1 17 := at_i (by decide +kernel) rfl
theorem a_X10_image_17 : At m_X10_image 17 (.ireturn) 1 18 := at_i (by decide +kernel) rfl
def f_X10_image  (h : Mem) (Q : Int32 → Mem → Prop) : Prop :=
  f_X10_copyRow 44 62 45 62 h fun h_1 =>
  ∀ h_2 : Mem, h_2 = gm_st h_1 43 3 (1 : Int32) →
  Q (1 : Int32) h_2
set_option maxRecDepth 20000 in
theorem t_X10_image   (h : Mem) (Q : Int32 → Mem → Prop) (hyp : f_X10_image  h Q) : Cn m_X10_image [.ref 43] h (GI Q) := by
  refine ge_entry (lv := [(0, .ref 43)]) pn_X10 (Nat.le_of_ble_eq_true rfl) rfl ?_
  unfold f_X10_image at hyp
  refine ge_aload_n a_X10_image_0 rfl 0 rfl ?_
  refine ge_getR (q := 44) a_X10_image_1 fd_X10_9 (rfl : gm_cls 43 = 9) rfl ?_
  refine ge_aload_n a_X10_image_4 rfl 0 rfl ?_
  refine ge_getR (q := 45) a_X10_image_5 fd_X10_13 (rfl : gm_cls 43 = 9) rfl ?_
  refine ge_cSV [.ref 44, .ref 45] (rest := []) a_X10_image_8 ok_X10_copyRow lk_X10_67 ⟨Nat.le_of_ble_eq_true rfl, Nat.le_of_ble_eq_true rfl⟩ rfl rfl (Nat.le_of_ble_eq_true rfl) (t_X10_copyRow 44 62 45 62 ga_44 ga_45 h _ hyp) (fun h_1 hyp => ?_)
  refine ge_aload_n a_X10_image_11 rfl 0 rfl ?_
  refine ge_iconst (v := 1) a_X10_image_12 rfl ?_
  refine ge_putZ a_X10_image_13 pd_X10_350 (rfl : gm_cls 43 = 9) gm_b1 ?_
  refine ge_nm (fun h_2 eh_2 => ?_)
  have hyp := hyp h_2 eh_2
  refine ge_iconst (v := 1) a_X10_image_16 rfl ?_
  exact ge_iret rfl a_X10_image_17 hyp

theorem a_X10_undo_0 : At m_X10_undo 0 (.aload_n 0) 1 1 := at_i (by decide +kernel) rfl
theorem a_X10_undo_1 : At m_X10_undo 1 (.getfield 350) 3 4 := at_i (by decide +kernel) rfl
theorem a_X10_undo_4 : AtJ m_X10_undo 4 (.ifCond .ne 10) (10) 14 7 := at_j (by decide +kernel) (by decide) rfl
theorem a_X10_undo_7 : At m_X10_undo 7 (.aload_n 0) 1 8 := at_i (by decide +kernel) rfl
theorem a_X10_undo_8 : At m_X10_undo 8 (.ldc 184) 2 10 := at_i (by decide +kernel) rfl
theorem a_X10_undo_10 : At m_X10_undo 10 (.invokevirtual 83) 3 13 := at_i (by decide +kernel) rfl
theorem a_X10_undo_13 : At m_X10_undo 13 (.ireturn) 1 14 := at_i (by decide +kernel) rfl
theorem a_X10_undo_14 : At m_X10_undo 14 (.aload_n 0) 1 15 := at_i (by decide +kernel) rfl
theorem a_X10_undo_15 : At m_X10_undo 15 (.getfield 13) 3 18 := at_i (by decide +kernel) rfl
theorem a_X10_undo_18 : At m_X10_undo 18 (.aload_n 0) 1 19 := at_i (by decide +kernel) rfl
theorem a_X10_undo_19 : At m_X10_undo 19 (.getfield 9) 3 22 := at_i (by decide +kernel) rfl
theorem a_X10_undo_22 : At m_X10_undo 22 (.invokestatic 67) 3 25 := at_i (by decide +kernel) rfl
theorem a_X10_undo_25 : At m_X10_undo 25 (.aload_n 0) 1 26 := at_i (by decide +kernel) rfl
theorem a_X10_undo_26 : At m_X10_undo 26 (.getfield 9) 3 29 := at_i (by decide +kernel) rfl
theorem a_X10_undo_29 : At m_X10_undo 29 (.iconst 1) 1 30 := at_i (by decide +kernel) rfl
theorem a_X10_undo_30 : At m_X10_undo 30 (.iaload) 1 31 := at_i (by decide +kernel) rfl
theorem a_X10_undo_31 : At m_X10_undo 31 (.ireturn) 1 32 := at_i (by decide +kernel) rfl
def f_X10_undo  (h : Mem) (Q : Int32 → Mem → Prop) : Prop :=
  if h 43 3 = 0 then (
    f_X10_finding (-1000004 : Int32) h fun r_4 h_3 =>
    Q r_4 h_3)
  else (
    f_X10_copyRow 45 62 44 62 h fun h_2 =>
    Q (h_2 44 1) h_2)
set_option maxRecDepth 20000 in
theorem t_X10_undo   (h : Mem) (Q : Int32 → Mem → Prop) (hyp : f_X10_undo  h Q) : Cn m_X10_undo [.ref 43] h (GI Q) := by
  refine ge_entry (lv := [(0, .ref 43)]) pn_X10 (Nat.le_of_ble_eq_true rfl) rfl ?_
  unfold f_X10_undo at hyp
  refine ge_aload_n a_X10_undo_0 rfl 0 rfl ?_
  refine ge_getI a_X10_undo_1 fd_X10_350 (rfl : gm_cls 43 = 9) ?_
  refine ge_if_ne a_X10_undo_4 (fun c_1 => ?_) (fun c_1 => ?_)
  · have hyp := gm_in hyp c_1
    refine ge_aload_n a_X10_undo_14 rfl 0 rfl ?_
    refine ge_getR (q := 45) a_X10_undo_15 fd_X10_13 (rfl : gm_cls 43 = 9) rfl ?_
    refine ge_aload_n a_X10_undo_18 rfl 0 rfl ?_
    refine ge_getR (q := 44) a_X10_undo_19 fd_X10_9 (rfl : gm_cls 43 = 9) rfl ?_
    refine ge_cSV [.ref 45, .ref 44] (rest := []) a_X10_undo_22 ok_X10_copyRow lk_X10_67 ⟨Nat.le_of_ble_eq_true rfl, Nat.le_of_ble_eq_true rfl⟩ rfl rfl (Nat.le_of_ble_eq_true rfl) (t_X10_copyRow 45 62 44 62 ga_45 ga_44 h _ hyp) (fun h_2 hyp => ?_)
    refine ge_aload_n a_X10_undo_25 rfl 0 rfl ?_
    refine ge_getR (q := 44) a_X10_undo_26 fd_X10_9 (rfl : gm_cls 43 = 9) rfl ?_
    refine ge_iconst (v := 1) a_X10_undo_29 rfl ?_
    refine ge_iald (j := 1) a_X10_undo_30 ga_44 li_1_62.1 li_1_62.2 ?_
    exact ge_iret rfl a_X10_undo_31 hyp
  · have hyp := gm_ip hyp c_1
    refine ge_aload_n a_X10_undo_7 rfl 0 rfl ?_
    refine ge_ldc (v := -1000004) a_X10_undo_8 ct_X10_184 ?_
    refine ge_cVI [.int (-1000004 : Int32)] (rest := []) a_X10_undo_10 ok_X10_finding lk_X10_83 ⟨Nat.le_of_ble_eq_true rfl, Nat.le_of_ble_eq_true rfl⟩ (rfl : gm_cls 43 = 9) vc_9 (by decide) rfl rfl (Nat.le_of_ble_eq_true rfl) (t_X10_finding (-1000004 : Int32)  h _ hyp) (fun r_4 h_3 hyp => ?_)
    exact ge_iret rfl a_X10_undo_13 hyp

theorem a_X10_tear_0 : At m_X10_tear 0 (.aload_n 0) 1 1 := at_i (by decide +kernel) rfl
theorem a_X10_tear_1 : At m_X10_tear 1 (.getfield 350) 3 4 := at_i (by decide +kernel) rfl
theorem a_X10_tear_4 : AtJ m_X10_tear 4 (.ifCond .eq 7) (7) 11 7 := at_j (by decide +kernel) (by decide) rfl
theorem a_X10_tear_7 : At m_X10_tear 7 (.iconst 1) 1 8 := at_i (by decide +kernel) rfl
theorem a_X10_tear_8 : AtJ m_X10_tear 8 (.goto 4) (4) 12 11 := at_j (by decide +kernel) (by decide) rfl
theorem a_X10_tear_11 : At m_X10_tear 11 (.iconst 0) 1 12 := at_i (by decide +kernel) rfl
theorem a_X10_tear_12 : At m_X10_tear 12 (.istore_n 1) 1 13 := at_i (by decide +kernel) rfl
theorem a_X10_tear_13 : At m_X10_tear 13 (.aload_n 0) 1 14 := at_i (by decide +kernel) rfl
theorem a_X10_tear_14 : At m_X10_tear 14 (.iconst 0) 1 15 := at_i (by decide +kernel) rfl
theorem a_X10_tear_15 : At m_X10_tear 15 (.putfield 350) 3 18 := at_i (by decide +kernel) rfl
theorem a_X10_tear_18 : At m_X10_tear 18 (.iload_n 1) 1 19 := at_i (by decide +kernel) rfl
theorem a_X10_tear_19 : At m_X10_tear 19 (.ireturn) 1 20 := at_i (by decide +kernel) rfl
def f_X10_tear  (h : Mem) (Q : Int32 → Mem → Prop) : Prop :=
  if h 43 3 = 0 then (
    ∀ h_2 : Mem, h_2 = gm_st h 43 3 (0 : Int32) →
    Q (0 : Int32) h_2)
  else (
    ∀ h_3 : Mem, h_3 = gm_st h 43 3 (0 : Int32) →
    Q (1 : Int32) h_3)
set_option maxRecDepth 20000 in
theorem t_X10_tear   (h : Mem) (Q : Int32 → Mem → Prop) (hyp : f_X10_tear  h Q) : Cn m_X10_tear [.ref 43] h (GI Q) := by
  refine ge_entry (lv := [(0, .ref 43)]) pn_X10 (Nat.le_of_ble_eq_true rfl) rfl ?_
  unfold f_X10_tear at hyp
  refine ge_aload_n a_X10_tear_0 rfl 0 rfl ?_
  refine ge_getI a_X10_tear_1 fd_X10_350 (rfl : gm_cls 43 = 9) ?_
  refine ge_if_eq a_X10_tear_4 (fun c_1 => ?_) (fun c_1 => ?_)
  · have hyp := gm_ip hyp c_1
    refine ge_iconst (v := 0) a_X10_tear_11 rfl ?_
    refine ge_istore_n (lv' := [(1, .int (0 : Int32)), (0, .ref 43)]) a_X10_tear_12 rfl (Nat.le_of_ble_eq_true rfl) rfl ?_
    refine ge_aload_n a_X10_tear_13 rfl 1 rfl ?_
    refine ge_iconst (v := 0) a_X10_tear_14 rfl ?_
    refine ge_putZ a_X10_tear_15 pd_X10_350 (rfl : gm_cls 43 = 9) gm_b0 ?_
    refine ge_nm (fun h_2 eh_2 => ?_)
    have hyp := hyp h_2 eh_2
    refine ge_iload_n a_X10_tear_18 rfl 0 rfl ?_
    exact ge_iret rfl a_X10_tear_19 hyp
  · have hyp := gm_in hyp c_1
    refine ge_iconst (v := 1) a_X10_tear_7 rfl ?_
    refine ge_goto a_X10_tear_8 ?_
    refine ge_istore_n (lv' := [(1, .int (1 : Int32)), (0, .ref 43)]) a_X10_tear_12 rfl (Nat.le_of_ble_eq_true rfl) rfl ?_
    refine ge_aload_n a_X10_tear_13 rfl 1 rfl ?_
    refine ge_iconst (v := 0) a_X10_tear_14 rfl ?_
    refine ge_putZ a_X10_tear_15 pd_X10_350 (rfl : gm_cls 43 = 9) gm_b0 ?_
    refine ge_nm (fun h_3 eh_3 => ?_)
    have hyp := hyp h_3 eh_3
    refine ge_iload_n a_X10_tear_18 rfl 0 rfl ?_
    exact ge_iret rfl a_X10_tear_19 hyp

theorem a_X10_count_0 : At m_X10_count 0 (.iconst 0) 1 1 := at_i (by decide +kernel) rfl
theorem a_X10_count_1 : At m_X10_count 1 (.istore_n 2) 1 2 := at_i (by decide +kernel) rfl
theorem a_X10_count_2 : At m_X10_count 2 (.iload_n 1) 1 3 := at_i (by decide +kernel) rfl
theorem a_X10_count_3 : decode cX10_count 3 = .ok (.tableswitch 145 0 7 #[45, 52, 59, 66, 66, 97, 102, 109], 45) := by decide +kernel
theorem a_X10_count_48 : At m_X10_count 48 (.aload_n 0) 1 49 := at_i (by decide +kernel) rfl
theorem a_X10_count_49 : At m_X10_count 49 (.getfield 9) 3 52 := at_i (by decide +kernel) rfl
theorem a_X10_count_52 : At m_X10_count 52 (.iconst 1) 1 53 := at_i (by decide +kernel) rfl
theorem a_X10_count_53 : At m_X10_count 53 (.iaload) 1 54 := at_i (by decide +kernel) rfl
theorem a_X10_count_54 : At m_X10_count 54 (.ireturn) 1 55 := at_i (by decide +kernel) rfl
theorem a_X10_count_55 : At m_X10_count 55 (.aload_n 0) 1 56 := at_i (by decide +kernel) rfl
theorem a_X10_count_56 : At m_X10_count 56 (.getfield 9) 3 59 := at_i (by decide +kernel) rfl
theorem a_X10_count_59 : At m_X10_count 59 (.iconst 4) 1 60 := at_i (by decide +kernel) rfl
theorem a_X10_count_60 : At m_X10_count 60 (.iaload) 1 61 := at_i (by decide +kernel) rfl
theorem a_X10_count_61 : At m_X10_count 61 (.ireturn) 1 62 := at_i (by decide +kernel) rfl
theorem a_X10_count_62 : At m_X10_count 62 (.aload_n 0) 1 63 := at_i (by decide +kernel) rfl
theorem a_X10_count_63 : At m_X10_count 63 (.getfield 9) 3 66 := at_i (by decide +kernel) rfl
theorem a_X10_count_66 : At m_X10_count 66 (.iconst 0) 1 67 := at_i (by decide +kernel) rfl
theorem a_X10_count_67 : At m_X10_count 67 (.iaload) 1 68 := at_i (by decide +kernel) rfl
theorem a_X10_count_68 : At m_X10_count 68 (.ireturn) 1 69 := at_i (by decide +kernel) rfl
theorem a_X10_count_69 : At m_X10_count 69 (.iconst 0) 1 70 := at_i (by decide +kernel) rfl
theorem a_X10_count_70 : At m_X10_count 70 (.istore_n 3) 1 71 := at_i (by decide +kernel) rfl
theorem a_X10_count_71 : At m_X10_count 71 (.iload_n 3) 1 72 := at_i (by decide +kernel) rfl
theorem a_X10_count_72 : At m_X10_count 72 (.aload_n 0) 1 73 := at_i (by decide +kernel) rfl
theorem a_X10_count_73 : At m_X10_count 73 (.getfield 9) 3 76 := at_i (by decide +kernel) rfl
theorem a_X10_count_76 : At m_X10_count 76 (.iconst 4) 1 77 := at_i (by decide +kernel) rfl
theorem a_X10_count_77 : At m_X10_count 77 (.iaload) 1 78 := at_i (by decide +kernel) rfl
theorem a_X10_count_78 : AtJ m_X10_count 78 (.if_icmp .ge 20) (20) 98 81 := at_j (by decide +kernel) (by decide) rfl
theorem a_X10_count_81 : At m_X10_count 81 (.iload_n 2) 1 82 := at_i (by decide +kernel) rfl
theorem a_X10_count_82 : At m_X10_count 82 (.aload_n 0) 1 83 := at_i (by decide +kernel) rfl
theorem a_X10_count_83 : At m_X10_count 83 (.iload_n 3) 1 84 := at_i (by decide +kernel) rfl
theorem a_X10_count_84 : At m_X10_count 84 (.iload_n 1) 1 85 := at_i (by decide +kernel) rfl
theorem a_X10_count_85 : At m_X10_count 85 (.iconst 2) 1 86 := at_i (by decide +kernel) rfl
theorem a_X10_count_86 : At m_X10_count 86 (.isub) 1 87 := at_i (by decide +kernel) rfl
theorem a_X10_count_87 : At m_X10_count 87 (.invokevirtual 95) 3 90 := at_i (by decide +kernel) rfl
theorem a_X10_count_90 : At m_X10_count 90 (.iadd) 1 91 := at_i (by decide +kernel) rfl
theorem a_X10_count_91 : At m_X10_count 91 (.istore_n 2) 1 92 := at_i (by decide +kernel) rfl
theorem a_X10_count_92 : At m_X10_count 92 (.iinc 3 1) 3 95 := at_i (by decide +kernel) rfl
theorem a_X10_count_95 : AtJ m_X10_count 95 (.goto (-24)) (-24) 71 98 := at_j (by decide +kernel) (by decide) rfl
theorem a_X10_count_98 : At m_X10_count 98 (.iload_n 2) 1 99 := at_i (by decide +kernel) rfl
theorem a_X10_count_99 : At m_X10_count 99 (.ireturn) 1 100 := at_i (by decide +kernel) rfl
theorem a_X10_count_100 : At m_X10_count 100 (.aload_n 0) 1 101 := at_i (by decide +kernel) rfl
theorem a_X10_count_101 : At m_X10_count 101 (.getfield 240) 3 104 := at_i (by decide +kernel) rfl
theorem a_X10_count_104 : At m_X10_count 104 (.ireturn) 1 105 := at_i (by decide +kernel) rfl
theorem a_X10_count_105 : At m_X10_count 105 (.aload_n 0) 1 106 := at_i (by decide +kernel) rfl
theorem a_X10_count_106 : At m_X10_count 106 (.getfield 9) 3 109 := at_i (by decide +kernel) rfl
theorem a_X10_count_109 : At m_X10_count 109 (.iconst 5) 1 110 := at_i (by decide +kernel) rfl
theorem a_X10_count_110 : At m_X10_count 110 (.iaload) 1 111 := at_i (by decide +kernel) rfl
theorem a_X10_count_111 : At m_X10_count 111 (.ireturn) 1 112 := at_i (by decide +kernel) rfl
theorem a_X10_count_112 : At m_X10_count 112 (.iconst 0) 1 113 := at_i (by decide +kernel) rfl
theorem a_X10_count_113 : At m_X10_count 113 (.istore_n 3) 1 114 := at_i (by decide +kernel) rfl
theorem a_X10_count_114 : At m_X10_count 114 (.iload_n 3) 1 115 := at_i (by decide +kernel) rfl
theorem a_X10_count_115 : At m_X10_count 115 (.bipush 10) 2 117 := at_i (by decide +kernel) rfl
theorem a_X10_count_117 : AtJ m_X10_count 117 (.if_icmp .ge 29) (29) 146 120 := at_j (by decide +kernel) (by decide) rfl
theorem a_X10_count_120 : At m_X10_count 120 (.iload_n 2) 1 121 := at_i (by decide +kernel) rfl
theorem a_X10_count_121 : At m_X10_count 121 (.aload_n 0) 1 122 := at_i (by decide +kernel) rfl
theorem a_X10_count_122 : At m_X10_count 122 (.getfield 9) 3 125 := at_i (by decide +kernel) rfl
theorem a_X10_count_125 : At m_X10_count 125 (.bipush 16) 2 127 := at_i (by decide +kernel) rfl
theorem a_X10_count_127 : At m_X10_count 127 (.iload_n 3) 1 128 := at_i (by decide +kernel) rfl
theorem a_X10_count_128 : At m_X10_count 128 (.iadd) 1 129 := at_i (by decide +kernel) rfl
theorem a_X10_count_129 : At m_X10_count 129 (.iaload) 1 130 := at_i (by decide +kernel) rfl
theorem a_X10_count_130 : AtJ m_X10_count 130 (.ifCond .ge 7) (7) 137 133 := at_j (by decide +kernel) (by decide) rfl
theorem a_X10_count_133 : At m_X10_count 133 (.iconst 0) 1 134 := at_i (by decide +kernel) rfl
theorem a_X10_count_134 : AtJ m_X10_count 134 (.goto 4) (4) 138 137 := at_j (by decide +kernel) (by decide) rfl
theorem a_X10_count_137 : At m_X10_count 137 (.iconst 1) 1 138 := at_i (by decide +kernel) rfl
theorem a_X10_count_138 : At m_X10_count 138 (.iadd) 1 139 := at_i (by decide +kernel) rfl
theorem a_X10_count_139 : At m_X10_count 139 (.istore_n 2) 1 140 := at_i (by decide +kernel) rfl
theorem a_X10_count_140 : At m_X10_count 140 (.iinc 3 1) 3 143 := at_i (by decide +kernel) rfl
theorem a_X10_count_143 : AtJ m_X10_count 143 (.goto (-29)) (-29) 114 146 := at_j (by decide +kernel) (by decide) rfl
theorem a_X10_count_146 : At m_X10_count 146 (.iload_n 2) 1 147 := at_i (by decide +kernel) rfl
theorem a_X10_count_147 : At m_X10_count 147 (.ireturn) 1 148 := at_i (by decide +kernel) rfl
theorem a_X10_count_148 : At m_X10_count 148 (.aload_n 0) 1 149 := at_i (by decide +kernel) rfl
theorem a_X10_count_149 : At m_X10_count 149 (.ldc 66) 2 151 := at_i (by decide +kernel) rfl
theorem a_X10_count_151 : At m_X10_count 151 (.invokevirtual 83) 3 154 := at_i (by decide +kernel) rfl
theorem a_X10_count_154 : At m_X10_count 154 (.ireturn) 1 155 := at_i (by decide +kernel) rfl
def f_X10_count_b71 (a1 : Int32)  (Q : Int32 → Mem → Prop)  (K71 : Int32 → Int32 → Mem → Prop) (v2 : Int32) (v3 : Int32) (h : Mem) : Prop :=
  if h 44 4 ≤ v3 then (
    Q v2 h)
  else (
    f_X10_lineIs v3 (a1 - (2 : Int32)) h fun r_7 h_6 =>
    ∀ v_8 : Int32, v_8 = v2 + r_7 →
    ∀ v_9 : Int32, v_9 = v3 + (1 : Int32) →
    K71 v_8 v_9 h_6)
set_option maxRecDepth 20000 in
theorem t_X10_count_b71 (a1 : Int32)    (Q : Int32 → Mem → Prop)   : ∀ (n : Nat) (v2 : Int32) (v3 : Int32) (h : Mem), gm_it2 (f_X10_count_b71 a1  Q ) n v2 v3 h → EV m_X10_count (GI Q) 71 [(0, .ref 43), (1, .int a1), (2, .int v2), (3, .int v3)] [] h := by
  refine ge_loop2 (P := fun v2 v3 h => EV m_X10_count (GI Q) 71 [(0, .ref 43), (1, .int a1), (2, .int v2), (3, .int v3)] [] h) (fun K71 hK71 v2 v3 h hyp => ?_)
  unfold f_X10_count_b71 at hyp
  refine ge_iload_n a_X10_count_71 rfl 3 rfl ?_
  refine ge_aload_n a_X10_count_72 rfl 0 rfl ?_
  refine ge_getR (q := 44) a_X10_count_73 fd_X10_9 (rfl : gm_cls 43 = 9) rfl ?_
  refine ge_iconst (v := 4) a_X10_count_76 rfl ?_
  refine ge_iald (j := 4) a_X10_count_77 ga_44 li_4_62.1 li_4_62.2 ?_
  refine ge_icmp_ge a_X10_count_78 (fun c_5 => ?_) (fun c_5 => ?_)
  · have hyp := gm_ip hyp c_5
    refine ge_iload_n a_X10_count_98 rfl 2 rfl ?_
    exact ge_iret rfl a_X10_count_99 hyp
  · have hyp := gm_in hyp c_5
    refine ge_iload_n a_X10_count_81 rfl 2 rfl ?_
    refine ge_aload_n a_X10_count_82 rfl 0 rfl ?_
    refine ge_iload_n a_X10_count_83 rfl 3 rfl ?_
    refine ge_iload_n a_X10_count_84 rfl 1 rfl ?_
    refine ge_iconst (v := 2) a_X10_count_85 rfl ?_
    refine ge_isub a_X10_count_86 ?_
    refine ge_cVI [.int v3, .int (a1 - (2 : Int32))] (rest := [.int v2]) a_X10_count_87 ok_X10_lineIs lk_X10_95 ⟨Nat.le_of_ble_eq_true rfl, Nat.le_of_ble_eq_true rfl⟩ (rfl : gm_cls 43 = 9) vc_9 (by decide) rfl rfl (Nat.le_of_ble_eq_true rfl) (t_X10_lineIs v3 (a1 - (2 : Int32))  h _ hyp) (fun r_7 h_6 hyp => ?_)
    refine ge_iadd a_X10_count_90 ?_
    refine ge_topi (fun v_8 ev_8 => ?_)
    have hyp := hyp v_8 ev_8
    refine ge_istore_n (lv' := [(2, .int v_8), (0, .ref 43), (1, .int a1), (3, .int v3)]) a_X10_count_91 rfl (Nat.le_of_ble_eq_true rfl) rfl ?_
    obtain ⟨v_9, ev_9⟩ : ∃ y : Int32, y = v3 + (1 : Int32) := ⟨_, rfl⟩
    have hyp := hyp v_9 ev_9
    refine ge_iinc (v := v_9) (lv' := [(3, .int v_9), (2, .int v_8), (0, .ref 43), (1, .int a1)]) a_X10_count_92 3 rfl ev_9.symm (Nat.le_of_ble_eq_true rfl) rfl ?_
    refine ge_goto a_X10_count_95 ?_
    exact ge_sub [2, 3, 1, 0] rfl (hK71 v_8 v_9 h_6 hyp)
def f_X10_count_b114 (a1 : Int32)  (Q : Int32 → Mem → Prop)  (K114 : Int32 → Int32 → Mem → Prop) (v2 : Int32) (v3 : Int32) (h : Mem) : Prop :=
  if (10 : Int32) ≤ v3 then (
    Q v2 h)
  else (
    vp_in ((16 : Int32) + v3) 62 ∧
    if 0 ≤ h 44 (((16 : Int32) + v3).toNatClampNeg) then (
      ∀ v_17 : Int32, v_17 = v2 + (1 : Int32) →
      ∀ v_18 : Int32, v_18 = v3 + (1 : Int32) →
      K114 v_17 v_18 h)
    else (
      ∀ v_19 : Int32, v_19 = v2 + (0 : Int32) →
      ∀ v_20 : Int32, v_20 = v3 + (1 : Int32) →
      K114 v_19 v_20 h))
set_option maxRecDepth 20000 in
theorem t_X10_count_b114 (a1 : Int32)    (Q : Int32 → Mem → Prop)   : ∀ (n : Nat) (v2 : Int32) (v3 : Int32) (h : Mem), gm_it2 (f_X10_count_b114 a1  Q ) n v2 v3 h → EV m_X10_count (GI Q) 114 [(0, .ref 43), (2, .int v2), (3, .int v3)] [] h := by
  refine ge_loop2 (P := fun v2 v3 h => EV m_X10_count (GI Q) 114 [(0, .ref 43), (2, .int v2), (3, .int v3)] [] h) (fun K114 hK114 v2 v3 h hyp => ?_)
  unfold f_X10_count_b114 at hyp
  refine ge_iload_n a_X10_count_114 rfl 2 rfl ?_
  refine ge_bipush (v := 10) a_X10_count_115 rfl ?_
  refine ge_icmp_ge a_X10_count_117 (fun c_14 => ?_) (fun c_14 => ?_)
  · have hyp := gm_ip hyp c_14
    refine ge_iload_n a_X10_count_146 rfl 1 rfl ?_
    exact ge_iret rfl a_X10_count_147 hyp
  · have hyp := gm_in hyp c_14
    refine ge_iload_n a_X10_count_120 rfl 1 rfl ?_
    refine ge_aload_n a_X10_count_121 rfl 0 rfl ?_
    refine ge_getR (q := 44) a_X10_count_122 fd_X10_9 (rfl : gm_cls 43 = 9) rfl ?_
    refine ge_bipush (v := 16) a_X10_count_125 rfl ?_
    refine ge_iload_n a_X10_count_127 rfl 2 rfl ?_
    refine ge_iadd a_X10_count_128 ?_
    obtain ⟨b_15, hyp⟩ := hyp
    refine ge_iald (j := ((16 : Int32) + v3).toNatClampNeg) a_X10_count_129 ga_44 b_15 rfl ?_
    refine ge_if_ge a_X10_count_130 (fun c_16 => ?_) (fun c_16 => ?_)
    · have hyp := gm_ip hyp c_16
      refine ge_iconst (v := 1) a_X10_count_137 rfl ?_
      refine ge_iadd a_X10_count_138 ?_
      refine ge_topi (fun v_17 ev_17 => ?_)
      have hyp := hyp v_17 ev_17
      refine ge_istore_n (lv' := [(2, .int v_17), (0, .ref 43), (3, .int v3)]) a_X10_count_139 rfl (Nat.le_of_ble_eq_true rfl) rfl ?_
      obtain ⟨v_18, ev_18⟩ : ∃ y : Int32, y = v3 + (1 : Int32) := ⟨_, rfl⟩
      have hyp := hyp v_18 ev_18
      refine ge_iinc (v := v_18) (lv' := [(3, .int v_18), (2, .int v_17), (0, .ref 43)]) a_X10_count_140 2 rfl ev_18.symm (Nat.le_of_ble_eq_true rfl) rfl ?_
      refine ge_goto a_X10_count_143 ?_
      exact ge_sub [2, 1, 0] rfl (hK114 v_17 v_18 h hyp)
    · have hyp := gm_in hyp c_16
      refine ge_iconst (v := 0) a_X10_count_133 rfl ?_
      refine ge_goto a_X10_count_134 ?_
      refine ge_iadd a_X10_count_138 ?_
      refine ge_topi (fun v_19 ev_19 => ?_)
      have hyp := hyp v_19 ev_19
      refine ge_istore_n (lv' := [(2, .int v_19), (0, .ref 43), (3, .int v3)]) a_X10_count_139 rfl (Nat.le_of_ble_eq_true rfl) rfl ?_
      obtain ⟨v_20, ev_20⟩ : ∃ y : Int32, y = v3 + (1 : Int32) := ⟨_, rfl⟩
      have hyp := hyp v_20 ev_20
      refine ge_iinc (v := v_20) (lv' := [(3, .int v_20), (2, .int v_19), (0, .ref 43)]) a_X10_count_140 2 rfl ev_20.symm (Nat.le_of_ble_eq_true rfl) rfl ?_
      refine ge_goto a_X10_count_143 ?_
      exact ge_sub [2, 1, 0] rfl (hK114 v_19 v_20 h hyp)
def f_X10_count (a1 : Int32) (h : Mem) (Q : Int32 → Mem → Prop) : Prop :=
  if a1 = 0 then (
    Q (h 44 1) h)
  else (
  if a1 = 1 then (
    Q (h 44 4) h)
  else (
  if a1 = 2 then (
    Q (h 44 0) h)
  else (
  if a1 = 3 then (
    gm_it2 (f_X10_count_b71 a1  Q ) gm_F (0 : Int32) (0 : Int32) h)
  else (
  if a1 = 4 then (
    gm_it2 (f_X10_count_b71 a1  Q ) gm_F (0 : Int32) (0 : Int32) h)
  else (
  if a1 = 5 then (
    Q (h 43 14) h)
  else (
  if a1 = 6 then (
    Q (h 44 5) h)
  else (
  if a1 = 7 then (
    gm_it2 (f_X10_count_b114 a1  Q ) gm_F (0 : Int32) (0 : Int32) h)
  else (
    f_X10_finding (-1000001 : Int32) h fun r_22 h_21 =>
    Q r_22 h_21))))))))
set_option maxRecDepth 20000 in
theorem t_X10_count (a1 : Int32)  (h : Mem) (Q : Int32 → Mem → Prop) (hyp : f_X10_count a1 h Q) : Cn m_X10_count [.ref 43, .int a1] h (GI Q) := by
  refine ge_entry (lv := [(0, .ref 43), (1, .int a1)]) pn_X10 (Nat.le_of_ble_eq_true rfl) rfl ?_
  unfold f_X10_count at hyp
  refine ge_iconst (v := 0) a_X10_count_0 rfl ?_
  refine ge_istore_n (lv' := [(2, .int (0 : Int32)), (0, .ref 43), (1, .int a1)]) a_X10_count_1 rfl (Nat.le_of_ble_eq_true rfl) rfl ?_
  refine ge_iload_n a_X10_count_2 rfl 2 rfl ?_
  refine ge_sw (dt := 148) [(0, 48), (1, 55), (2, 62), (3, 69), (4, 69), (5, 100), (6, 105), (7, 112)] a_X10_count_3 (by decide +kernel) (by decide) ?_
  refine ge_ite (fun c_1 => ?_) (fun c_1 => ?_)
  · have hyp := gm_ip hyp c_1
    refine ge_aload_n a_X10_count_48 rfl 1 rfl ?_
    refine ge_getR (q := 44) a_X10_count_49 fd_X10_9 (rfl : gm_cls 43 = 9) rfl ?_
    refine ge_iconst (v := 1) a_X10_count_52 rfl ?_
    refine ge_iald (j := 1) a_X10_count_53 ga_44 li_1_62.1 li_1_62.2 ?_
    exact ge_iret rfl a_X10_count_54 hyp
  have hyp := gm_in hyp c_1
  refine ge_ite (fun c_2 => ?_) (fun c_2 => ?_)
  · have hyp := gm_ip hyp c_2
    refine ge_aload_n a_X10_count_55 rfl 1 rfl ?_
    refine ge_getR (q := 44) a_X10_count_56 fd_X10_9 (rfl : gm_cls 43 = 9) rfl ?_
    refine ge_iconst (v := 4) a_X10_count_59 rfl ?_
    refine ge_iald (j := 4) a_X10_count_60 ga_44 li_4_62.1 li_4_62.2 ?_
    exact ge_iret rfl a_X10_count_61 hyp
  have hyp := gm_in hyp c_2
  refine ge_ite (fun c_3 => ?_) (fun c_3 => ?_)
  · have hyp := gm_ip hyp c_3
    refine ge_aload_n a_X10_count_62 rfl 1 rfl ?_
    refine ge_getR (q := 44) a_X10_count_63 fd_X10_9 (rfl : gm_cls 43 = 9) rfl ?_
    refine ge_iconst (v := 0) a_X10_count_66 rfl ?_
    refine ge_iald (j := 0) a_X10_count_67 ga_44 li_0_62.1 li_0_62.2 ?_
    exact ge_iret rfl a_X10_count_68 hyp
  have hyp := gm_in hyp c_3
  refine ge_ite (fun c_4 => ?_) (fun c_4 => ?_)
  · have hyp := gm_ip hyp c_4
    refine ge_iconst (v := 0) a_X10_count_69 rfl ?_
    refine ge_istore_n (lv' := [(3, .int (0 : Int32)), (2, .int (0 : Int32)), (0, .ref 43), (1, .int a1)]) a_X10_count_70 rfl (Nat.le_of_ble_eq_true rfl) rfl ?_
    exact ge_sub [2, 3, 1, 0] rfl (t_X10_count_b71 a1    Q   gm_F (0 : Int32) (0 : Int32) h hyp)
  have hyp := gm_in hyp c_4
  refine ge_ite (fun c_10 => ?_) (fun c_10 => ?_)
  · have hyp := gm_ip hyp c_10
    refine ge_iconst (v := 0) a_X10_count_69 rfl ?_
    refine ge_istore_n (lv' := [(3, .int (0 : Int32)), (2, .int (0 : Int32)), (0, .ref 43), (1, .int a1)]) a_X10_count_70 rfl (Nat.le_of_ble_eq_true rfl) rfl ?_
    exact ge_sub [2, 3, 1, 0] rfl (t_X10_count_b71 a1    Q   gm_F (0 : Int32) (0 : Int32) h hyp)
  have hyp := gm_in hyp c_10
  refine ge_ite (fun c_11 => ?_) (fun c_11 => ?_)
  · have hyp := gm_ip hyp c_11
    refine ge_aload_n a_X10_count_100 rfl 1 rfl ?_
    refine ge_getI a_X10_count_101 fd_X10_240 (rfl : gm_cls 43 = 9) ?_
    exact ge_iret rfl a_X10_count_104 hyp
  have hyp := gm_in hyp c_11
  refine ge_ite (fun c_12 => ?_) (fun c_12 => ?_)
  · have hyp := gm_ip hyp c_12
    refine ge_aload_n a_X10_count_105 rfl 1 rfl ?_
    refine ge_getR (q := 44) a_X10_count_106 fd_X10_9 (rfl : gm_cls 43 = 9) rfl ?_
    refine ge_iconst (v := 5) a_X10_count_109 rfl ?_
    refine ge_iald (j := 5) a_X10_count_110 ga_44 li_5_62.1 li_5_62.2 ?_
    exact ge_iret rfl a_X10_count_111 hyp
  have hyp := gm_in hyp c_12
  refine ge_ite (fun c_13 => ?_) (fun c_13 => ?_)
  · have hyp := gm_ip hyp c_13
    refine ge_iconst (v := 0) a_X10_count_112 rfl ?_
    refine ge_istore_n (lv' := [(3, .int (0 : Int32)), (2, .int (0 : Int32)), (0, .ref 43), (1, .int a1)]) a_X10_count_113 rfl (Nat.le_of_ble_eq_true rfl) rfl ?_
    exact ge_sub [2, 1, 0] rfl (t_X10_count_b114 a1    Q   gm_F (0 : Int32) (0 : Int32) h hyp)
  have hyp := gm_in hyp c_13
  show EV _ _ 148 _ _ _
  refine ge_aload_n a_X10_count_148 rfl 1 rfl ?_
  refine ge_ldc (v := -1000001) a_X10_count_149 ct_X10_66 ?_
  refine ge_cVI [.int (-1000001 : Int32)] (rest := []) a_X10_count_151 ok_X10_finding lk_X10_83 ⟨Nat.le_of_ble_eq_true rfl, Nat.le_of_ble_eq_true rfl⟩ (rfl : gm_cls 43 = 9) vc_9 (by decide) rfl rfl (Nat.le_of_ble_eq_true rfl) (t_X10_finding (-1000001 : Int32)  h _ hyp) (fun r_22 h_21 hyp => ?_)
  exact ge_iret rfl a_X10_count_154 hyp

theorem a_X10_status_0 : At m_X10_status 0 (.iload_n 1) 1 1 := at_i (by decide +kernel) rfl
theorem a_X10_status_1 : At m_X10_status 1 (.iconst (-1)) 1 2 := at_i (by decide +kernel) rfl
theorem a_X10_status_2 : At m_X10_status 2 (.bipush 6) 2 4 := at_i (by decide +kernel) rfl
theorem a_X10_status_4 : At m_X10_status 4 (.invokestatic 71) 3 7 := at_i (by decide +kernel) rfl
theorem a_X10_status_7 : AtJ m_X10_status 7 (.ifCond .eq 14) (14) 21 10 := at_j (by decide +kernel) (by decide) rfl
theorem a_X10_status_10 : At m_X10_status 10 (.aload_n 0) 1 11 := at_i (by decide +kernel) rfl
theorem a_X10_status_11 : At m_X10_status 11 (.getfield 19) 3 14 := at_i (by decide +kernel) rfl
theorem a_X10_status_14 : At m_X10_status 14 (.iload_n 1) 1 15 := at_i (by decide +kernel) rfl
theorem a_X10_status_15 : At m_X10_status 15 (.iconst 1) 1 16 := at_i (by decide +kernel) rfl
theorem a_X10_status_16 : At m_X10_status 16 (.iadd) 1 17 := at_i (by decide +kernel) rfl
theorem a_X10_status_17 : At m_X10_status 17 (.iaload) 1 18 := at_i (by decide +kernel) rfl
theorem a_X10_status_18 : AtJ m_X10_status 18 (.goto 9) (9) 27 21 := at_j (by decide +kernel) (by decide) rfl
theorem a_X10_status_21 : At m_X10_status 21 (.aload_n 0) 1 22 := at_i (by decide +kernel) rfl
theorem a_X10_status_22 : At m_X10_status 22 (.ldc 66) 2 24 := at_i (by decide +kernel) rfl
theorem a_X10_status_24 : At m_X10_status 24 (.invokevirtual 83) 3 27 := at_i (by decide +kernel) rfl
theorem a_X10_status_27 : At m_X10_status 27 (.ireturn) 1 28 := at_i (by decide +kernel) rfl
def f_X10_status (a1 : Int32) (h : Mem) (Q : Int32 → Mem → Prop) : Prop :=
  f_X10_within a1 (-1 : Int32) (6 : Int32) h fun r_2 h_1 =>
  if r_2 = 0 then (
    f_X10_finding (-1000001 : Int32) h_1 fun r_5 h_4 =>
    Q r_5 h_4)
  else (
    vp_in (a1 + (1 : Int32)) 8 ∧
    Q (h_1 47 ((a1 + (1 : Int32)).toNatClampNeg)) h_1)
set_option maxRecDepth 20000 in
theorem t_X10_status (a1 : Int32)  (h : Mem) (Q : Int32 → Mem → Prop) (hyp : f_X10_status a1 h Q) : Cn m_X10_status [.ref 43, .int a1] h (GI Q) := by
  refine ge_entry (lv := [(0, .ref 43), (1, .int a1)]) pn_X10 (Nat.le_of_ble_eq_true rfl) rfl ?_
  unfold f_X10_status at hyp
  refine ge_iload_n a_X10_status_0 rfl 1 rfl ?_
  refine ge_iconst (v := -1) a_X10_status_1 rfl ?_
  refine ge_bipush (v := 6) a_X10_status_2 rfl ?_
  refine ge_cSI [.int a1, .int (-1 : Int32), .int (6 : Int32)] (rest := []) a_X10_status_4 ok_X10_within lk_X10_71 ⟨Nat.le_of_ble_eq_true rfl, Nat.le_of_ble_eq_true rfl⟩ rfl rfl (Nat.le_of_ble_eq_true rfl) (t_X10_within a1 (-1 : Int32) (6 : Int32)  h _ hyp) (fun r_2 h_1 hyp => ?_)
  refine ge_if_eq a_X10_status_7 (fun c_3 => ?_) (fun c_3 => ?_)
  · have hyp := gm_ip hyp c_3
    refine ge_aload_n a_X10_status_21 rfl 0 rfl ?_
    refine ge_ldc (v := -1000001) a_X10_status_22 ct_X10_66 ?_
    refine ge_cVI [.int (-1000001 : Int32)] (rest := []) a_X10_status_24 ok_X10_finding lk_X10_83 ⟨Nat.le_of_ble_eq_true rfl, Nat.le_of_ble_eq_true rfl⟩ (rfl : gm_cls 43 = 9) vc_9 (by decide) rfl rfl (Nat.le_of_ble_eq_true rfl) (t_X10_finding (-1000001 : Int32)  h_1 _ hyp) (fun r_5 h_4 hyp => ?_)
    exact ge_iret rfl a_X10_status_27 hyp
  · have hyp := gm_in hyp c_3
    refine ge_aload_n a_X10_status_10 rfl 0 rfl ?_
    refine ge_getR (q := 47) a_X10_status_11 fd_X10_19 (rfl : gm_cls 43 = 9) rfl ?_
    refine ge_iload_n a_X10_status_14 rfl 1 rfl ?_
    refine ge_iconst (v := 1) a_X10_status_15 rfl ?_
    refine ge_iadd a_X10_status_16 ?_
    obtain ⟨b_6, hyp⟩ := hyp
    refine ge_iald (j := (a1 + (1 : Int32)).toNatClampNeg) a_X10_status_17 ga_47 b_6 rfl ?_
    refine ge_goto a_X10_status_18 ?_
    exact ge_iret rfl a_X10_status_27 hyp
