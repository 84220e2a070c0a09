theorem a_X0_takes_0 : At m_X0_takes 0 (.iload_n 1) 1 1 := at_i (by decide +kernel) rfl
theorem a_X0_takes_1 : At m_X0_takes 1 (.iload_n 3) 1 2 := at_i (by decide +kernel) rfl
theorem a_X0_takes_2 : At m_X0_takes 2 (.imul) 1 3 := at_i (by decide +kernel) rfl
theorem a_X0_takes_3 : At m_X0_takes 3 (.istore 4) 2 5 := at_i (by decide +kernel) rfl
theorem a_X0_takes_5 : At m_X0_takes 5 (.iload_n 0) 1 6 := at_i (by decide +kernel) rfl
theorem a_X0_takes_6 : decode cX0_takes 6 = .ok (.tableswitch 90 1 6 #[38, 47, 52, 61, 68, 78], 38) := by decide +kernel
theorem a_X0_takes_44 : At m_X0_takes 44 (.iconst 1) 1 45 := at_i (by decide +kernel) rfl
theorem a_X0_takes_45 : At m_X0_takes 45 (.iload 4) 2 47 := at_i (by decide +kernel) rfl
theorem a_X0_takes_47 : At m_X0_takes 47 (.iconst 1) 1 48 := at_i (by decide +kernel) rfl
theorem a_X0_takes_48 : At m_X0_takes 48 (.isub) 1 49 := at_i (by decide +kernel) rfl
theorem a_X0_takes_49 : At m_X0_takes 49 (.invokestatic 9) 3 52 := at_i (by decide +kernel) rfl
theorem a_X0_takes_52 : At m_X0_takes 52 (.ireturn) 1 53 := at_i (by decide +kernel) rfl
theorem a_X0_takes_53 : At m_X0_takes 53 (.iload 4) 2 55 := at_i (by decide +kernel) rfl
theorem a_X0_takes_55 : At m_X0_takes 55 (.iload_n 2) 1 56 := at_i (by decide +kernel) rfl
theorem a_X0_takes_56 : At m_X0_takes 56 (.iadd) 1 57 := at_i (by decide +kernel) rfl
theorem a_X0_takes_57 : At m_X0_takes 57 (.ireturn) 1 58 := at_i (by decide +kernel) rfl
theorem a_X0_takes_58 : At m_X0_takes 58 (.iload 4) 2 60 := at_i (by decide +kernel) rfl
theorem a_X0_takes_60 : At m_X0_takes 60 (.iload_n 2) 1 61 := at_i (by decide +kernel) rfl
theorem a_X0_takes_61 : At m_X0_takes 61 (.iadd) 1 62 := at_i (by decide +kernel) rfl
theorem a_X0_takes_62 : At m_X0_takes 62 (.iload_n 2) 1 63 := at_i (by decide +kernel) rfl
theorem a_X0_takes_63 : At m_X0_takes 63 (.iconst 2) 1 64 := at_i (by decide +kernel) rfl
theorem a_X0_takes_64 : At m_X0_takes 64 (.idiv) 1 65 := at_i (by decide +kernel) rfl
theorem a_X0_takes_65 : At m_X0_takes 65 (.iadd) 1 66 := at_i (by decide +kernel) rfl
theorem a_X0_takes_66 : At m_X0_takes 66 (.ireturn) 1 67 := at_i (by decide +kernel) rfl
theorem a_X0_takes_67 : At m_X0_takes 67 (.iload 4) 2 69 := at_i (by decide +kernel) rfl
theorem a_X0_takes_69 : At m_X0_takes 69 (.iconst 5) 1 70 := at_i (by decide +kernel) rfl
theorem a_X0_takes_70 : At m_X0_takes 70 (.iload_n 2) 1 71 := at_i (by decide +kernel) rfl
theorem a_X0_takes_71 : At m_X0_takes 71 (.imul) 1 72 := at_i (by decide +kernel) rfl
theorem a_X0_takes_72 : At m_X0_takes 72 (.iadd) 1 73 := at_i (by decide +kernel) rfl
theorem a_X0_takes_73 : At m_X0_takes 73 (.ireturn) 1 74 := at_i (by decide +kernel) rfl
theorem a_X0_takes_74 : At m_X0_takes 74 (.iload 4) 2 76 := at_i (by decide +kernel) rfl
theorem a_X0_takes_76 : At m_X0_takes 76 (.iconst 5) 1 77 := at_i (by decide +kernel) rfl
theorem a_X0_takes_77 : At m_X0_takes 77 (.iload_n 2) 1 78 := at_i (by decide +kernel) rfl
theorem a_X0_takes_78 : At m_X0_takes 78 (.imul) 1 79 := at_i (by decide +kernel) rfl
theorem a_X0_takes_79 : At m_X0_takes 79 (.iadd) 1 80 := at_i (by decide +kernel) rfl
theorem a_X0_takes_80 : At m_X0_takes 80 (.bipush 10) 2 82 := at_i (by decide +kernel) rfl
theorem a_X0_takes_82 : At m_X0_takes 82 (.iadd) 1 83 := at_i (by decide +kernel) rfl
theorem a_X0_takes_83 : At m_X0_takes 83 (.ireturn) 1 84 := at_i (by decide +kernel) rfl
theorem a_X0_takes_84 : At m_X0_takes 84 (.iload 4) 2 86 := at_i (by decide +kernel) rfl
theorem a_X0_takes_86 : At m_X0_takes 86 (.iconst 5) 1 87 := at_i (by decide +kernel) rfl
theorem a_X0_takes_87 : At m_X0_takes 87 (.iload_n 2) 1 88 := at_i (by decide +kernel) rfl
theorem a_X0_takes_88 : At m_X0_takes 88 (.imul) 1 89 := at_i (by decide +kernel) rfl
theorem a_X0_takes_89 : At m_X0_takes 89 (.iadd) 1 90 := at_i (by decide +kernel) rfl
theorem a_X0_takes_90 : At m_X0_takes 90 (.bipush 10) 2 92 := at_i (by decide +kernel) rfl
theorem a_X0_takes_92 : At m_X0_takes 92 (.iadd) 1 93 := at_i (by decide +kernel) rfl
theorem a_X0_takes_93 : At m_X0_takes 93 (.iconst 2) 1 94 := at_i (by decide +kernel) rfl
theorem a_X0_takes_94 : At m_X0_takes 94 (.idiv) 1 95 := at_i (by decide +kernel) rfl
theorem a_X0_takes_95 : At m_X0_takes 95 (.ireturn) 1 96 := at_i (by decide +kernel) rfl
theorem a_X0_takes_96 : At m_X0_takes 96 (.iload 4) 2 98 := at_i (by decide +kernel) rfl
theorem a_X0_takes_98 : At m_X0_takes 98 (.ireturn) 1 99 := at_i (by decide +kernel) rfl
def f_X0_takes (a0 : Int32) (a1 : Int32) (a2 : Int32) (a3 : Int32) (h : Mem) (Q : Int32 → Mem → Prop) : Prop :=
  ∀ v_1 : Int32, v_1 = a1 * a3 →
  if a0 = 1 then (
    ∀ v_3 : Int32, v_3 = (if (1 : Int32) < v_1 - (1 : Int32) then v_1 - (1 : Int32) else (1 : Int32)) →
    Q v_3 h)
  else (
  if a0 = 2 then (
    Q (v_1 + a2) h)
  else (
  if a0 = 3 then (
    Q ((v_1 + a2) + (a2 / (2 : Int32))) h)
  else (
  if a0 = 4 then (
    Q (v_1 + ((5 : Int32) * a2)) h)
  else (
  if a0 = 5 then (
    Q ((v_1 + ((5 : Int32) * a2)) + (10 : Int32)) h)
  else (
  if a0 = 6 then (
    Q (((v_1 + ((5 : Int32) * a2)) + (10 : Int32)) / (2 : Int32)) h)
  else (
    Q v_1 h))))))
set_option maxRecDepth 20000 in
theorem t_X0_takes (a0 : Int32) (a1 : Int32) (a2 : Int32) (a3 : Int32)  (h : Mem) (Q : Int32 → Mem → Prop) (hyp : f_X0_takes a0 a1 a2 a3 h Q) : Cn m_X0_takes [.int a0, .int a1, .int a2, .int a3] h (GI Q) := by
  refine ge_entry (lv := [(0, .int a0), (1, .int a1), (2, .int a2), (3, .int a3)]) pn_X0 (Nat.le_of_ble_eq_true rfl) rfl ?_
  unfold f_X0_takes at hyp
  refine ge_iload_n a_X0_takes_0 rfl 1 rfl ?_
  refine ge_iload_n a_X0_takes_1 rfl 3 rfl ?_
  refine ge_imul a_X0_takes_2 ?_
  refine ge_topi (fun v_1 ev_1 => ?_)
  have hyp := hyp v_1 ev_1
  refine ge_istore (lv' := [(4, .int v_1), (0, .int a0), (1, .int a1), (2, .int a2), (3, .int a3)]) a_X0_takes_3 (Nat.le_of_ble_eq_true rfl) rfl ?_
  refine ge_iload_n a_X0_takes_5 rfl 1 rfl ?_
  refine ge_sw (dt := 96) [(1, 44), (2, 53), (3, 58), (4, 67), (5, 74), (6, 84)] a_X0_takes_6 (by decide +kernel) (by decide) ?_
  refine ge_ite (fun c_2 => ?_) (fun c_2 => ?_)
  · have hyp := gm_ip hyp c_2
    refine ge_iconst (v := 1) a_X0_takes_44 rfl ?_
    refine ge_iload a_X0_takes_45 0 rfl ?_
    refine ge_iconst (v := 1) a_X0_takes_47 rfl ?_
    refine ge_isub a_X0_takes_48 ?_
    refine ge_mmax (rest := []) a_X0_takes_49 lk_X0_9 (Nat.le_of_ble_eq_true rfl) (Nat.le_of_ble_eq_true rfl) ?_
    refine ge_topi (fun v_3 ev_3 => ?_)
    have hyp := hyp v_3 ev_3
    exact ge_iret rfl a_X0_takes_52 hyp
  have hyp := gm_in hyp c_2
  refine ge_ite (fun c_4 => ?_) (fun c_4 => ?_)
  · have hyp := gm_ip hyp c_4
    refine ge_iload a_X0_takes_53 0 rfl ?_
    refine ge_iload_n a_X0_takes_55 rfl 3 rfl ?_
    refine ge_iadd a_X0_takes_56 ?_
    exact ge_iret rfl a_X0_takes_57 hyp
  have hyp := gm_in hyp c_4
  refine ge_ite (fun c_5 => ?_) (fun c_5 => ?_)
  · have hyp := gm_ip hyp c_5
    refine ge_iload a_X0_takes_58 0 rfl ?_
    refine ge_iload_n a_X0_takes_60 rfl 3 rfl ?_
    refine ge_iadd a_X0_takes_61 ?_
    refine ge_iload_n a_X0_takes_62 rfl 3 rfl ?_
    refine ge_iconst (v := 2) a_X0_takes_63 rfl ?_
    refine ge_idiv a_X0_takes_64 (by decide) ?_
    refine ge_iadd a_X0_takes_65 ?_
    exact ge_iret rfl a_X0_takes_66 hyp
  have hyp := gm_in hyp c_5
  refine ge_ite (fun c_6 => ?_) (fun c_6 => ?_)
  · have hyp := gm_ip hyp c_6
    refine ge_iload a_X0_takes_67 0 rfl ?_
    refine ge_iconst (v := 5) a_X0_takes_69 rfl ?_
    refine ge_iload_n a_X0_takes_70 rfl 3 rfl ?_
    refine ge_imul a_X0_takes_71 ?_
    refine ge_iadd a_X0_takes_72 ?_
    exact ge_iret rfl a_X0_takes_73 hyp
  have hyp := gm_in hyp c_6
  refine ge_ite (fun c_7 => ?_) (fun c_7 => ?_)
  · have hyp := gm_ip hyp c_7
    refine ge_iload a_X0_takes_74 0 rfl ?_
    refine ge_iconst (v := 5) a_X0_takes_76 rfl ?_
    refine ge_iload_n a_X0_takes_77 rfl 3 rfl ?_
    refine ge_imul a_X0_takes_78 ?_
    refine ge_iadd a_X0_takes_79 ?_
    refine ge_bipush (v := 10) a_X0_takes_80 rfl ?_
    refine ge_iadd a_X0_takes_82 ?_
    exact ge_iret rfl a_X0_takes_83 hyp
  have hyp := gm_in hyp c_7
  refine ge_ite (fun c_8 => ?_) (fun c_8 => ?_)
  · have hyp := gm_ip hyp c_8
    refine ge_iload a_X0_takes_84 0 rfl ?_
    refine ge_iconst (v := 5) a_X0_takes_86 rfl ?_
    refine ge_iload_n a_X0_takes_87 rfl 3 rfl ?_
    refine ge_imul a_X0_takes_88 ?_
    refine ge_iadd a_X0_takes_89 ?_
    refine ge_bipush (v := 10) a_X0_takes_90 rfl ?_
    refine ge_iadd a_X0_takes_92 ?_
    refine ge_iconst (v := 2) a_X0_takes_93 rfl ?_
    refine ge_idiv a_X0_takes_94 (by decide) ?_
    exact ge_iret rfl a_X0_takes_95 hyp
  have hyp := gm_in hyp c_8
  show EV _ _ 96 _ _ _
  refine ge_iload a_X0_takes_96 0 rfl ?_
  exact ge_iret rfl a_X0_takes_98 hyp

theorem a_X0_tripsBy_0 : At m_X0_tripsBy 0 (.iconst 0) 1 1 := at_i (by decide +kernel) rfl
theorem a_X0_tripsBy_1 : At m_X0_tripsBy 1 (.iload_n 1) 1 2 := at_i (by decide +kernel) rfl
theorem a_X0_tripsBy_2 : At m_X0_tripsBy 2 (.iload_n 3) 1 3 := at_i (by decide +kernel) rfl
theorem a_X0_tripsBy_3 : At m_X0_tripsBy 3 (.isub) 1 4 := at_i (by decide +kernel) rfl
theorem a_X0_tripsBy_4 : At m_X0_tripsBy 4 (.iload_n 2) 1 5 := at_i (by decide +kernel) rfl
theorem a_X0_tripsBy_5 : At m_X0_tripsBy 5 (.isub) 1 6 := at_i (by decide +kernel) rfl
theorem a_X0_tripsBy_6 : At m_X0_tripsBy 6 (.invokestatic 9) 3 9 := at_i (by decide +kernel) rfl
theorem a_X0_tripsBy_9 : At m_X0_tripsBy 9 (.istore 4) 2 11 := at_i (by decide +kernel) rfl
theorem a_X0_tripsBy_11 : At m_X0_tripsBy 11 (.iload_n 0) 1 12 := at_i (by decide +kernel) rfl
theorem a_X0_tripsBy_12 : decode cX0_tripsBy 12 = .ok (.tableswitch 60 2 6 #[36, 41, 48, 53, 53], 36) := by decide +kernel
theorem a_X0_tripsBy_48 : At m_X0_tripsBy 48 (.iload 4) 2 50 := at_i (by decide +kernel) rfl
theorem a_X0_tripsBy_50 : At m_X0_tripsBy 50 (.iconst 1) 1 51 := at_i (by decide +kernel) rfl
theorem a_X0_tripsBy_51 : At m_X0_tripsBy 51 (.iadd) 1 52 := at_i (by decide +kernel) rfl
theorem a_X0_tripsBy_52 : At m_X0_tripsBy 52 (.ireturn) 1 53 := at_i (by decide +kernel) rfl
theorem a_X0_tripsBy_53 : At m_X0_tripsBy 53 (.iconst 2) 1 54 := at_i (by decide +kernel) rfl
theorem a_X0_tripsBy_54 : At m_X0_tripsBy 54 (.iload 4) 2 56 := at_i (by decide +kernel) rfl
theorem a_X0_tripsBy_56 : At m_X0_tripsBy 56 (.iconst 1) 1 57 := at_i (by decide +kernel) rfl
theorem a_X0_tripsBy_57 : At m_X0_tripsBy 57 (.iadd) 1 58 := at_i (by decide +kernel) rfl
theorem a_X0_tripsBy_58 : At m_X0_tripsBy 58 (.imul) 1 59 := at_i (by decide +kernel) rfl
theorem a_X0_tripsBy_59 : At m_X0_tripsBy 59 (.ireturn) 1 60 := at_i (by decide +kernel) rfl
theorem a_X0_tripsBy_60 : At m_X0_tripsBy 60 (.iload 4) 2 62 := at_i (by decide +kernel) rfl
theorem a_X0_tripsBy_62 : At m_X0_tripsBy 62 (.iload_n 1) 1 63 := at_i (by decide +kernel) rfl
theorem a_X0_tripsBy_63 : At m_X0_tripsBy 63 (.iadd) 1 64 := at_i (by decide +kernel) rfl
theorem a_X0_tripsBy_64 : At m_X0_tripsBy 64 (.ireturn) 1 65 := at_i (by decide +kernel) rfl
theorem a_X0_tripsBy_65 : At m_X0_tripsBy 65 (.iload 4) 2 67 := at_i (by decide +kernel) rfl
theorem a_X0_tripsBy_67 : At m_X0_tripsBy 67 (.iload_n 1) 1 68 := at_i (by decide +kernel) rfl
theorem a_X0_tripsBy_68 : At m_X0_tripsBy 68 (.iadd) 1 69 := at_i (by decide +kernel) rfl
theorem a_X0_tripsBy_69 : At m_X0_tripsBy 69 (.iconst 2) 1 70 := at_i (by decide +kernel) rfl
theorem a_X0_tripsBy_70 : At m_X0_tripsBy 70 (.idiv) 1 71 := at_i (by decide +kernel) rfl
theorem a_X0_tripsBy_71 : At m_X0_tripsBy 71 (.ireturn) 1 72 := at_i (by decide +kernel) rfl
theorem a_X0_tripsBy_72 : At m_X0_tripsBy 72 (.iload 4) 2 74 := at_i (by decide +kernel) rfl
theorem a_X0_tripsBy_74 : At m_X0_tripsBy 74 (.ireturn) 1 75 := at_i (by decide +kernel) rfl
def f_X0_tripsBy (a0 : Int32) (a1 : Int32) (a2 : Int32) (a3 : Int32) (h : Mem) (Q : Int32 → Mem → Prop) : Prop :=
  ∀ v_1 : Int32, v_1 = (if (0 : Int32) < (a1 - a3) - a2 then (a1 - a3) - a2 else (0 : Int32)) →
  if a0 = 2 then (
    Q (v_1 + (1 : Int32)) h)
  else (
  if a0 = 3 then (
    Q ((2 : Int32) * (v_1 + (1 : Int32))) h)
  else (
  if a0 = 4 then (
    Q (v_1 + a1) h)
  else (
  if a0 = 5 then (
    Q ((v_1 + a1) / (2 : Int32)) h)
  else (
  if a0 = 6 then (
    Q ((v_1 + a1) / (2 : Int32)) h)
  else (
    Q v_1 h)))))
set_option maxRecDepth 20000 in
theorem t_X0_tripsBy (a0 : Int32) (a1 : Int32) (a2 : Int32) (a3 : Int32)  (h : Mem) (Q : Int32 → Mem → Prop) (hyp : f_X0_tripsBy a0 a1 a2 a3 h Q) : Cn m_X0_tripsBy [.int a0, .int a1, .int a2, .int a3] h (GI Q) := by
  refine ge_entry (lv := [(0, .int a0), (1, .int a1), (2, .int a2), (3, .int a3)]) pn_X0 (Nat.le_of_ble_eq_true rfl) rfl ?_
  unfold f_X0_tripsBy at hyp
  refine ge_iconst (v := 0) a_X0_tripsBy_0 rfl ?_
  refine ge_iload_n a_X0_tripsBy_1 rfl 1 rfl ?_
  refine ge_iload_n a_X0_tripsBy_2 rfl 3 rfl ?_
  refine ge_isub a_X0_tripsBy_3 ?_
  refine ge_iload_n a_X0_tripsBy_4 rfl 2 rfl ?_
  refine ge_isub a_X0_tripsBy_5 ?_
  refine ge_mmax (rest := []) a_X0_tripsBy_6 lk_X0_9 (Nat.le_of_ble_eq_true rfl) (Nat.le_of_ble_eq_true rfl) ?_
  refine ge_topi (fun v_1 ev_1 => ?_)
  have hyp := hyp v_1 ev_1
  refine ge_istore (lv' := [(4, .int v_1), (0, .int a0), (1, .int a1), (2, .int a2), (3, .int a3)]) a_X0_tripsBy_9 (Nat.le_of_ble_eq_true rfl) rfl ?_
  refine ge_iload_n a_X0_tripsBy_11 rfl 1 rfl ?_
  refine ge_sw (dt := 72) [(2, 48), (3, 53), (4, 60), (5, 65), (6, 65)] a_X0_tripsBy_12 (by decide +kernel) (by decide) ?_
  refine ge_ite (fun c_2 => ?_) (fun c_2 => ?_)
  · have hyp := gm_ip hyp c_2
    refine ge_iload a_X0_tripsBy_48 0 rfl ?_
    refine ge_iconst (v := 1) a_X0_tripsBy_50 rfl ?_
    refine ge_iadd a_X0_tripsBy_51 ?_
    exact ge_iret rfl a_X0_tripsBy_52 hyp
  have hyp := gm_in hyp c_2
  refine ge_ite (fun c_3 => ?_) (fun c_3 => ?_)
  · have hyp := gm_ip hyp c_3
    refine ge_iconst (v := 2) a_X0_tripsBy_53 rfl ?_
    refine ge_iload a_X0_tripsBy_54 0 rfl ?_
    refine ge_iconst (v := 1) a_X0_tripsBy_56 rfl ?_
    refine ge_iadd a_X0_tripsBy_57 ?_
    refine ge_imul a_X0_tripsBy_58 ?_
    exact ge_iret rfl a_X0_tripsBy_59 hyp
  have hyp := gm_in hyp c_3
  refine ge_ite (fun c_4 => ?_) (fun c_4 => ?_)
  · have hyp := gm_ip hyp c_4
    refine ge_iload a_X0_tripsBy_60 0 rfl ?_
    refine ge_iload_n a_X0_tripsBy_62 rfl 2 rfl ?_
    refine ge_iadd a_X0_tripsBy_63 ?_
    exact ge_iret rfl a_X0_tripsBy_64 hyp
  have hyp := gm_in hyp c_4
  refine ge_ite (fun c_5 => ?_) (fun c_5 => ?_)
  · have hyp := gm_ip hyp c_5
    refine ge_iload a_X0_tripsBy_65 0 rfl ?_
    refine ge_iload_n a_X0_tripsBy_67 rfl 2 rfl ?_
    refine ge_iadd a_X0_tripsBy_68 ?_
    refine ge_iconst (v := 2) a_X0_tripsBy_69 rfl ?_
    refine ge_idiv a_X0_tripsBy_70 (by decide) ?_
    exact ge_iret rfl a_X0_tripsBy_71 hyp
  have hyp := gm_in hyp c_5
  refine ge_ite (fun c_6 => ?_) (fun c_6 => ?_)
  · have hyp := gm_ip hyp c_6
    refine ge_iload a_X0_tripsBy_65 0 rfl ?_
    refine ge_iload_n a_X0_tripsBy_67 rfl 2 rfl ?_
    refine ge_iadd a_X0_tripsBy_68 ?_
    refine ge_iconst (v := 2) a_X0_tripsBy_69 rfl ?_
    refine ge_idiv a_X0_tripsBy_70 (by decide) ?_
    exact ge_iret rfl a_X0_tripsBy_71 hyp
  have hyp := gm_in hyp c_6
  show EV _ _ 72 _ _ _
  refine ge_iload a_X0_tripsBy_72 0 rfl ?_
  exact ge_iret rfl a_X0_tripsBy_74 hyp

theorem a_X0_seenBy_0 : At m_X0_seenBy 0 (.iload_n 2) 1 1 := at_i (by decide +kernel) rfl
theorem a_X0_seenBy_1 : At m_X0_seenBy 1 (.iconst 2) 1 2 := at_i (by decide +kernel) rfl
theorem a_X0_seenBy_2 : At m_X0_seenBy 2 (.iload_n 1) 1 3 := at_i (by decide +kernel) rfl
theorem a_X0_seenBy_3 : At m_X0_seenBy 3 (.imul) 1 4 := at_i (by decide +kernel) rfl
theorem a_X0_seenBy_4 : At m_X0_seenBy 4 (.iadd) 1 5 := at_i (by decide +kernel) rfl
theorem a_X0_seenBy_5 : At m_X0_seenBy 5 (.iconst 3) 1 6 := at_i (by decide +kernel) rfl
theorem a_X0_seenBy_6 : At m_X0_seenBy 6 (.idiv) 1 7 := at_i (by decide +kernel) rfl
theorem a_X0_seenBy_7 : At m_X0_seenBy 7 (.istore_n 3) 1 8 := at_i (by decide +kernel) rfl
theorem a_X0_seenBy_8 : At m_X0_seenBy 8 (.iload_n 0) 1 9 := at_i (by decide +kernel) rfl
theorem a_X0_seenBy_9 : decode cX0_seenBy 9 = .ok (.tableswitch 57 1 6 #[39, 47, 51, 57, 57, 55], 39) := by decide +kernel
theorem a_X0_seenBy_48 : At m_X0_seenBy 48 (.iconst 0) 1 49 := at_i (by decide +kernel) rfl
theorem a_X0_seenBy_49 : At m_X0_seenBy 49 (.iload_n 3) 1 50 := at_i (by decide +kernel) rfl
theorem a_X0_seenBy_50 : At m_X0_seenBy 50 (.iconst 1) 1 51 := at_i (by decide +kernel) rfl
theorem a_X0_seenBy_51 : At m_X0_seenBy 51 (.isub) 1 52 := at_i (by decide +kernel) rfl
theorem a_X0_seenBy_52 : At m_X0_seenBy 52 (.invokestatic 9) 3 55 := at_i (by decide +kernel) rfl
theorem a_X0_seenBy_55 : At m_X0_seenBy 55 (.ireturn) 1 56 := at_i (by decide +kernel) rfl
theorem a_X0_seenBy_56 : At m_X0_seenBy 56 (.iload_n 3) 1 57 := at_i (by decide +kernel) rfl
theorem a_X0_seenBy_57 : At m_X0_seenBy 57 (.iconst 2) 1 58 := at_i (by decide +kernel) rfl
theorem a_X0_seenBy_58 : At m_X0_seenBy 58 (.iadd) 1 59 := at_i (by decide +kernel) rfl
theorem a_X0_seenBy_59 : At m_X0_seenBy 59 (.ireturn) 1 60 := at_i (by decide +kernel) rfl
theorem a_X0_seenBy_60 : At m_X0_seenBy 60 (.iload_n 3) 1 61 := at_i (by decide +kernel) rfl
theorem a_X0_seenBy_61 : At m_X0_seenBy 61 (.iconst 3) 1 62 := at_i (by decide +kernel) rfl
theorem a_X0_seenBy_62 : At m_X0_seenBy 62 (.iadd) 1 63 := at_i (by decide +kernel) rfl
theorem a_X0_seenBy_63 : At m_X0_seenBy 63 (.ireturn) 1 64 := at_i (by decide +kernel) rfl
theorem a_X0_seenBy_64 : At m_X0_seenBy 64 (.iconst 5) 1 65 := at_i (by decide +kernel) rfl
theorem a_X0_seenBy_65 : At m_X0_seenBy 65 (.ireturn) 1 66 := at_i (by decide +kernel) rfl
theorem a_X0_seenBy_66 : At m_X0_seenBy 66 (.iload_n 3) 1 67 := at_i (by decide +kernel) rfl
theorem a_X0_seenBy_67 : At m_X0_seenBy 67 (.ireturn) 1 68 := at_i (by decide +kernel) rfl
def f_X0_seenBy (a0 : Int32) (a1 : Int32) (a2 : Int32) (h : Mem) (Q : Int32 → Mem → Prop) : Prop :=
  ∀ v_1 : Int32, v_1 = (a2 + ((2 : Int32) * a1)) / (3 : Int32) →
  if a0 = 1 then (
    ∀ v_3 : Int32, v_3 = (if (0 : Int32) < v_1 - (1 : Int32) then v_1 - (1 : Int32) else (0 : Int32)) →
    Q v_3 h)
  else (
  if a0 = 2 then (
    Q (v_1 + (2 : Int32)) h)
  else (
  if a0 = 3 then (
    Q (v_1 + (3 : Int32)) h)
  else (
  if a0 = 4 then (
    Q v_1 h)
  else (
  if a0 = 5 then (
    Q v_1 h)
  else (
  if a0 = 6 then (
    Q (5 : Int32) h)
  else (
    Q v_1 h))))))
set_option maxRecDepth 20000 in
theorem t_X0_seenBy (a0 : Int32) (a1 : Int32) (a2 : Int32)  (h : Mem) (Q : Int32 → Mem → Prop) (hyp : f_X0_seenBy a0 a1 a2 h Q) : Cn m_X0_seenBy [.int a0, .int a1, .int a2] h (GI Q) := by
  refine ge_entry (lv := [(0, .int a0), (1, .int a1), (2, .int a2)]) pn_X0 (Nat.le_of_ble_eq_true rfl) rfl ?_
  unfold f_X0_seenBy at hyp
  refine ge_iload_n a_X0_seenBy_0 rfl 2 rfl ?_
  refine ge_iconst (v := 2) a_X0_seenBy_1 rfl ?_
  refine ge_iload_n a_X0_seenBy_2 rfl 1 rfl ?_
  refine ge_imul a_X0_seenBy_3 ?_
  refine ge_iadd a_X0_seenBy_4 ?_
  refine ge_iconst (v := 3) a_X0_seenBy_5 rfl ?_
  refine ge_idiv a_X0_seenBy_6 (by decide) ?_
  refine ge_topi (fun v_1 ev_1 => ?_)
  have hyp := hyp v_1 ev_1
  refine ge_istore_n (lv' := [(3, .int v_1), (0, .int a0), (1, .int a1), (2, .int a2)]) a_X0_seenBy_7 rfl (Nat.le_of_ble_eq_true rfl) rfl ?_
  refine ge_iload_n a_X0_seenBy_8 rfl 1 rfl ?_
  refine ge_sw (dt := 66) [(1, 48), (2, 56), (3, 60), (4, 66), (5, 66), (6, 64)] a_X0_seenBy_9 (by decide +kernel) (by decide) ?_
  refine ge_ite (fun c_2 => ?_) (fun c_2 => ?_)
  · have hyp := gm_ip hyp c_2
    refine ge_iconst (v := 0) a_X0_seenBy_48 rfl ?_
    refine ge_iload_n a_X0_seenBy_49 rfl 0 rfl ?_
    refine ge_iconst (v := 1) a_X0_seenBy_50 rfl ?_
    refine ge_isub a_X0_seenBy_51 ?_
    refine ge_mmax (rest := []) a_X0_seenBy_52 lk_X0_9 (Nat.le_of_ble_eq_true rfl) (Nat.le_of_ble_eq_true rfl) ?_
    refine ge_topi (fun v_3 ev_3 => ?_)
    have hyp := hyp v_3 ev_3
    exact ge_iret rfl a_X0_seenBy_55 hyp
  have hyp := gm_in hyp c_2
  refine ge_ite (fun c_4 => ?_) (fun c_4 => ?_)
  · have hyp := gm_ip hyp c_4
    refine ge_iload_n a_X0_seenBy_56 rfl 0 rfl ?_
    refine ge_iconst (v := 2) a_X0_seenBy_57 rfl ?_
    refine ge_iadd a_X0_seenBy_58 ?_
    exact ge_iret rfl a_X0_seenBy_59 hyp
  have hyp := gm_in hyp c_4
  refine ge_ite (fun c_5 => ?_) (fun c_5 => ?_)
  · have hyp := gm_ip hyp c_5
    refine ge_iload_n a_X0_seenBy_60 rfl 0 rfl ?_
    refine ge_iconst (v := 3) a_X0_seenBy_61 rfl ?_
    refine ge_iadd a_X0_seenBy_62 ?_
    exact ge_iret rfl a_X0_seenBy_63 hyp
  have hyp := gm_in hyp c_5
  refine ge_ite (fun c_6 => ?_) (fun c_6 => ?_)
  · have hyp := gm_ip hyp c_6
    refine ge_iload_n a_X0_seenBy_66 rfl 0 rfl ?_
    exact ge_iret rfl a_X0_seenBy_67 hyp
  have hyp := gm_in hyp c_6
  refine ge_ite (fun c_7 => ?_) (fun c_7 => ?_)
  · have hyp := gm_ip hyp c_7
    refine ge_iload_n a_X0_seenBy_66 rfl 0 rfl ?_
    exact ge_iret rfl a_X0_seenBy_67 hyp
  have hyp := gm_in hyp c_7
  refine ge_ite (fun c_8 => ?_) (fun c_8 => ?_)
  · have hyp := gm_ip hyp c_8
    refine ge_iconst (v := 5) a_X0_seenBy_64 rfl ?_
    exact ge_iret rfl a_X0_seenBy_65 hyp
  have hyp := gm_in hyp c_8
  show EV _ _ 66 _ _ _
  refine ge_iload_n a_X0_seenBy_66 rfl 0 rfl ?_
  exact ge_iret rfl a_X0_seenBy_67 hyp

theorem a_X0_isOrIsUnder_0 : At m_X0_isOrIsUnder 0 (.iload_n 0) 1 1 := at_i (by decide +kernel) rfl
theorem a_X0_isOrIsUnder_1 : At m_X0_isOrIsUnder 1 (.istore_n 2) 1 2 := at_i (by decide +kernel) rfl
theorem a_X0_isOrIsUnder_2 : At m_X0_isOrIsUnder 2 (.iconst 0) 1 3 := at_i (by decide +kernel) rfl
theorem a_X0_isOrIsUnder_3 : At m_X0_isOrIsUnder 3 (.istore_n 3) 1 4 := at_i (by decide +kernel) rfl
theorem a_X0_isOrIsUnder_4 : At m_X0_isOrIsUnder 4 (.iload_n 3) 1 5 := at_i (by decide +kernel) rfl
theorem a_X0_isOrIsUnder_5 : At m_X0_isOrIsUnder 5 (.bipush 7) 2 7 := at_i (by decide +kernel) rfl
theorem a_X0_isOrIsUnder_7 : AtJ m_X0_isOrIsUnder 7 (.if_icmp .ge 32) (32) 39 10 := at_j (by decide +kernel) (by decide) rfl
theorem a_X0_isOrIsUnder_10 : At m_X0_isOrIsUnder 10 (.iload_n 2) 1 11 := at_i (by decide +kernel) rfl
theorem a_X0_isOrIsUnder_11 : AtJ m_X0_isOrIsUnder 11 (.ifCond .lt 28) (28) 39 14 := at_j (by decide +kernel) (by decide) rfl
theorem a_X0_isOrIsUnder_14 : At m_X0_isOrIsUnder 14 (.iload_n 2) 1 15 := at_i (by decide +kernel) rfl
theorem a_X0_isOrIsUnder_15 : At m_X0_isOrIsUnder 15 (.bipush 7) 2 17 := at_i (by decide +kernel) rfl
theorem a_X0_isOrIsUnder_17 : AtJ m_X0_isOrIsUnder 17 (.if_icmp .ge 22) (22) 39 20 := at_j (by decide +kernel) (by decide) rfl
theorem a_X0_isOrIsUnder_20 : At m_X0_isOrIsUnder 20 (.iload_n 2) 1 21 := at_i (by decide +kernel) rfl
theorem a_X0_isOrIsUnder_21 : At m_X0_isOrIsUnder 21 (.iload_n 1) 1 22 := at_i (by decide +kernel) rfl
theorem a_X0_isOrIsUnder_22 : AtJ m_X0_isOrIsUnder 22 (.if_icmp .ne 5) (5) 27 25 := at_j (by decide +kernel) (by decide) rfl
theorem a_X0_isOrIsUnder_25 : At m_X0_isOrIsUnder 25 (.iconst 1) 1 26 := at_i (by decide +kernel) rfl
theorem a_X0_isOrIsUnder_26 : At m_X0_isOrIsUnder 26 (.ireturn) 1 27 := at_i (by decide +kernel) rfl
theorem a_X0_isOrIsUnder_27 : At m_X0_isOrIsUnder 27 (.getstatic 15) 3 30 := at_i (by decide +kernel) rfl
theorem a_X0_isOrIsUnder_30 : At m_X0_isOrIsUnder 30 (.iload_n 2) 1 31 := at_i (by decide +kernel) rfl
theorem a_X0_isOrIsUnder_31 : At m_X0_isOrIsUnder 31 (.iaload) 1 32 := at_i (by decide +kernel) rfl
theorem a_X0_isOrIsUnder_32 : At m_X0_isOrIsUnder 32 (.istore_n 2) 1 33 := at_i (by decide +kernel) rfl
theorem a_X0_isOrIsUnder_33 : At m_X0_isOrIsUnder 33 (.iinc 3 1) 3 36 := at_i (by decide +kernel) rfl
theorem a_X0_isOrIsUnder_36 : AtJ m_X0_isOrIsUnder 36 (.goto (-32)) (-32) 4 39 := at_j (by decide +kernel) (by decide) rfl
theorem a_X0_isOrIsUnder_39 : At m_X0_isOrIsUnder 39 (.iconst 0) 1 40 := at_i (by decide +kernel) rfl
theorem a_X0_isOrIsUnder_40 : At m_X0_isOrIsUnder 40 (.ireturn) 1 41 := at_i (by decide +kernel) rfl
def f_X0_isOrIsUnder_b4 (a0 : Int32) (a1 : Int32)  (Q : Int32 → Mem → Prop)  (K4 : Int32 → Int32 → Mem → Prop) (v2 : Int32) (v3 : Int32) (h : Mem) : Prop :=
  if (7 : Int32) ≤ v3 then (
    Q (0 : Int32) h)
  else (
    if v2 < 0 then (
      Q (0 : Int32) h)
    else (
      if (7 : Int32) ≤ v2 then (
        Q (0 : Int32) h)
      else (
        if v2 = a1 then (
          Q (1 : Int32) h)
        else (
          vp_in v2 7 ∧
          ∀ v_6 : Int32, v_6 = (gm_tab 1).getD v2.toNatClampNeg 0 →
          ∀ v_7 : Int32, v_7 = v3 + (1 : Int32) →
          K4 v_6 v_7 h))))
set_option maxRecDepth 20000 in
theorem t_X0_isOrIsUnder_b4 (a0 : Int32) (a1 : Int32)    (Q : Int32 → Mem → Prop)   : ∀ (n : Nat) (v2 : Int32) (v3 : Int32) (h : Mem), gm_it2 (f_X0_isOrIsUnder_b4 a0 a1  Q ) n v2 v3 h → EV m_X0_isOrIsUnder (GI Q) 4 [(1, .int a1), (2, .int v2), (3, .int v3)] [] h := by
  refine ge_loop2 (P := fun v2 v3 h => EV m_X0_isOrIsUnder (GI Q) 4 [(1, .int a1), (2, .int v2), (3, .int v3)] [] h) (fun K4 hK4 v2 v3 h hyp => ?_)
  unfold f_X0_isOrIsUnder_b4 at hyp
  refine ge_iload_n a_X0_isOrIsUnder_4 rfl 2 rfl ?_
  refine ge_bipush (v := 7) a_X0_isOrIsUnder_5 rfl ?_
  refine ge_icmp_ge a_X0_isOrIsUnder_7 (fun c_1 => ?_) (fun c_1 => ?_)
  · have hyp := gm_ip hyp c_1
    refine ge_iconst (v := 0) a_X0_isOrIsUnder_39 rfl ?_
    exact ge_zret rfl rfl a_X0_isOrIsUnder_40 hyp
  · have hyp := gm_in hyp c_1
    refine ge_iload_n a_X0_isOrIsUnder_10 rfl 1 rfl ?_
    refine ge_if_lt a_X0_isOrIsUnder_11 (fun c_2 => ?_) (fun c_2 => ?_)
    · have hyp := gm_ip hyp c_2
      refine ge_iconst (v := 0) a_X0_isOrIsUnder_39 rfl ?_
      exact ge_zret rfl rfl a_X0_isOrIsUnder_40 hyp
    · have hyp := gm_in hyp c_2
      refine ge_iload_n a_X0_isOrIsUnder_14 rfl 1 rfl ?_
      refine ge_bipush (v := 7) a_X0_isOrIsUnder_15 rfl ?_
      refine ge_icmp_ge a_X0_isOrIsUnder_17 (fun c_3 => ?_) (fun c_3 => ?_)
      · have hyp := gm_ip hyp c_3
        refine ge_iconst (v := 0) a_X0_isOrIsUnder_39 rfl ?_
        exact ge_zret rfl rfl a_X0_isOrIsUnder_40 hyp
      · have hyp := gm_in hyp c_3
        refine ge_iload_n a_X0_isOrIsUnder_20 rfl 1 rfl ?_
        refine ge_iload_n a_X0_isOrIsUnder_21 rfl 0 rfl ?_
        refine ge_icmp_ne a_X0_isOrIsUnder_22 (fun c_4 => ?_) (fun c_4 => ?_)
        · have hyp := gm_in hyp c_4
          refine ge_getsN (i := 1) a_X0_isOrIsUnder_27 (by decide) rfl lk_X0_15 ?_
          refine ge_iload_n a_X0_isOrIsUnder_30 rfl 1 rfl ?_
          obtain ⟨b_5, hyp⟩ := hyp
          refine ge_tld (i := 1) a_X0_isOrIsUnder_31 (by decide) rfl b_5 ?_
          refine ge_topi (fun v_6 ev_6 => ?_)
          have hyp := hyp v_6 ev_6
          refine ge_istore_n (lv' := [(2, .int v_6), (1, .int a1), (3, .int v3)]) a_X0_isOrIsUnder_32 rfl (Nat.le_of_ble_eq_true rfl) rfl ?_
          obtain ⟨v_7, ev_7⟩ : ∃ y : Int32, y = v3 + (1 : Int32) := ⟨_, rfl⟩
          have hyp := hyp v_7 ev_7
          refine ge_iinc (v := v_7) (lv' := [(3, .int v_7), (2, .int v_6), (1, .int a1)]) a_X0_isOrIsUnder_33 2 rfl ev_7.symm (Nat.le_of_ble_eq_true rfl) rfl ?_
          refine ge_goto a_X0_isOrIsUnder_36 ?_
          exact ge_sub [2, 1, 0] rfl (hK4 v_6 v_7 h hyp)
        · have hyp := gm_ip hyp c_4
          refine ge_iconst (v := 1) a_X0_isOrIsUnder_25 rfl ?_
          exact ge_zret rfl rfl a_X0_isOrIsUnder_26 hyp
def f_X0_isOrIsUnder (a0 : Int32) (a1 : Int32) (h : Mem) (Q : Int32 → Mem → Prop) : Prop :=
  gm_it2 (f_X0_isOrIsUnder_b4 a0 a1  Q ) gm_F a0 (0 : Int32) h
set_option maxRecDepth 20000 in
theorem t_X0_isOrIsUnder (a0 : Int32) (a1 : Int32)  (h : Mem) (Q : Int32 → Mem → Prop) (hyp : f_X0_isOrIsUnder a0 a1 h Q) : Cn m_X0_isOrIsUnder [.int a0, .int a1] h (GI Q) := by
  refine ge_entry (lv := [(0, .int a0), (1, .int a1)]) pn_X0 (Nat.le_of_ble_eq_true rfl) rfl ?_
  unfold f_X0_isOrIsUnder at hyp
  refine ge_iload_n a_X0_isOrIsUnder_0 rfl 0 rfl ?_
  refine ge_istore_n (lv' := [(2, .int a0), (0, .int a0), (1, .int a1)]) a_X0_isOrIsUnder_1 rfl (Nat.le_of_ble_eq_true rfl) rfl ?_
  refine ge_iconst (v := 0) a_X0_isOrIsUnder_2 rfl ?_
  refine ge_istore_n (lv' := [(3, .int (0 : Int32)), (2, .int a0), (0, .int a0), (1, .int a1)]) a_X0_isOrIsUnder_3 rfl (Nat.le_of_ble_eq_true rfl) rfl ?_
  exact ge_sub [3, 1, 0] rfl (t_X0_isOrIsUnder_b4 a0 a1    Q   gm_F a0 (0 : Int32) h hyp)

theorem a_X1_takeFrom_0 : At m_X1_takeFrom 0 (.aload_n 0) 1 1 := at_i (by decide +kernel) rfl
theorem a_X1_takeFrom_1 : At m_X1_takeFrom 1 (.aload_n 1) 1 2 := at_i (by decide +kernel) rfl
theorem a_X1_takeFrom_2 : At m_X1_takeFrom 2 (.iconst 0) 1 3 := at_i (by decide +kernel) rfl
theorem a_X1_takeFrom_3 : At m_X1_takeFrom 3 (.iaload) 1 4 := at_i (by decide +kernel) rfl
theorem a_X1_takeFrom_4 : At m_X1_takeFrom 4 (.putfield 9) 3 7 := at_i (by decide +kernel) rfl
theorem a_X1_takeFrom_7 : At m_X1_takeFrom 7 (.aload_n 0) 1 8 := at_i (by decide +kernel) rfl
theorem a_X1_takeFrom_8 : At m_X1_takeFrom 8 (.aload_n 1) 1 9 := at_i (by decide +kernel) rfl
theorem a_X1_takeFrom_9 : At m_X1_takeFrom 9 (.iconst 1) 1 10 := at_i (by decide +kernel) rfl
theorem a_X1_takeFrom_10 : At m_X1_takeFrom 10 (.iaload) 1 11 := at_i (by decide +kernel) rfl
theorem a_X1_takeFrom_11 : At m_X1_takeFrom 11 (.putfield 15) 3 14 := at_i (by decide +kernel) rfl
theorem a_X1_takeFrom_14 : At m_X1_takeFrom 14 (.aload_n 0) 1 15 := at_i (by decide +kernel) rfl
theorem a_X1_takeFrom_15 : At m_X1_takeFrom 15 (.aload_n 1) 1 16 := at_i (by decide +kernel) rfl
theorem a_X1_takeFrom_16 : At m_X1_takeFrom 16 (.iconst 2) 1 17 := at_i (by decide +kernel) rfl
theorem a_X1_takeFrom_17 : At m_X1_takeFrom 17 (.iaload) 1 18 := at_i (by decide +kernel) rfl
theorem a_X1_takeFrom_18 : At m_X1_takeFrom 18 (.putfield 18) 3 21 := at_i (by decide +kernel) rfl
theorem a_X1_takeFrom_21 : At m_X1_takeFrom 21 (.aload_n 0) 1 22 := at_i (by decide +kernel) rfl
theorem a_X1_takeFrom_22 : At m_X1_takeFrom 22 (.aload_n 1) 1 23 := at_i (by decide +kernel) rfl
theorem a_X1_takeFrom_23 : At m_X1_takeFrom 23 (.iconst 3) 1 24 := at_i (by decide +kernel) rfl
theorem a_X1_takeFrom_24 : At m_X1_takeFrom 24 (.iaload) 1 25 := at_i (by decide +kernel) rfl
theorem a_X1_takeFrom_25 : At m_X1_takeFrom 25 (.putfield 21) 3 28 := at_i (by decide +kernel) rfl
theorem a_X1_takeFrom_28 : At m_X1_takeFrom 28 (.aload_n 0) 1 29 := at_i (by decide +kernel) rfl
theorem a_X1_takeFrom_29 : At m_X1_takeFrom 29 (.aload_n 1) 1 30 := at_i (by decide +kernel) rfl
theorem a_X1_takeFrom_30 : At m_X1_takeFrom 30 (.iconst 4) 1 31 := at_i (by decide +kernel) rfl
theorem a_X1_takeFrom_31 : At m_X1_takeFrom 31 (.iaload) 1 32 := at_i (by decide +kernel) rfl
theorem a_X1_takeFrom_32 : At m_X1_takeFrom 32 (.putfield 24) 3 35 := at_i (by decide +kernel) rfl
theorem a_X1_takeFrom_35 : At m_X1_takeFrom 35 (.aload_n 0) 1 36 := at_i (by decide +kernel) rfl
theorem a_X1_takeFrom_36 : At m_X1_takeFrom 36 (.aload_n 1) 1 37 := at_i (by decide +kernel) rfl
theorem a_X1_takeFrom_37 : At m_X1_takeFrom 37 (.iconst 5) 1 38 := at_i (by decide +kernel) rfl
theorem a_X1_takeFrom_38 : At m_X1_takeFrom 38 (.iaload) 1 39 := at_i (by decide +kernel) rfl
theorem a_X1_takeFrom_39 : At m_X1_takeFrom 39 (.putfield 27) 3 42 := at_i (by decide +kernel) rfl
theorem a_X1_takeFrom_42 : At m_X1_takeFrom 42 (.return_) 1 43 := at_i (by decide +kernel) rfl
def f_X1_takeFrom (k0 : Nat) (b1 : Nat) (n1 : Nat) (h : Mem) (Q : Mem → Prop) : Prop :=
  vp_in (0 : Int32) n1 ∧
  ∀ h_2 : Mem, h_2 = gm_st h k0 0 (h b1 ((0 : Int32).toNatClampNeg)) →
  vp_in (1 : Int32) n1 ∧
  ∀ h_4 : Mem, h_4 = gm_st h_2 k0 1 (h_2 b1 ((1 : Int32).toNatClampNeg)) →
  vp_in (2 : Int32) n1 ∧
  ∀ h_6 : Mem, h_6 = gm_st h_4 k0 2 (h_4 b1 ((2 : Int32).toNatClampNeg)) →
  vp_in (3 : Int32) n1 ∧
  ∀ h_8 : Mem, h_8 = gm_st h_6 k0 3 (h_6 b1 ((3 : Int32).toNatClampNeg)) →
  vp_in (4 : Int32) n1 ∧
  ∀ h_10 : Mem, h_10 = gm_st h_8 k0 4 (h_8 b1 ((4 : Int32).toNatClampNeg)) →
  vp_in (5 : Int32) n1 ∧
  ∀ h_12 : Mem, h_12 = gm_st h_10 k0 5 (h_10 b1 ((5 : Int32).toNatClampNeg)) →
  Q h_12
set_option maxRecDepth 20000 in
theorem t_X1_takeFrom (k0 : Nat) (b1 : Nat) (n1 : Nat) (hk0 : gm_cls k0 = 0) (hb1 : gm_arr b1 n1) (h : Mem) (Q : Mem → Prop) (hyp : f_X1_takeFrom k0 b1 n1 h Q) : Cn m_X1_takeFrom [.ref k0, .ref b1] h (GV Q) := by
  refine ge_entry (lv := [(0, .ref k0), (1, .ref b1)]) pn_X1 (Nat.le_of_ble_eq_true rfl) rfl ?_
  unfold f_X1_takeFrom at hyp
  refine ge_aload_n a_X1_takeFrom_0 rfl 0 rfl ?_
  refine ge_aload_n a_X1_takeFrom_1 rfl 1 rfl ?_
  refine ge_iconst (v := 0) a_X1_takeFrom_2 rfl ?_
  obtain ⟨b_1, hyp⟩ := hyp
  refine ge_iald (j := (0 : Int32).toNatClampNeg) a_X1_takeFrom_3 hb1 b_1 rfl ?_
  refine ge_putI a_X1_takeFrom_4 pd_X1_9 hk0 ?_
  refine ge_nm (fun h_2 eh_2 => ?_)
  have hyp := hyp h_2 eh_2
  refine ge_aload_n a_X1_takeFrom_7 rfl 0 rfl ?_
  refine ge_aload_n a_X1_takeFrom_8 rfl 1 rfl ?_
  refine ge_iconst (v := 1) a_X1_takeFrom_9 rfl ?_
  obtain ⟨b_3, hyp⟩ := hyp
  refine ge_iald (j := (1 : Int32).toNatClampNeg) a_X1_takeFrom_10 hb1 b_3 rfl ?_
  refine ge_putI a_X1_takeFrom_11 pd_X1_15 hk0 ?_
  refine ge_nm (fun h_4 eh_4 => ?_)
  have hyp := hyp h_4 eh_4
  refine ge_aload_n a_X1_takeFrom_14 rfl 0 rfl ?_
  refine ge_aload_n a_X1_takeFrom_15 rfl 1 rfl ?_
  refine ge_iconst (v := 2) a_X1_takeFrom_16 rfl ?_
  obtain ⟨b_5, hyp⟩ := hyp
  refine ge_iald (j := (2 : Int32).toNatClampNeg) a_X1_takeFrom_17 hb1 b_5 rfl ?_
  refine ge_putI a_X1_takeFrom_18 pd_X1_18 hk0 ?_
  refine ge_nm (fun h_6 eh_6 => ?_)
  have hyp := hyp h_6 eh_6
  refine ge_aload_n a_X1_takeFrom_21 rfl 0 rfl ?_
  refine ge_aload_n a_X1_takeFrom_22 rfl 1 rfl ?_
  refine ge_iconst (v := 3) a_X1_takeFrom_23 rfl ?_
  obtain ⟨b_7, hyp⟩ := hyp
  refine ge_iald (j := (3 : Int32).toNatClampNeg) a_X1_takeFrom_24 hb1 b_7 rfl ?_
  refine ge_putI a_X1_takeFrom_25 pd_X1_21 hk0 ?_
  refine ge_nm (fun h_8 eh_8 => ?_)
  have hyp := hyp h_8 eh_8
  refine ge_aload_n a_X1_takeFrom_28 rfl 0 rfl ?_
  refine ge_aload_n a_X1_takeFrom_29 rfl 1 rfl ?_
  refine ge_iconst (v := 4) a_X1_takeFrom_30 rfl ?_
  obtain ⟨b_9, hyp⟩ := hyp
  refine ge_iald (j := (4 : Int32).toNatClampNeg) a_X1_takeFrom_31 hb1 b_9 rfl ?_
  refine ge_putI a_X1_takeFrom_32 pd_X1_24 hk0 ?_
  refine ge_nm (fun h_10 eh_10 => ?_)
  have hyp := hyp h_10 eh_10
  refine ge_aload_n a_X1_takeFrom_35 rfl 0 rfl ?_
  refine ge_aload_n a_X1_takeFrom_36 rfl 1 rfl ?_
  refine ge_iconst (v := 5) a_X1_takeFrom_37 rfl ?_
  obtain ⟨b_11, hyp⟩ := hyp
  refine ge_iald (j := (5 : Int32).toNatClampNeg) a_X1_takeFrom_38 hb1 b_11 rfl ?_
  refine ge_putI a_X1_takeFrom_39 pd_X1_27 hk0 ?_
  refine ge_nm (fun h_12 eh_12 => ?_)
  have hyp := hyp h_12 eh_12
  exact ge_vret rfl a_X1_takeFrom_42 hyp

theorem a_X1_held_0 : At m_X1_held 0 (.iconst 1) 1 1 := at_i (by decide +kernel) rfl
theorem a_X1_held_1 : At m_X1_held 1 (.bipush 99) 2 3 := at_i (by decide +kernel) rfl
theorem a_X1_held_3 : At m_X1_held 3 (.iload_n 0) 1 4 := at_i (by decide +kernel) rfl
theorem a_X1_held_4 : At m_X1_held 4 (.invokestatic 42) 3 7 := at_i (by decide +kernel) rfl
theorem a_X1_held_7 : At m_X1_held 7 (.invokestatic 48) 3 10 := at_i (by decide +kernel) rfl
theorem a_X1_held_10 : At m_X1_held 10 (.ireturn) 1 11 := at_i (by decide +kernel) rfl
def f_X1_held (a0 : Int32) (h : Mem) (Q : Int32 → Mem → Prop) : Prop :=
  ∀ v_1 : Int32, v_1 = (if a0 < (99 : Int32) then a0 else (99 : Int32)) →
  ∀ v_2 : Int32, v_2 = (if (1 : Int32) < v_1 then v_1 else (1 : Int32)) →
  Q v_2 h
set_option maxRecDepth 20000 in
theorem t_X1_held (a0 : Int32)  (h : Mem) (Q : Int32 → Mem → Prop) (hyp : f_X1_held a0 h Q) : Cn m_X1_held [.int a0] h (GI Q) := by
  refine ge_entry (lv := [(0, .int a0)]) pn_X1 (Nat.le_of_ble_eq_true rfl) rfl ?_
  unfold f_X1_held at hyp
  refine ge_iconst (v := 1) a_X1_held_0 rfl ?_
  refine ge_bipush (v := 99) a_X1_held_1 rfl ?_
  refine ge_iload_n a_X1_held_3 rfl 0 rfl ?_
  refine ge_mmin (rest := [.int (1 : Int32)]) a_X1_held_4 lk_X1_42 (Nat.le_of_ble_eq_true rfl) (Nat.le_of_ble_eq_true rfl) ?_
  refine ge_topi (fun v_1 ev_1 => ?_)
  have hyp := hyp v_1 ev_1
  refine ge_mmax (rest := []) a_X1_held_7 lk_X1_48 (Nat.le_of_ble_eq_true rfl) (Nat.le_of_ble_eq_true rfl) ?_
  refine ge_topi (fun v_2 ev_2 => ?_)
  have hyp := hyp v_2 ev_2
  exact ge_iret rfl a_X1_held_10 hyp

theorem a_X1_step_0 : At m_X1_step 0 (.iconst 0) 1 1 := at_i (by decide +kernel) rfl
theorem a_X1_step_1 : At m_X1_step 1 (.istore_n 2) 1 2 := at_i (by decide +kernel) rfl
theorem a_X1_step_2 : At m_X1_step 2 (.iload_n 2) 1 3 := at_i (by decide +kernel) rfl
theorem a_X1_step_3 : At m_X1_step 3 (.iload_n 1) 1 4 := at_i (by decide +kernel) rfl
theorem a_X1_step_4 : AtJ m_X1_step 4 (.if_icmp .ge 79) (79) 83 7 := at_j (by decide +kernel) (by decide) rfl
theorem a_X1_step_7 : At m_X1_step 7 (.aload_n 0) 1 8 := at_i (by decide +kernel) rfl
theorem a_X1_step_8 : At m_X1_step 8 (.getfield 9) 3 11 := at_i (by decide +kernel) rfl
theorem a_X1_step_11 : At m_X1_step 11 (.aload_n 0) 1 12 := at_i (by decide +kernel) rfl
theorem a_X1_step_12 : At m_X1_step 12 (.getfield 18) 3 15 := at_i (by decide +kernel) rfl
theorem a_X1_step_15 : At m_X1_step 15 (.aload_n 0) 1 16 := at_i (by decide +kernel) rfl
theorem a_X1_step_16 : At m_X1_step 16 (.getfield 15) 3 19 := at_i (by decide +kernel) rfl
theorem a_X1_step_19 : At m_X1_step 19 (.aload_n 0) 1 20 := at_i (by decide +kernel) rfl
theorem a_X1_step_20 : At m_X1_step 20 (.getfield 9) 3 23 := at_i (by decide +kernel) rfl
theorem a_X1_step_23 : At m_X1_step 23 (.isub) 1 24 := at_i (by decide +kernel) rfl
theorem a_X1_step_24 : At m_X1_step 24 (.imul) 1 25 := at_i (by decide +kernel) rfl
theorem a_X1_step_25 : At m_X1_step 25 (.bipush 10) 2 27 := at_i (by decide +kernel) rfl
theorem a_X1_step_27 : At m_X1_step 27 (.idiv) 1 28 := at_i (by decide +kernel) rfl
theorem a_X1_step_28 : At m_X1_step 28 (.iadd) 1 29 := at_i (by decide +kernel) rfl
theorem a_X1_step_29 : At m_X1_step 29 (.aload_n 0) 1 30 := at_i (by decide +kernel) rfl
theorem a_X1_step_30 : At m_X1_step 30 (.getfield 24) 3 33 := at_i (by decide +kernel) rfl
theorem a_X1_step_33 : At m_X1_step 33 (.iadd) 1 34 := at_i (by decide +kernel) rfl
theorem a_X1_step_34 : At m_X1_step 34 (.invokestatic 30) 3 37 := at_i (by decide +kernel) rfl
theorem a_X1_step_37 : At m_X1_step 37 (.istore_n 3) 1 38 := at_i (by decide +kernel) rfl
theorem a_X1_step_38 : At m_X1_step 38 (.aload_n 0) 1 39 := at_i (by decide +kernel) rfl
theorem a_X1_step_39 : At m_X1_step 39 (.aload_n 0) 1 40 := at_i (by decide +kernel) rfl
theorem a_X1_step_40 : At m_X1_step 40 (.getfield 15) 3 43 := at_i (by decide +kernel) rfl
theorem a_X1_step_43 : At m_X1_step 43 (.aload_n 0) 1 44 := at_i (by decide +kernel) rfl
theorem a_X1_step_44 : At m_X1_step 44 (.getfield 21) 3 47 := at_i (by decide +kernel) rfl
theorem a_X1_step_47 : At m_X1_step 47 (.aload_n 0) 1 48 := at_i (by decide +kernel) rfl
theorem a_X1_step_48 : At m_X1_step 48 (.getfield 9) 3 51 := at_i (by decide +kernel) rfl
theorem a_X1_step_51 : At m_X1_step 51 (.aload_n 0) 1 52 := at_i (by decide +kernel) rfl
theorem a_X1_step_52 : At m_X1_step 52 (.getfield 15) 3 55 := at_i (by decide +kernel) rfl
theorem a_X1_step_55 : At m_X1_step 55 (.isub) 1 56 := at_i (by decide +kernel) rfl
theorem a_X1_step_56 : At m_X1_step 56 (.imul) 1 57 := at_i (by decide +kernel) rfl
theorem a_X1_step_57 : At m_X1_step 57 (.bipush 10) 2 59 := at_i (by decide +kernel) rfl
theorem a_X1_step_59 : At m_X1_step 59 (.idiv) 1 60 := at_i (by decide +kernel) rfl
theorem a_X1_step_60 : At m_X1_step 60 (.iadd) 1 61 := at_i (by decide +kernel) rfl
theorem a_X1_step_61 : At m_X1_step 61 (.aload_n 0) 1 62 := at_i (by decide +kernel) rfl
theorem a_X1_step_62 : At m_X1_step 62 (.getfield 27) 3 65 := at_i (by decide +kernel) rfl
theorem a_X1_step_65 : At m_X1_step 65 (.iadd) 1 66 := at_i (by decide +kernel) rfl
theorem a_X1_step_66 : At m_X1_step 66 (.invokestatic 30) 3 69 := at_i (by decide +kernel) rfl
theorem a_X1_step_69 : At m_X1_step 69 (.putfield 15) 3 72 := at_i (by decide +kernel) rfl
theorem a_X1_step_72 : At m_X1_step 72 (.aload_n 0) 1 73 := at_i (by decide +kernel) rfl
theorem a_X1_step_73 : At m_X1_step 73 (.iload_n 3) 1 74 := at_i (by decide +kernel) rfl
theorem a_X1_step_74 : At m_X1_step 74 (.putfield 9) 3 77 := at_i (by decide +kernel) rfl
theorem a_X1_step_77 : At m_X1_step 77 (.iinc 2 1) 3 80 := at_i (by decide +kernel) rfl
theorem a_X1_step_80 : AtJ m_X1_step 80 (.goto (-78)) (-78) 2 83 := at_j (by decide +kernel) (by decide) rfl
theorem a_X1_step_83 : At m_X1_step 83 (.return_) 1 84 := at_i (by decide +kernel) rfl
def f_X1_step_b2 (k0 : Nat) (a1 : Int32)  (Q : Mem → Prop)  (K2 : Int32 → Mem → Prop) (v2 : Int32) (h : Mem) : Prop :=
  if a1 ≤ v2 then (
    Q h)
  else (
    f_X1_held (((h k0 0) + (((h k0 2) * ((h k0 1) - (h k0 0))) / (10 : Int32))) + (h k0 4)) h fun r_3 h_2 =>
    f_X1_held (((h_2 k0 1) + (((h_2 k0 3) * ((h_2 k0 0) - (h_2 k0 1))) / (10 : Int32))) + (h_2 k0 5)) h_2 fun r_5 h_4 =>
    ∀ h_6 : Mem, h_6 = gm_st h_4 k0 1 r_5 →
    ∀ h_7 : Mem, h_7 = gm_st h_6 k0 0 r_3 →
    ∀ v_8 : Int32, v_8 = v2 + (1 : Int32) →
    K2 v_8 h_7)
set_option maxRecDepth 20000 in
theorem t_X1_step_b2 (k0 : Nat) (a1 : Int32)  (hk0 : gm_cls k0 = 0)  (Q : Mem → Prop)   : ∀ (n : Nat) (v2 : Int32) (h : Mem), gm_it1 (f_X1_step_b2 k0 a1  Q ) n v2 h → EV m_X1_step (GV Q) 2 [(0, .ref k0), (1, .int a1), (2, .int v2)] [] h := by
  refine ge_loop1 (P := fun v2 h => EV m_X1_step (GV Q) 2 [(0, .ref k0), (1, .int a1), (2, .int v2)] [] h) (fun K2 hK2 v2 h hyp => ?_)
  unfold f_X1_step_b2 at hyp
  refine ge_iload_n a_X1_step_2 rfl 2 rfl ?_
  refine ge_iload_n a_X1_step_3 rfl 1 rfl ?_
  refine ge_icmp_ge a_X1_step_4 (fun c_1 => ?_) (fun c_1 => ?_)
  · have hyp := gm_ip hyp c_1
    exact ge_vret rfl a_X1_step_83 hyp
  · have hyp := gm_in hyp c_1
    refine ge_aload_n a_X1_step_7 rfl 0 rfl ?_
    refine ge_getI a_X1_step_8 fd_X1_9 hk0 ?_
    refine ge_aload_n a_X1_step_11 rfl 0 rfl ?_
    refine ge_getI a_X1_step_12 fd_X1_18 hk0 ?_
    refine ge_aload_n a_X1_step_15 rfl 0 rfl ?_
    refine ge_getI a_X1_step_16 fd_X1_15 hk0 ?_
    refine ge_aload_n a_X1_step_19 rfl 0 rfl ?_
    refine ge_getI a_X1_step_20 fd_X1_9 hk0 ?_
    refine ge_isub a_X1_step_23 ?_
    refine ge_imul a_X1_step_24 ?_
    refine ge_bipush (v := 10) a_X1_step_25 rfl ?_
    refine ge_idiv a_X1_step_27 (by decide) ?_
    refine ge_iadd a_X1_step_28 ?_
    refine ge_aload_n a_X1_step_29 rfl 0 rfl ?_
    refine ge_getI a_X1_step_30 fd_X1_24 hk0 ?_
    refine ge_iadd a_X1_step_33 ?_
    refine ge_cSI [.int (((h k0 0) + (((h k0 2) * ((h k0 1) - (h k0 0))) / (10 : Int32))) + (h k0 4))] (rest := []) a_X1_step_34 ok_X1_held lk_X1_30 ⟨Nat.le_of_ble_eq_true rfl, Nat.le_of_ble_eq_true rfl⟩ rfl rfl (Nat.le_of_ble_eq_true rfl) (t_X1_held (((h k0 0) + (((h k0 2) * ((h k0 1) - (h k0 0))) / (10 : Int32))) + (h k0 4))  h _ hyp) (fun r_3 h_2 hyp => ?_)
    refine ge_istore_n (lv' := [(3, .int r_3), (0, .ref k0), (1, .int a1), (2, .int v2)]) a_X1_step_37 rfl (Nat.le_of_ble_eq_true rfl) rfl ?_
    refine ge_aload_n a_X1_step_38 rfl 1 rfl ?_
    refine ge_aload_n a_X1_step_39 rfl 1 rfl ?_
    refine ge_getI a_X1_step_40 fd_X1_15 hk0 ?_
    refine ge_aload_n a_X1_step_43 rfl 1 rfl ?_
    refine ge_getI a_X1_step_44 fd_X1_21 hk0 ?_
    refine ge_aload_n a_X1_step_47 rfl 1 rfl ?_
    refine ge_getI a_X1_step_48 fd_X1_9 hk0 ?_
    refine ge_aload_n a_X1_step_51 rfl 1 rfl ?_
    refine ge_getI a_X1_step_52 fd_X1_15 hk0 ?_
    refine ge_isub a_X1_step_55 ?_
    refine ge_imul a_X1_step_56 ?_
    refine ge_bipush (v := 10) a_X1_step_57 rfl ?_
    refine ge_idiv a_X1_step_59 (by decide) ?_
    refine ge_iadd a_X1_step_60 ?_
    refine ge_aload_n a_X1_step_61 rfl 1 rfl ?_
    refine ge_getI a_X1_step_62 fd_X1_27 hk0 ?_
    refine ge_iadd a_X1_step_65 ?_
    refine ge_cSI [.int (((h_2 k0 1) + (((h_2 k0 3) * ((h_2 k0 0) - (h_2 k0 1))) / (10 : Int32))) + (h_2 k0 5))] (rest := [.ref k0]) a_X1_step_66 ok_X1_held lk_X1_30 ⟨Nat.le_of_ble_eq_true rfl, Nat.le_of_ble_eq_true rfl⟩ rfl rfl (Nat.le_of_ble_eq_true rfl) (t_X1_held (((h_2 k0 1) + (((h_2 k0 3) * ((h_2 k0 0) - (h_2 k0 1))) / (10 : Int32))) + (h_2 k0 5))  h_2 _ hyp) (fun r_5 h_4 hyp => ?_)
    refine ge_putI a_X1_step_69 pd_X1_15 hk0 ?_
    refine ge_nm (fun h_6 eh_6 => ?_)
    have hyp := hyp h_6 eh_6
    refine ge_aload_n a_X1_step_72 rfl 1 rfl ?_
    refine ge_iload_n a_X1_step_73 rfl 0 rfl ?_
    refine ge_putI a_X1_step_74 pd_X1_9 hk0 ?_
    refine ge_nm (fun h_7 eh_7 => ?_)
    have hyp := hyp h_7 eh_7
    obtain ⟨v_8, ev_8⟩ : ∃ y : Int32, y = v2 + (1 : Int32) := ⟨_, rfl⟩
    have hyp := hyp v_8 ev_8
    refine ge_iinc (v := v_8) (lv' := [(2, .int v_8), (3, .int r_3), (0, .ref k0), (1, .int a1)]) a_X1_step_77 3 rfl ev_8.symm (Nat.le_of_ble_eq_true rfl) rfl ?_
    refine ge_goto a_X1_step_80 ?_
    exact ge_sub [2, 3, 0] rfl (hK2 v_8 h_7 hyp)
def f_X1_step (k0 : Nat) (a1 : Int32) (h : Mem) (Q : Mem → Prop) : Prop :=
  gm_it1 (f_X1_step_b2 k0 a1  Q ) gm_F (0 : Int32) h
set_option maxRecDepth 20000 in
theorem t_X1_step (k0 : Nat) (a1 : Int32) (hk0 : gm_cls k0 = 0) (h : Mem) (Q : Mem → Prop) (hyp : f_X1_step k0 a1 h Q) : Cn m_X1_step [.ref k0, .int a1] h (GV Q) := by
  refine ge_entry (lv := [(0, .ref k0), (1, .int a1)]) pn_X1 (Nat.le_of_ble_eq_true rfl) rfl ?_
  unfold f_X1_step at hyp
  refine ge_iconst (v := 0) a_X1_step_0 rfl ?_
  refine ge_istore_n (lv' := [(2, .int (0 : Int32)), (0, .ref k0), (1, .int a1)]) a_X1_step_1 rfl (Nat.le_of_ble_eq_true rfl) rfl ?_
  exact ge_sub [1, 2, 0] rfl (t_X1_step_b2 k0 a1  hk0  Q   gm_F (0 : Int32) h hyp)

theorem a_X1_are_0 : At m_X1_are 0 (.aload_n 0) 1 1 := at_i (by decide +kernel) rfl
theorem a_X1_are_1 : At m_X1_are 1 (.getfield 9) 3 4 := at_i (by decide +kernel) rfl
theorem a_X1_are_4 : At m_X1_are 4 (.iload_n 1) 1 5 := at_i (by decide +kernel) rfl
theorem a_X1_are_5 : AtJ m_X1_are 5 (.if_icmp .ne 15) (15) 20 8 := at_j (by decide +kernel) (by decide) rfl
theorem a_X1_are_8 : At m_X1_are 8 (.aload_n 0) 1 9 := at_i (by decide +kernel) rfl
theorem a_X1_are_9 : At m_X1_are 9 (.getfield 15) 3 12 := at_i (by decide +kernel) rfl
theorem a_X1_are_12 : At m_X1_are 12 (.iload_n 2) 1 13 := at_i (by decide +kernel) rfl
theorem a_X1_are_13 : AtJ m_X1_are 13 (.if_icmp .ne 7) (7) 20 16 := at_j (by decide +kernel) (by decide) rfl
theorem a_X1_are_16 : At m_X1_are 16 (.iconst 1) 1 17 := at_i (by decide +kernel) rfl
theorem a_X1_are_17 : AtJ m_X1_are 17 (.goto 4) (4) 21 20 := at_j (by decide +kernel) (by decide) rfl
theorem a_X1_are_20 : At m_X1_are 20 (.iconst 0) 1 21 := at_i (by decide +kernel) rfl
theorem a_X1_are_21 : At m_X1_are 21 (.ireturn) 1 22 := at_i (by decide +kernel) rfl
def f_X1_are (k0 : Nat) (a1 : Int32) (a2 : Int32) (h : Mem) (Q : Int32 → Mem → Prop) : Prop :=
  if h k0 0 = a1 then (
    if h k0 1 = a2 then (
      Q (1 : Int32) h)
    else (
      Q (0 : Int32) h))
  else (
    Q (0 : Int32) h)
set_option maxRecDepth 20000 in
theorem t_X1_are (k0 : Nat) (a1 : Int32) (a2 : Int32) (hk0 : gm_cls k0 = 0) (h : Mem) (Q : Int32 → Mem → Prop) (hyp : f_X1_are k0 a1 a2 h Q) : Cn m_X1_are [.ref k0, .int a1, .int a2] h (GI Q) := by
  refine ge_entry (lv := [(0, .ref k0), (1, .int a1), (2, .int a2)]) pn_X1 (Nat.le_of_ble_eq_true rfl) rfl ?_
  unfold f_X1_are at hyp
  refine ge_aload_n a_X1_are_0 rfl 0 rfl ?_
  refine ge_getI a_X1_are_1 fd_X1_9 hk0 ?_
  refine ge_iload_n a_X1_are_4 rfl 1 rfl ?_
  refine ge_icmp_ne a_X1_are_5 (fun c_1 => ?_) (fun c_1 => ?_)
  · have hyp := gm_in hyp c_1
    refine ge_iconst (v := 0) a_X1_are_20 rfl ?_
    exact ge_zret rfl rfl a_X1_are_21 hyp
  · have hyp := gm_ip hyp c_1
    refine ge_aload_n a_X1_are_8 rfl 0 rfl ?_
    refine ge_getI a_X1_are_9 fd_X1_15 hk0 ?_
    refine ge_iload_n a_X1_are_12 rfl 2 rfl ?_
    refine ge_icmp_ne a_X1_are_13 (fun c_2 => ?_) (fun c_2 => ?_)
    · have hyp := gm_in hyp c_2
      refine ge_iconst (v := 0) a_X1_are_20 rfl ?_
      exact ge_zret rfl rfl a_X1_are_21 hyp
    · have hyp := gm_ip hyp c_2
      refine ge_iconst (v := 1) a_X1_are_16 rfl ?_
      refine ge_goto a_X1_are_17 ?_
      exact ge_zret rfl rfl a_X1_are_21 hyp

theorem a_X1_habit_0 : At m_X1_habit 0 (.aload_n 0) 1 1 := at_i (by decide +kernel) rfl
theorem a_X1_habit_1 : At m_X1_habit 1 (.getfield 9) 3 4 := at_i (by decide +kernel) rfl
theorem a_X1_habit_4 : At m_X1_habit 4 (.istore_n 1) 1 5 := at_i (by decide +kernel) rfl
theorem a_X1_habit_5 : At m_X1_habit 5 (.aload_n 0) 1 6 := at_i (by decide +kernel) rfl
theorem a_X1_habit_6 : At m_X1_habit 6 (.getfield 15) 3 9 := at_i (by decide +kernel) rfl
theorem a_X1_habit_9 : At m_X1_habit 9 (.istore_n 2) 1 10 := at_i (by decide +kernel) rfl
theorem a_X1_habit_10 : At m_X1_habit 10 (.aload_n 0) 1 11 := at_i (by decide +kernel) rfl
theorem a_X1_habit_11 : At m_X1_habit 11 (.iconst 1) 1 12 := at_i (by decide +kernel) rfl
theorem a_X1_habit_12 : At m_X1_habit 12 (.invokevirtual 34) 3 15 := at_i (by decide +kernel) rfl
theorem a_X1_habit_15 : At m_X1_habit 15 (.aload_n 0) 1 16 := at_i (by decide +kernel) rfl
theorem a_X1_habit_16 : At m_X1_habit 16 (.iload_n 1) 1 17 := at_i (by decide +kernel) rfl
theorem a_X1_habit_17 : At m_X1_habit 17 (.iload_n 2) 1 18 := at_i (by decide +kernel) rfl
theorem a_X1_habit_18 : At m_X1_habit 18 (.invokevirtual 38) 3 21 := at_i (by decide +kernel) rfl
theorem a_X1_habit_21 : AtJ m_X1_habit 21 (.ifCond .eq 5) (5) 26 24 := at_j (by decide +kernel) (by decide) rfl
theorem a_X1_habit_24 : At m_X1_habit 24 (.iconst 0) 1 25 := at_i (by decide +kernel) rfl
theorem a_X1_habit_25 : At m_X1_habit 25 (.ireturn) 1 26 := at_i (by decide +kernel) rfl
theorem a_X1_habit_26 : At m_X1_habit 26 (.iload_n 1) 1 27 := at_i (by decide +kernel) rfl
theorem a_X1_habit_27 : At m_X1_habit 27 (.bipush 50) 2 29 := at_i (by decide +kernel) rfl
theorem a_X1_habit_29 : AtJ m_X1_habit 29 (.if_icmp .lt 11) (11) 40 32 := at_j (by decide +kernel) (by decide) rfl
theorem a_X1_habit_32 : At m_X1_habit 32 (.iload_n 2) 1 33 := at_i (by decide +kernel) rfl
theorem a_X1_habit_33 : At m_X1_habit 33 (.bipush 50) 2 35 := at_i (by decide +kernel) rfl
theorem a_X1_habit_35 : AtJ m_X1_habit 35 (.if_icmp .lt 5) (5) 40 38 := at_j (by decide +kernel) (by decide) rfl
theorem a_X1_habit_38 : At m_X1_habit 38 (.iconst 1) 1 39 := at_i (by decide +kernel) rfl
theorem a_X1_habit_39 : At m_X1_habit 39 (.ireturn) 1 40 := at_i (by decide +kernel) rfl
theorem a_X1_habit_40 : At m_X1_habit 40 (.iconst 2) 1 41 := at_i (by decide +kernel) rfl
theorem a_X1_habit_41 : At m_X1_habit 41 (.istore_n 3) 1 42 := at_i (by decide +kernel) rfl
theorem a_X1_habit_42 : At m_X1_habit 42 (.iload_n 3) 1 43 := at_i (by decide +kernel) rfl
theorem a_X1_habit_43 : At m_X1_habit 43 (.bipush 100) 2 45 := at_i (by decide +kernel) rfl
theorem a_X1_habit_45 : AtJ m_X1_habit 45 (.if_icmp .gt 25) (25) 70 48 := at_j (by decide +kernel) (by decide) rfl
theorem a_X1_habit_48 : At m_X1_habit 48 (.aload_n 0) 1 49 := at_i (by decide +kernel) rfl
theorem a_X1_habit_49 : At m_X1_habit 49 (.iconst 1) 1 50 := at_i (by decide +kernel) rfl
theorem a_X1_habit_50 : At m_X1_habit 50 (.invokevirtual 34) 3 53 := at_i (by decide +kernel) rfl
theorem a_X1_habit_53 : At m_X1_habit 53 (.aload_n 0) 1 54 := at_i (by decide +kernel) rfl
theorem a_X1_habit_54 : At m_X1_habit 54 (.iload_n 1) 1 55 := at_i (by decide +kernel) rfl
theorem a_X1_habit_55 : At m_X1_habit 55 (.iload_n 2) 1 56 := at_i (by decide +kernel) rfl
theorem a_X1_habit_56 : At m_X1_habit 56 (.invokevirtual 38) 3 59 := at_i (by decide +kernel) rfl
theorem a_X1_habit_59 : AtJ m_X1_habit 59 (.ifCond .eq 5) (5) 64 62 := at_j (by decide +kernel) (by decide) rfl
theorem a_X1_habit_62 : At m_X1_habit 62 (.iconst 2) 1 63 := at_i (by decide +kernel) rfl
theorem a_X1_habit_63 : At m_X1_habit 63 (.ireturn) 1 64 := at_i (by decide +kernel) rfl
theorem a_X1_habit_64 : At m_X1_habit 64 (.iinc 3 1) 3 67 := at_i (by decide +kernel) rfl
theorem a_X1_habit_67 : AtJ m_X1_habit 67 (.goto (-25)) (-25) 42 70 := at_j (by decide +kernel) (by decide) rfl
theorem a_X1_habit_70 : At m_X1_habit 70 (.iconst 3) 1 71 := at_i (by decide +kernel) rfl
theorem a_X1_habit_71 : At m_X1_habit 71 (.ireturn) 1 72 := at_i (by decide +kernel) rfl
def f_X1_habit_b42 (k0 : Nat) (v_1 : Int32) (v_2 : Int32) (Q : Int32 → Mem → Prop)  (K42 : Int32 → Mem → Prop) (v3 : Int32) (h : Mem) : Prop :=
  if (100 : Int32) < v3 then (
    Q (3 : Int32) h)
  else (
    f_X1_step k0 (1 : Int32) h fun h_9 =>
    f_X1_are k0 v_1 v_2 h_9 fun r_11 h_10 =>
    if r_11 = 0 then (
      ∀ v_13 : Int32, v_13 = v3 + (1 : Int32) →
      K42 v_13 h_10)
    else (
      Q (2 : Int32) h_10))
set_option maxRecDepth 20000 in
theorem t_X1_habit_b42 (k0 : Nat) (v_1 : Int32) (v_2 : Int32) (hk0 : gm_cls k0 = 0)  (Q : Int32 → Mem → Prop)   : ∀ (n : Nat) (v3 : Int32) (h : Mem), gm_it1 (f_X1_habit_b42 k0 v_1 v_2 Q ) n v3 h → EV m_X1_habit (GI Q) 42 [(0, .ref k0), (1, .int v_1), (2, .int v_2), (3, .int v3)] [] h := by
  refine ge_loop1 (P := fun v3 h => EV m_X1_habit (GI Q) 42 [(0, .ref k0), (1, .int v_1), (2, .int v_2), (3, .int v3)] [] h) (fun K42 hK42 v3 h hyp => ?_)
  unfold f_X1_habit_b42 at hyp
  refine ge_iload_n a_X1_habit_42 rfl 3 rfl ?_
  refine ge_bipush (v := 100) a_X1_habit_43 rfl ?_
  refine ge_icmp_gt a_X1_habit_45 (fun c_8 => ?_) (fun c_8 => ?_)
  · have hyp := gm_ip hyp c_8
    refine ge_iconst (v := 3) a_X1_habit_70 rfl ?_
    exact ge_iret rfl a_X1_habit_71 hyp
  · have hyp := gm_in hyp c_8
    refine ge_aload_n a_X1_habit_48 rfl 0 rfl ?_
    refine ge_iconst (v := 1) a_X1_habit_49 rfl ?_
    refine ge_cVV [.int (1 : Int32)] (rest := []) a_X1_habit_50 ok_X1_step lk_X1_34 ⟨Nat.le_of_ble_eq_true rfl, Nat.le_of_ble_eq_true rfl⟩ hk0 vc_0 (by decide) rfl rfl (Nat.le_of_ble_eq_true rfl) (t_X1_step k0 (1 : Int32) hk0 h _ hyp) (fun h_9 hyp => ?_)
    refine ge_aload_n a_X1_habit_53 rfl 0 rfl ?_
    refine ge_iload_n a_X1_habit_54 rfl 1 rfl ?_
    refine ge_iload_n a_X1_habit_55 rfl 2 rfl ?_
    refine ge_cVI [.int v_1, .int v_2] (rest := []) a_X1_habit_56 ok_X1_are lk_X1_38 ⟨Nat.le_of_ble_eq_true rfl, Nat.le_of_ble_eq_true rfl⟩ hk0 vc_0 (by decide) rfl rfl (Nat.le_of_ble_eq_true rfl) (t_X1_are k0 v_1 v_2 hk0 h_9 _ hyp) (fun r_11 h_10 hyp => ?_)
    refine ge_if_eq a_X1_habit_59 (fun c_12 => ?_) (fun c_12 => ?_)
    · have hyp := gm_ip hyp c_12
      obtain ⟨v_13, ev_13⟩ : ∃ y : Int32, y = v3 + (1 : Int32) := ⟨_, rfl⟩
      have hyp := hyp v_13 ev_13
      refine ge_iinc (v := v_13) (lv' := [(3, .int v_13), (0, .ref k0), (1, .int v_1), (2, .int v_2)]) a_X1_habit_64 3 rfl ev_13.symm (Nat.le_of_ble_eq_true rfl) rfl ?_
      refine ge_goto a_X1_habit_67 ?_
      exact ge_sub [1, 2, 3, 0] rfl (hK42 v_13 h_10 hyp)
    · have hyp := gm_in hyp c_12
      refine ge_iconst (v := 2) a_X1_habit_62 rfl ?_
      exact ge_iret rfl a_X1_habit_63 hyp
def f_X1_habit (k0 : Nat) (h : Mem) (Q : Int32 → Mem → Prop) : Prop :=
  ∀ v_1 : Int32, v_1 = h k0 0 →
  ∀ v_2 : Int32, v_2 = h k0 1 →
  f_X1_step k0 (1 : Int32) h fun h_3 =>
  f_X1_are k0 v_1 v_2 h_3 fun r_5 h_4 =>
  if r_5 = 0 then (
    if v_1 < (50 : Int32) then (
      gm_it1 (f_X1_habit_b42 k0 v_1 v_2 Q ) gm_F (2 : Int32) h_4)
    else (
      if v_2 < (50 : Int32) then (
        gm_it1 (f_X1_habit_b42 k0 v_1 v_2 Q ) gm_F (2 : Int32) h_4)
      else (
        Q (1 : Int32) h_4)))
  else (
    Q (0 : Int32) h_4)
set_option maxRecDepth 20000 in
theorem t_X1_habit (k0 : Nat) (hk0 : gm_cls k0 = 0) (h : Mem) (Q : Int32 → Mem → Prop) (hyp : f_X1_habit k0 h Q) : Cn m_X1_habit [.ref k0] h (GI Q) := by
  refine ge_entry (lv := [(0, .ref k0)]) pn_X1 (Nat.le_of_ble_eq_true rfl) rfl ?_
  unfold f_X1_habit at hyp
  refine ge_aload_n a_X1_habit_0 rfl 0 rfl ?_
  refine ge_getI a_X1_habit_1 fd_X1_9 hk0 ?_
  refine ge_topi (fun v_1 ev_1 => ?_)
  have hyp := hyp v_1 ev_1
  refine ge_istore_n (lv' := [(1, .int v_1), (0, .ref k0)]) a_X1_habit_4 rfl (Nat.le_of_ble_eq_true rfl) rfl ?_
  refine ge_aload_n a_X1_habit_5 rfl 1 rfl ?_
  refine ge_getI a_X1_habit_6 fd_X1_15 hk0 ?_
  refine ge_topi (fun v_2 ev_2 => ?_)
  have hyp := hyp v_2 ev_2
  refine ge_istore_n (lv' := [(2, .int v_2), (1, .int v_1), (0, .ref k0)]) a_X1_habit_9 rfl (Nat.le_of_ble_eq_true rfl) rfl ?_
  refine ge_aload_n a_X1_habit_10 rfl 2 rfl ?_
  refine ge_iconst (v := 1) a_X1_habit_11 rfl ?_
  refine ge_cVV [.int (1 : Int32)] (rest := []) a_X1_habit_12 ok_X1_step lk_X1_34 ⟨Nat.le_of_ble_eq_true rfl, Nat.le_of_ble_eq_true rfl⟩ hk0 vc_0 (by decide) rfl rfl (Nat.le_of_ble_eq_true rfl) (t_X1_step k0 (1 : Int32) hk0 h _ hyp) (fun h_3 hyp => ?_)
  refine ge_aload_n a_X1_habit_15 rfl 2 rfl ?_
  refine ge_iload_n a_X1_habit_16 rfl 1 rfl ?_
  refine ge_iload_n a_X1_habit_17 rfl 0 rfl ?_
  refine ge_cVI [.int v_1, .int v_2] (rest := []) a_X1_habit_18 ok_X1_are lk_X1_38 ⟨Nat.le_of_ble_eq_true rfl, Nat.le_of_ble_eq_true rfl⟩ hk0 vc_0 (by decide) rfl rfl (Nat.le_of_ble_eq_true rfl) (t_X1_are k0 v_1 v_2 hk0 h_3 _ hyp) (fun r_5 h_4 hyp => ?_)
  refine ge_if_eq a_X1_habit_21 (fun c_6 => ?_) (fun c_6 => ?_)
  · have hyp := gm_ip hyp c_6
    refine ge_iload_n a_X1_habit_26 rfl 1 rfl ?_
    refine ge_bipush (v := 50) a_X1_habit_27 rfl ?_
    refine ge_icmp_lt a_X1_habit_29 (fun c_7 => ?_) (fun c_7 => ?_)
    · have hyp := gm_ip hyp c_7
      refine ge_iconst (v := 2) a_X1_habit_40 rfl ?_
      refine ge_istore_n (lv' := [(3, .int (2 : Int32)), (2, .int v_2), (1, .int v_1), (0, .ref k0)]) a_X1_habit_41 rfl (Nat.le_of_ble_eq_true rfl) rfl ?_
      exact ge_sub [3, 2, 1, 0] rfl (t_X1_habit_b42 k0 v_1 v_2 hk0  Q   gm_F (2 : Int32) h_4 hyp)
    · have hyp := gm_in hyp c_7
      refine ge_iload_n a_X1_habit_32 rfl 0 rfl ?_
      refine ge_bipush (v := 50) a_X1_habit_33 rfl ?_
      refine ge_icmp_lt a_X1_habit_35 (fun c_14 => ?_) (fun c_14 => ?_)
      · have hyp := gm_ip hyp c_14
        refine ge_iconst (v := 2) a_X1_habit_40 rfl ?_
        refine ge_istore_n (lv' := [(3, .int (2 : Int32)), (2, .int v_2), (1, .int v_1), (0, .ref k0)]) a_X1_habit_41 rfl (Nat.le_of_ble_eq_true rfl) rfl ?_
        exact ge_sub [3, 2, 1, 0] rfl (t_X1_habit_b42 k0 v_1 v_2 hk0  Q   gm_F (2 : Int32) h_4 hyp)
      · have hyp := gm_in hyp c_14
        refine ge_iconst (v := 1) a_X1_habit_38 rfl ?_
        exact ge_iret rfl a_X1_habit_39 hyp
  · have hyp := gm_in hyp c_6
    refine ge_iconst (v := 0) a_X1_habit_24 rfl ?_
    exact ge_iret rfl a_X1_habit_25 hyp

theorem a_X2_lengthFrom_0 : At m_X2_lengthFrom 0 (.aload_n 0) 1 1 := at_i (by decide +kernel) rfl
theorem a_X2_lengthFrom_1 : At m_X2_lengthFrom 1 (.getfield 10) 3 4 := at_i (by decide +kernel) rfl
theorem a_X2_lengthFrom_4 : At m_X2_lengthFrom 4 (.aload_n 1) 1 5 := at_i (by decide +kernel) rfl
theorem a_X2_lengthFrom_5 : At m_X2_lengthFrom 5 (.invokevirtual 19) 3 8 := at_i (by decide +kernel) rfl
theorem a_X2_lengthFrom_8 : At m_X2_lengthFrom 8 (.aload_n 0) 1 9 := at_i (by decide +kernel) rfl
theorem a_X2_lengthFrom_9 : At m_X2_lengthFrom 9 (.getfield 16) 3 12 := at_i (by decide +kernel) rfl
theorem a_X2_lengthFrom_12 : At m_X2_lengthFrom 12 (.aload_n 1) 1 13 := at_i (by decide +kernel) rfl
theorem a_X2_lengthFrom_13 : At m_X2_lengthFrom 13 (.invokevirtual 19) 3 16 := at_i (by decide +kernel) rfl
theorem a_X2_lengthFrom_16 : At m_X2_lengthFrom 16 (.iconst 0) 1 17 := at_i (by decide +kernel) rfl
theorem a_X2_lengthFrom_17 : At m_X2_lengthFrom 17 (.istore_n 2) 1 18 := at_i (by decide +kernel) rfl
theorem a_X2_lengthFrom_18 : At m_X2_lengthFrom 18 (.iconst 1) 1 19 := at_i (by decide +kernel) rfl
theorem a_X2_lengthFrom_19 : At m_X2_lengthFrom 19 (.istore_n 3) 1 20 := at_i (by decide +kernel) rfl
theorem a_X2_lengthFrom_20 : At m_X2_lengthFrom 20 (.iconst 0) 1 21 := at_i (by decide +kernel) rfl
theorem a_X2_lengthFrom_21 : At m_X2_lengthFrom 21 (.istore 4) 2 23 := at_i (by decide +kernel) rfl
theorem a_X2_lengthFrom_23 : At m_X2_lengthFrom 23 (.iload 4) 2 25 := at_i (by decide +kernel) rfl
theorem a_X2_lengthFrom_25 : At m_X2_lengthFrom 25 (.ldc 23) 2 27 := at_i (by decide +kernel) rfl
theorem a_X2_lengthFrom_27 : AtJ m_X2_lengthFrom 27 (.if_icmp .ge 86) (86) 113 30 := at_j (by decide +kernel) (by decide) rfl
theorem a_X2_lengthFrom_30 : At m_X2_lengthFrom 30 (.aload_n 0) 1 31 := at_i (by decide +kernel) rfl
theorem a_X2_lengthFrom_31 : At m_X2_lengthFrom 31 (.getfield 16) 3 34 := at_i (by decide +kernel) rfl
theorem a_X2_lengthFrom_34 : At m_X2_lengthFrom 34 (.iconst 1) 1 35 := at_i (by decide +kernel) rfl
theorem a_X2_lengthFrom_35 : At m_X2_lengthFrom 35 (.invokevirtual 24) 3 38 := at_i (by decide +kernel) rfl
theorem a_X2_lengthFrom_38 : At m_X2_lengthFrom 38 (.iinc 2 1) 3 41 := at_i (by decide +kernel) rfl
theorem a_X2_lengthFrom_41 : At m_X2_lengthFrom 41 (.aload_n 0) 1 42 := at_i (by decide +kernel) rfl
theorem a_X2_lengthFrom_42 : At m_X2_lengthFrom 42 (.getfield 16) 3 45 := at_i (by decide +kernel) rfl
theorem a_X2_lengthFrom_45 : At m_X2_lengthFrom 45 (.aload_n 0) 1 46 := at_i (by decide +kernel) rfl
theorem a_X2_lengthFrom_46 : At m_X2_lengthFrom 46 (.getfield 10) 3 49 := at_i (by decide +kernel) rfl
theorem a_X2_lengthFrom_49 : At m_X2_lengthFrom 49 (.getfield 28) 3 52 := at_i (by decide +kernel) rfl
theorem a_X2_lengthFrom_52 : At m_X2_lengthFrom 52 (.aload_n 0) 1 53 := at_i (by decide +kernel) rfl
theorem a_X2_lengthFrom_53 : At m_X2_lengthFrom 53 (.getfield 10) 3 56 := at_i (by decide +kernel) rfl
theorem a_X2_lengthFrom_56 : At m_X2_lengthFrom 56 (.getfield 32) 3 59 := at_i (by decide +kernel) rfl
theorem a_X2_lengthFrom_59 : At m_X2_lengthFrom 59 (.invokevirtual 35) 3 62 := at_i (by decide +kernel) rfl
theorem a_X2_lengthFrom_62 : AtJ m_X2_lengthFrom 62 (.ifCond .eq 6) (6) 68 65 := at_j (by decide +kernel) (by decide) rfl
theorem a_X2_lengthFrom_65 : AtJ m_X2_lengthFrom 65 (.goto 48) (48) 113 68 := at_j (by decide +kernel) (by decide) rfl
theorem a_X2_lengthFrom_68 : At m_X2_lengthFrom 68 (.iload_n 2) 1 69 := at_i (by decide +kernel) rfl
theorem a_X2_lengthFrom_69 : At m_X2_lengthFrom 69 (.iload_n 3) 1 70 := at_i (by decide +kernel) rfl
theorem a_X2_lengthFrom_70 : AtJ m_X2_lengthFrom 70 (.if_icmp .ne 37) (37) 107 73 := at_j (by decide +kernel) (by decide) rfl
theorem a_X2_lengthFrom_73 : At m_X2_lengthFrom 73 (.aload_n 0) 1 74 := at_i (by decide +kernel) rfl
theorem a_X2_lengthFrom_74 : At m_X2_lengthFrom 74 (.getfield 10) 3 77 := at_i (by decide +kernel) rfl
theorem a_X2_lengthFrom_77 : At m_X2_lengthFrom 77 (.aload_n 0) 1 78 := at_i (by decide +kernel) rfl
theorem a_X2_lengthFrom_78 : At m_X2_lengthFrom 78 (.getfield 16) 3 81 := at_i (by decide +kernel) rfl
theorem a_X2_lengthFrom_81 : At m_X2_lengthFrom 81 (.getfield 28) 3 84 := at_i (by decide +kernel) rfl
theorem a_X2_lengthFrom_84 : At m_X2_lengthFrom 84 (.putfield 28) 3 87 := at_i (by decide +kernel) rfl
theorem a_X2_lengthFrom_87 : At m_X2_lengthFrom 87 (.aload_n 0) 1 88 := at_i (by decide +kernel) rfl
theorem a_X2_lengthFrom_88 : At m_X2_lengthFrom 88 (.getfield 10) 3 91 := at_i (by decide +kernel) rfl
theorem a_X2_lengthFrom_91 : At m_X2_lengthFrom 91 (.aload_n 0) 1 92 := at_i (by decide +kernel) rfl
theorem a_X2_lengthFrom_92 : At m_X2_lengthFrom 92 (.getfield 16) 3 95 := at_i (by decide +kernel) rfl
theorem a_X2_lengthFrom_95 : At m_X2_lengthFrom 95 (.getfield 32) 3 98 := at_i (by decide +kernel) rfl
theorem a_X2_lengthFrom_98 : At m_X2_lengthFrom 98 (.putfield 32) 3 101 := at_i (by decide +kernel) rfl
theorem a_X2_lengthFrom_101 : At m_X2_lengthFrom 101 (.iload_n 3) 1 102 := at_i (by decide +kernel) rfl
theorem a_X2_lengthFrom_102 : At m_X2_lengthFrom 102 (.iconst 2) 1 103 := at_i (by decide +kernel) rfl
theorem a_X2_lengthFrom_103 : At m_X2_lengthFrom 103 (.imul) 1 104 := at_i (by decide +kernel) rfl
theorem a_X2_lengthFrom_104 : At m_X2_lengthFrom 104 (.istore_n 3) 1 105 := at_i (by decide +kernel) rfl
theorem a_X2_lengthFrom_105 : At m_X2_lengthFrom 105 (.iconst 0) 1 106 := at_i (by decide +kernel) rfl
theorem a_X2_lengthFrom_106 : At m_X2_lengthFrom 106 (.istore_n 2) 1 107 := at_i (by decide +kernel) rfl
theorem a_X2_lengthFrom_107 : At m_X2_lengthFrom 107 (.iinc 4 1) 3 110 := at_i (by decide +kernel) rfl
theorem a_X2_lengthFrom_110 : AtJ m_X2_lengthFrom 110 (.goto (-87)) (-87) 23 113 := at_j (by decide +kernel) (by decide) rfl
theorem a_X2_lengthFrom_113 : At m_X2_lengthFrom 113 (.iload_n 2) 1 114 := at_i (by decide +kernel) rfl
theorem a_X2_lengthFrom_114 : At m_X2_lengthFrom 114 (.ireturn) 1 115 := at_i (by decide +kernel) rfl
def f_X2_lengthFrom_b23 (b1 : Nat) (n1 : Nat)  (Q : Int32 → Mem → Prop)  (K23 : Int32 → Int32 → Int32 → Mem → Prop) (v2 : Int32) (v3 : Int32) (v4 : Int32) (h : Mem) : Prop :=
  if (100000 : Int32) ≤ v4 then (
    Q v2 h)
  else (
    f_X1_step 22 (1 : Int32) h fun h_4 =>
    ∀ v_5 : Int32, v_5 = v2 + (1 : Int32) →
    f_X1_are 22 (h_4 21 0) (h_4 21 1) h_4 fun r_7 h_6 =>
    if r_7 = 0 then (
      if v_5 = v3 then (
        ∀ h_11 : Mem, h_11 = gm_st h_6 21 0 (h_6 22 0) →
        ∀ h_12 : Mem, h_12 = gm_st h_11 21 1 (h_11 22 1) →
        ∀ v_13 : Int32, v_13 = v3 * (2 : Int32) →
        ∀ v_14 : Int32, v_14 = v4 + (1 : Int32) →
        K23 (0 : Int32) v_13 v_14 h_12)
      else (
        ∀ v_10 : Int32, v_10 = v4 + (1 : Int32) →
        K23 v_5 v3 v_10 h_6))
    else (
      Q v_5 h_6))
set_option maxRecDepth 20000 in
theorem t_X2_lengthFrom_b23 (b1 : Nat) (n1 : Nat)  (hb1 : gm_arr b1 n1)  (Q : Int32 → Mem → Prop)   : ∀ (n : Nat) (v2 : Int32) (v3 : Int32) (v4 : Int32) (h : Mem), gm_it3 (f_X2_lengthFrom_b23 b1 n1  Q ) n v2 v3 v4 h → EV m_X2_lengthFrom (GI Q) 23 [(0, .ref 20), (2, .int v2), (3, .int v3), (4, .int v4)] [] h := by
  refine ge_loop3 (P := fun v2 v3 v4 h => EV m_X2_lengthFrom (GI Q) 23 [(0, .ref 20), (2, .int v2), (3, .int v3), (4, .int v4)] [] h) (fun K23 hK23 v2 v3 v4 h hyp => ?_)
  unfold f_X2_lengthFrom_b23 at hyp
  refine ge_iload a_X2_lengthFrom_23 3 rfl ?_
  refine ge_ldc (v := 100000) a_X2_lengthFrom_25 ct_X2_23 ?_
  refine ge_icmp_ge a_X2_lengthFrom_27 (fun c_3 => ?_) (fun c_3 => ?_)
  · have hyp := gm_ip hyp c_3
    refine ge_iload_n a_X2_lengthFrom_113 rfl 1 rfl ?_
    exact ge_iret rfl a_X2_lengthFrom_114 hyp
  · have hyp := gm_in hyp c_3
    refine ge_aload_n a_X2_lengthFrom_30 rfl 0 rfl ?_
    refine ge_getR (q := 22) a_X2_lengthFrom_31 fd_X2_16 (rfl : gm_cls 20 = 1) rfl ?_
    refine ge_iconst (v := 1) a_X2_lengthFrom_34 rfl ?_
    refine ge_cVV [.int (1 : Int32)] (rest := []) a_X2_lengthFrom_35 ok_X1_step lk_X2_24 ⟨Nat.le_of_ble_eq_true rfl, Nat.le_of_ble_eq_true rfl⟩ (rfl : gm_cls 22 = 0) vc_0 (by decide) rfl rfl (Nat.le_of_ble_eq_true rfl) (t_X1_step 22 (1 : Int32) (rfl : gm_cls 22 = 0) h _ hyp) (fun h_4 hyp => ?_)
    obtain ⟨v_5, ev_5⟩ : ∃ y : Int32, y = v2 + (1 : Int32) := ⟨_, rfl⟩
    have hyp := hyp v_5 ev_5
    refine ge_iinc (v := v_5) (lv' := [(2, .int v_5), (0, .ref 20), (3, .int v3), (4, .int v4)]) a_X2_lengthFrom_38 1 rfl ev_5.symm (Nat.le_of_ble_eq_true rfl) rfl ?_
    refine ge_aload_n a_X2_lengthFrom_41 rfl 1 rfl ?_
    refine ge_getR (q := 22) a_X2_lengthFrom_42 fd_X2_16 (rfl : gm_cls 20 = 1) rfl ?_
    refine ge_aload_n a_X2_lengthFrom_45 rfl 1 rfl ?_
    refine ge_getR (q := 21) a_X2_lengthFrom_46 fd_X2_10 (rfl : gm_cls 20 = 1) rfl ?_
    refine ge_getI a_X2_lengthFrom_49 fd_X2_28 (rfl : gm_cls 21 = 0) ?_
    refine ge_aload_n a_X2_lengthFrom_52 rfl 1 rfl ?_
    refine ge_getR (q := 21) a_X2_lengthFrom_53 fd_X2_10 (rfl : gm_cls 20 = 1) rfl ?_
    refine ge_getI a_X2_lengthFrom_56 fd_X2_32 (rfl : gm_cls 21 = 0) ?_
    refine ge_cVI [.int (h_4 21 0), .int (h_4 21 1)] (rest := []) a_X2_lengthFrom_59 ok_X1_are lk_X2_35 ⟨Nat.le_of_ble_eq_true rfl, Nat.le_of_ble_eq_true rfl⟩ (rfl : gm_cls 22 = 0) vc_0 (by decide) rfl rfl (Nat.le_of_ble_eq_true rfl) (t_X1_are 22 (h_4 21 0) (h_4 21 1) (rfl : gm_cls 22 = 0) h_4 _ hyp) (fun r_7 h_6 hyp => ?_)
    refine ge_if_eq a_X2_lengthFrom_62 (fun c_8 => ?_) (fun c_8 => ?_)
    · have hyp := gm_ip hyp c_8
      refine ge_iload_n a_X2_lengthFrom_68 rfl 0 rfl ?_
      refine ge_iload_n a_X2_lengthFrom_69 rfl 2 rfl ?_
      refine ge_icmp_ne a_X2_lengthFrom_70 (fun c_9 => ?_) (fun c_9 => ?_)
      · have hyp := gm_in hyp c_9
        obtain ⟨v_10, ev_10⟩ : ∃ y : Int32, y = v4 + (1 : Int32) := ⟨_, rfl⟩
        have hyp := hyp v_10 ev_10
        refine ge_iinc (v := v_10) (lv' := [(4, .int v_10), (2, .int v_5), (0, .ref 20), (3, .int v3)]) a_X2_lengthFrom_107 3 rfl ev_10.symm (Nat.le_of_ble_eq_true rfl) rfl ?_
        refine ge_goto a_X2_lengthFrom_110 ?_
        exact ge_sub [2, 1, 3, 0] rfl (hK23 v_5 v3 v_10 h_6 hyp)
      · have hyp := gm_ip hyp c_9
        refine ge_aload_n a_X2_lengthFrom_73 rfl 1 rfl ?_
        refine ge_getR (q := 21) a_X2_lengthFrom_74 fd_X2_10 (rfl : gm_cls 20 = 1) rfl ?_
        refine ge_aload_n a_X2_lengthFrom_77 rfl 1 rfl ?_
        refine ge_getR (q := 22) a_X2_lengthFrom_78 fd_X2_16 (rfl : gm_cls 20 = 1) rfl ?_
        refine ge_getI a_X2_lengthFrom_81 fd_X2_28 (rfl : gm_cls 22 = 0) ?_
        refine ge_putI a_X2_lengthFrom_84 pd_X2_28 (rfl : gm_cls 21 = 0) ?_
        refine ge_nm (fun h_11 eh_11 => ?_)
        have hyp := hyp h_11 eh_11
        refine ge_aload_n a_X2_lengthFrom_87 rfl 1 rfl ?_
        refine ge_getR (q := 21) a_X2_lengthFrom_88 fd_X2_10 (rfl : gm_cls 20 = 1) rfl ?_
        refine ge_aload_n a_X2_lengthFrom_91 rfl 1 rfl ?_
        refine ge_getR (q := 22) a_X2_lengthFrom_92 fd_X2_16 (rfl : gm_cls 20 = 1) rfl ?_
        refine ge_getI a_X2_lengthFrom_95 fd_X2_32 (rfl : gm_cls 22 = 0) ?_
        refine ge_putI a_X2_lengthFrom_98 pd_X2_32 (rfl : gm_cls 21 = 0) ?_
        refine ge_nm (fun h_12 eh_12 => ?_)
        have hyp := hyp h_12 eh_12
        refine ge_iload_n a_X2_lengthFrom_101 rfl 2 rfl ?_
        refine ge_iconst (v := 2) a_X2_lengthFrom_102 rfl ?_
        refine ge_imul a_X2_lengthFrom_103 ?_
        refine ge_topi (fun v_13 ev_13 => ?_)
        have hyp := hyp v_13 ev_13
        refine ge_istore_n (lv' := [(3, .int v_13), (2, .int v_5), (0, .ref 20), (4, .int v4)]) a_X2_lengthFrom_104 rfl (Nat.le_of_ble_eq_true rfl) rfl ?_
        refine ge_iconst (v := 0) a_X2_lengthFrom_105 rfl ?_
        refine ge_istore_n (lv' := [(2, .int (0 : Int32)), (3, .int v_13), (0, .ref 20), (4, .int v4)]) a_X2_lengthFrom_106 rfl (Nat.le_of_ble_eq_true rfl) rfl ?_
        obtain ⟨v_14, ev_14⟩ : ∃ y : Int32, y = v4 + (1 : Int32) := ⟨_, rfl⟩
        have hyp := hyp v_14 ev_14
        refine ge_iinc (v := v_14) (lv' := [(4, .int v_14), (2, .int (0 : Int32)), (3, .int v_13), (0, .ref 20)]) a_X2_lengthFrom_107 3 rfl ev_14.symm (Nat.le_of_ble_eq_true rfl) rfl ?_
        refine ge_goto a_X2_lengthFrom_110 ?_
        exact ge_sub [3, 1, 2, 0] rfl (hK23 (0 : Int32) v_13 v_14 h_12 hyp)
    · have hyp := gm_in hyp c_8
      refine ge_goto a_X2_lengthFrom_65 ?_
      refine ge_iload_n a_X2_lengthFrom_113 rfl 0 rfl ?_
      exact ge_iret rfl a_X2_lengthFrom_114 hyp
def f_X2_lengthFrom (b1 : Nat) (n1 : Nat) (h : Mem) (Q : Int32 → Mem → Prop) : Prop :=
  f_X1_takeFrom 21 b1 n1 h fun h_1 =>
  f_X1_takeFrom 22 b1 n1 h_1 fun h_2 =>
  gm_it3 (f_X2_lengthFrom_b23 b1 n1  Q ) gm_F (0 : Int32) (1 : Int32) (0 : Int32) h_2
set_option maxRecDepth 20000 in
theorem t_X2_lengthFrom (b1 : Nat) (n1 : Nat) (hb1 : gm_arr b1 n1) (h : Mem) (Q : Int32 → Mem → Prop) (hyp : f_X2_lengthFrom b1 n1 h Q) : Cn m_X2_lengthFrom [.ref 20, .ref b1] h (GI Q) := by
  refine ge_entry (lv := [(0, .ref 20), (1, .ref b1)]) pn_X2 (Nat.le_of_ble_eq_true rfl) rfl ?_
  unfold f_X2_lengthFrom at hyp
  refine ge_aload_n a_X2_lengthFrom_0 rfl 0 rfl ?_
  refine ge_getR (q := 21) a_X2_lengthFrom_1 fd_X2_10 (rfl : gm_cls 20 = 1) rfl ?_
  refine ge_aload_n a_X2_lengthFrom_4 rfl 1 rfl ?_
  refine ge_cVV [.ref b1] (rest := []) a_X2_lengthFrom_5 ok_X1_takeFrom lk_X2_19 ⟨Nat.le_of_ble_eq_true rfl, Nat.le_of_ble_eq_true rfl⟩ (rfl : gm_cls 21 = 0) vc_0 (by decide) rfl rfl (Nat.le_of_ble_eq_true rfl) (t_X1_takeFrom 21 b1 n1 (rfl : gm_cls 21 = 0) hb1 h _ hyp) (fun h_1 hyp => ?_)
  refine ge_aload_n a_X2_lengthFrom_8 rfl 0 rfl ?_
  refine ge_getR (q := 22) a_X2_lengthFrom_9 fd_X2_16 (rfl : gm_cls 20 = 1) rfl ?_
  refine ge_aload_n a_X2_lengthFrom_12 rfl 1 rfl ?_
  refine ge_cVV [.ref b1] (rest := []) a_X2_lengthFrom_13 ok_X1_takeFrom lk_X2_19 ⟨Nat.le_of_ble_eq_true rfl, Nat.le_of_ble_eq_true rfl⟩ (rfl : gm_cls 22 = 0) vc_0 (by decide) rfl rfl (Nat.le_of_ble_eq_true rfl) (t_X1_takeFrom 22 b1 n1 (rfl : gm_cls 22 = 0) hb1 h_1 _ hyp) (fun h_2 hyp => ?_)
  refine ge_iconst (v := 0) a_X2_lengthFrom_16 rfl ?_
  refine ge_istore_n (lv' := [(2, .int (0 : Int32)), (0, .ref 20), (1, .ref b1)]) a_X2_lengthFrom_17 rfl (Nat.le_of_ble_eq_true rfl) rfl ?_
  refine ge_iconst (v := 1) a_X2_lengthFrom_18 rfl ?_
  refine ge_istore_n (lv' := [(3, .int (1 : Int32)), (2, .int (0 : Int32)), (0, .ref 20), (1, .ref b1)]) a_X2_lengthFrom_19 rfl (Nat.le_of_ble_eq_true rfl) rfl ?_
  refine ge_iconst (v := 0) a_X2_lengthFrom_20 rfl ?_
  refine ge_istore (lv' := [(4, .int (0 : Int32)), (3, .int (1 : Int32)), (2, .int (0 : Int32)), (0, .ref 20), (1, .ref b1)]) a_X2_lengthFrom_21 (Nat.le_of_ble_eq_true rfl) rfl ?_
  exact ge_sub [3, 2, 1, 0] rfl (t_X2_lengthFrom_b23 b1 n1  hb1  Q   gm_F (0 : Int32) (1 : Int32) (0 : Int32) h_2 hyp)

theorem a_X2_beginFrom_0 : At m_X2_beginFrom 0 (.aload_n 0) 1 1 := at_i (by decide +kernel) rfl
theorem a_X2_beginFrom_1 : At m_X2_beginFrom 1 (.getfield 10) 3 4 := at_i (by decide +kernel) rfl
theorem a_X2_beginFrom_4 : At m_X2_beginFrom 4 (.aload_n 1) 1 5 := at_i (by decide +kernel) rfl
theorem a_X2_beginFrom_5 : At m_X2_beginFrom 5 (.invokevirtual 19) 3 8 := at_i (by decide +kernel) rfl
theorem a_X2_beginFrom_8 : At m_X2_beginFrom 8 (.aload_n 0) 1 9 := at_i (by decide +kernel) rfl
theorem a_X2_beginFrom_9 : At m_X2_beginFrom 9 (.getfield 16) 3 12 := at_i (by decide +kernel) rfl
theorem a_X2_beginFrom_12 : At m_X2_beginFrom 12 (.aload_n 1) 1 13 := at_i (by decide +kernel) rfl
theorem a_X2_beginFrom_13 : At m_X2_beginFrom 13 (.invokevirtual 19) 3 16 := at_i (by decide +kernel) rfl
theorem a_X2_beginFrom_16 : At m_X2_beginFrom 16 (.aload_n 0) 1 17 := at_i (by decide +kernel) rfl
theorem a_X2_beginFrom_17 : At m_X2_beginFrom 17 (.getfield 16) 3 20 := at_i (by decide +kernel) rfl
theorem a_X2_beginFrom_20 : At m_X2_beginFrom 20 (.iload_n 2) 1 21 := at_i (by decide +kernel) rfl
theorem a_X2_beginFrom_21 : At m_X2_beginFrom 21 (.invokevirtual 24) 3 24 := at_i (by decide +kernel) rfl
theorem a_X2_beginFrom_24 : At m_X2_beginFrom 24 (.iconst 0) 1 25 := at_i (by decide +kernel) rfl
theorem a_X2_beginFrom_25 : At m_X2_beginFrom 25 (.istore_n 3) 1 26 := at_i (by decide +kernel) rfl
theorem a_X2_beginFrom_26 : At m_X2_beginFrom 26 (.iload_n 3) 1 27 := at_i (by decide +kernel) rfl
theorem a_X2_beginFrom_27 : At m_X2_beginFrom 27 (.ldc 23) 2 29 := at_i (by decide +kernel) rfl
theorem a_X2_beginFrom_29 : AtJ m_X2_beginFrom 29 (.if_icmp .ge 49) (49) 78 32 := at_j (by decide +kernel) (by decide) rfl
theorem a_X2_beginFrom_32 : At m_X2_beginFrom 32 (.aload_n 0) 1 33 := at_i (by decide +kernel) rfl
theorem a_X2_beginFrom_33 : At m_X2_beginFrom 33 (.getfield 16) 3 36 := at_i (by decide +kernel) rfl
theorem a_X2_beginFrom_36 : At m_X2_beginFrom 36 (.aload_n 0) 1 37 := at_i (by decide +kernel) rfl
theorem a_X2_beginFrom_37 : At m_X2_beginFrom 37 (.getfield 10) 3 40 := at_i (by decide +kernel) rfl
theorem a_X2_beginFrom_40 : At m_X2_beginFrom 40 (.getfield 28) 3 43 := at_i (by decide +kernel) rfl
theorem a_X2_beginFrom_43 : At m_X2_beginFrom 43 (.aload_n 0) 1 44 := at_i (by decide +kernel) rfl
theorem a_X2_beginFrom_44 : At m_X2_beginFrom 44 (.getfield 10) 3 47 := at_i (by decide +kernel) rfl
theorem a_X2_beginFrom_47 : At m_X2_beginFrom 47 (.getfield 32) 3 50 := at_i (by decide +kernel) rfl
theorem a_X2_beginFrom_50 : At m_X2_beginFrom 50 (.invokevirtual 35) 3 53 := at_i (by decide +kernel) rfl
theorem a_X2_beginFrom_53 : AtJ m_X2_beginFrom 53 (.ifCond .ne 25) (25) 78 56 := at_j (by decide +kernel) (by decide) rfl
theorem a_X2_beginFrom_56 : At m_X2_beginFrom 56 (.aload_n 0) 1 57 := at_i (by decide +kernel) rfl
theorem a_X2_beginFrom_57 : At m_X2_beginFrom 57 (.getfield 10) 3 60 := at_i (by decide +kernel) rfl
theorem a_X2_beginFrom_60 : At m_X2_beginFrom 60 (.iconst 1) 1 61 := at_i (by decide +kernel) rfl
theorem a_X2_beginFrom_61 : At m_X2_beginFrom 61 (.invokevirtual 24) 3 64 := at_i (by decide +kernel) rfl
theorem a_X2_beginFrom_64 : At m_X2_beginFrom 64 (.aload_n 0) 1 65 := at_i (by decide +kernel) rfl
theorem a_X2_beginFrom_65 : At m_X2_beginFrom 65 (.getfield 16) 3 68 := at_i (by decide +kernel) rfl
theorem a_X2_beginFrom_68 : At m_X2_beginFrom 68 (.iconst 1) 1 69 := at_i (by decide +kernel) rfl
theorem a_X2_beginFrom_69 : At m_X2_beginFrom 69 (.invokevirtual 24) 3 72 := at_i (by decide +kernel) rfl
theorem a_X2_beginFrom_72 : At m_X2_beginFrom 72 (.iinc 3 1) 3 75 := at_i (by decide +kernel) rfl
theorem a_X2_beginFrom_75 : AtJ m_X2_beginFrom 75 (.goto (-49)) (-49) 26 78 := at_j (by decide +kernel) (by decide) rfl
theorem a_X2_beginFrom_78 : At m_X2_beginFrom 78 (.iload_n 3) 1 79 := at_i (by decide +kernel) rfl
theorem a_X2_beginFrom_79 : At m_X2_beginFrom 79 (.ireturn) 1 80 := at_i (by decide +kernel) rfl
def f_X2_beginFrom_b26 (b1 : Nat) (n1 : Nat) (a2 : Int32)  (Q : Int32 → Mem → Prop)  (K26 : Int32 → Mem → Prop) (v3 : Int32) (h : Mem) : Prop :=
  if (100000 : Int32) ≤ v3 then (
    Q v3 h)
  else (
    f_X1_are 22 (h 21 0) (h 21 1) h fun r_6 h_5 =>
    if r_6 = 0 then (
      f_X1_step 21 (1 : Int32) h_5 fun h_8 =>
      f_X1_step 22 (1 : Int32) h_8 fun h_9 =>
      ∀ v_10 : Int32, v_10 = v3 + (1 : Int32) →
      K26 v_10 h_9)
    else (
      Q v3 h_5))
set_option maxRecDepth 20000 in
theorem t_X2_beginFrom_b26 (b1 : Nat) (n1 : Nat) (a2 : Int32)  (hb1 : gm_arr b1 n1)  (Q : Int32 → Mem → Prop)   : ∀ (n : Nat) (v3 : Int32) (h : Mem), gm_it1 (f_X2_beginFrom_b26 b1 n1 a2  Q ) n v3 h → EV m_X2_beginFrom (GI Q) 26 [(0, .ref 20), (3, .int v3)] [] h := by
  refine ge_loop1 (P := fun v3 h => EV m_X2_beginFrom (GI Q) 26 [(0, .ref 20), (3, .int v3)] [] h) (fun K26 hK26 v3 h hyp => ?_)
  unfold f_X2_beginFrom_b26 at hyp
  refine ge_iload_n a_X2_beginFrom_26 rfl 1 rfl ?_
  refine ge_ldc (v := 100000) a_X2_beginFrom_27 ct_X2_23 ?_
  refine ge_icmp_ge a_X2_beginFrom_29 (fun c_4 => ?_) (fun c_4 => ?_)
  · have hyp := gm_ip hyp c_4
    refine ge_iload_n a_X2_beginFrom_78 rfl 1 rfl ?_
    exact ge_iret rfl a_X2_beginFrom_79 hyp
  · have hyp := gm_in hyp c_4
    refine ge_aload_n a_X2_beginFrom_32 rfl 0 rfl ?_
    refine ge_getR (q := 22) a_X2_beginFrom_33 fd_X2_16 (rfl : gm_cls 20 = 1) rfl ?_
    refine ge_aload_n a_X2_beginFrom_36 rfl 0 rfl ?_
    refine ge_getR (q := 21) a_X2_beginFrom_37 fd_X2_10 (rfl : gm_cls 20 = 1) rfl ?_
    refine ge_getI a_X2_beginFrom_40 fd_X2_28 (rfl : gm_cls 21 = 0) ?_
    refine ge_aload_n a_X2_beginFrom_43 rfl 0 rfl ?_
    refine ge_getR (q := 21) a_X2_beginFrom_44 fd_X2_10 (rfl : gm_cls 20 = 1) rfl ?_
    refine ge_getI a_X2_beginFrom_47 fd_X2_32 (rfl : gm_cls 21 = 0) ?_
    refine ge_cVI [.int (h 21 0), .int (h 21 1)] (rest := []) a_X2_beginFrom_50 ok_X1_are lk_X2_35 ⟨Nat.le_of_ble_eq_true rfl, Nat.le_of_ble_eq_true rfl⟩ (rfl : gm_cls 22 = 0) vc_0 (by decide) rfl rfl (Nat.le_of_ble_eq_true rfl) (t_X1_are 22 (h 21 0) (h 21 1) (rfl : gm_cls 22 = 0) h _ hyp) (fun r_6 h_5 hyp => ?_)
    refine ge_if_ne a_X2_beginFrom_53 (fun c_7 => ?_) (fun c_7 => ?_)
    · have hyp := gm_in hyp c_7
      refine ge_iload_n a_X2_beginFrom_78 rfl 1 rfl ?_
      exact ge_iret rfl a_X2_beginFrom_79 hyp
    · have hyp := gm_ip hyp c_7
      refine ge_aload_n a_X2_beginFrom_56 rfl 0 rfl ?_
      refine ge_getR (q := 21) a_X2_beginFrom_57 fd_X2_10 (rfl : gm_cls 20 = 1) rfl ?_
      refine ge_iconst (v := 1) a_X2_beginFrom_60 rfl ?_
      refine ge_cVV [.int (1 : Int32)] (rest := []) a_X2_beginFrom_61 ok_X1_step lk_X2_24 ⟨Nat.le_of_ble_eq_true rfl, Nat.le_of_ble_eq_true rfl⟩ (rfl : gm_cls 21 = 0) vc_0 (by decide) rfl rfl (Nat.le_of_ble_eq_true rfl) (t_X1_step 21 (1 : Int32) (rfl : gm_cls 21 = 0) h_5 _ hyp) (fun h_8 hyp => ?_)
      refine ge_aload_n a_X2_beginFrom_64 rfl 0 rfl ?_
      refine ge_getR (q := 22) a_X2_beginFrom_65 fd_X2_16 (rfl : gm_cls 20 = 1) rfl ?_
      refine ge_iconst (v := 1) a_X2_beginFrom_68 rfl ?_
      refine ge_cVV [.int (1 : Int32)] (rest := []) a_X2_beginFrom_69 ok_X1_step lk_X2_24 ⟨Nat.le_of_ble_eq_true rfl, Nat.le_of_ble_eq_true rfl⟩ (rfl : gm_cls 22 = 0) vc_0 (by decide) rfl rfl (Nat.le_of_ble_eq_true rfl) (t_X1_step 22 (1 : Int32) (rfl : gm_cls 22 = 0) h_8 _ hyp) (fun h_9 hyp => ?_)
      obtain ⟨v_10, ev_10⟩ : ∃ y : Int32, y = v3 + (1 : Int32) := ⟨_, rfl⟩
      have hyp := hyp v_10 ev_10
      refine ge_iinc (v := v_10) (lv' := [(3, .int v_10), (0, .ref 20)]) a_X2_beginFrom_72 1 rfl ev_10.symm (Nat.le_of_ble_eq_true rfl) rfl ?_
      refine ge_goto a_X2_beginFrom_75 ?_
      exact ge_sub [1, 0] rfl (hK26 v_10 h_9 hyp)
def f_X2_beginFrom (b1 : Nat) (n1 : Nat) (a2 : Int32) (h : Mem) (Q : Int32 → Mem → Prop) : Prop :=
  f_X1_takeFrom 21 b1 n1 h fun h_1 =>
  f_X1_takeFrom 22 b1 n1 h_1 fun h_2 =>
  f_X1_step 22 a2 h_2 fun h_3 =>
  gm_it1 (f_X2_beginFrom_b26 b1 n1 a2  Q ) gm_F (0 : Int32) h_3
set_option maxRecDepth 20000 in
theorem t_X2_beginFrom (b1 : Nat) (n1 : Nat) (a2 : Int32) (hb1 : gm_arr b1 n1) (h : Mem) (Q : Int32 → Mem → Prop) (hyp : f_X2_beginFrom b1 n1 a2 h Q) : Cn m_X2_beginFrom [.ref 20, .ref b1, .int a2] h (GI Q) := by
  refine ge_entry (lv := [(0, .ref 20), (1, .ref b1), (2, .int a2)]) pn_X2 (Nat.le_of_ble_eq_true rfl) rfl ?_
  unfold f_X2_beginFrom at hyp
  refine ge_aload_n a_X2_beginFrom_0 rfl 0 rfl ?_
  refine ge_getR (q := 21) a_X2_beginFrom_1 fd_X2_10 (rfl : gm_cls 20 = 1) rfl ?_
  refine ge_aload_n a_X2_beginFrom_4 rfl 1 rfl ?_
  refine ge_cVV [.ref b1] (rest := []) a_X2_beginFrom_5 ok_X1_takeFrom lk_X2_19 ⟨Nat.le_of_ble_eq_true rfl, Nat.le_of_ble_eq_true rfl⟩ (rfl : gm_cls 21 = 0) vc_0 (by decide) rfl rfl (Nat.le_of_ble_eq_true rfl) (t_X1_takeFrom 21 b1 n1 (rfl : gm_cls 21 = 0) hb1 h _ hyp) (fun h_1 hyp => ?_)
  refine ge_aload_n a_X2_beginFrom_8 rfl 0 rfl ?_
  refine ge_getR (q := 22) a_X2_beginFrom_9 fd_X2_16 (rfl : gm_cls 20 = 1) rfl ?_
  refine ge_aload_n a_X2_beginFrom_12 rfl 1 rfl ?_
  refine ge_cVV [.ref b1] (rest := []) a_X2_beginFrom_13 ok_X1_takeFrom lk_X2_19 ⟨Nat.le_of_ble_eq_true rfl, Nat.le_of_ble_eq_true rfl⟩ (rfl : gm_cls 22 = 0) vc_0 (by decide) rfl rfl (Nat.le_of_ble_eq_true rfl) (t_X1_takeFrom 22 b1 n1 (rfl : gm_cls 22 = 0) hb1 h_1 _ hyp) (fun h_2 hyp => ?_)
  refine ge_aload_n a_X2_beginFrom_16 rfl 0 rfl ?_
  refine ge_getR (q := 22) a_X2_beginFrom_17 fd_X2_16 (rfl : gm_cls 20 = 1) rfl ?_
  refine ge_iload_n a_X2_beginFrom_20 rfl 2 rfl ?_
  refine ge_cVV [.int a2] (rest := []) a_X2_beginFrom_21 ok_X1_step lk_X2_24 ⟨Nat.le_of_ble_eq_true rfl, Nat.le_of_ble_eq_true rfl⟩ (rfl : gm_cls 22 = 0) vc_0 (by decide) rfl rfl (Nat.le_of_ble_eq_true rfl) (t_X1_step 22 a2 (rfl : gm_cls 22 = 0) h_2 _ hyp) (fun h_3 hyp => ?_)
  refine ge_iconst (v := 0) a_X2_beginFrom_24 rfl ?_
  refine ge_istore_n (lv' := [(3, .int (0 : Int32)), (0, .ref 20), (1, .ref b1), (2, .int a2)]) a_X2_beginFrom_25 rfl (Nat.le_of_ble_eq_true rfl) rfl ?_
  exact ge_sub [1, 0] rfl (t_X2_beginFrom_b26 b1 n1 a2  hb1  Q   gm_F (0 : Int32) h_3 hyp)

theorem a_X3_isDigit_0 : At m_X3_isDigit 0 (.iload_n 1) 1 1 := at_i (by decide +kernel) rfl
theorem a_X3_isDigit_1 : At m_X3_isDigit 1 (.aload_n 0) 1 2 := at_i (by decide +kernel) rfl
theorem a_X3_isDigit_2 : At m_X3_isDigit 2 (.getfield 15) 3 5 := at_i (by decide +kernel) rfl
theorem a_X3_isDigit_5 : At m_X3_isDigit 5 (.getfield 150) 3 8 := at_i (by decide +kernel) rfl
theorem a_X3_isDigit_8 : AtJ m_X3_isDigit 8 (.if_icmp .ge 35) (35) 43 11 := at_j (by decide +kernel) (by decide) rfl
theorem a_X3_isDigit_11 : At m_X3_isDigit 11 (.aload_n 0) 1 12 := at_i (by decide +kernel) rfl
theorem a_X3_isDigit_12 : At m_X3_isDigit 12 (.getfield 15) 3 15 := at_i (by decide +kernel) rfl
theorem a_X3_isDigit_15 : At m_X3_isDigit 15 (.getfield 127) 3 18 := at_i (by decide +kernel) rfl
theorem a_X3_isDigit_18 : At m_X3_isDigit 18 (.iload_n 1) 1 19 := at_i (by decide +kernel) rfl
theorem a_X3_isDigit_19 : At m_X3_isDigit 19 (.iaload) 1 20 := at_i (by decide +kernel) rfl
theorem a_X3_isDigit_20 : At m_X3_isDigit 20 (.bipush 48) 2 22 := at_i (by decide +kernel) rfl
theorem a_X3_isDigit_22 : AtJ m_X3_isDigit 22 (.if_icmp .lt 21) (21) 43 25 := at_j (by decide +kernel) (by decide) rfl
theorem a_X3_isDigit_25 : At m_X3_isDigit 25 (.aload_n 0) 1 26 := at_i (by decide +kernel) rfl
theorem a_X3_isDigit_26 : At m_X3_isDigit 26 (.getfield 15) 3 29 := at_i (by decide +kernel) rfl
theorem a_X3_isDigit_29 : At m_X3_isDigit 29 (.getfield 127) 3 32 := at_i (by decide +kernel) rfl
theorem a_X3_isDigit_32 : At m_X3_isDigit 32 (.iload_n 1) 1 33 := at_i (by decide +kernel) rfl
theorem a_X3_isDigit_33 : At m_X3_isDigit 33 (.iaload) 1 34 := at_i (by decide +kernel) rfl
theorem a_X3_isDigit_34 : At m_X3_isDigit 34 (.bipush 57) 2 36 := at_i (by decide +kernel) rfl
theorem a_X3_isDigit_36 : AtJ m_X3_isDigit 36 (.if_icmp .gt 7) (7) 43 39 := at_j (by decide +kernel) (by decide) rfl
theorem a_X3_isDigit_39 : At m_X3_isDigit 39 (.iconst 1) 1 40 := at_i (by decide +kernel) rfl
theorem a_X3_isDigit_40 : AtJ m_X3_isDigit 40 (.goto 4) (4) 44 43 := at_j (by decide +kernel) (by decide) rfl
theorem a_X3_isDigit_43 : At m_X3_isDigit 43 (.iconst 0) 1 44 := at_i (by decide +kernel) rfl
theorem a_X3_isDigit_44 : At m_X3_isDigit 44 (.ireturn) 1 45 := at_i (by decide +kernel) rfl
def f_X3_isDigit (a1 : Int32) (h : Mem) (Q : Int32 → Mem → Prop) : Prop :=
  ¬ h 32 0 = 0 ∧
  if h 30 1 ≤ a1 then (
    Q (0 : Int32) h)
  else (
    ¬ h 32 0 = 0 ∧
    vp_in a1 120 ∧
    if h 31 a1.toNatClampNeg < (48 : Int32) then (
      Q (0 : Int32) h)
    else (
      ¬ h 32 0 = 0 ∧
      vp_in a1 120 ∧
      if (57 : Int32) < h 31 a1.toNatClampNeg then (
        Q (0 : Int32) h)
      else (
        Q (1 : Int32) h)))
set_option maxRecDepth 20000 in
theorem t_X3_isDigit (a1 : Int32)  (h : Mem) (Q : Int32 → Mem → Prop) (hyp : f_X3_isDigit a1 h Q) : Cn m_X3_isDigit [.ref 32, .int a1] h (GI Q) := by
  refine ge_entry (lv := [(0, .ref 32), (1, .int a1)]) pn_X3 (Nat.le_of_ble_eq_true rfl) rfl ?_
  unfold f_X3_isDigit at hyp
  refine ge_iload_n a_X3_isDigit_0 rfl 1 rfl ?_
  refine ge_aload_n a_X3_isDigit_1 rfl 0 rfl ?_
  obtain ⟨z_1, hyp⟩ := hyp
  refine ge_getO (q := 30) a_X3_isDigit_2 fd_X3_15 (rfl : gm_cls 32 = 2) rfl z_1 ?_
  refine ge_getI a_X3_isDigit_5 fd_X3_150 (rfl : gm_cls 30 = 6) ?_
  refine ge_icmp_ge a_X3_isDigit_8 (fun c_2 => ?_) (fun c_2 => ?_)
  · have hyp := gm_ip hyp c_2
    refine ge_iconst (v := 0) a_X3_isDigit_43 rfl ?_
    exact ge_zret rfl rfl a_X3_isDigit_44 hyp
  · have hyp := gm_in hyp c_2
    refine ge_aload_n a_X3_isDigit_11 rfl 0 rfl ?_
    obtain ⟨z_3, hyp⟩ := hyp
    refine ge_getO (q := 30) a_X3_isDigit_12 fd_X3_15 (rfl : gm_cls 32 = 2) rfl z_3 ?_
    refine ge_getR (q := 31) a_X3_isDigit_15 fd_X3_127 (rfl : gm_cls 30 = 6) rfl ?_
    refine ge_iload_n a_X3_isDigit_18 rfl 1 rfl ?_
    obtain ⟨b_4, hyp⟩ := hyp
    refine ge_iald (j := a1.toNatClampNeg) a_X3_isDigit_19 ga_31 b_4 rfl ?_
    refine ge_bipush (v := 48) a_X3_isDigit_20 rfl ?_
    refine ge_icmp_lt a_X3_isDigit_22 (fun c_5 => ?_) (fun c_5 => ?_)
    · have hyp := gm_ip hyp c_5
      refine ge_iconst (v := 0) a_X3_isDigit_43 rfl ?_
      exact ge_zret rfl rfl a_X3_isDigit_44 hyp
    · have hyp := gm_in hyp c_5
      refine ge_aload_n a_X3_isDigit_25 rfl 0 rfl ?_
      obtain ⟨z_6, hyp⟩ := hyp
      refine ge_getO (q := 30) a_X3_isDigit_26 fd_X3_15 (rfl : gm_cls 32 = 2) rfl z_6 ?_
      refine ge_getR (q := 31) a_X3_isDigit_29 fd_X3_127 (rfl : gm_cls 30 = 6) rfl ?_
      refine ge_iload_n a_X3_isDigit_32 rfl 1 rfl ?_
      obtain ⟨b_7, hyp⟩ := hyp
      refine ge_iald (j := a1.toNatClampNeg) a_X3_isDigit_33 ga_31 b_7 rfl ?_
      refine ge_bipush (v := 57) a_X3_isDigit_34 rfl ?_
      refine ge_icmp_gt a_X3_isDigit_36 (fun c_8 => ?_) (fun c_8 => ?_)
      · have hyp := gm_ip hyp c_8
        refine ge_iconst (v := 0) a_X3_isDigit_43 rfl ?_
        exact ge_zret rfl rfl a_X3_isDigit_44 hyp
      · have hyp := gm_in hyp c_8
        refine ge_iconst (v := 1) a_X3_isDigit_39 rfl ?_
        refine ge_goto a_X3_isDigit_40 ?_
        exact ge_zret rfl rfl a_X3_isDigit_44 hyp

theorem a_X3_isLetter_0 : At m_X3_isLetter 0 (.iload_n 1) 1 1 := at_i (by decide +kernel) rfl
theorem a_X3_isLetter_1 : At m_X3_isLetter 1 (.aload_n 0) 1 2 := at_i (by decide +kernel) rfl
theorem a_X3_isLetter_2 : At m_X3_isLetter 2 (.getfield 15) 3 5 := at_i (by decide +kernel) rfl
theorem a_X3_isLetter_5 : At m_X3_isLetter 5 (.getfield 150) 3 8 := at_i (by decide +kernel) rfl
theorem a_X3_isLetter_8 : AtJ m_X3_isLetter 8 (.if_icmp .ge 35) (35) 43 11 := at_j (by decide +kernel) (by decide) rfl
theorem a_X3_isLetter_11 : At m_X3_isLetter 11 (.aload_n 0) 1 12 := at_i (by decide +kernel) rfl
theorem a_X3_isLetter_12 : At m_X3_isLetter 12 (.getfield 15) 3 15 := at_i (by decide +kernel) rfl
theorem a_X3_isLetter_15 : At m_X3_isLetter 15 (.getfield 127) 3 18 := at_i (by decide +kernel) rfl
theorem a_X3_isLetter_18 : At m_X3_isLetter 18 (.iload_n 1) 1 19 := at_i (by decide +kernel) rfl
theorem a_X3_isLetter_19 : At m_X3_isLetter 19 (.iaload) 1 20 := at_i (by decide +kernel) rfl
theorem a_X3_isLetter_20 : At m_X3_isLetter 20 (.bipush 97) 2 22 := at_i (by decide +kernel) rfl
theorem a_X3_isLetter_22 : AtJ m_X3_isLetter 22 (.if_icmp .lt 21) (21) 43 25 := at_j (by decide +kernel) (by decide) rfl
theorem a_X3_isLetter_25 : At m_X3_isLetter 25 (.aload_n 0) 1 26 := at_i (by decide +kernel) rfl
theorem a_X3_isLetter_26 : At m_X3_isLetter 26 (.getfield 15) 3 29 := at_i (by decide +kernel) rfl
theorem a_X3_isLetter_29 : At m_X3_isLetter 29 (.getfield 127) 3 32 := at_i (by decide +kernel) rfl
theorem a_X3_isLetter_32 : At m_X3_isLetter 32 (.iload_n 1) 1 33 := at_i (by decide +kernel) rfl
theorem a_X3_isLetter_33 : At m_X3_isLetter 33 (.iaload) 1 34 := at_i (by decide +kernel) rfl
theorem a_X3_isLetter_34 : At m_X3_isLetter 34 (.bipush 122) 2 36 := at_i (by decide +kernel) rfl
theorem a_X3_isLetter_36 : AtJ m_X3_isLetter 36 (.if_icmp .gt 7) (7) 43 39 := at_j (by decide +kernel) (by decide) rfl
theorem a_X3_isLetter_39 : At m_X3_isLetter 39 (.iconst 1) 1 40 := at_i (by decide +kernel) rfl
theorem a_X3_isLetter_40 : AtJ m_X3_isLetter 40 (.goto 4) (4) 44 43 := at_j (by decide +kernel) (by decide) rfl
theorem a_X3_isLetter_43 : At m_X3_isLetter 43 (.iconst 0) 1 44 := at_i (by decide +kernel) rfl
theorem a_X3_isLetter_44 : At m_X3_isLetter 44 (.ireturn) 1 45 := at_i (by decide +kernel) rfl
def f_X3_isLetter (a1 : Int32) (h : Mem) (Q : Int32 → Mem → Prop) : Prop :=
  ¬ h 32 0 = 0 ∧
  if h 30 1 ≤ a1 then (
    Q (0 : Int32) h)
  else (
    ¬ h 32 0 = 0 ∧
    vp_in a1 120 ∧
    if h 31 a1.toNatClampNeg < (97 : Int32) then (
      Q (0 : Int32) h)
    else (
      ¬ h 32 0 = 0 ∧
      vp_in a1 120 ∧
      if (122 : Int32) < h 31 a1.toNatClampNeg then (
        Q (0 : Int32) h)
      else (
        Q (1 : Int32) h)))
set_option maxRecDepth 20000 in
theorem t_X3_isLetter (a1 : Int32)  (h : Mem) (Q : Int32 → Mem → Prop) (hyp : f_X3_isLetter a1 h Q) : Cn m_X3_isLetter [.ref 32, .int a1] h (GI Q) := by
  refine ge_entry (lv := [(0, .ref 32), (1, .int a1)]) pn_X3 (Nat.le_of_ble_eq_true rfl) rfl ?_
  unfold f_X3_isLetter at hyp
  refine ge_iload_n a_X3_isLetter_0 rfl 1 rfl ?_
  refine ge_aload_n a_X3_isLetter_1 rfl 0 rfl ?_
  obtain ⟨z_1, hyp⟩ := hyp
  refine ge_getO (q := 30) a_X3_isLetter_2 fd_X3_15 (rfl : gm_cls 32 = 2) rfl z_1 ?_
  refine ge_getI a_X3_isLetter_5 fd_X3_150 (rfl : gm_cls 30 = 6) ?_
  refine ge_icmp_ge a_X3_isLetter_8 (fun c_2 => ?_) (fun c_2 => ?_)
  · have hyp := gm_ip hyp c_2
    refine ge_iconst (v := 0) a_X3_isLetter_43 rfl ?_
    exact ge_zret rfl rfl a_X3_isLetter_44 hyp
  · have hyp := gm_in hyp c_2
    refine ge_aload_n a_X3_isLetter_11 rfl 0 rfl ?_
    obtain ⟨z_3, hyp⟩ := hyp
    refine ge_getO (q := 30) a_X3_isLetter_12 fd_X3_15 (rfl : gm_cls 32 = 2) rfl z_3 ?_
    refine ge_getR (q := 31) a_X3_isLetter_15 fd_X3_127 (rfl : gm_cls 30 = 6) rfl ?_
    refine ge_iload_n a_X3_isLetter_18 rfl 1 rfl ?_
    obtain ⟨b_4, hyp⟩ := hyp
    refine ge_iald (j := a1.toNatClampNeg) a_X3_isLetter_19 ga_31 b_4 rfl ?_
    refine ge_bipush (v := 97) a_X3_isLetter_20 rfl ?_
    refine ge_icmp_lt a_X3_isLetter_22 (fun c_5 => ?_) (fun c_5 => ?_)
    · have hyp := gm_ip hyp c_5
      refine ge_iconst (v := 0) a_X3_isLetter_43 rfl ?_
      exact ge_zret rfl rfl a_X3_isLetter_44 hyp
    · have hyp := gm_in hyp c_5
      refine ge_aload_n a_X3_isLetter_25 rfl 0 rfl ?_
      obtain ⟨z_6, hyp⟩ := hyp
      refine ge_getO (q := 30) a_X3_isLetter_26 fd_X3_15 (rfl : gm_cls 32 = 2) rfl z_6 ?_
      refine ge_getR (q := 31) a_X3_isLetter_29 fd_X3_127 (rfl : gm_cls 30 = 6) rfl ?_
      refine ge_iload_n a_X3_isLetter_32 rfl 1 rfl ?_
      obtain ⟨b_7, hyp⟩ := hyp
      refine ge_iald (j := a1.toNatClampNeg) a_X3_isLetter_33 ga_31 b_7 rfl ?_
      refine ge_bipush (v := 122) a_X3_isLetter_34 rfl ?_
      refine ge_icmp_gt a_X3_isLetter_36 (fun c_8 => ?_) (fun c_8 => ?_)
      · have hyp := gm_ip hyp c_8
        refine ge_iconst (v := 0) a_X3_isLetter_43 rfl ?_
        exact ge_zret rfl rfl a_X3_isLetter_44 hyp
      · have hyp := gm_in hyp c_8
        refine ge_iconst (v := 1) a_X3_isLetter_39 rfl ?_
        refine ge_goto a_X3_isLetter_40 ?_
        exact ge_zret rfl rfl a_X3_isLetter_44 hyp

theorem a_X3_signAt_0 : At m_X3_signAt 0 (.aload_n 0) 1 1 := at_i (by decide +kernel) rfl
theorem a_X3_signAt_1 : At m_X3_signAt 1 (.getfield 15) 3 4 := at_i (by decide +kernel) rfl
theorem a_X3_signAt_4 : At m_X3_signAt 4 (.getfield 127) 3 7 := at_i (by decide +kernel) rfl
theorem a_X3_signAt_7 : At m_X3_signAt 7 (.iload_n 1) 1 8 := at_i (by decide +kernel) rfl
theorem a_X3_signAt_8 : At m_X3_signAt 8 (.iaload) 1 9 := at_i (by decide +kernel) rfl
theorem a_X3_signAt_9 : At m_X3_signAt 9 (.bipush 59) 2 11 := at_i (by decide +kernel) rfl
theorem a_X3_signAt_11 : AtJ m_X3_signAt 11 (.if_icmp .ne 5) (5) 16 14 := at_j (by decide +kernel) (by decide) rfl
theorem a_X3_signAt_14 : At m_X3_signAt 14 (.iconst 3) 1 15 := at_i (by decide +kernel) rfl
theorem a_X3_signAt_15 : At m_X3_signAt 15 (.ireturn) 1 16 := at_i (by decide +kernel) rfl
theorem a_X3_signAt_16 : At m_X3_signAt 16 (.aload_n 0) 1 17 := at_i (by decide +kernel) rfl
theorem a_X3_signAt_17 : At m_X3_signAt 17 (.getfield 15) 3 20 := at_i (by decide +kernel) rfl
theorem a_X3_signAt_20 : At m_X3_signAt 20 (.getfield 127) 3 23 := at_i (by decide +kernel) rfl
theorem a_X3_signAt_23 : At m_X3_signAt 23 (.iload_n 1) 1 24 := at_i (by decide +kernel) rfl
theorem a_X3_signAt_24 : At m_X3_signAt 24 (.iaload) 1 25 := at_i (by decide +kernel) rfl
theorem a_X3_signAt_25 : At m_X3_signAt 25 (.bipush 45) 2 27 := at_i (by decide +kernel) rfl
theorem a_X3_signAt_27 : AtJ m_X3_signAt 27 (.if_icmp .ne 7) (7) 34 30 := at_j (by decide +kernel) (by decide) rfl
theorem a_X3_signAt_30 : At m_X3_signAt 30 (.iconst 4) 1 31 := at_i (by decide +kernel) rfl
theorem a_X3_signAt_31 : AtJ m_X3_signAt 31 (.goto 4) (4) 35 34 := at_j (by decide +kernel) (by decide) rfl
theorem a_X3_signAt_34 : At m_X3_signAt 34 (.iconst 5) 1 35 := at_i (by decide +kernel) rfl
theorem a_X3_signAt_35 : At m_X3_signAt 35 (.ireturn) 1 36 := at_i (by decide +kernel) rfl
def f_X3_signAt (a1 : Int32) (h : Mem) (Q : Int32 → Mem → Prop) : Prop :=
  ¬ h 32 0 = 0 ∧
  vp_in a1 120 ∧
  if h 31 a1.toNatClampNeg = (59 : Int32) then (
    Q (3 : Int32) h)
  else (
    ¬ h 32 0 = 0 ∧
    vp_in a1 120 ∧
    if h 31 a1.toNatClampNeg = (45 : Int32) then (
      Q (4 : Int32) h)
    else (
      Q (5 : Int32) h))
set_option maxRecDepth 20000 in
theorem t_X3_signAt (a1 : Int32)  (h : Mem) (Q : Int32 → Mem → Prop) (hyp : f_X3_signAt a1 h Q) : Cn m_X3_signAt [.ref 32, .int a1] h (GI Q) := by
  refine ge_entry (lv := [(0, .ref 32), (1, .int a1)]) pn_X3 (Nat.le_of_ble_eq_true rfl) rfl ?_
  unfold f_X3_signAt at hyp
  refine ge_aload_n a_X3_signAt_0 rfl 0 rfl ?_
  obtain ⟨z_1, hyp⟩ := hyp
  refine ge_getO (q := 30) a_X3_signAt_1 fd_X3_15 (rfl : gm_cls 32 = 2) rfl z_1 ?_
  refine ge_getR (q := 31) a_X3_signAt_4 fd_X3_127 (rfl : gm_cls 30 = 6) rfl ?_
  refine ge_iload_n a_X3_signAt_7 rfl 1 rfl ?_
  obtain ⟨b_2, hyp⟩ := hyp
  refine ge_iald (j := a1.toNatClampNeg) a_X3_signAt_8 ga_31 b_2 rfl ?_
  refine ge_bipush (v := 59) a_X3_signAt_9 rfl ?_
  refine ge_icmp_ne a_X3_signAt_11 (fun c_3 => ?_) (fun c_3 => ?_)
  · have hyp := gm_in hyp c_3
    refine ge_aload_n a_X3_signAt_16 rfl 0 rfl ?_
    obtain ⟨z_4, hyp⟩ := hyp
    refine ge_getO (q := 30) a_X3_signAt_17 fd_X3_15 (rfl : gm_cls 32 = 2) rfl z_4 ?_
    refine ge_getR (q := 31) a_X3_signAt_20 fd_X3_127 (rfl : gm_cls 30 = 6) rfl ?_
    refine ge_iload_n a_X3_signAt_23 rfl 1 rfl ?_
    obtain ⟨b_5, hyp⟩ := hyp
    refine ge_iald (j := a1.toNatClampNeg) a_X3_signAt_24 ga_31 b_5 rfl ?_
    refine ge_bipush (v := 45) a_X3_signAt_25 rfl ?_
    refine ge_icmp_ne a_X3_signAt_27 (fun c_6 => ?_) (fun c_6 => ?_)
    · have hyp := gm_in hyp c_6
      refine ge_iconst (v := 5) a_X3_signAt_34 rfl ?_
      exact ge_iret rfl a_X3_signAt_35 hyp
    · have hyp := gm_ip hyp c_6
      refine ge_iconst (v := 4) a_X3_signAt_30 rfl ?_
      refine ge_goto a_X3_signAt_31 ?_
      exact ge_iret rfl a_X3_signAt_35 hyp
  · have hyp := gm_ip hyp c_3
    refine ge_iconst (v := 3) a_X3_signAt_14 rfl ?_
    exact ge_iret rfl a_X3_signAt_15 hyp

theorem a_X3_lookOn_0 : At m_X3_lookOn 0 (.aload_n 0) 1 1 := at_i (by decide +kernel) rfl
theorem a_X3_lookOn_1 : At m_X3_lookOn 1 (.getfield 19) 3 4 := at_i (by decide +kernel) rfl
theorem a_X3_lookOn_4 : At m_X3_lookOn 4 (.aload_n 0) 1 5 := at_i (by decide +kernel) rfl
theorem a_X3_lookOn_5 : At m_X3_lookOn 5 (.getfield 15) 3 8 := at_i (by decide +kernel) rfl
theorem a_X3_lookOn_8 : At m_X3_lookOn 8 (.getfield 150) 3 11 := at_i (by decide +kernel) rfl
theorem a_X3_lookOn_11 : AtJ m_X3_lookOn 11 (.if_icmp .ge 33) (33) 44 14 := at_j (by decide +kernel) (by decide) rfl
theorem a_X3_lookOn_14 : At m_X3_lookOn 14 (.aload_n 0) 1 15 := at_i (by decide +kernel) rfl
theorem a_X3_lookOn_15 : At m_X3_lookOn 15 (.getfield 15) 3 18 := at_i (by decide +kernel) rfl
theorem a_X3_lookOn_18 : At m_X3_lookOn 18 (.getfield 127) 3 21 := at_i (by decide +kernel) rfl
theorem a_X3_lookOn_21 : At m_X3_lookOn 21 (.aload_n 0) 1 22 := at_i (by decide +kernel) rfl
theorem a_X3_lookOn_22 : At m_X3_lookOn 22 (.getfield 19) 3 25 := at_i (by decide +kernel) rfl
theorem a_X3_lookOn_25 : At m_X3_lookOn 25 (.iaload) 1 26 := at_i (by decide +kernel) rfl
theorem a_X3_lookOn_26 : At m_X3_lookOn 26 (.bipush 32) 2 28 := at_i (by decide +kernel) rfl
theorem a_X3_lookOn_28 : AtJ m_X3_lookOn 28 (.if_icmp .ne 16) (16) 44 31 := at_j (by decide +kernel) (by decide) rfl
theorem a_X3_lookOn_31 : At m_X3_lookOn 31 (.aload_n 0) 1 32 := at_i (by decide +kernel) rfl
theorem a_X3_lookOn_32 : At m_X3_lookOn 32 (.dup) 1 33 := at_i (by decide +kernel) rfl
theorem a_X3_lookOn_33 : At m_X3_lookOn 33 (.getfield 19) 3 36 := at_i (by decide +kernel) rfl
theorem a_X3_lookOn_36 : At m_X3_lookOn 36 (.iconst 1) 1 37 := at_i (by decide +kernel) rfl
theorem a_X3_lookOn_37 : At m_X3_lookOn 37 (.iadd) 1 38 := at_i (by decide +kernel) rfl
theorem a_X3_lookOn_38 : At m_X3_lookOn 38 (.putfield 19) 3 41 := at_i (by decide +kernel) rfl
theorem a_X3_lookOn_41 : AtJ m_X3_lookOn 41 (.goto (-41)) (-41) 0 44 := at_j (by decide +kernel) (by decide) rfl
theorem a_X3_lookOn_44 : At m_X3_lookOn 44 (.aload_n 0) 1 45 := at_i (by decide +kernel) rfl
theorem a_X3_lookOn_45 : At m_X3_lookOn 45 (.aload_n 0) 1 46 := at_i (by decide +kernel) rfl
theorem a_X3_lookOn_46 : At m_X3_lookOn 46 (.getfield 19) 3 49 := at_i (by decide +kernel) rfl
theorem a_X3_lookOn_49 : At m_X3_lookOn 49 (.putfield 30) 3 52 := at_i (by decide +kernel) rfl
theorem a_X3_lookOn_52 : At m_X3_lookOn 52 (.aload_n 0) 1 53 := at_i (by decide +kernel) rfl
theorem a_X3_lookOn_53 : At m_X3_lookOn 53 (.getfield 30) 3 56 := at_i (by decide +kernel) rfl
theorem a_X3_lookOn_56 : At m_X3_lookOn 56 (.aload_n 0) 1 57 := at_i (by decide +kernel) rfl
theorem a_X3_lookOn_57 : At m_X3_lookOn 57 (.getfield 15) 3 60 := at_i (by decide +kernel) rfl
theorem a_X3_lookOn_60 : At m_X3_lookOn 60 (.getfield 150) 3 63 := at_i (by decide +kernel) rfl
theorem a_X3_lookOn_63 : AtJ m_X3_lookOn 63 (.if_icmp .lt 11) (11) 74 66 := at_j (by decide +kernel) (by decide) rfl
theorem a_X3_lookOn_66 : At m_X3_lookOn 66 (.aload_n 0) 1 67 := at_i (by decide +kernel) rfl
theorem a_X3_lookOn_67 : At m_X3_lookOn 67 (.iconst 0) 1 68 := at_i (by decide +kernel) rfl
theorem a_X3_lookOn_68 : At m_X3_lookOn 68 (.putfield 33) 3 71 := at_i (by decide +kernel) rfl
theorem a_X3_lookOn_71 : AtJ m_X3_lookOn 71 (.goto 170) (170) 241 74 := at_j (by decide +kernel) (by decide) rfl
theorem a_X3_lookOn_74 : At m_X3_lookOn 74 (.aload_n 0) 1 75 := at_i (by decide +kernel) rfl
theorem a_X3_lookOn_75 : At m_X3_lookOn 75 (.aload_n 0) 1 76 := at_i (by decide +kernel) rfl
theorem a_X3_lookOn_76 : At m_X3_lookOn 76 (.getfield 30) 3 79 := at_i (by decide +kernel) rfl
theorem a_X3_lookOn_79 : At m_X3_lookOn 79 (.invokevirtual 153) 3 82 := at_i (by decide +kernel) rfl
theorem a_X3_lookOn_82 : AtJ m_X3_lookOn 82 (.ifCond .eq 46) (46) 128 85 := at_j (by decide +kernel) (by decide) rfl
theorem a_X3_lookOn_85 : At m_X3_lookOn 85 (.aload_n 0) 1 86 := at_i (by decide +kernel) rfl
theorem a_X3_lookOn_86 : At m_X3_lookOn 86 (.iconst 1) 1 87 := at_i (by decide +kernel) rfl
theorem a_X3_lookOn_87 : At m_X3_lookOn 87 (.putfield 33) 3 90 := at_i (by decide +kernel) rfl
theorem a_X3_lookOn_90 : At m_X3_lookOn 90 (.aload_n 0) 1 91 := at_i (by decide +kernel) rfl
theorem a_X3_lookOn_91 : At m_X3_lookOn 91 (.getfield 19) 3 94 := at_i (by decide +kernel) rfl
theorem a_X3_lookOn_94 : At m_X3_lookOn 94 (.aload_n 0) 1 95 := at_i (by decide +kernel) rfl
theorem a_X3_lookOn_95 : At m_X3_lookOn 95 (.getfield 15) 3 98 := at_i (by decide +kernel) rfl
theorem a_X3_lookOn_98 : At m_X3_lookOn 98 (.getfield 150) 3 101 := at_i (by decide +kernel) rfl
theorem a_X3_lookOn_101 : AtJ m_X3_lookOn 101 (.if_icmp .ge 140) (140) 241 104 := at_j (by decide +kernel) (by decide) rfl
theorem a_X3_lookOn_104 : At m_X3_lookOn 104 (.aload_n 0) 1 105 := at_i (by decide +kernel) rfl
theorem a_X3_lookOn_105 : At m_X3_lookOn 105 (.aload_n 0) 1 106 := at_i (by decide +kernel) rfl
theorem a_X3_lookOn_106 : At m_X3_lookOn 106 (.getfield 19) 3 109 := at_i (by decide +kernel) rfl
theorem a_X3_lookOn_109 : At m_X3_lookOn 109 (.invokevirtual 153) 3 112 := at_i (by decide +kernel) rfl
theorem a_X3_lookOn_112 : AtJ m_X3_lookOn 112 (.ifCond .eq 129) (129) 241 115 := at_j (by decide +kernel) (by decide) rfl
theorem a_X3_lookOn_115 : At m_X3_lookOn 115 (.aload_n 0) 1 116 := at_i (by decide +kernel) rfl
theorem a_X3_lookOn_116 : At m_X3_lookOn 116 (.dup) 1 117 := at_i (by decide +kernel) rfl
theorem a_X3_lookOn_117 : At m_X3_lookOn 117 (.getfield 19) 3 120 := at_i (by decide +kernel) rfl
theorem a_X3_lookOn_120 : At m_X3_lookOn 120 (.iconst 1) 1 121 := at_i (by decide +kernel) rfl
theorem a_X3_lookOn_121 : At m_X3_lookOn 121 (.iadd) 1 122 := at_i (by decide +kernel) rfl
theorem a_X3_lookOn_122 : At m_X3_lookOn 122 (.putfield 19) 3 125 := at_i (by decide +kernel) rfl
theorem a_X3_lookOn_125 : AtJ m_X3_lookOn 125 (.goto (-35)) (-35) 90 128 := at_j (by decide +kernel) (by decide) rfl
theorem a_X3_lookOn_128 : At m_X3_lookOn 128 (.aload_n 0) 1 129 := at_i (by decide +kernel) rfl
theorem a_X3_lookOn_129 : At m_X3_lookOn 129 (.aload_n 0) 1 130 := at_i (by decide +kernel) rfl
theorem a_X3_lookOn_130 : At m_X3_lookOn 130 (.getfield 30) 3 133 := at_i (by decide +kernel) rfl
theorem a_X3_lookOn_133 : At m_X3_lookOn 133 (.invokevirtual 156) 3 136 := at_i (by decide +kernel) rfl
theorem a_X3_lookOn_136 : AtJ m_X3_lookOn 136 (.ifCond .eq 83) (83) 219 139 := at_j (by decide +kernel) (by decide) rfl
theorem a_X3_lookOn_139 : At m_X3_lookOn 139 (.aload_n 0) 1 140 := at_i (by decide +kernel) rfl
theorem a_X3_lookOn_140 : At m_X3_lookOn 140 (.iconst 2) 1 141 := at_i (by decide +kernel) rfl
theorem a_X3_lookOn_141 : At m_X3_lookOn 141 (.putfield 33) 3 144 := at_i (by decide +kernel) rfl
theorem a_X3_lookOn_144 : At m_X3_lookOn 144 (.aload_n 0) 1 145 := at_i (by decide +kernel) rfl
theorem a_X3_lookOn_145 : At m_X3_lookOn 145 (.iconst 0) 1 146 := at_i (by decide +kernel) rfl
theorem a_X3_lookOn_146 : At m_X3_lookOn 146 (.putfield 98) 3 149 := at_i (by decide +kernel) rfl
theorem a_X3_lookOn_149 : At m_X3_lookOn 149 (.aload_n 0) 1 150 := at_i (by decide +kernel) rfl
theorem a_X3_lookOn_150 : At m_X3_lookOn 150 (.getfield 19) 3 153 := at_i (by decide +kernel) rfl
theorem a_X3_lookOn_153 : At m_X3_lookOn 153 (.aload_n 0) 1 154 := at_i (by decide +kernel) rfl
theorem a_X3_lookOn_154 : At m_X3_lookOn 154 (.getfield 15) 3 157 := at_i (by decide +kernel) rfl
theorem a_X3_lookOn_157 : At m_X3_lookOn 157 (.getfield 150) 3 160 := at_i (by decide +kernel) rfl
theorem a_X3_lookOn_160 : AtJ m_X3_lookOn 160 (.if_icmp .ge 81) (81) 241 163 := at_j (by decide +kernel) (by decide) rfl
theorem a_X3_lookOn_163 : At m_X3_lookOn 163 (.aload_n 0) 1 164 := at_i (by decide +kernel) rfl
theorem a_X3_lookOn_164 : At m_X3_lookOn 164 (.aload_n 0) 1 165 := at_i (by decide +kernel) rfl
theorem a_X3_lookOn_165 : At m_X3_lookOn 165 (.getfield 19) 3 168 := at_i (by decide +kernel) rfl
theorem a_X3_lookOn_168 : At m_X3_lookOn 168 (.invokevirtual 156) 3 171 := at_i (by decide +kernel) rfl
theorem a_X3_lookOn_171 : AtJ m_X3_lookOn 171 (.ifCond .eq 70) (70) 241 174 := at_j (by decide +kernel) (by decide) rfl
theorem a_X3_lookOn_174 : At m_X3_lookOn 174 (.aload_n 0) 1 175 := at_i (by decide +kernel) rfl
theorem a_X3_lookOn_175 : At m_X3_lookOn 175 (.ldc 159) 2 177 := at_i (by decide +kernel) rfl
theorem a_X3_lookOn_177 : At m_X3_lookOn 177 (.bipush 10) 2 179 := at_i (by decide +kernel) rfl
theorem a_X3_lookOn_179 : At m_X3_lookOn 179 (.aload_n 0) 1 180 := at_i (by decide +kernel) rfl
theorem a_X3_lookOn_180 : At m_X3_lookOn 180 (.getfield 98) 3 183 := at_i (by decide +kernel) rfl
theorem a_X3_lookOn_183 : At m_X3_lookOn 183 (.imul) 1 184 := at_i (by decide +kernel) rfl
theorem a_X3_lookOn_184 : At m_X3_lookOn 184 (.aload_n 0) 1 185 := at_i (by decide +kernel) rfl
theorem a_X3_lookOn_185 : At m_X3_lookOn 185 (.getfield 15) 3 188 := at_i (by decide +kernel) rfl
theorem a_X3_lookOn_188 : At m_X3_lookOn 188 (.getfield 127) 3 191 := at_i (by decide +kernel) rfl
theorem a_X3_lookOn_191 : At m_X3_lookOn 191 (.aload_n 0) 1 192 := at_i (by decide +kernel) rfl
theorem a_X3_lookOn_192 : At m_X3_lookOn 192 (.getfield 19) 3 195 := at_i (by decide +kernel) rfl
theorem a_X3_lookOn_195 : At m_X3_lookOn 195 (.iaload) 1 196 := at_i (by decide +kernel) rfl
theorem a_X3_lookOn_196 : At m_X3_lookOn 196 (.iadd) 1 197 := at_i (by decide +kernel) rfl
theorem a_X3_lookOn_197 : At m_X3_lookOn 197 (.bipush 48) 2 199 := at_i (by decide +kernel) rfl
theorem a_X3_lookOn_199 : At m_X3_lookOn 199 (.isub) 1 200 := at_i (by decide +kernel) rfl
theorem a_X3_lookOn_200 : At m_X3_lookOn 200 (.invokestatic 160) 3 203 := at_i (by decide +kernel) rfl
theorem a_X3_lookOn_203 : At m_X3_lookOn 203 (.putfield 98) 3 206 := at_i (by decide +kernel) rfl
theorem a_X3_lookOn_206 : At m_X3_lookOn 206 (.aload_n 0) 1 207 := at_i (by decide +kernel) rfl
theorem a_X3_lookOn_207 : At m_X3_lookOn 207 (.dup) 1 208 := at_i (by decide +kernel) rfl
theorem a_X3_lookOn_208 : At m_X3_lookOn 208 (.getfield 19) 3 211 := at_i (by decide +kernel) rfl
theorem a_X3_lookOn_211 : At m_X3_lookOn 211 (.iconst 1) 1 212 := at_i (by decide +kernel) rfl
theorem a_X3_lookOn_212 : At m_X3_lookOn 212 (.iadd) 1 213 := at_i (by decide +kernel) rfl
theorem a_X3_lookOn_213 : At m_X3_lookOn 213 (.putfield 19) 3 216 := at_i (by decide +kernel) rfl
theorem a_X3_lookOn_216 : AtJ m_X3_lookOn 216 (.goto (-67)) (-67) 149 219 := at_j (by decide +kernel) (by decide) rfl
theorem a_X3_lookOn_219 : At m_X3_lookOn 219 (.aload_n 0) 1 220 := at_i (by decide +kernel) rfl
theorem a_X3_lookOn_220 : At m_X3_lookOn 220 (.aload_n 0) 1 221 := at_i (by decide +kernel) rfl
theorem a_X3_lookOn_221 : At m_X3_lookOn 221 (.aload_n 0) 1 222 := at_i (by decide +kernel) rfl
theorem a_X3_lookOn_222 : At m_X3_lookOn 222 (.getfield 30) 3 225 := at_i (by decide +kernel) rfl
theorem a_X3_lookOn_225 : At m_X3_lookOn 225 (.invokevirtual 166) 3 228 := at_i (by decide +kernel) rfl
theorem a_X3_lookOn_228 : At m_X3_lookOn 228 (.putfield 33) 3 231 := at_i (by decide +kernel) rfl
theorem a_X3_lookOn_231 : At m_X3_lookOn 231 (.aload_n 0) 1 232 := at_i (by decide +kernel) rfl
theorem a_X3_lookOn_232 : At m_X3_lookOn 232 (.dup) 1 233 := at_i (by decide +kernel) rfl
theorem a_X3_lookOn_233 : At m_X3_lookOn 233 (.getfield 19) 3 236 := at_i (by decide +kernel) rfl
theorem a_X3_lookOn_236 : At m_X3_lookOn 236 (.iconst 1) 1 237 := at_i (by decide +kernel) rfl
theorem a_X3_lookOn_237 : At m_X3_lookOn 237 (.iadd) 1 238 := at_i (by decide +kernel) rfl
theorem a_X3_lookOn_238 : At m_X3_lookOn 238 (.putfield 19) 3 241 := at_i (by decide +kernel) rfl
theorem a_X3_lookOn_241 : At m_X3_lookOn 241 (.return_) 1 242 := at_i (by decide +kernel) rfl
def f_X3_lookOn_b149   (Q : Mem → Prop)  (K149 : Mem → Prop)  (h : Mem) : Prop :=
  ¬ h 32 0 = 0 ∧
  if h 30 1 ≤ h 32 4 then (
    Q h)
  else (
    f_X3_isDigit (h 32 4) h fun r_21 h_20 =>
    if r_21 = 0 then (
      Q h_20)
    else (
      ¬ h_20 32 0 = 0 ∧
      vp_in (h_20 32 4) 120 ∧
      ∀ v_25 : Int32, v_25 = (if (((10 : Int32) * (h_20 32 5)) + (h_20 31 ((h_20 32 4).toNatClampNeg))) - (48 : Int32) < (100000 : Int32) then (((10 : Int32) * (h_20 32 5)) + (h_20 31 ((h_20 32 4).toNatClampNeg))) - (48 : Int32) else (100000 : Int32)) →
      ∀ h_26 : Mem, h_26 = gm_st h_20 32 5 v_25 →
      ∀ h_27 : Mem, h_27 = gm_st h_26 32 4 ((h_26 32 4) + (1 : Int32)) →
      K149  h_27))
set_option maxRecDepth 20000 in
theorem t_X3_lookOn_b149     (Q : Mem → Prop)   : ∀ (n : Nat)  (h : Mem), gm_it0 (f_X3_lookOn_b149   Q ) n  h → EV m_X3_lookOn (GV Q) 149 [(0, .ref 32)] [] h := by
  refine ge_loop0 (P := fun  h => EV m_X3_lookOn (GV Q) 149 [(0, .ref 32)] [] h) (fun K149 hK149  h hyp => ?_)
  unfold f_X3_lookOn_b149 at hyp
  refine ge_aload_n a_X3_lookOn_149 rfl 0 rfl ?_
  refine ge_getI a_X3_lookOn_150 fd_X3_19 (rfl : gm_cls 32 = 2) ?_
  refine ge_aload_n a_X3_lookOn_153 rfl 0 rfl ?_
  obtain ⟨z_18, hyp⟩ := hyp
  refine ge_getO (q := 30) a_X3_lookOn_154 fd_X3_15 (rfl : gm_cls 32 = 2) rfl z_18 ?_
  refine ge_getI a_X3_lookOn_157 fd_X3_150 (rfl : gm_cls 30 = 6) ?_
  refine ge_icmp_ge a_X3_lookOn_160 (fun c_19 => ?_) (fun c_19 => ?_)
  · have hyp := gm_ip hyp c_19
    exact ge_vret rfl a_X3_lookOn_241 hyp
  · have hyp := gm_in hyp c_19
    refine ge_aload_n a_X3_lookOn_163 rfl 0 rfl ?_
    refine ge_aload_n a_X3_lookOn_164 rfl 0 rfl ?_
    refine ge_getI a_X3_lookOn_165 fd_X3_19 (rfl : gm_cls 32 = 2) ?_
    refine ge_cVI [.int (h 32 4)] (rest := []) a_X3_lookOn_168 ok_X3_isDigit lk_X3_156 ⟨Nat.le_of_ble_eq_true rfl, Nat.le_of_ble_eq_true rfl⟩ (rfl : gm_cls 32 = 2) vc_2 (by decide) rfl rfl (Nat.le_of_ble_eq_true rfl) (t_X3_isDigit (h 32 4)  h _ hyp) (fun r_21 h_20 hyp => ?_)
    refine ge_if_eq a_X3_lookOn_171 (fun c_22 => ?_) (fun c_22 => ?_)
    · have hyp := gm_ip hyp c_22
      exact ge_vret rfl a_X3_lookOn_241 hyp
    · have hyp := gm_in hyp c_22
      refine ge_aload_n a_X3_lookOn_174 rfl 0 rfl ?_
      refine ge_ldc (v := 100000) a_X3_lookOn_175 ct_X3_159 ?_
      refine ge_bipush (v := 10) a_X3_lookOn_177 rfl ?_
      refine ge_aload_n a_X3_lookOn_179 rfl 0 rfl ?_
      refine ge_getI a_X3_lookOn_180 fd_X3_98 (rfl : gm_cls 32 = 2) ?_
      refine ge_imul a_X3_lookOn_183 ?_
      refine ge_aload_n a_X3_lookOn_184 rfl 0 rfl ?_
      obtain ⟨z_23, hyp⟩ := hyp
      refine ge_getO (q := 30) a_X3_lookOn_185 fd_X3_15 (rfl : gm_cls 32 = 2) rfl z_23 ?_
      refine ge_getR (q := 31) a_X3_lookOn_188 fd_X3_127 (rfl : gm_cls 30 = 6) rfl ?_
      refine ge_aload_n a_X3_lookOn_191 rfl 0 rfl ?_
      refine ge_getI a_X3_lookOn_192 fd_X3_19 (rfl : gm_cls 32 = 2) ?_
      obtain ⟨b_24, hyp⟩ := hyp
      refine ge_iald (j := (h_20 32 4).toNatClampNeg) a_X3_lookOn_195 ga_31 b_24 rfl ?_
      refine ge_iadd a_X3_lookOn_196 ?_
      refine ge_bipush (v := 48) a_X3_lookOn_197 rfl ?_
      refine ge_isub a_X3_lookOn_199 ?_
      refine ge_mmin (rest := [.ref 32]) a_X3_lookOn_200 lk_X3_160 (Nat.le_of_ble_eq_true rfl) (Nat.le_of_ble_eq_true rfl) ?_
      refine ge_topi (fun v_25 ev_25 => ?_)
      have hyp := hyp v_25 ev_25
      refine ge_putI a_X3_lookOn_203 pd_X3_98 (rfl : gm_cls 32 = 2) ?_
      refine ge_nm (fun h_26 eh_26 => ?_)
      have hyp := hyp h_26 eh_26
      refine ge_aload_n a_X3_lookOn_206 rfl 0 rfl ?_
      refine ge_dup a_X3_lookOn_207 rfl ?_
      refine ge_getI a_X3_lookOn_208 fd_X3_19 (rfl : gm_cls 32 = 2) ?_
      refine ge_iconst (v := 1) a_X3_lookOn_211 rfl ?_
      refine ge_iadd a_X3_lookOn_212 ?_
      refine ge_putI a_X3_lookOn_213 pd_X3_19 (rfl : gm_cls 32 = 2) ?_
      refine ge_nm (fun h_27 eh_27 => ?_)
      have hyp := hyp h_27 eh_27
      refine ge_goto a_X3_lookOn_216 ?_
      exact ge_sub [0] rfl (hK149  h_27 hyp)
def f_X3_lookOn_b90   (Q : Mem → Prop)  (K90 : Mem → Prop)  (h : Mem) : Prop :=
  ¬ h 32 0 = 0 ∧
  if h 30 1 ≤ h 32 4 then (
    Q h)
  else (
    f_X3_isLetter (h 32 4) h fun r_32 h_31 =>
    if r_32 = 0 then (
      Q h_31)
    else (
      ∀ h_34 : Mem, h_34 = gm_st h_31 32 4 ((h_31 32 4) + (1 : Int32)) →
      K90  h_34))
set_option maxRecDepth 20000 in
theorem t_X3_lookOn_b90     (Q : Mem → Prop)   : ∀ (n : Nat)  (h : Mem), gm_it0 (f_X3_lookOn_b90   Q ) n  h → EV m_X3_lookOn (GV Q) 90 [(0, .ref 32)] [] h := by
  refine ge_loop0 (P := fun  h => EV m_X3_lookOn (GV Q) 90 [(0, .ref 32)] [] h) (fun K90 hK90  h hyp => ?_)
  unfold f_X3_lookOn_b90 at hyp
  refine ge_aload_n a_X3_lookOn_90 rfl 0 rfl ?_
  refine ge_getI a_X3_lookOn_91 fd_X3_19 (rfl : gm_cls 32 = 2) ?_
  refine ge_aload_n a_X3_lookOn_94 rfl 0 rfl ?_
  obtain ⟨z_29, hyp⟩ := hyp
  refine ge_getO (q := 30) a_X3_lookOn_95 fd_X3_15 (rfl : gm_cls 32 = 2) rfl z_29 ?_
  refine ge_getI a_X3_lookOn_98 fd_X3_150 (rfl : gm_cls 30 = 6) ?_
  refine ge_icmp_ge a_X3_lookOn_101 (fun c_30 => ?_) (fun c_30 => ?_)
  · have hyp := gm_ip hyp c_30
    exact ge_vret rfl a_X3_lookOn_241 hyp
  · have hyp := gm_in hyp c_30
    refine ge_aload_n a_X3_lookOn_104 rfl 0 rfl ?_
    refine ge_aload_n a_X3_lookOn_105 rfl 0 rfl ?_
    refine ge_getI a_X3_lookOn_106 fd_X3_19 (rfl : gm_cls 32 = 2) ?_
    refine ge_cVI [.int (h 32 4)] (rest := []) a_X3_lookOn_109 ok_X3_isLetter lk_X3_153 ⟨Nat.le_of_ble_eq_true rfl, Nat.le_of_ble_eq_true rfl⟩ (rfl : gm_cls 32 = 2) vc_2 (by decide) rfl rfl (Nat.le_of_ble_eq_true rfl) (t_X3_isLetter (h 32 4)  h _ hyp) (fun r_32 h_31 hyp => ?_)
    refine ge_if_eq a_X3_lookOn_112 (fun c_33 => ?_) (fun c_33 => ?_)
    · have hyp := gm_ip hyp c_33
      exact ge_vret rfl a_X3_lookOn_241 hyp
    · have hyp := gm_in hyp c_33
      refine ge_aload_n a_X3_lookOn_115 rfl 0 rfl ?_
      refine ge_dup a_X3_lookOn_116 rfl ?_
      refine ge_getI a_X3_lookOn_117 fd_X3_19 (rfl : gm_cls 32 = 2) ?_
      refine ge_iconst (v := 1) a_X3_lookOn_120 rfl ?_
      refine ge_iadd a_X3_lookOn_121 ?_
      refine ge_putI a_X3_lookOn_122 pd_X3_19 (rfl : gm_cls 32 = 2) ?_
      refine ge_nm (fun h_34 eh_34 => ?_)
      have hyp := hyp h_34 eh_34
      refine ge_goto a_X3_lookOn_125 ?_
      exact ge_sub [0] rfl (hK90  h_34 hyp)
def f_X3_lookOn_b44   (Q : Mem → Prop)   (h : Mem) : Prop :=
  ∀ h_3 : Mem, h_3 = gm_st h 32 3 (h 32 4) →
  ¬ h_3 32 0 = 0 ∧
  if h_3 32 3 < h_3 30 1 then (
    f_X3_isLetter (h_3 32 3) h_3 fun r_7 h_6 =>
    if r_7 = 0 then (
      f_X3_isDigit (h_6 32 3) h_6 fun r_10 h_9 =>
      if r_10 = 0 then (
        f_X3_signAt (h_9 32 3) h_9 fun r_13 h_12 =>
        ∀ h_14 : Mem, h_14 = gm_st h_12 32 2 r_13 →
        ∀ h_15 : Mem, h_15 = gm_st h_14 32 4 ((h_14 32 4) + (1 : Int32)) →
        Q h_15)
      else (
        ∀ h_16 : Mem, h_16 = gm_st h_9 32 2 (2 : Int32) →
        ∀ h_17 : Mem, h_17 = gm_st h_16 32 5 (0 : Int32) →
        gm_it0 (f_X3_lookOn_b149   Q ) gm_F  h_17))
    else (
      ∀ h_28 : Mem, h_28 = gm_st h_6 32 2 (1 : Int32) →
      gm_it0 (f_X3_lookOn_b90   Q ) gm_F  h_28))
  else (
    ∀ h_35 : Mem, h_35 = gm_st h_3 32 2 (0 : Int32) →
    Q h_35)
set_option maxRecDepth 20000 in
theorem t_X3_lookOn_b44     (Q : Mem → Prop)    (h : Mem) (hyp : f_X3_lookOn_b44   Q   h) : EV m_X3_lookOn (GV Q) 44 [(0, .ref 32)] [] h := by
  unfold f_X3_lookOn_b44 at hyp
  refine ge_aload_n a_X3_lookOn_44 rfl 0 rfl ?_
  refine ge_aload_n a_X3_lookOn_45 rfl 0 rfl ?_
  refine ge_getI a_X3_lookOn_46 fd_X3_19 (rfl : gm_cls 32 = 2) ?_
  refine ge_putI a_X3_lookOn_49 pd_X3_30 (rfl : gm_cls 32 = 2) ?_
  refine ge_nm (fun h_3 eh_3 => ?_)
  have hyp := hyp h_3 eh_3
  refine ge_aload_n a_X3_lookOn_52 rfl 0 rfl ?_
  refine ge_getI a_X3_lookOn_53 fd_X3_30 (rfl : gm_cls 32 = 2) ?_
  refine ge_aload_n a_X3_lookOn_56 rfl 0 rfl ?_
  obtain ⟨z_4, hyp⟩ := hyp
  refine ge_getO (q := 30) a_X3_lookOn_57 fd_X3_15 (rfl : gm_cls 32 = 2) rfl z_4 ?_
  refine ge_getI a_X3_lookOn_60 fd_X3_150 (rfl : gm_cls 30 = 6) ?_
  refine ge_icmp_lt a_X3_lookOn_63 (fun c_5 => ?_) (fun c_5 => ?_)
  · have hyp := gm_ip hyp c_5
    refine ge_aload_n a_X3_lookOn_74 rfl 0 rfl ?_
    refine ge_aload_n a_X3_lookOn_75 rfl 0 rfl ?_
    refine ge_getI a_X3_lookOn_76 fd_X3_30 (rfl : gm_cls 32 = 2) ?_
    refine ge_cVI [.int (h_3 32 3)] (rest := []) a_X3_lookOn_79 ok_X3_isLetter lk_X3_153 ⟨Nat.le_of_ble_eq_true rfl, Nat.le_of_ble_eq_true rfl⟩ (rfl : gm_cls 32 = 2) vc_2 (by decide) rfl rfl (Nat.le_of_ble_eq_true rfl) (t_X3_isLetter (h_3 32 3)  h_3 _ hyp) (fun r_7 h_6 hyp => ?_)
    refine ge_if_eq a_X3_lookOn_82 (fun c_8 => ?_) (fun c_8 => ?_)
    · have hyp := gm_ip hyp c_8
      refine ge_aload_n a_X3_lookOn_128 rfl 0 rfl ?_
      refine ge_aload_n a_X3_lookOn_129 rfl 0 rfl ?_
      refine ge_getI a_X3_lookOn_130 fd_X3_30 (rfl : gm_cls 32 = 2) ?_
      refine ge_cVI [.int (h_6 32 3)] (rest := []) a_X3_lookOn_133 ok_X3_isDigit lk_X3_156 ⟨Nat.le_of_ble_eq_true rfl, Nat.le_of_ble_eq_true rfl⟩ (rfl : gm_cls 32 = 2) vc_2 (by decide) rfl rfl (Nat.le_of_ble_eq_true rfl) (t_X3_isDigit (h_6 32 3)  h_6 _ hyp) (fun r_10 h_9 hyp => ?_)
      refine ge_if_eq a_X3_lookOn_136 (fun c_11 => ?_) (fun c_11 => ?_)
      · have hyp := gm_ip hyp c_11
        refine ge_aload_n a_X3_lookOn_219 rfl 0 rfl ?_
        refine ge_aload_n a_X3_lookOn_220 rfl 0 rfl ?_
        refine ge_aload_n a_X3_lookOn_221 rfl 0 rfl ?_
        refine ge_getI a_X3_lookOn_222 fd_X3_30 (rfl : gm_cls 32 = 2) ?_
        refine ge_cVI [.int (h_9 32 3)] (rest := [.ref 32]) a_X3_lookOn_225 ok_X3_signAt lk_X3_166 ⟨Nat.le_of_ble_eq_true rfl, Nat.le_of_ble_eq_true rfl⟩ (rfl : gm_cls 32 = 2) vc_2 (by decide) rfl rfl (Nat.le_of_ble_eq_true rfl) (t_X3_signAt (h_9 32 3)  h_9 _ hyp) (fun r_13 h_12 hyp => ?_)
        refine ge_putI a_X3_lookOn_228 pd_X3_33 (rfl : gm_cls 32 = 2) ?_
        refine ge_nm (fun h_14 eh_14 => ?_)
        have hyp := hyp h_14 eh_14
        refine ge_aload_n a_X3_lookOn_231 rfl 0 rfl ?_
        refine ge_dup a_X3_lookOn_232 rfl ?_
        refine ge_getI a_X3_lookOn_233 fd_X3_19 (rfl : gm_cls 32 = 2) ?_
        refine ge_iconst (v := 1) a_X3_lookOn_236 rfl ?_
        refine ge_iadd a_X3_lookOn_237 ?_
        refine ge_putI a_X3_lookOn_238 pd_X3_19 (rfl : gm_cls 32 = 2) ?_
        refine ge_nm (fun h_15 eh_15 => ?_)
        have hyp := hyp h_15 eh_15
        exact ge_vret rfl a_X3_lookOn_241 hyp
      · have hyp := gm_in hyp c_11
        refine ge_aload_n a_X3_lookOn_139 rfl 0 rfl ?_
        refine ge_iconst (v := 2) a_X3_lookOn_140 rfl ?_
        refine ge_putI a_X3_lookOn_141 pd_X3_33 (rfl : gm_cls 32 = 2) ?_
        refine ge_nm (fun h_16 eh_16 => ?_)
        have hyp := hyp h_16 eh_16
        refine ge_aload_n a_X3_lookOn_144 rfl 0 rfl ?_
        refine ge_iconst (v := 0) a_X3_lookOn_145 rfl ?_
        refine ge_putI a_X3_lookOn_146 pd_X3_98 (rfl : gm_cls 32 = 2) ?_
        refine ge_nm (fun h_17 eh_17 => ?_)
        have hyp := hyp h_17 eh_17
        exact ge_sub [0] rfl (t_X3_lookOn_b149     Q   gm_F  h_17 hyp)
    · have hyp := gm_in hyp c_8
      refine ge_aload_n a_X3_lookOn_85 rfl 0 rfl ?_
      refine ge_iconst (v := 1) a_X3_lookOn_86 rfl ?_
      refine ge_putI a_X3_lookOn_87 pd_X3_33 (rfl : gm_cls 32 = 2) ?_
      refine ge_nm (fun h_28 eh_28 => ?_)
      have hyp := hyp h_28 eh_28
      exact ge_sub [0] rfl (t_X3_lookOn_b90     Q   gm_F  h_28 hyp)
  · have hyp := gm_in hyp c_5
    refine ge_aload_n a_X3_lookOn_66 rfl 0 rfl ?_
    refine ge_iconst (v := 0) a_X3_lookOn_67 rfl ?_
    refine ge_putI a_X3_lookOn_68 pd_X3_33 (rfl : gm_cls 32 = 2) ?_
    refine ge_nm (fun h_35 eh_35 => ?_)
    have hyp := hyp h_35 eh_35
    refine ge_goto a_X3_lookOn_71 ?_
    exact ge_vret rfl a_X3_lookOn_241 hyp
def f_X3_lookOn_b0   (Q : Mem → Prop)  (K0 : Mem → Prop)  (h : Mem) : Prop :=
  ¬ h 32 0 = 0 ∧
  if h 30 1 ≤ h 32 4 then (
    f_X3_lookOn_b44   Q   h)
  else (
    ¬ h 32 0 = 0 ∧
    vp_in (h 32 4) 120 ∧
    if h 31 ((h 32 4).toNatClampNeg) = (32 : Int32) then (
      ∀ h_45 : Mem, h_45 = gm_st h 32 4 ((h 32 4) + (1 : Int32)) →
      K0  h_45)
    else (
      f_X3_lookOn_b44   Q   h))
set_option maxRecDepth 20000 in
theorem t_X3_lookOn_b0     (Q : Mem → Prop)   : ∀ (n : Nat)  (h : Mem), gm_it0 (f_X3_lookOn_b0   Q ) n  h → EV m_X3_lookOn (GV Q) 0 [(0, .ref 32)] [] h := by
  refine ge_loop0 (P := fun  h => EV m_X3_lookOn (GV Q) 0 [(0, .ref 32)] [] h) (fun K0 hK0  h hyp => ?_)
  unfold f_X3_lookOn_b0 at hyp
  refine ge_aload_n a_X3_lookOn_0 rfl 0 rfl ?_
  refine ge_getI a_X3_lookOn_1 fd_X3_19 (rfl : gm_cls 32 = 2) ?_
  refine ge_aload_n a_X3_lookOn_4 rfl 0 rfl ?_
  obtain ⟨z_40, hyp⟩ := hyp
  refine ge_getO (q := 30) a_X3_lookOn_5 fd_X3_15 (rfl : gm_cls 32 = 2) rfl z_40 ?_
  refine ge_getI a_X3_lookOn_8 fd_X3_150 (rfl : gm_cls 30 = 6) ?_
  refine ge_icmp_ge a_X3_lookOn_11 (fun c_41 => ?_) (fun c_41 => ?_)
  · have hyp := gm_ip hyp c_41
    exact ge_sub [0] rfl (t_X3_lookOn_b44     Q    h hyp)
  · have hyp := gm_in hyp c_41
    refine ge_aload_n a_X3_lookOn_14 rfl 0 rfl ?_
    obtain ⟨z_42, hyp⟩ := hyp
    refine ge_getO (q := 30) a_X3_lookOn_15 fd_X3_15 (rfl : gm_cls 32 = 2) rfl z_42 ?_
    refine ge_getR (q := 31) a_X3_lookOn_18 fd_X3_127 (rfl : gm_cls 30 = 6) rfl ?_
    refine ge_aload_n a_X3_lookOn_21 rfl 0 rfl ?_
    refine ge_getI a_X3_lookOn_22 fd_X3_19 (rfl : gm_cls 32 = 2) ?_
    obtain ⟨b_43, hyp⟩ := hyp
    refine ge_iald (j := (h 32 4).toNatClampNeg) a_X3_lookOn_25 ga_31 b_43 rfl ?_
    refine ge_bipush (v := 32) a_X3_lookOn_26 rfl ?_
    refine ge_icmp_ne a_X3_lookOn_28 (fun c_44 => ?_) (fun c_44 => ?_)
    · have hyp := gm_in hyp c_44
      exact ge_sub [0] rfl (t_X3_lookOn_b44     Q    h hyp)
    · have hyp := gm_ip hyp c_44
      refine ge_aload_n a_X3_lookOn_31 rfl 0 rfl ?_
      refine ge_dup a_X3_lookOn_32 rfl ?_
      refine ge_getI a_X3_lookOn_33 fd_X3_19 (rfl : gm_cls 32 = 2) ?_
      refine ge_iconst (v := 1) a_X3_lookOn_36 rfl ?_
      refine ge_iadd a_X3_lookOn_37 ?_
      refine ge_putI a_X3_lookOn_38 pd_X3_19 (rfl : gm_cls 32 = 2) ?_
      refine ge_nm (fun h_45 eh_45 => ?_)
      have hyp := hyp h_45 eh_45
      refine ge_goto a_X3_lookOn_41 ?_
      exact ge_sub [0] rfl (hK0  h_45 hyp)
def f_X3_lookOn  (h : Mem) (Q : Mem → Prop) : Prop :=
  ¬ h 32 0 = 0 ∧
  if h 30 1 ≤ h 32 4 then (
    f_X3_lookOn_b44   Q   h)
  else (
    ¬ h 32 0 = 0 ∧
    vp_in (h 32 4) 120 ∧
    if h 31 ((h 32 4).toNatClampNeg) = (32 : Int32) then (
      ∀ h_39 : Mem, h_39 = gm_st h 32 4 ((h 32 4) + (1 : Int32)) →
      gm_it0 (f_X3_lookOn_b0   Q ) gm_F  h_39)
    else (
      f_X3_lookOn_b44   Q   h))
set_option maxRecDepth 20000 in
theorem t_X3_lookOn   (h : Mem) (Q : Mem → Prop) (hyp : f_X3_lookOn  h Q) : Cn m_X3_lookOn [.ref 32] h (GV Q) := by
  refine ge_entry (lv := [(0, .ref 32)]) pn_X3 (Nat.le_of_ble_eq_true rfl) rfl ?_
  unfold f_X3_lookOn at hyp
  refine ge_aload_n a_X3_lookOn_0 rfl 0 rfl ?_
  refine ge_getI a_X3_lookOn_1 fd_X3_19 (rfl : gm_cls 32 = 2) ?_
  refine ge_aload_n a_X3_lookOn_4 rfl 0 rfl ?_
  obtain ⟨z_1, hyp⟩ := hyp
  refine ge_getO (q := 30) a_X3_lookOn_5 fd_X3_15 (rfl : gm_cls 32 = 2) rfl z_1 ?_
  refine ge_getI a_X3_lookOn_8 fd_X3_150 (rfl : gm_cls 30 = 6) ?_
  refine ge_icmp_ge a_X3_lookOn_11 (fun c_2 => ?_) (fun c_2 => ?_)
  · have hyp := gm_ip hyp c_2
    exact ge_sub [0] rfl (t_X3_lookOn_b44     Q    h hyp)
  · have hyp := gm_in hyp c_2
    refine ge_aload_n a_X3_lookOn_14 rfl 0 rfl ?_
    obtain ⟨z_36, hyp⟩ := hyp
    refine ge_getO (q := 30) a_X3_lookOn_15 fd_X3_15 (rfl : gm_cls 32 = 2) rfl z_36 ?_
    refine ge_getR (q := 31) a_X3_lookOn_18 fd_X3_127 (rfl : gm_cls 30 = 6) rfl ?_
    refine ge_aload_n a_X3_lookOn_21 rfl 0 rfl ?_
    refine ge_getI a_X3_lookOn_22 fd_X3_19 (rfl : gm_cls 32 = 2) ?_
    obtain ⟨b_37, hyp⟩ := hyp
    refine ge_iald (j := (h 32 4).toNatClampNeg) a_X3_lookOn_25 ga_31 b_37 rfl ?_
    refine ge_bipush (v := 32) a_X3_lookOn_26 rfl ?_
    refine ge_icmp_ne a_X3_lookOn_28 (fun c_38 => ?_) (fun c_38 => ?_)
    · have hyp := gm_in hyp c_38
      exact ge_sub [0] rfl (t_X3_lookOn_b44     Q    h hyp)
    · have hyp := gm_ip hyp c_38
      refine ge_aload_n a_X3_lookOn_31 rfl 0 rfl ?_
      refine ge_dup a_X3_lookOn_32 rfl ?_
      refine ge_getI a_X3_lookOn_33 fd_X3_19 (rfl : gm_cls 32 = 2) ?_
      refine ge_iconst (v := 1) a_X3_lookOn_36 rfl ?_
      refine ge_iadd a_X3_lookOn_37 ?_
      refine ge_putI a_X3_lookOn_38 pd_X3_19 (rfl : gm_cls 32 = 2) ?_
      refine ge_nm (fun h_39 eh_39 => ?_)
      have hyp := hyp h_39 eh_39
      refine ge_goto a_X3_lookOn_41 ?_
      exact ge_sub [0] rfl (t_X3_lookOn_b0     Q   gm_F  h_39 hyp)

theorem a_J0_isLatin1_aae02_0 : At m_J0_isLatin1_aae02 0 (.getstatic 38) 3 3 := at_i (by decide +kernel) rfl
theorem a_J0_isLatin1_aae02_3 : AtJ m_J0_isLatin1_aae02 3 (.ifCond .eq 14) (14) 17 6 := at_j (by decide +kernel) (by decide) rfl
theorem a_J0_isLatin1_aae02_6 : At m_J0_isLatin1_aae02 6 (.aload_n 0) 1 7 := at_i (by decide +kernel) rfl
theorem a_J0_isLatin1_aae02_7 : At m_J0_isLatin1_aae02 7 (.getfield 15) 3 10 := at_i (by decide +kernel) rfl
theorem a_J0_isLatin1_aae02_10 : AtJ m_J0_isLatin1_aae02 10 (.ifCond .ne 7) (7) 17 13 := at_j (by decide +kernel) (by decide) rfl
theorem a_J0_isLatin1_aae02_13 : At m_J0_isLatin1_aae02 13 (.iconst 1) 1 14 := at_i (by decide +kernel) rfl
theorem a_J0_isLatin1_aae02_14 : AtJ m_J0_isLatin1_aae02 14 (.goto 4) (4) 18 17 := at_j (by decide +kernel) (by decide) rfl
theorem a_J0_isLatin1_aae02_17 : At m_J0_isLatin1_aae02 17 (.iconst 0) 1 18 := at_i (by decide +kernel) rfl
theorem a_J0_isLatin1_aae02_18 : At m_J0_isLatin1_aae02 18 (.ireturn) 1 19 := at_i (by decide +kernel) rfl
def f_J0_isLatin1_aae02 (k0 : Nat) (h : Mem) (Q : Int32 → Mem → Prop) : Prop :=
  if (1 : Int32) = 0 then (
    Q (0 : Int32) h)
  else (
    if (0 : Int32) = 0 then (
      Q (1 : Int32) h)
    else (
      Q (0 : Int32) h))
set_option maxRecDepth 20000 in
theorem t_J0_isLatin1_aae02 (k0 : Nat) (hk0 : k0 < 17) (h : Mem) (Q : Int32 → Mem → Prop) (hyp : f_J0_isLatin1_aae02 k0 h Q) : Cn m_J0_isLatin1_aae02 [.ref (100 + k0)] h (GI Q) := by
  refine ge_entry (lv := [(0, .ref (100 + k0))]) pn_J0 (Nat.le_of_ble_eq_true rfl) rfl ?_
  unfold f_J0_isLatin1_aae02 at hyp
  refine ge_compact a_J0_isLatin1_aae02_0 lk_J0_38 ?_
  refine ge_if_eq a_J0_isLatin1_aae02_3 (fun c_1 => ?_) (fun c_1 => ?_)
  · have hyp := gm_ip hyp c_1
    refine ge_iconst (v := 0) a_J0_isLatin1_aae02_17 rfl ?_
    exact ge_zret rfl rfl a_J0_isLatin1_aae02_18 hyp
  · have hyp := gm_in hyp c_1
    refine ge_aload_n a_J0_isLatin1_aae02_6 rfl 0 rfl ?_
    refine ge_strcoder a_J0_isLatin1_aae02_7 hk0 lk_J0_15 ?_
    refine ge_if_ne a_J0_isLatin1_aae02_10 (fun c_2 => ?_) (fun c_2 => ?_)
    · have hyp := gm_in hyp c_2
      refine ge_iconst (v := 0) a_J0_isLatin1_aae02_17 rfl ?_
      exact ge_zret rfl rfl a_J0_isLatin1_aae02_18 hyp
    · have hyp := gm_ip hyp c_2
      refine ge_iconst (v := 1) a_J0_isLatin1_aae02_13 rfl ?_
      refine ge_goto a_J0_isLatin1_aae02_14 ?_
      exact ge_zret rfl rfl a_J0_isLatin1_aae02_18 hyp

theorem a_J3_checkIndex_8e157_0 : At m_J3_checkIndex_8e157 0 (.iload_n 0) 1 1 := at_i (by decide +kernel) rfl
theorem a_J3_checkIndex_8e157_1 : AtJ m_J3_checkIndex_8e157 1 (.ifCond .lt 8) (8) 9 4 := at_j (by decide +kernel) (by decide) rfl
theorem a_J3_checkIndex_8e157_4 : At m_J3_checkIndex_8e157 4 (.iload_n 0) 1 5 := at_i (by decide +kernel) rfl
theorem a_J3_checkIndex_8e157_5 : At m_J3_checkIndex_8e157 5 (.iload_n 1) 1 6 := at_i (by decide +kernel) rfl
theorem a_J3_checkIndex_8e157_6 : AtJ m_J3_checkIndex_8e157 6 (.if_icmp .lt 10) (10) 16 9 := at_j (by decide +kernel) (by decide) rfl
theorem a_J3_checkIndex_8e157_9 : At m_J3_checkIndex_8e157 9 (.aload_n 2) 1 10 := at_i (by decide +kernel) rfl
theorem a_J3_checkIndex_8e157_16 : At m_J3_checkIndex_8e157 16 (.iload_n 0) 1 17 := at_i (by decide +kernel) rfl
theorem a_J3_checkIndex_8e157_17 : At m_J3_checkIndex_8e157 17 (.ireturn) 1 18 := at_i (by decide +kernel) rfl
def f_J3_checkIndex_8e157 (a0 : Int32) (a1 : Int32) (h : Mem) (Q : Int32 → Mem → Prop) : Prop :=
  if a0 < 0 then (
    False)
  else (
    if a0 < a1 then (
      Q a0 h)
    else (
      False))
set_option maxRecDepth 20000 in
theorem t_J3_checkIndex_8e157 (a0 : Int32) (a1 : Int32)  (h : Mem) (Q : Int32 → Mem → Prop) (hyp : f_J3_checkIndex_8e157 a0 a1 h Q) : Cn m_J3_checkIndex_8e157 [.int a0, .int a1, .ref 180] h (GI Q) := by
  refine ge_entry (lv := [(0, .int a0), (1, .int a1), (2, .ref 180)]) pn_J3 (Nat.le_of_ble_eq_true rfl) rfl ?_
  unfold f_J3_checkIndex_8e157 at hyp
  refine ge_iload_n a_J3_checkIndex_8e157_0 rfl 0 rfl ?_
  refine ge_if_lt a_J3_checkIndex_8e157_1 (fun c_1 => ?_) (fun c_1 => ?_)
  · have hyp := gm_ip hyp c_1
    exact hyp.elim
  · have hyp := gm_in hyp c_1
    refine ge_iload_n a_J3_checkIndex_8e157_4 rfl 0 rfl ?_
    refine ge_iload_n a_J3_checkIndex_8e157_5 rfl 1 rfl ?_
    refine ge_icmp_lt a_J3_checkIndex_8e157_6 (fun c_2 => ?_) (fun c_2 => ?_)
    · have hyp := gm_ip hyp c_2
      refine ge_iload_n a_J3_checkIndex_8e157_16 rfl 0 rfl ?_
      exact ge_iret rfl a_J3_checkIndex_8e157_17 hyp
    · have hyp := gm_in hyp c_2
      exact hyp.elim
set_option maxRecDepth 20000 in
theorem t_J3_checkIndex_8e157N (a0 : Int32) (a1 : Int32)  (h : Mem) (Q : Int32 → Mem → Prop) (hyp : f_J3_checkIndex_8e157 a0 a1 h Q) : Cn m_J3_checkIndex_8e157 [.int a0, .int a1, .null] h (GI Q) := by
  refine ge_entry (lv := [(0, .int a0), (1, .int a1), (2, .null)]) pn_J3 (Nat.le_of_ble_eq_true rfl) rfl ?_
  unfold f_J3_checkIndex_8e157 at hyp
  refine ge_iload_n a_J3_checkIndex_8e157_0 rfl 0 rfl ?_
  refine ge_if_lt a_J3_checkIndex_8e157_1 (fun c_1 => ?_) (fun c_1 => ?_)
  · have hyp := gm_ip hyp c_1
    exact hyp.elim
  · have hyp := gm_in hyp c_1
    refine ge_iload_n a_J3_checkIndex_8e157_4 rfl 0 rfl ?_
    refine ge_iload_n a_J3_checkIndex_8e157_5 rfl 1 rfl ?_
    refine ge_icmp_lt a_J3_checkIndex_8e157_6 (fun c_2 => ?_) (fun c_2 => ?_)
    · have hyp := gm_ip hyp c_2
      refine ge_iload_n a_J3_checkIndex_8e157_16 rfl 0 rfl ?_
      exact ge_iret rfl a_J3_checkIndex_8e157_17 hyp
    · have hyp := gm_in hyp c_2
      exact hyp.elim

theorem a_J0_checkIndex_df160_0 : At m_J0_checkIndex_df160 0 (.iload_n 0) 1 1 := at_i (by decide +kernel) rfl
theorem a_J0_checkIndex_df160_1 : At m_J0_checkIndex_df160 1 (.iload_n 1) 1 2 := at_i (by decide +kernel) rfl
theorem a_J0_checkIndex_df160_2 : At m_J0_checkIndex_df160 2 (.getstatic 1053) 3 5 := at_i (by decide +kernel) rfl
theorem a_J0_checkIndex_df160_5 : At m_J0_checkIndex_df160 5 (.invokestatic 1059) 3 8 := at_i (by decide +kernel) rfl
theorem a_J0_checkIndex_df160_8 : At m_J0_checkIndex_df160 8 (.pop) 1 9 := at_i (by decide +kernel) rfl
theorem a_J0_checkIndex_df160_9 : At m_J0_checkIndex_df160 9 (.return_) 1 10 := at_i (by decide +kernel) rfl
def f_J0_checkIndex_df160 (a0 : Int32) (a1 : Int32) (h : Mem) (Q : Mem → Prop) : Prop :=
    f_J3_checkIndex_8e157 a0 a1 h fun r_4 h_3 =>
    Q h_3
set_option maxRecDepth 20000 in
theorem t_J0_checkIndex_df160 (a0 : Int32) (a1 : Int32)  (h : Mem) (Q : Mem → Prop) (hyp : f_J0_checkIndex_df160 a0 a1 h Q) : Cn m_J0_checkIndex_df160 [.int a0, .int a1] h (GV Q) := by
  refine ge_entry (lv := [(0, .int a0), (1, .int a1)]) pn_J0 (Nat.le_of_ble_eq_true rfl) rfl ?_
  unfold f_J0_checkIndex_df160 at hyp
  refine ge_iload_n a_J0_checkIndex_df160_0 rfl 0 rfl ?_
  refine ge_iload_n a_J0_checkIndex_df160_1 rfl 1 rfl ?_
  refine ge_formatter a_J0_checkIndex_df160_2 lk_J0_1053 ?_ ?_
  · refine ge_cSI [.int a0, .int a1, .null] (rest := []) a_J0_checkIndex_df160_5 ok_J3_checkIndex_8e157 lk_J0_1059 ⟨Nat.le_of_ble_eq_true rfl, Nat.le_of_ble_eq_true rfl⟩ rfl rfl (Nat.le_of_ble_eq_true rfl) (t_J3_checkIndex_8e157N a0 a1  h _ hyp) (fun r_2 h_1 hyp => ?_)
    refine ge_pop a_J0_checkIndex_df160_8 rfl ?_
    exact ge_vret rfl a_J0_checkIndex_df160_9 hyp
  · refine ge_cSI [.int a0, .int a1, .ref 180] (rest := []) a_J0_checkIndex_df160_5 ok_J3_checkIndex_8e157 lk_J0_1059 ⟨Nat.le_of_ble_eq_true rfl, Nat.le_of_ble_eq_true rfl⟩ rfl rfl (Nat.le_of_ble_eq_true rfl) (t_J3_checkIndex_8e157 a0 a1  h _ hyp) (fun r_4 h_3 hyp => ?_)
    refine ge_pop a_J0_checkIndex_df160_8 rfl ?_
    exact ge_vret rfl a_J0_checkIndex_df160_9 hyp

theorem a_J1_charAt_3b067_0 : At m_J1_charAt_3b067 0 (.iload_n 1) 1 1 := at_i (by decide +kernel) rfl
theorem a_J1_charAt_3b067_1 : At m_J1_charAt_3b067 1 (.aload_n 0) 1 2 := at_i (by decide +kernel) rfl
theorem a_J1_charAt_3b067_2 : At m_J1_charAt_3b067 2 (.arraylength) 1 3 := at_i (by decide +kernel) rfl
theorem a_J1_charAt_3b067_3 : At m_J1_charAt_3b067 3 (.invokestatic 9) 3 6 := at_i (by decide +kernel) rfl
theorem a_J1_charAt_3b067_6 : At m_J1_charAt_3b067 6 (.aload_n 0) 1 7 := at_i (by decide +kernel) rfl
theorem a_J1_charAt_3b067_7 : At m_J1_charAt_3b067 7 (.iload_n 1) 1 8 := at_i (by decide +kernel) rfl
theorem a_J1_charAt_3b067_8 : At m_J1_charAt_3b067 8 (.baload) 1 9 := at_i (by decide +kernel) rfl
theorem a_J1_charAt_3b067_9 : At m_J1_charAt_3b067 9 (.sipush 255) 3 12 := at_i (by decide +kernel) rfl
theorem a_J1_charAt_3b067_12 : At m_J1_charAt_3b067 12 (.iand) 1 13 := at_i (by decide +kernel) rfl
theorem a_J1_charAt_3b067_13 : At m_J1_charAt_3b067 13 (.i2c) 1 14 := at_i (by decide +kernel) rfl
theorem a_J1_charAt_3b067_14 : At m_J1_charAt_3b067 14 (.ireturn) 1 15 := at_i (by decide +kernel) rfl
def f_J1_charAt_3b067 (i0 : Nat) (a1 : Int32) (h : Mem) (Q : Int32 → Mem → Prop) : Prop :=
  f_J0_checkIndex_df160 a1 (nI (gm_byt i0).length) h fun h_1 =>
  vp_in a1 (gm_byt i0).length ∧
  narrow .char (.int (((((gm_byt i0).getD a1.toNatClampNeg 0) &&& (255 : Int32)).toUInt32 % 65536).toInt32)) = .int (((((gm_byt i0).getD a1.toNatClampNeg 0) &&& (255 : Int32)).toUInt32 % 65536).toInt32) ∧ Q (((((gm_byt i0).getD a1.toNatClampNeg 0) &&& (255 : Int32)).toUInt32 % 65536).toInt32) h_1
set_option maxRecDepth 20000 in
theorem t_J1_charAt_3b067 (i0 : Nat) (a1 : Int32) (hi0 : i0 < 17) (h : Mem) (Q : Int32 → Mem → Prop) (hyp : f_J1_charAt_3b067 i0 a1 h Q) : Cn m_J1_charAt_3b067 [.ref (150 + i0), .int a1] h (GI Q) := by
  refine ge_entry (lv := [(0, .ref (150 + i0)), (1, .int a1)]) pn_J1 (Nat.le_of_ble_eq_true rfl) rfl ?_
  unfold f_J1_charAt_3b067 at hyp
  refine ge_iload_n a_J1_charAt_3b067_0 rfl 1 rfl ?_
  refine ge_aload_n a_J1_charAt_3b067_1 rfl 0 rfl ?_
  refine ge_blen a_J1_charAt_3b067_2 hi0 ?_
  refine ge_cSV [.int a1, .int (nI (gm_byt i0).length)] (rest := []) a_J1_charAt_3b067_3 ok_J0_checkIndex_df160 lk_J1_9 ⟨Nat.le_of_ble_eq_true rfl, Nat.le_of_ble_eq_true rfl⟩ rfl rfl (Nat.le_of_ble_eq_true rfl) (t_J0_checkIndex_df160 a1 (nI (gm_byt i0).length)  h _ hyp) (fun h_1 hyp => ?_)
  refine ge_aload_n a_J1_charAt_3b067_6 rfl 0 rfl ?_
  refine ge_iload_n a_J1_charAt_3b067_7 rfl 1 rfl ?_
  obtain ⟨b_2, hyp⟩ := hyp
  refine ge_bald a_J1_charAt_3b067_8 hi0 b_2 ?_
  refine ge_sipush (v := 255) a_J1_charAt_3b067_9 rfl ?_
  refine ge_iand a_J1_charAt_3b067_12 ?_
  refine ge_i2c a_J1_charAt_3b067_13 ?_
  exact ge_zret rfl hyp.1 a_J1_charAt_3b067_14 hyp.2

theorem a_J0_charAt_5068e_0 : At m_J0_charAt_5068e 0 (.aload_n 0) 1 1 := at_i (by decide +kernel) rfl
theorem a_J0_charAt_5068e_1 : At m_J0_charAt_5068e 1 (.invokevirtual 492) 3 4 := at_i (by decide +kernel) rfl
theorem a_J0_charAt_5068e_4 : AtJ m_J0_charAt_5068e 4 (.ifCond .eq 12) (12) 16 7 := at_j (by decide +kernel) (by decide) rfl
theorem a_J0_charAt_5068e_7 : At m_J0_charAt_5068e 7 (.aload_n 0) 1 8 := at_i (by decide +kernel) rfl
theorem a_J0_charAt_5068e_8 : At m_J0_charAt_5068e 8 (.getfield 9) 3 11 := at_i (by decide +kernel) rfl
theorem a_J0_charAt_5068e_11 : At m_J0_charAt_5068e 11 (.iload_n 1) 1 12 := at_i (by decide +kernel) rfl
theorem a_J0_charAt_5068e_12 : At m_J0_charAt_5068e 12 (.invokestatic 495) 3 15 := at_i (by decide +kernel) rfl
theorem a_J0_charAt_5068e_15 : At m_J0_charAt_5068e 15 (.ireturn) 1 16 := at_i (by decide +kernel) rfl
theorem a_J0_charAt_5068e_16 : At m_J0_charAt_5068e 16 (.aload_n 0) 1 17 := at_i (by decide +kernel) rfl
theorem a_J0_charAt_5068e_17 : At m_J0_charAt_5068e 17 (.getfield 9) 3 20 := at_i (by decide +kernel) rfl
theorem a_J0_charAt_5068e_20 : At m_J0_charAt_5068e 20 (.iload_n 1) 1 21 := at_i (by decide +kernel) rfl
theorem a_J0_charAt_5068e_21 : At m_J0_charAt_5068e 21 (.invokestatic 498) 3 24 := at_i (by decide +kernel) rfl
def f_J0_charAt_5068e (k0 : Nat) (a1 : Int32) (h : Mem) (Q : Int32 → Mem → Prop) : Prop :=
  f_J0_isLatin1_aae02 k0 h fun r_2 h_1 =>
  if r_2 = 0 then (
    False)
  else (
    f_J1_charAt_3b067 k0 a1 h_1 fun r_5 h_4 =>
    narrow .char (.int r_5) = .int r_5 ∧ Q r_5 h_4)
set_option maxRecDepth 20000 in
theorem t_J0_charAt_5068e (k0 : Nat) (a1 : Int32) (hk0 : k0 < 17) (h : Mem) (Q : Int32 → Mem → Prop) (hyp : f_J0_charAt_5068e k0 a1 h Q) : Cn m_J0_charAt_5068e [.ref (100 + k0), .int a1] h (GI Q) := by
  refine ge_entry (lv := [(0, .ref (100 + k0)), (1, .int a1)]) pn_J0 (Nat.le_of_ble_eq_true rfl) rfl ?_
  unfold f_J0_charAt_5068e at hyp
  refine ge_aload_n a_J0_charAt_5068e_0 rfl 0 rfl ?_
  refine ge_cTI [] (rest := []) a_J0_charAt_5068e_1 ok_J0_isLatin1_aae02 rfl lk_J0_492 ⟨Nat.le_of_ble_eq_true rfl, Nat.le_of_ble_eq_true rfl⟩ hk0 rfl rfl (Nat.le_of_ble_eq_true rfl) (t_J0_isLatin1_aae02 k0 hk0 h _ hyp) (fun r_2 h_1 hyp => ?_)
  refine ge_if_eq a_J0_charAt_5068e_4 (fun c_3 => ?_) (fun c_3 => ?_)
  · have hyp := gm_ip hyp c_3
    refine ge_aload_n a_J0_charAt_5068e_16 rfl 0 rfl ?_
    refine ge_strval a_J0_charAt_5068e_17 hk0 lk_J0_9 ?_
    refine ge_iload_n a_J0_charAt_5068e_20 rfl 1 rfl ?_
    exact hyp.elim
  · have hyp := gm_in hyp c_3
    refine ge_aload_n a_J0_charAt_5068e_7 rfl 0 rfl ?_
    refine ge_strval a_J0_charAt_5068e_8 hk0 lk_J0_9 ?_
    refine ge_iload_n a_J0_charAt_5068e_11 rfl 1 rfl ?_
    refine ge_cSI [.ref (150 + k0), .int a1] (rest := []) a_J0_charAt_5068e_12 ok_J1_charAt_3b067 lk_J0_495 ⟨Nat.le_of_ble_eq_true rfl, Nat.le_of_ble_eq_true rfl⟩ rfl rfl (Nat.le_of_ble_eq_true rfl) (t_J1_charAt_3b067 k0 a1 hk0 h_1 _ hyp) (fun r_5 h_4 hyp => ?_)
    exact ge_zret rfl hyp.1 a_J0_charAt_5068e_15 hyp.2

theorem a_J0_coder_7d493_0 : At m_J0_coder_7d493 0 (.getstatic 38) 3 3 := at_i (by decide +kernel) rfl
theorem a_J0_coder_7d493_3 : AtJ m_J0_coder_7d493 3 (.ifCond .eq 10) (10) 13 6 := at_j (by decide +kernel) (by decide) rfl
theorem a_J0_coder_7d493_6 : At m_J0_coder_7d493 6 (.aload_n 0) 1 7 := at_i (by decide +kernel) rfl
theorem a_J0_coder_7d493_7 : At m_J0_coder_7d493 7 (.getfield 15) 3 10 := at_i (by decide +kernel) rfl
theorem a_J0_coder_7d493_10 : AtJ m_J0_coder_7d493 10 (.goto 4) (4) 14 13 := at_j (by decide +kernel) (by decide) rfl
theorem a_J0_coder_7d493_13 : At m_J0_coder_7d493 13 (.iconst 1) 1 14 := at_i (by decide +kernel) rfl
theorem a_J0_coder_7d493_14 : At m_J0_coder_7d493 14 (.ireturn) 1 15 := at_i (by decide +kernel) rfl
def f_J0_coder_7d493 (k0 : Nat) (h : Mem) (Q : Int32 → Mem → Prop) : Prop :=
  if (1 : Int32) = 0 then (
    Q (1 : Int32) h)
  else (
    Q (0 : Int32) h)
set_option maxRecDepth 20000 in
theorem t_J0_coder_7d493 (k0 : Nat) (hk0 : k0 < 17) (h : Mem) (Q : Int32 → Mem → Prop) (hyp : f_J0_coder_7d493 k0 h Q) : Cn m_J0_coder_7d493 [.ref (100 + k0)] h (GI Q) := by
  refine ge_entry (lv := [(0, .ref (100 + k0))]) pn_J0 (Nat.le_of_ble_eq_true rfl) rfl ?_
  unfold f_J0_coder_7d493 at hyp
  refine ge_compact a_J0_coder_7d493_0 lk_J0_38 ?_
  refine ge_if_eq a_J0_coder_7d493_3 (fun c_1 => ?_) (fun c_1 => ?_)
  · have hyp := gm_ip hyp c_1
    refine ge_iconst (v := 1) a_J0_coder_7d493_13 rfl ?_
    exact ge_zret rfl rfl a_J0_coder_7d493_14 hyp
  · have hyp := gm_in hyp c_1
    refine ge_aload_n a_J0_coder_7d493_6 rfl 0 rfl ?_
    refine ge_strcoder a_J0_coder_7d493_7 hk0 lk_J0_15 ?_
    refine ge_goto a_J0_coder_7d493_10 ?_
    exact ge_zret rfl rfl a_J0_coder_7d493_14 hyp

theorem a_J0_length_8abf5_0 : At m_J0_length_8abf5 0 (.aload_n 0) 1 1 := at_i (by decide +kernel) rfl
theorem a_J0_length_8abf5_1 : At m_J0_length_8abf5 1 (.getfield 9) 3 4 := at_i (by decide +kernel) rfl
theorem a_J0_length_8abf5_4 : At m_J0_length_8abf5 4 (.arraylength) 1 5 := at_i (by decide +kernel) rfl
theorem a_J0_length_8abf5_5 : At m_J0_length_8abf5 5 (.aload_n 0) 1 6 := at_i (by decide +kernel) rfl
theorem a_J0_length_8abf5_6 : At m_J0_length_8abf5 6 (.invokevirtual 335) 3 9 := at_i (by decide +kernel) rfl
theorem a_J0_length_8abf5_9 : At m_J0_length_8abf5 9 (.ishr) 1 10 := at_i (by decide +kernel) rfl
theorem a_J0_length_8abf5_10 : At m_J0_length_8abf5 10 (.ireturn) 1 11 := at_i (by decide +kernel) rfl
def f_J0_length_8abf5 (k0 : Nat) (h : Mem) (Q : Int32 → Mem → Prop) : Prop :=
  f_J0_coder_7d493 k0 h fun r_2 h_1 =>
  Q ((nI (gm_byt k0).length) >>> (r_2 &&& 31)) h_1
set_option maxRecDepth 20000 in
theorem t_J0_length_8abf5 (k0 : Nat) (hk0 : k0 < 17) (h : Mem) (Q : Int32 → Mem → Prop) (hyp : f_J0_length_8abf5 k0 h Q) : Cn m_J0_length_8abf5 [.ref (100 + k0)] h (GI Q) := by
  refine ge_entry (lv := [(0, .ref (100 + k0))]) pn_J0 (Nat.le_of_ble_eq_true rfl) rfl ?_
  unfold f_J0_length_8abf5 at hyp
  refine ge_aload_n a_J0_length_8abf5_0 rfl 0 rfl ?_
  refine ge_strval a_J0_length_8abf5_1 hk0 lk_J0_9 ?_
  refine ge_blen a_J0_length_8abf5_4 hk0 ?_
  refine ge_aload_n a_J0_length_8abf5_5 rfl 0 rfl ?_
  refine ge_cTI [] (rest := [.int (nI (gm_byt k0).length)]) a_J0_length_8abf5_6 ok_J0_coder_7d493 rfl lk_J0_335 ⟨Nat.le_of_ble_eq_true rfl, Nat.le_of_ble_eq_true rfl⟩ hk0 rfl rfl (Nat.le_of_ble_eq_true rfl) (t_J0_coder_7d493 k0 hk0 h _ hyp) (fun r_2 h_1 hyp => ?_)
  refine ge_ishr a_J0_length_8abf5_9 ?_
  exact ge_iret rfl a_J0_length_8abf5_10 hyp

theorem a_X3_isWord_0 : At m_X3_isWord 0 (.aload_n 0) 1 1 := at_i (by decide +kernel) rfl
theorem a_X3_isWord_1 : At m_X3_isWord 1 (.getfield 33) 3 4 := at_i (by decide +kernel) rfl
theorem a_X3_isWord_4 : At m_X3_isWord 4 (.iconst 1) 1 5 := at_i (by decide +kernel) rfl
theorem a_X3_isWord_5 : AtJ m_X3_isWord 5 (.if_icmp .ne 19) (19) 24 8 := at_j (by decide +kernel) (by decide) rfl
theorem a_X3_isWord_8 : At m_X3_isWord 8 (.aload_n 0) 1 9 := at_i (by decide +kernel) rfl
theorem a_X3_isWord_9 : At m_X3_isWord 9 (.getfield 19) 3 12 := at_i (by decide +kernel) rfl
theorem a_X3_isWord_12 : At m_X3_isWord 12 (.aload_n 0) 1 13 := at_i (by decide +kernel) rfl
theorem a_X3_isWord_13 : At m_X3_isWord 13 (.getfield 30) 3 16 := at_i (by decide +kernel) rfl
theorem a_X3_isWord_16 : At m_X3_isWord 16 (.isub) 1 17 := at_i (by decide +kernel) rfl
theorem a_X3_isWord_17 : At m_X3_isWord 17 (.aload_n 1) 1 18 := at_i (by decide +kernel) rfl
theorem a_X3_isWord_18 : At m_X3_isWord 18 (.invokevirtual 121) 3 21 := at_i (by decide +kernel) rfl
theorem a_X3_isWord_21 : AtJ m_X3_isWord 21 (.if_icmp .eq 5) (5) 26 24 := at_j (by decide +kernel) (by decide) rfl
theorem a_X3_isWord_24 : At m_X3_isWord 24 (.iconst 0) 1 25 := at_i (by decide +kernel) rfl
theorem a_X3_isWord_25 : At m_X3_isWord 25 (.ireturn) 1 26 := at_i (by decide +kernel) rfl
theorem a_X3_isWord_26 : At m_X3_isWord 26 (.iconst 0) 1 27 := at_i (by decide +kernel) rfl
theorem a_X3_isWord_27 : At m_X3_isWord 27 (.istore_n 2) 1 28 := at_i (by decide +kernel) rfl
theorem a_X3_isWord_28 : At m_X3_isWord 28 (.iload_n 2) 1 29 := at_i (by decide +kernel) rfl
theorem a_X3_isWord_29 : At m_X3_isWord 29 (.aload_n 1) 1 30 := at_i (by decide +kernel) rfl
theorem a_X3_isWord_30 : At m_X3_isWord 30 (.invokevirtual 121) 3 33 := at_i (by decide +kernel) rfl
theorem a_X3_isWord_33 : AtJ m_X3_isWord 33 (.if_icmp .ge 33) (33) 66 36 := at_j (by decide +kernel) (by decide) rfl
theorem a_X3_isWord_36 : At m_X3_isWord 36 (.aload_n 0) 1 37 := at_i (by decide +kernel) rfl
theorem a_X3_isWord_37 : At m_X3_isWord 37 (.getfield 15) 3 40 := at_i (by decide +kernel) rfl
theorem a_X3_isWord_40 : At m_X3_isWord 40 (.getfield 127) 3 43 := at_i (by decide +kernel) rfl
theorem a_X3_isWord_43 : At m_X3_isWord 43 (.aload_n 0) 1 44 := at_i (by decide +kernel) rfl
theorem a_X3_isWord_44 : At m_X3_isWord 44 (.getfield 30) 3 47 := at_i (by decide +kernel) rfl
theorem a_X3_isWord_47 : At m_X3_isWord 47 (.iload_n 2) 1 48 := at_i (by decide +kernel) rfl
theorem a_X3_isWord_48 : At m_X3_isWord 48 (.iadd) 1 49 := at_i (by decide +kernel) rfl
theorem a_X3_isWord_49 : At m_X3_isWord 49 (.iaload) 1 50 := at_i (by decide +kernel) rfl
theorem a_X3_isWord_50 : At m_X3_isWord 50 (.aload_n 1) 1 51 := at_i (by decide +kernel) rfl
theorem a_X3_isWord_51 : At m_X3_isWord 51 (.iload_n 2) 1 52 := at_i (by decide +kernel) rfl
theorem a_X3_isWord_52 : At m_X3_isWord 52 (.invokevirtual 132) 3 55 := at_i (by decide +kernel) rfl
theorem a_X3_isWord_55 : AtJ m_X3_isWord 55 (.if_icmp .eq 5) (5) 60 58 := at_j (by decide +kernel) (by decide) rfl
theorem a_X3_isWord_58 : At m_X3_isWord 58 (.iconst 0) 1 59 := at_i (by decide +kernel) rfl
theorem a_X3_isWord_59 : At m_X3_isWord 59 (.ireturn) 1 60 := at_i (by decide +kernel) rfl
theorem a_X3_isWord_60 : At m_X3_isWord 60 (.iinc 2 1) 3 63 := at_i (by decide +kernel) rfl
theorem a_X3_isWord_63 : AtJ m_X3_isWord 63 (.goto (-35)) (-35) 28 66 := at_j (by decide +kernel) (by decide) rfl
theorem a_X3_isWord_66 : At m_X3_isWord 66 (.iconst 1) 1 67 := at_i (by decide +kernel) rfl
theorem a_X3_isWord_67 : At m_X3_isWord 67 (.ireturn) 1 68 := at_i (by decide +kernel) rfl
def f_X3_isWord_b28 (i1 : Nat)  (Q : Int32 → Mem → Prop)  (K28 : Int32 → Mem → Prop) (v2 : Int32) (h : Mem) : Prop :=
  f_J0_length_8abf5 i1 h fun r_6 h_5 =>
  if r_6 ≤ v2 then (
    Q (1 : Int32) h_5)
  else (
    ¬ h_5 32 0 = 0 ∧
    vp_in ((h_5 32 3) + v2) 120 ∧
    f_J0_charAt_5068e i1 v2 h_5 fun r_11 h_10 =>
    if h_5 31 (((h_5 32 3) + v2).toNatClampNeg) = r_11 then (
      ∀ v_13 : Int32, v_13 = v2 + (1 : Int32) →
      K28 v_13 h_10)
    else (
      Q (0 : Int32) h_10))
set_option maxRecDepth 20000 in
theorem t_X3_isWord_b28 (i1 : Nat)  (hi1 : i1 < 17)  (Q : Int32 → Mem → Prop)   : ∀ (n : Nat) (v2 : Int32) (h : Mem), gm_it1 (f_X3_isWord_b28 i1  Q ) n v2 h → EV m_X3_isWord (GI Q) 28 [(0, .ref 32), (1, .ref (100 + i1)), (2, .int v2)] [] h := by
  refine ge_loop1 (P := fun v2 h => EV m_X3_isWord (GI Q) 28 [(0, .ref 32), (1, .ref (100 + i1)), (2, .int v2)] [] h) (fun K28 hK28 v2 h hyp => ?_)
  unfold f_X3_isWord_b28 at hyp
  refine ge_iload_n a_X3_isWord_28 rfl 2 rfl ?_
  refine ge_aload_n a_X3_isWord_29 rfl 1 rfl ?_
  refine ge_cTI [] (rest := [.int v2]) a_X3_isWord_30 ok_J0_length_8abf5 rfl lk_X3_121 ⟨Nat.le_of_ble_eq_true rfl, Nat.le_of_ble_eq_true rfl⟩ hi1 rfl rfl (Nat.le_of_ble_eq_true rfl) (t_J0_length_8abf5 i1 hi1 h _ hyp) (fun r_6 h_5 hyp => ?_)
  refine ge_icmp_ge a_X3_isWord_33 (fun c_7 => ?_) (fun c_7 => ?_)
  · have hyp := gm_ip hyp c_7
    refine ge_iconst (v := 1) a_X3_isWord_66 rfl ?_
    exact ge_zret rfl rfl a_X3_isWord_67 hyp
  · have hyp := gm_in hyp c_7
    refine ge_aload_n a_X3_isWord_36 rfl 0 rfl ?_
    obtain ⟨z_8, hyp⟩ := hyp
    refine ge_getO (q := 30) a_X3_isWord_37 fd_X3_15 (rfl : gm_cls 32 = 2) rfl z_8 ?_
    refine ge_getR (q := 31) a_X3_isWord_40 fd_X3_127 (rfl : gm_cls 30 = 6) rfl ?_
    refine ge_aload_n a_X3_isWord_43 rfl 0 rfl ?_
    refine ge_getI a_X3_isWord_44 fd_X3_30 (rfl : gm_cls 32 = 2) ?_
    refine ge_iload_n a_X3_isWord_47 rfl 2 rfl ?_
    refine ge_iadd a_X3_isWord_48 ?_
    obtain ⟨b_9, hyp⟩ := hyp
    refine ge_iald (j := ((h_5 32 3) + v2).toNatClampNeg) a_X3_isWord_49 ga_31 b_9 rfl ?_
    refine ge_aload_n a_X3_isWord_50 rfl 1 rfl ?_
    refine ge_iload_n a_X3_isWord_51 rfl 2 rfl ?_
    refine ge_cTI [.int v2] (rest := [.int (h_5 31 (((h_5 32 3) + v2).toNatClampNeg))]) a_X3_isWord_52 ok_J0_charAt_5068e rfl lk_X3_132 ⟨Nat.le_of_ble_eq_true rfl, Nat.le_of_ble_eq_true rfl⟩ hi1 rfl rfl (Nat.le_of_ble_eq_true rfl) (t_J0_charAt_5068e i1 v2 hi1 h_5 _ hyp) (fun r_11 h_10 hyp => ?_)
    refine ge_icmp_eq a_X3_isWord_55 (fun c_12 => ?_) (fun c_12 => ?_)
    · have hyp := gm_ip hyp c_12
      obtain ⟨v_13, ev_13⟩ : ∃ y : Int32, y = v2 + (1 : Int32) := ⟨_, rfl⟩
      have hyp := hyp v_13 ev_13
      refine ge_iinc (v := v_13) (lv' := [(2, .int v_13), (0, .ref 32), (1, .ref (100 + i1))]) a_X3_isWord_60 2 rfl ev_13.symm (Nat.le_of_ble_eq_true rfl) rfl ?_
      refine ge_goto a_X3_isWord_63 ?_
      exact ge_sub [1, 2, 0] rfl (hK28 v_13 h_10 hyp)
    · have hyp := gm_in hyp c_12
      refine ge_iconst (v := 0) a_X3_isWord_58 rfl ?_
      exact ge_zret rfl rfl a_X3_isWord_59 hyp
def f_X3_isWord (i1 : Nat) (h : Mem) (Q : Int32 → Mem → Prop) : Prop :=
  if h 32 2 = (1 : Int32) then (
    f_J0_length_8abf5 i1 h fun r_3 h_2 =>
    if (h 32 4) - (h 32 3) = r_3 then (
      gm_it1 (f_X3_isWord_b28 i1  Q ) gm_F (0 : Int32) h_2)
    else (
      Q (0 : Int32) h_2))
  else (
    Q (0 : Int32) h)
set_option maxRecDepth 20000 in
theorem t_X3_isWord (i1 : Nat) (hi1 : i1 < 17) (h : Mem) (Q : Int32 → Mem → Prop) (hyp : f_X3_isWord i1 h Q) : Cn m_X3_isWord [.ref 32, .ref (100 + i1)] h (GI Q) := by
  refine ge_entry (lv := [(0, .ref 32), (1, .ref (100 + i1))]) pn_X3 (Nat.le_of_ble_eq_true rfl) rfl ?_
  unfold f_X3_isWord at hyp
  refine ge_aload_n a_X3_isWord_0 rfl 0 rfl ?_
  refine ge_getI a_X3_isWord_1 fd_X3_33 (rfl : gm_cls 32 = 2) ?_
  refine ge_iconst (v := 1) a_X3_isWord_4 rfl ?_
  refine ge_icmp_ne a_X3_isWord_5 (fun c_1 => ?_) (fun c_1 => ?_)
  · have hyp := gm_in hyp c_1
    refine ge_iconst (v := 0) a_X3_isWord_24 rfl ?_
    exact ge_zret rfl rfl a_X3_isWord_25 hyp
  · have hyp := gm_ip hyp c_1
    refine ge_aload_n a_X3_isWord_8 rfl 0 rfl ?_
    refine ge_getI a_X3_isWord_9 fd_X3_19 (rfl : gm_cls 32 = 2) ?_
    refine ge_aload_n a_X3_isWord_12 rfl 0 rfl ?_
    refine ge_getI a_X3_isWord_13 fd_X3_30 (rfl : gm_cls 32 = 2) ?_
    refine ge_isub a_X3_isWord_16 ?_
    refine ge_aload_n a_X3_isWord_17 rfl 1 rfl ?_
    refine ge_cTI [] (rest := [.int ((h 32 4) - (h 32 3))]) a_X3_isWord_18 ok_J0_length_8abf5 rfl lk_X3_121 ⟨Nat.le_of_ble_eq_true rfl, Nat.le_of_ble_eq_true rfl⟩ hi1 rfl rfl (Nat.le_of_ble_eq_true rfl) (t_J0_length_8abf5 i1 hi1 h _ hyp) (fun r_3 h_2 hyp => ?_)
    refine ge_icmp_eq a_X3_isWord_21 (fun c_4 => ?_) (fun c_4 => ?_)
    · have hyp := gm_ip hyp c_4
      refine ge_iconst (v := 0) a_X3_isWord_26 rfl ?_
      refine ge_istore_n (lv' := [(2, .int (0 : Int32)), (0, .ref 32), (1, .ref (100 + i1))]) a_X3_isWord_27 rfl (Nat.le_of_ble_eq_true rfl) rfl ?_
      exact ge_sub [1, 2, 0] rfl (t_X3_isWord_b28 i1  hi1  Q   gm_F (0 : Int32) h_2 hyp)
    · have hyp := gm_in hyp c_4
      refine ge_iconst (v := 0) a_X3_isWord_24 rfl ?_
      exact ge_zret rfl rfl a_X3_isWord_25 hyp

theorem a_X3_nameOf_0 : At m_X3_nameOf 0 (.iload_n 0) 1 1 := at_i (by decide +kernel) rfl
theorem a_X3_nameOf_1 : decode cX3_nameOf 1 = .ok (.tableswitch 57 1 6 #[39, 42, 45, 48, 51, 54], 39) := by decide +kernel
theorem a_X3_nameOf_40 : At m_X3_nameOf 40 (.ldc 136) 2 42 := at_i (by decide +kernel) rfl
theorem a_X3_nameOf_42 : At m_X3_nameOf 42 (.areturn) 1 43 := at_i (by decide +kernel) rfl
theorem a_X3_nameOf_43 : At m_X3_nameOf 43 (.ldc 138) 2 45 := at_i (by decide +kernel) rfl
theorem a_X3_nameOf_45 : At m_X3_nameOf 45 (.areturn) 1 46 := at_i (by decide +kernel) rfl
theorem a_X3_nameOf_46 : At m_X3_nameOf 46 (.ldc 140) 2 48 := at_i (by decide +kernel) rfl
theorem a_X3_nameOf_48 : At m_X3_nameOf 48 (.areturn) 1 49 := at_i (by decide +kernel) rfl
theorem a_X3_nameOf_49 : At m_X3_nameOf 49 (.ldc 142) 2 51 := at_i (by decide +kernel) rfl
theorem a_X3_nameOf_51 : At m_X3_nameOf 51 (.areturn) 1 52 := at_i (by decide +kernel) rfl
theorem a_X3_nameOf_52 : At m_X3_nameOf 52 (.ldc 144) 2 54 := at_i (by decide +kernel) rfl
theorem a_X3_nameOf_54 : At m_X3_nameOf 54 (.areturn) 1 55 := at_i (by decide +kernel) rfl
theorem a_X3_nameOf_55 : At m_X3_nameOf 55 (.ldc 146) 2 57 := at_i (by decide +kernel) rfl
theorem a_X3_nameOf_57 : At m_X3_nameOf 57 (.areturn) 1 58 := at_i (by decide +kernel) rfl
theorem a_X3_nameOf_58 : At m_X3_nameOf 58 (.ldc 148) 2 60 := at_i (by decide +kernel) rfl
theorem a_X3_nameOf_60 : At m_X3_nameOf 60 (.areturn) 1 61 := at_i (by decide +kernel) rfl
def f_X3_nameOf (a0 : Int32) (h : Mem) (Q : Nat → Mem → Prop) : Prop :=
  if a0 = 1 then (
    Q (100 + 1) h)
  else (
  if a0 = 2 then (
    Q (100 + 2) h)
  else (
  if a0 = 3 then (
    Q (100 + 3) h)
  else (
  if a0 = 4 then (
    Q (100 + 4) h)
  else (
  if a0 = 5 then (
    Q (100 + 5) h)
  else (
  if a0 = 6 then (
    Q (100 + 6) h)
  else (
    Q (100 + 0) h))))))
set_option maxRecDepth 20000 in
theorem t_X3_nameOf (a0 : Int32)  (h : Mem) (Q : Nat → Mem → Prop) (hyp : f_X3_nameOf a0 h Q) : Cn m_X3_nameOf [.int a0] h (GR Q) := by
  refine ge_entry (lv := [(0, .int a0)]) pn_X3 (Nat.le_of_ble_eq_true rfl) rfl ?_
  unfold f_X3_nameOf at hyp
  refine ge_iload_n a_X3_nameOf_0 rfl 0 rfl ?_
  refine ge_sw (dt := 58) [(1, 40), (2, 43), (3, 46), (4, 49), (5, 52), (6, 55)] a_X3_nameOf_1 (by decide +kernel) (by decide) ?_
  refine ge_ite (fun c_1 => ?_) (fun c_1 => ?_)
  · have hyp := gm_ip hyp c_1
    refine ge_ldcS (i := 1) a_X3_nameOf_40 sl_X3_136 ?_
    exact ge_aret rfl (Or.inl ⟨_, rfl⟩) a_X3_nameOf_42 hyp
  have hyp := gm_in hyp c_1
  refine ge_ite (fun c_2 => ?_) (fun c_2 => ?_)
  · have hyp := gm_ip hyp c_2
    refine ge_ldcS (i := 2) a_X3_nameOf_43 sl_X3_138 ?_
    exact ge_aret rfl (Or.inl ⟨_, rfl⟩) a_X3_nameOf_45 hyp
  have hyp := gm_in hyp c_2
  refine ge_ite (fun c_3 => ?_) (fun c_3 => ?_)
  · have hyp := gm_ip hyp c_3
    refine ge_ldcS (i := 3) a_X3_nameOf_46 sl_X3_140 ?_
    exact ge_aret rfl (Or.inl ⟨_, rfl⟩) a_X3_nameOf_48 hyp
  have hyp := gm_in hyp c_3
  refine ge_ite (fun c_4 => ?_) (fun c_4 => ?_)
  · have hyp := gm_ip hyp c_4
    refine ge_ldcS (i := 4) a_X3_nameOf_49 sl_X3_142 ?_
    exact ge_aret rfl (Or.inl ⟨_, rfl⟩) a_X3_nameOf_51 hyp
  have hyp := gm_in hyp c_4
  refine ge_ite (fun c_5 => ?_) (fun c_5 => ?_)
  · have hyp := gm_ip hyp c_5
    refine ge_ldcS (i := 5) a_X3_nameOf_52 sl_X3_144 ?_
    exact ge_aret rfl (Or.inl ⟨_, rfl⟩) a_X3_nameOf_54 hyp
  have hyp := gm_in hyp c_5
  refine ge_ite (fun c_6 => ?_) (fun c_6 => ?_)
  · have hyp := gm_ip hyp c_6
    refine ge_ldcS (i := 6) a_X3_nameOf_55 sl_X3_146 ?_
    exact ge_aret rfl (Or.inl ⟨_, rfl⟩) a_X3_nameOf_57 hyp
  have hyp := gm_in hyp c_6
  show EV _ _ 58 _ _ _
  refine ge_ldcS (i := 0) a_X3_nameOf_58 sl_X3_148 ?_
  exact ge_aret rfl (Or.inl ⟨_, rfl⟩) a_X3_nameOf_60 hyp

theorem a_X9_isWithin_0 : At m_X9_isWithin 0 (.iload_n 0) 1 1 := at_i (by decide +kernel) rfl
theorem a_X9_isWithin_1 : At m_X9_isWithin 1 (.iload_n 1) 1 2 := at_i (by decide +kernel) rfl
theorem a_X9_isWithin_2 : AtJ m_X9_isWithin 2 (.if_icmp .lt 12) (12) 14 5 := at_j (by decide +kernel) (by decide) rfl
theorem a_X9_isWithin_5 : At m_X9_isWithin 5 (.iload_n 0) 1 6 := at_i (by decide +kernel) rfl
theorem a_X9_isWithin_6 : At m_X9_isWithin 6 (.iload_n 2) 1 7 := at_i (by decide +kernel) rfl
theorem a_X9_isWithin_7 : AtJ m_X9_isWithin 7 (.if_icmp .gt 7) (7) 14 10 := at_j (by decide +kernel) (by decide) rfl
theorem a_X9_isWithin_10 : At m_X9_isWithin 10 (.iconst 1) 1 11 := at_i (by decide +kernel) rfl
theorem a_X9_isWithin_11 : AtJ m_X9_isWithin 11 (.goto 4) (4) 15 14 := at_j (by decide +kernel) (by decide) rfl
theorem a_X9_isWithin_14 : At m_X9_isWithin 14 (.iconst 0) 1 15 := at_i (by decide +kernel) rfl
theorem a_X9_isWithin_15 : At m_X9_isWithin 15 (.ireturn) 1 16 := at_i (by decide +kernel) rfl
def f_X9_isWithin (a0 : Int32) (a1 : Int32) (a2 : Int32) (h : Mem) (Q : Int32 → Mem → Prop) : Prop :=
  if a0 < a1 then (
    Q (0 : Int32) h)
  else (
    if a2 < a0 then (
      Q (0 : Int32) h)
    else (
      Q (1 : Int32) h))
set_option maxRecDepth 20000 in
theorem t_X9_isWithin (a0 : Int32) (a1 : Int32) (a2 : Int32)  (h : Mem) (Q : Int32 → Mem → Prop) (hyp : f_X9_isWithin a0 a1 a2 h Q) : Cn m_X9_isWithin [.int a0, .int a1, .int a2] h (GI Q) := by
  refine ge_entry (lv := [(0, .int a0), (1, .int a1), (2, .int a2)]) pn_X9 (Nat.le_of_ble_eq_true rfl) rfl ?_
  unfold f_X9_isWithin at hyp
  refine ge_iload_n a_X9_isWithin_0 rfl 0 rfl ?_
  refine ge_iload_n a_X9_isWithin_1 rfl 1 rfl ?_
  refine ge_icmp_lt a_X9_isWithin_2 (fun c_1 => ?_) (fun c_1 => ?_)
  · have hyp := gm_ip hyp c_1
    refine ge_iconst (v := 0) a_X9_isWithin_14 rfl ?_
    exact ge_zret rfl rfl a_X9_isWithin_15 hyp
  · have hyp := gm_in hyp c_1
    refine ge_iload_n a_X9_isWithin_5 rfl 0 rfl ?_
    refine ge_iload_n a_X9_isWithin_6 rfl 2 rfl ?_
    refine ge_icmp_gt a_X9_isWithin_7 (fun c_2 => ?_) (fun c_2 => ?_)
    · have hyp := gm_ip hyp c_2
      refine ge_iconst (v := 0) a_X9_isWithin_14 rfl ?_
      exact ge_zret rfl rfl a_X9_isWithin_15 hyp
    · have hyp := gm_in hyp c_2
      refine ge_iconst (v := 1) a_X9_isWithin_10 rfl ?_
      refine ge_goto a_X9_isWithin_11 ?_
      exact ge_zret rfl rfl a_X9_isWithin_15 hyp

theorem a_X3_isNumber_0 : At m_X3_isNumber 0 (.aload_n 0) 1 1 := at_i (by decide +kernel) rfl
theorem a_X3_isNumber_1 : At m_X3_isNumber 1 (.getfield 33) 3 4 := at_i (by decide +kernel) rfl
theorem a_X3_isNumber_4 : At m_X3_isNumber 4 (.iconst 2) 1 5 := at_i (by decide +kernel) rfl
theorem a_X3_isNumber_5 : AtJ m_X3_isNumber 5 (.if_icmp .ne 19) (19) 24 8 := at_j (by decide +kernel) (by decide) rfl
theorem a_X3_isNumber_8 : At m_X3_isNumber 8 (.aload_n 0) 1 9 := at_i (by decide +kernel) rfl
theorem a_X3_isNumber_9 : At m_X3_isNumber 9 (.getfield 98) 3 12 := at_i (by decide +kernel) rfl
theorem a_X3_isNumber_12 : At m_X3_isNumber 12 (.iload_n 1) 1 13 := at_i (by decide +kernel) rfl
theorem a_X3_isNumber_13 : At m_X3_isNumber 13 (.iload_n 2) 1 14 := at_i (by decide +kernel) rfl
theorem a_X3_isNumber_14 : At m_X3_isNumber 14 (.invokestatic 117) 3 17 := at_i (by decide +kernel) rfl
theorem a_X3_isNumber_17 : AtJ m_X3_isNumber 17 (.ifCond .eq 7) (7) 24 20 := at_j (by decide +kernel) (by decide) rfl
theorem a_X3_isNumber_20 : At m_X3_isNumber 20 (.iconst 1) 1 21 := at_i (by decide +kernel) rfl
theorem a_X3_isNumber_21 : AtJ m_X3_isNumber 21 (.goto 4) (4) 25 24 := at_j (by decide +kernel) (by decide) rfl
theorem a_X3_isNumber_24 : At m_X3_isNumber 24 (.iconst 0) 1 25 := at_i (by decide +kernel) rfl
theorem a_X3_isNumber_25 : At m_X3_isNumber 25 (.ireturn) 1 26 := at_i (by decide +kernel) rfl
def f_X3_isNumber (a1 : Int32) (a2 : Int32) (h : Mem) (Q : Int32 → Mem → Prop) : Prop :=
  if h 32 2 = (2 : Int32) then (
    f_X9_isWithin (h 32 5) a1 a2 h fun r_3 h_2 =>
    if r_3 = 0 then (
      Q (0 : Int32) h_2)
    else (
      Q (1 : Int32) h_2))
  else (
    Q (0 : Int32) h)
set_option maxRecDepth 20000 in
theorem t_X3_isNumber (a1 : Int32) (a2 : Int32)  (h : Mem) (Q : Int32 → Mem → Prop) (hyp : f_X3_isNumber a1 a2 h Q) : Cn m_X3_isNumber [.ref 32, .int a1, .int a2] h (GI Q) := by
  refine ge_entry (lv := [(0, .ref 32), (1, .int a1), (2, .int a2)]) pn_X3 (Nat.le_of_ble_eq_true rfl) rfl ?_
  unfold f_X3_isNumber at hyp
  refine ge_aload_n a_X3_isNumber_0 rfl 0 rfl ?_
  refine ge_getI a_X3_isNumber_1 fd_X3_33 (rfl : gm_cls 32 = 2) ?_
  refine ge_iconst (v := 2) a_X3_isNumber_4 rfl ?_
  refine ge_icmp_ne a_X3_isNumber_5 (fun c_1 => ?_) (fun c_1 => ?_)
  · have hyp := gm_in hyp c_1
    refine ge_iconst (v := 0) a_X3_isNumber_24 rfl ?_
    exact ge_zret rfl rfl a_X3_isNumber_25 hyp
  · have hyp := gm_ip hyp c_1
    refine ge_aload_n a_X3_isNumber_8 rfl 0 rfl ?_
    refine ge_getI a_X3_isNumber_9 fd_X3_98 (rfl : gm_cls 32 = 2) ?_
    refine ge_iload_n a_X3_isNumber_12 rfl 1 rfl ?_
    refine ge_iload_n a_X3_isNumber_13 rfl 2 rfl ?_
    refine ge_cNI [.int (h 32 5), .int a1, .int a2] (rest := []) a_X3_isNumber_14 ok_X9_isWithin lk_X3_117 ⟨Nat.le_of_ble_eq_true rfl, Nat.le_of_ble_eq_true rfl⟩ rfl rfl (Nat.le_of_ble_eq_true rfl) (t_X9_isWithin (h 32 5) a1 a2  h _ hyp) (fun r_3 h_2 hyp => ?_)
    refine ge_if_eq a_X3_isNumber_17 (fun c_4 => ?_) (fun c_4 => ?_)
    · have hyp := gm_ip hyp c_4
      refine ge_iconst (v := 0) a_X3_isNumber_24 rfl ?_
      exact ge_zret rfl rfl a_X3_isNumber_25 hyp
    · have hyp := gm_in hyp c_4
      refine ge_iconst (v := 1) a_X3_isNumber_20 rfl ?_
      refine ge_goto a_X3_isNumber_21 ?_
      exact ge_zret rfl rfl a_X3_isNumber_25 hyp

theorem a_X6_features_0 : At m_X6_features 0 (.iload_n 1) 1 1 := at_i (by decide +kernel) rfl
theorem a_X6_features_1 : AtJ m_X6_features 1 (.ifCond .ne 8) (8) 9 4 := at_j (by decide +kernel) (by decide) rfl
theorem a_X6_features_4 : At m_X6_features 4 (.aload_n 0) 1 5 := at_i (by decide +kernel) rfl
theorem a_X6_features_5 : At m_X6_features 5 (.getfield 9) 3 8 := at_i (by decide +kernel) rfl
theorem a_X6_features_8 : At m_X6_features 8 (.areturn) 1 9 := at_i (by decide +kernel) rfl
theorem a_X6_features_9 : At m_X6_features 9 (.iload_n 1) 1 10 := at_i (by decide +kernel) rfl
theorem a_X6_features_10 : At m_X6_features 10 (.iconst 1) 1 11 := at_i (by decide +kernel) rfl
theorem a_X6_features_11 : AtJ m_X6_features 11 (.if_icmp .ne 10) (10) 21 14 := at_j (by decide +kernel) (by decide) rfl
theorem a_X6_features_14 : At m_X6_features 14 (.aload_n 0) 1 15 := at_i (by decide +kernel) rfl
theorem a_X6_features_15 : At m_X6_features 15 (.getfield 15) 3 18 := at_i (by decide +kernel) rfl
theorem a_X6_features_18 : AtJ m_X6_features 18 (.goto 7) (7) 25 21 := at_j (by decide +kernel) (by decide) rfl
theorem a_X6_features_21 : At m_X6_features 21 (.aload_n 0) 1 22 := at_i (by decide +kernel) rfl
theorem a_X6_features_22 : At m_X6_features 22 (.getfield 18) 3 25 := at_i (by decide +kernel) rfl
theorem a_X6_features_25 : At m_X6_features 25 (.areturn) 1 26 := at_i (by decide +kernel) rfl
def f_X6_features (k0 : Nat) (a1 : Int32) (h : Mem) (Q : Nat → Mem → Prop) : Prop :=
  if a1 = 0 then (
    Q (k0 + 1) h)
  else (
    if a1 = (1 : Int32) then (
      Q (k0 + 2) h)
    else (
      Q (k0 + 3) h))
set_option maxRecDepth 20000 in
theorem t_X6_features (k0 : Nat) (a1 : Int32) (hk0 : gm_cls k0 = 5) (h : Mem) (Q : Nat → Mem → Prop) (hyp : f_X6_features k0 a1 h Q) : Cn m_X6_features [.ref k0, .int a1] h (GR Q) := by
  refine ge_entry (lv := [(0, .ref k0), (1, .int a1)]) pn_X6 (Nat.le_of_ble_eq_true rfl) rfl ?_
  unfold f_X6_features at hyp
  refine ge_iload_n a_X6_features_0 rfl 1 rfl ?_
  refine ge_if_ne a_X6_features_1 (fun c_1 => ?_) (fun c_1 => ?_)
  · have hyp := gm_in hyp c_1
    refine ge_iload_n a_X6_features_9 rfl 1 rfl ?_
    refine ge_iconst (v := 1) a_X6_features_10 rfl ?_
    refine ge_icmp_ne a_X6_features_11 (fun c_2 => ?_) (fun c_2 => ?_)
    · have hyp := gm_in hyp c_2
      refine ge_aload_n a_X6_features_21 rfl 0 rfl ?_
      refine ge_getR (q := k0 + 3) a_X6_features_22 fd_X6_18 hk0 (kr5_2 hk0) ?_
      exact ge_aret rfl (Or.inr ⟨_, rfl⟩) a_X6_features_25 hyp
    · have hyp := gm_ip hyp c_2
      refine ge_aload_n a_X6_features_14 rfl 0 rfl ?_
      refine ge_getR (q := k0 + 2) a_X6_features_15 fd_X6_15 hk0 (kr5_1 hk0) ?_
      refine ge_goto a_X6_features_18 ?_
      exact ge_aret rfl (Or.inr ⟨_, rfl⟩) a_X6_features_25 hyp
  · have hyp := gm_ip hyp c_1
    refine ge_aload_n a_X6_features_4 rfl 0 rfl ?_
    refine ge_getR (q := k0 + 1) a_X6_features_5 fd_X6_9 hk0 (kr5_0 hk0) ?_
    exact ge_aret rfl (Or.inr ⟨_, rfl⟩) a_X6_features_8 hyp

theorem a_X3_takeFeature_0 : At m_X3_takeFeature 0 (.aload_n 0) 1 1 := at_i (by decide +kernel) rfl
theorem a_X3_takeFeature_1 : At m_X3_takeFeature 1 (.aload_n 1) 1 2 := at_i (by decide +kernel) rfl
theorem a_X3_takeFeature_2 : At m_X3_takeFeature 2 (.invokevirtual 40) 3 5 := at_i (by decide +kernel) rfl
theorem a_X3_takeFeature_5 : AtJ m_X3_takeFeature 5 (.ifCond .ne 5) (5) 10 8 := at_j (by decide +kernel) (by decide) rfl
theorem a_X3_takeFeature_8 : At m_X3_takeFeature 8 (.iconst 1) 1 9 := at_i (by decide +kernel) rfl
theorem a_X3_takeFeature_9 : At m_X3_takeFeature 9 (.ireturn) 1 10 := at_i (by decide +kernel) rfl
theorem a_X3_takeFeature_10 : At m_X3_takeFeature 10 (.aload_n 0) 1 11 := at_i (by decide +kernel) rfl
theorem a_X3_takeFeature_11 : At m_X3_takeFeature 11 (.invokevirtual 23) 3 14 := at_i (by decide +kernel) rfl
theorem a_X3_takeFeature_14 : At m_X3_takeFeature 14 (.aload_n 0) 1 15 := at_i (by decide +kernel) rfl
theorem a_X3_takeFeature_15 : At m_X3_takeFeature 15 (.getstatic 83) 3 18 := at_i (by decide +kernel) rfl
theorem a_X3_takeFeature_18 : At m_X3_takeFeature 18 (.iload_n 2) 1 19 := at_i (by decide +kernel) rfl
theorem a_X3_takeFeature_19 : At m_X3_takeFeature 19 (.iaload) 1 20 := at_i (by decide +kernel) rfl
theorem a_X3_takeFeature_20 : At m_X3_takeFeature 20 (.getstatic 87) 3 23 := at_i (by decide +kernel) rfl
theorem a_X3_takeFeature_23 : At m_X3_takeFeature 23 (.iload_n 2) 1 24 := at_i (by decide +kernel) rfl
theorem a_X3_takeFeature_24 : At m_X3_takeFeature 24 (.iaload) 1 25 := at_i (by decide +kernel) rfl
theorem a_X3_takeFeature_25 : At m_X3_takeFeature 25 (.invokevirtual 90) 3 28 := at_i (by decide +kernel) rfl
theorem a_X3_takeFeature_28 : AtJ m_X3_takeFeature 28 (.ifCond .ne 5) (5) 33 31 := at_j (by decide +kernel) (by decide) rfl
theorem a_X3_takeFeature_31 : At m_X3_takeFeature 31 (.iconst 0) 1 32 := at_i (by decide +kernel) rfl
theorem a_X3_takeFeature_32 : At m_X3_takeFeature 32 (.ireturn) 1 33 := at_i (by decide +kernel) rfl
theorem a_X3_takeFeature_33 : At m_X3_takeFeature 33 (.aload_n 0) 1 34 := at_i (by decide +kernel) rfl
theorem a_X3_takeFeature_34 : At m_X3_takeFeature 34 (.getfield 9) 3 37 := at_i (by decide +kernel) rfl
theorem a_X3_takeFeature_37 : At m_X3_takeFeature 37 (.iload_n 2) 1 38 := at_i (by decide +kernel) rfl
theorem a_X3_takeFeature_38 : At m_X3_takeFeature 38 (.invokevirtual 94) 3 41 := at_i (by decide +kernel) rfl
theorem a_X3_takeFeature_41 : At m_X3_takeFeature 41 (.iload_n 3) 1 42 := at_i (by decide +kernel) rfl
theorem a_X3_takeFeature_42 : At m_X3_takeFeature 42 (.aload_n 0) 1 43 := at_i (by decide +kernel) rfl
theorem a_X3_takeFeature_43 : At m_X3_takeFeature 43 (.getfield 98) 3 46 := at_i (by decide +kernel) rfl
theorem a_X3_takeFeature_46 : At m_X3_takeFeature 46 (.iastore) 1 47 := at_i (by decide +kernel) rfl
theorem a_X3_takeFeature_47 : At m_X3_takeFeature 47 (.aload_n 0) 1 48 := at_i (by decide +kernel) rfl
theorem a_X3_takeFeature_48 : At m_X3_takeFeature 48 (.invokevirtual 23) 3 51 := at_i (by decide +kernel) rfl
theorem a_X3_takeFeature_51 : At m_X3_takeFeature 51 (.iconst 1) 1 52 := at_i (by decide +kernel) rfl
theorem a_X3_takeFeature_52 : At m_X3_takeFeature 52 (.ireturn) 1 53 := at_i (by decide +kernel) rfl
def f_X3_takeFeature (i1 : Nat) (a2 : Int32) (a3 : Int32) (h : Mem) (Q : Int32 → Mem → Prop) : Prop :=
  f_X3_isWord i1 h fun r_2 h_1 =>
  if r_2 = 0 then (
    Q (1 : Int32) h_1)
  else (
    f_X3_lookOn  h_1 fun h_4 =>
    vp_in a2 3 ∧
    vp_in a2 3 ∧
    f_X3_isNumber ((gm_tab 2).getD a2.toNatClampNeg 0) ((gm_tab 3).getD a2.toNatClampNeg 0) h_4 fun r_8 h_7 =>
    if r_8 = 0 then (
      Q (0 : Int32) h_7)
    else (
      ¬ h_7 32 1 = 0 ∧
      f_X6_features 13 a2 h_7 fun r_12 h_11 =>
      gm_cls r_12 = 20 ∧
      vp_in a3 (gm_len r_12) ∧
      ∀ h_15 : Mem, h_15 = gm_st h_11 r_12 a3.toNatClampNeg (h_11 32 5) →
      f_X3_lookOn  h_15 fun h_16 =>
      Q (1 : Int32) h_16))
set_option maxRecDepth 20000 in
theorem t_X3_takeFeature (i1 : Nat) (a2 : Int32) (a3 : Int32) (hi1 : i1 < 17) (h : Mem) (Q : Int32 → Mem → Prop) (hyp : f_X3_takeFeature i1 a2 a3 h Q) : Cn m_X3_takeFeature [.ref 32, .ref (100 + i1), .int a2, .int a3] h (GI Q) := by
  refine ge_entry (lv := [(0, .ref 32), (1, .ref (100 + i1)), (2, .int a2), (3, .int a3)]) pn_X3 (Nat.le_of_ble_eq_true rfl) rfl ?_
  unfold f_X3_takeFeature at hyp
  refine ge_aload_n a_X3_takeFeature_0 rfl 0 rfl ?_
  refine ge_aload_n a_X3_takeFeature_1 rfl 1 rfl ?_
  refine ge_cVI [.ref (100 + i1)] (rest := []) a_X3_takeFeature_2 ok_X3_isWord lk_X3_40 ⟨Nat.le_of_ble_eq_true rfl, Nat.le_of_ble_eq_true rfl⟩ (rfl : gm_cls 32 = 2) vc_2 (by decide) rfl rfl (Nat.le_of_ble_eq_true rfl) (t_X3_isWord i1 hi1 h _ hyp) (fun r_2 h_1 hyp => ?_)
  refine ge_if_ne a_X3_takeFeature_5 (fun c_3 => ?_) (fun c_3 => ?_)
  · have hyp := gm_in hyp c_3
    refine ge_aload_n a_X3_takeFeature_10 rfl 0 rfl ?_
    refine ge_cVV [] (rest := []) a_X3_takeFeature_11 ok_X3_lookOn lk_X3_23 ⟨Nat.le_of_ble_eq_true rfl, Nat.le_of_ble_eq_true rfl⟩ (rfl : gm_cls 32 = 2) vc_2 (by decide) rfl rfl (Nat.le_of_ble_eq_true rfl) (t_X3_lookOn   h_1 _ hyp) (fun h_4 hyp => ?_)
    refine ge_aload_n a_X3_takeFeature_14 rfl 0 rfl ?_
    refine ge_getsN (i := 2) a_X3_takeFeature_15 (by decide) rfl lk_X3_83 ?_
    refine ge_iload_n a_X3_takeFeature_18 rfl 2 rfl ?_
    obtain ⟨b_5, hyp⟩ := hyp
    refine ge_tld (i := 2) a_X3_takeFeature_19 (by decide) rfl b_5 ?_
    refine ge_getsN (i := 3) a_X3_takeFeature_20 (by decide) rfl lk_X3_87 ?_
    refine ge_iload_n a_X3_takeFeature_23 rfl 2 rfl ?_
    obtain ⟨b_6, hyp⟩ := hyp
    refine ge_tld (i := 3) a_X3_takeFeature_24 (by decide) rfl b_6 ?_
    refine ge_cVI [.int ((gm_tab 2).getD a2.toNatClampNeg 0), .int ((gm_tab 3).getD a2.toNatClampNeg 0)] (rest := []) a_X3_takeFeature_25 ok_X3_isNumber lk_X3_90 ⟨Nat.le_of_ble_eq_true rfl, Nat.le_of_ble_eq_true rfl⟩ (rfl : gm_cls 32 = 2) vc_2 (by decide) rfl rfl (Nat.le_of_ble_eq_true rfl) (t_X3_isNumber ((gm_tab 2).getD a2.toNatClampNeg 0) ((gm_tab 3).getD a2.toNatClampNeg 0)  h_4 _ hyp) (fun r_8 h_7 hyp => ?_)
    refine ge_if_ne a_X3_takeFeature_28 (fun c_9 => ?_) (fun c_9 => ?_)
    · have hyp := gm_in hyp c_9
      refine ge_aload_n a_X3_takeFeature_33 rfl 0 rfl ?_
      obtain ⟨z_10, hyp⟩ := hyp
      refine ge_getO (q := 13) a_X3_takeFeature_34 fd_X3_9 (rfl : gm_cls 32 = 2) rfl z_10 ?_
      refine ge_iload_n a_X3_takeFeature_37 rfl 2 rfl ?_
      refine ge_cVR [.int a2] (rest := []) a_X3_takeFeature_38 ok_X6_features lk_X3_94 ⟨Nat.le_of_ble_eq_true rfl, Nat.le_of_ble_eq_true rfl⟩ (rfl : gm_cls 13 = 5) vc_5 (by decide) rfl rfl (Nat.le_of_ble_eq_true rfl) (t_X6_features 13 a2 (rfl : gm_cls 13 = 5) h_7 _ hyp) (fun r_12 h_11 hyp => ?_)
      obtain ⟨z_13, hyp⟩ := hyp
      refine ge_iload_n a_X3_takeFeature_41 rfl 3 rfl ?_
      refine ge_aload_n a_X3_takeFeature_42 rfl 0 rfl ?_
      refine ge_getI a_X3_takeFeature_43 fd_X3_98 (rfl : gm_cls 32 = 2) ?_
      obtain ⟨b_14, hyp⟩ := hyp
      refine ge_iast (j := a3.toNatClampNeg) a_X3_takeFeature_46 (⟨z_13, rfl⟩ : gm_arr r_12 (gm_len r_12)) b_14 rfl ?_
      refine ge_nm (fun h_15 eh_15 => ?_)
      have hyp := hyp h_15 eh_15
      refine ge_aload_n a_X3_takeFeature_47 rfl 0 rfl ?_
      refine ge_cVV [] (rest := []) a_X3_takeFeature_48 ok_X3_lookOn lk_X3_23 ⟨Nat.le_of_ble_eq_true rfl, Nat.le_of_ble_eq_true rfl⟩ (rfl : gm_cls 32 = 2) vc_2 (by decide) rfl rfl (Nat.le_of_ble_eq_true rfl) (t_X3_lookOn   h_15 _ hyp) (fun h_16 hyp => ?_)
      refine ge_iconst (v := 1) a_X3_takeFeature_51 rfl ?_
      exact ge_zret rfl rfl a_X3_takeFeature_52 hyp
    · have hyp := gm_ip hyp c_9
      refine ge_iconst (v := 0) a_X3_takeFeature_31 rfl ?_
      exact ge_zret rfl rfl a_X3_takeFeature_32 hyp
  · have hyp := gm_ip hyp c_3
    refine ge_iconst (v := 1) a_X3_takeFeature_8 rfl ?_
    exact ge_zret rfl rfl a_X3_takeFeature_9 hyp

theorem a_X6_addLine_0 : At m_X6_addLine 0 (.aload_n 0) 1 1 := at_i (by decide +kernel) rfl
theorem a_X6_addLine_1 : At m_X6_addLine 1 (.getfield 9) 3 4 := at_i (by decide +kernel) rfl
theorem a_X6_addLine_4 : At m_X6_addLine 4 (.aload_n 0) 1 5 := at_i (by decide +kernel) rfl
theorem a_X6_addLine_5 : At m_X6_addLine 5 (.getfield 46) 3 8 := at_i (by decide +kernel) rfl
theorem a_X6_addLine_8 : At m_X6_addLine 8 (.iload_n 1) 1 9 := at_i (by decide +kernel) rfl
theorem a_X6_addLine_9 : At m_X6_addLine 9 (.iastore) 1 10 := at_i (by decide +kernel) rfl
theorem a_X6_addLine_10 : At m_X6_addLine 10 (.aload_n 0) 1 11 := at_i (by decide +kernel) rfl
theorem a_X6_addLine_11 : At m_X6_addLine 11 (.getfield 15) 3 14 := at_i (by decide +kernel) rfl
theorem a_X6_addLine_14 : At m_X6_addLine 14 (.aload_n 0) 1 15 := at_i (by decide +kernel) rfl
theorem a_X6_addLine_15 : At m_X6_addLine 15 (.getfield 46) 3 18 := at_i (by decide +kernel) rfl
theorem a_X6_addLine_18 : At m_X6_addLine 18 (.iconst 5) 1 19 := at_i (by decide +kernel) rfl
theorem a_X6_addLine_19 : At m_X6_addLine 19 (.iastore) 1 20 := at_i (by decide +kernel) rfl
theorem a_X6_addLine_20 : At m_X6_addLine 20 (.aload_n 0) 1 21 := at_i (by decide +kernel) rfl
theorem a_X6_addLine_21 : At m_X6_addLine 21 (.getfield 18) 3 24 := at_i (by decide +kernel) rfl
theorem a_X6_addLine_24 : At m_X6_addLine 24 (.aload_n 0) 1 25 := at_i (by decide +kernel) rfl
theorem a_X6_addLine_25 : At m_X6_addLine 25 (.getfield 46) 3 28 := at_i (by decide +kernel) rfl
theorem a_X6_addLine_28 : At m_X6_addLine 28 (.iconst 0) 1 29 := at_i (by decide +kernel) rfl
theorem a_X6_addLine_29 : At m_X6_addLine 29 (.iastore) 1 30 := at_i (by decide +kernel) rfl
theorem a_X6_addLine_30 : At m_X6_addLine 30 (.aload_n 0) 1 31 := at_i (by decide +kernel) rfl
theorem a_X6_addLine_31 : At m_X6_addLine 31 (.dup) 1 32 := at_i (by decide +kernel) rfl
theorem a_X6_addLine_32 : At m_X6_addLine 32 (.getfield 46) 3 35 := at_i (by decide +kernel) rfl
theorem a_X6_addLine_35 : At m_X6_addLine 35 (.iconst 1) 1 36 := at_i (by decide +kernel) rfl
theorem a_X6_addLine_36 : At m_X6_addLine 36 (.iadd) 1 37 := at_i (by decide +kernel) rfl
theorem a_X6_addLine_37 : At m_X6_addLine 37 (.putfield 46) 3 40 := at_i (by decide +kernel) rfl
theorem a_X6_addLine_40 : At m_X6_addLine 40 (.aload_n 0) 1 41 := at_i (by decide +kernel) rfl
theorem a_X6_addLine_41 : At m_X6_addLine 41 (.getfield 46) 3 44 := at_i (by decide +kernel) rfl
theorem a_X6_addLine_44 : At m_X6_addLine 44 (.iconst 1) 1 45 := at_i (by decide +kernel) rfl
theorem a_X6_addLine_45 : At m_X6_addLine 45 (.isub) 1 46 := at_i (by decide +kernel) rfl
theorem a_X6_addLine_46 : At m_X6_addLine 46 (.ireturn) 1 47 := at_i (by decide +kernel) rfl
def f_X6_addLine (k0 : Nat) (a1 : Int32) (h : Mem) (Q : Int32 → Mem → Prop) : Prop :=
  vp_in (h k0 5) 12 ∧
  ∀ h_2 : Mem, h_2 = gm_st h (k0 + 1) ((h k0 5).toNatClampNeg) a1 →
  vp_in (h_2 k0 5) 12 ∧
  ∀ h_4 : Mem, h_4 = gm_st h_2 (k0 + 2) ((h_2 k0 5).toNatClampNeg) (5 : Int32) →
  vp_in (h_4 k0 5) 12 ∧
  ∀ h_6 : Mem, h_6 = gm_st h_4 (k0 + 3) ((h_4 k0 5).toNatClampNeg) (0 : Int32) →
  ∀ h_7 : Mem, h_7 = gm_st h_6 k0 5 ((h_6 k0 5) + (1 : Int32)) →
  Q ((h_7 k0 5) - (1 : Int32)) h_7
set_option maxRecDepth 20000 in
theorem t_X6_addLine (k0 : Nat) (a1 : Int32) (hk0 : gm_cls k0 = 5) (h : Mem) (Q : Int32 → Mem → Prop) (hyp : f_X6_addLine k0 a1 h Q) : Cn m_X6_addLine [.ref k0, .int a1] h (GI Q) := by
  refine ge_entry (lv := [(0, .ref k0), (1, .int a1)]) pn_X6 (Nat.le_of_ble_eq_true rfl) rfl ?_
  unfold f_X6_addLine at hyp
  refine ge_aload_n a_X6_addLine_0 rfl 0 rfl ?_
  refine ge_getR (q := k0 + 1) a_X6_addLine_1 fd_X6_9 hk0 (kr5_0 hk0) ?_
  refine ge_aload_n a_X6_addLine_4 rfl 0 rfl ?_
  refine ge_getI a_X6_addLine_5 fd_X6_46 hk0 ?_
  refine ge_iload_n a_X6_addLine_8 rfl 1 rfl ?_
  obtain ⟨b_1, hyp⟩ := hyp
  refine ge_iast (j := (h k0 5).toNatClampNeg) a_X6_addLine_9 (ka5_0 hk0) b_1 rfl ?_
  refine ge_nm (fun h_2 eh_2 => ?_)
  have hyp := hyp h_2 eh_2
  refine ge_aload_n a_X6_addLine_10 rfl 0 rfl ?_
  refine ge_getR (q := k0 + 2) a_X6_addLine_11 fd_X6_15 hk0 (kr5_1 hk0) ?_
  refine ge_aload_n a_X6_addLine_14 rfl 0 rfl ?_
  refine ge_getI a_X6_addLine_15 fd_X6_46 hk0 ?_
  refine ge_iconst (v := 5) a_X6_addLine_18 rfl ?_
  obtain ⟨b_3, hyp⟩ := hyp
  refine ge_iast (j := (h_2 k0 5).toNatClampNeg) a_X6_addLine_19 (ka5_1 hk0) b_3 rfl ?_
  refine ge_nm (fun h_4 eh_4 => ?_)
  have hyp := hyp h_4 eh_4
  refine ge_aload_n a_X6_addLine_20 rfl 0 rfl ?_
  refine ge_getR (q := k0 + 3) a_X6_addLine_21 fd_X6_18 hk0 (kr5_2 hk0) ?_
  refine ge_aload_n a_X6_addLine_24 rfl 0 rfl ?_
  refine ge_getI a_X6_addLine_25 fd_X6_46 hk0 ?_
  refine ge_iconst (v := 0) a_X6_addLine_28 rfl ?_
  obtain ⟨b_5, hyp⟩ := hyp
  refine ge_iast (j := (h_4 k0 5).toNatClampNeg) a_X6_addLine_29 (ka5_2 hk0) b_5 rfl ?_
  refine ge_nm (fun h_6 eh_6 => ?_)
  have hyp := hyp h_6 eh_6
  refine ge_aload_n a_X6_addLine_30 rfl 0 rfl ?_
  refine ge_dup a_X6_addLine_31 rfl ?_
  refine ge_getI a_X6_addLine_32 fd_X6_46 hk0 ?_
  refine ge_iconst (v := 1) a_X6_addLine_35 rfl ?_
  refine ge_iadd a_X6_addLine_36 ?_
  refine ge_putI a_X6_addLine_37 pd_X6_46 hk0 ?_
  refine ge_nm (fun h_7 eh_7 => ?_)
  have hyp := hyp h_7 eh_7
  refine ge_aload_n a_X6_addLine_40 rfl 0 rfl ?_
  refine ge_getI a_X6_addLine_41 fd_X6_46 hk0 ?_
  refine ge_iconst (v := 1) a_X6_addLine_44 rfl ?_
  refine ge_isub a_X6_addLine_45 ?_
  exact ge_iret rfl a_X6_addLine_46 hyp

theorem a_X6_hasRoom_0 : At m_X6_hasRoom 0 (.aload_n 0) 1 1 := at_i (by decide +kernel) rfl
theorem a_X6_hasRoom_1 : At m_X6_hasRoom 1 (.getfield 46) 3 4 := at_i (by decide +kernel) rfl
theorem a_X6_hasRoom_4 : At m_X6_hasRoom 4 (.bipush 12) 2 6 := at_i (by decide +kernel) rfl
theorem a_X6_hasRoom_6 : AtJ m_X6_hasRoom 6 (.if_icmp .ge 7) (7) 13 9 := at_j (by decide +kernel) (by decide) rfl
theorem a_X6_hasRoom_9 : At m_X6_hasRoom 9 (.iconst 1) 1 10 := at_i (by decide +kernel) rfl
theorem a_X6_hasRoom_10 : AtJ m_X6_hasRoom 10 (.goto 4) (4) 14 13 := at_j (by decide +kernel) (by decide) rfl
theorem a_X6_hasRoom_13 : At m_X6_hasRoom 13 (.iconst 0) 1 14 := at_i (by decide +kernel) rfl
theorem a_X6_hasRoom_14 : At m_X6_hasRoom 14 (.ireturn) 1 15 := at_i (by decide +kernel) rfl
def f_X6_hasRoom (k0 : Nat) (h : Mem) (Q : Int32 → Mem → Prop) : Prop :=
  if (12 : Int32) ≤ h k0 5 then (
    Q (0 : Int32) h)
  else (
    Q (1 : Int32) h)
set_option maxRecDepth 20000 in
theorem t_X6_hasRoom (k0 : Nat) (hk0 : gm_cls k0 = 5) (h : Mem) (Q : Int32 → Mem → Prop) (hyp : f_X6_hasRoom k0 h Q) : Cn m_X6_hasRoom [.ref k0] h (GI Q) := by
  refine ge_entry (lv := [(0, .ref k0)]) pn_X6 (Nat.le_of_ble_eq_true rfl) rfl ?_
  unfold f_X6_hasRoom at hyp
  refine ge_aload_n a_X6_hasRoom_0 rfl 0 rfl ?_
  refine ge_getI a_X6_hasRoom_1 fd_X6_46 hk0 ?_
  refine ge_bipush (v := 12) a_X6_hasRoom_4 rfl ?_
  refine ge_icmp_ge a_X6_hasRoom_6 (fun c_1 => ?_) (fun c_1 => ?_)
  · have hyp := gm_ip hyp c_1
    refine ge_iconst (v := 0) a_X6_hasRoom_13 rfl ?_
    exact ge_zret rfl rfl a_X6_hasRoom_14 hyp
  · have hyp := gm_in hyp c_1
    refine ge_iconst (v := 1) a_X6_hasRoom_9 rfl ?_
    refine ge_goto a_X6_hasRoom_10 ?_
    exact ge_zret rfl rfl a_X6_hasRoom_14 hyp

theorem a_X3_takeLine_0 : At m_X3_takeLine 0 (.aload_n 0) 1 1 := at_i (by decide +kernel) rfl
theorem a_X3_takeLine_1 : At m_X3_takeLine 1 (.getfield 9) 3 4 := at_i (by decide +kernel) rfl
theorem a_X3_takeLine_4 : At m_X3_takeLine 4 (.invokevirtual 66) 3 7 := at_i (by decide +kernel) rfl
theorem a_X3_takeLine_7 : AtJ m_X3_takeLine 7 (.ifCond .ne 5) (5) 12 10 := at_j (by decide +kernel) (by decide) rfl
theorem a_X3_takeLine_10 : At m_X3_takeLine 10 (.iconst 0) 1 11 := at_i (by decide +kernel) rfl
theorem a_X3_takeLine_11 : At m_X3_takeLine 11 (.ireturn) 1 12 := at_i (by decide +kernel) rfl
theorem a_X3_takeLine_12 : At m_X3_takeLine 12 (.aload_n 0) 1 13 := at_i (by decide +kernel) rfl
theorem a_X3_takeLine_13 : At m_X3_takeLine 13 (.getfield 9) 3 16 := at_i (by decide +kernel) rfl
theorem a_X3_takeLine_16 : At m_X3_takeLine 16 (.iload_n 1) 1 17 := at_i (by decide +kernel) rfl
theorem a_X3_takeLine_17 : At m_X3_takeLine 17 (.invokevirtual 71) 3 20 := at_i (by decide +kernel) rfl
theorem a_X3_takeLine_20 : At m_X3_takeLine 20 (.istore_n 2) 1 21 := at_i (by decide +kernel) rfl
theorem a_X3_takeLine_21 : At m_X3_takeLine 21 (.aload_n 0) 1 22 := at_i (by decide +kernel) rfl
theorem a_X3_takeLine_22 : At m_X3_takeLine 22 (.invokevirtual 23) 3 25 := at_i (by decide +kernel) rfl
theorem a_X3_takeLine_25 : At m_X3_takeLine 25 (.aload_n 0) 1 26 := at_i (by decide +kernel) rfl
theorem a_X3_takeLine_26 : At m_X3_takeLine 26 (.ldc 75) 2 28 := at_i (by decide +kernel) rfl
theorem a_X3_takeLine_28 : At m_X3_takeLine 28 (.iconst 1) 1 29 := at_i (by decide +kernel) rfl
theorem a_X3_takeLine_29 : At m_X3_takeLine 29 (.iload_n 2) 1 30 := at_i (by decide +kernel) rfl
theorem a_X3_takeLine_30 : At m_X3_takeLine 30 (.invokevirtual 77) 3 33 := at_i (by decide +kernel) rfl
theorem a_X3_takeLine_33 : AtJ m_X3_takeLine 33 (.ifCond .eq 18) (18) 51 36 := at_j (by decide +kernel) (by decide) rfl
theorem a_X3_takeLine_36 : At m_X3_takeLine 36 (.aload_n 0) 1 37 := at_i (by decide +kernel) rfl
theorem a_X3_takeLine_37 : At m_X3_takeLine 37 (.ldc 81) 2 39 := at_i (by decide +kernel) rfl
theorem a_X3_takeLine_39 : At m_X3_takeLine 39 (.iconst 2) 1 40 := at_i (by decide +kernel) rfl
theorem a_X3_takeLine_40 : At m_X3_takeLine 40 (.iload_n 2) 1 41 := at_i (by decide +kernel) rfl
theorem a_X3_takeLine_41 : At m_X3_takeLine 41 (.invokevirtual 77) 3 44 := at_i (by decide +kernel) rfl
theorem a_X3_takeLine_44 : AtJ m_X3_takeLine 44 (.ifCond .eq 7) (7) 51 47 := at_j (by decide +kernel) (by decide) rfl
theorem a_X3_takeLine_47 : At m_X3_takeLine 47 (.iconst 1) 1 48 := at_i (by decide +kernel) rfl
theorem a_X3_takeLine_48 : AtJ m_X3_takeLine 48 (.goto 4) (4) 52 51 := at_j (by decide +kernel) (by decide) rfl
theorem a_X3_takeLine_51 : At m_X3_takeLine 51 (.iconst 0) 1 52 := at_i (by decide +kernel) rfl
theorem a_X3_takeLine_52 : At m_X3_takeLine 52 (.ireturn) 1 53 := at_i (by decide +kernel) rfl
def f_X3_takeLine (a1 : Int32) (h : Mem) (Q : Int32 → Mem → Prop) : Prop :=
  ¬ h 32 1 = 0 ∧
  f_X6_hasRoom 13 h fun r_3 h_2 =>
  if r_3 = 0 then (
    Q (0 : Int32) h_2)
  else (
    ¬ h_2 32 1 = 0 ∧
    f_X6_addLine 13 a1 h_2 fun r_7 h_6 =>
    f_X3_lookOn  h_6 fun h_8 =>
    f_X3_takeFeature 13 (1 : Int32) r_7 h_8 fun r_10 h_9 =>
    if r_10 = 0 then (
      Q (0 : Int32) h_9)
    else (
      f_X3_takeFeature 14 (2 : Int32) r_7 h_9 fun r_13 h_12 =>
      if r_13 = 0 then (
        Q (0 : Int32) h_12)
      else (
        Q (1 : Int32) h_12)))
set_option maxRecDepth 20000 in
theorem t_X3_takeLine (a1 : Int32)  (h : Mem) (Q : Int32 → Mem → Prop) (hyp : f_X3_takeLine a1 h Q) : Cn m_X3_takeLine [.ref 32, .int a1] h (GI Q) := by
  refine ge_entry (lv := [(0, .ref 32), (1, .int a1)]) pn_X3 (Nat.le_of_ble_eq_true rfl) rfl ?_
  unfold f_X3_takeLine at hyp
  refine ge_aload_n a_X3_takeLine_0 rfl 0 rfl ?_
  obtain ⟨z_1, hyp⟩ := hyp
  refine ge_getO (q := 13) a_X3_takeLine_1 fd_X3_9 (rfl : gm_cls 32 = 2) rfl z_1 ?_
  refine ge_cVI [] (rest := []) a_X3_takeLine_4 ok_X6_hasRoom lk_X3_66 ⟨Nat.le_of_ble_eq_true rfl, Nat.le_of_ble_eq_true rfl⟩ (rfl : gm_cls 13 = 5) vc_5 (by decide) rfl rfl (Nat.le_of_ble_eq_true rfl) (t_X6_hasRoom 13 (rfl : gm_cls 13 = 5) h _ hyp) (fun r_3 h_2 hyp => ?_)
  refine ge_if_ne a_X3_takeLine_7 (fun c_4 => ?_) (fun c_4 => ?_)
  · have hyp := gm_in hyp c_4
    refine ge_aload_n a_X3_takeLine_12 rfl 0 rfl ?_
    obtain ⟨z_5, hyp⟩ := hyp
    refine ge_getO (q := 13) a_X3_takeLine_13 fd_X3_9 (rfl : gm_cls 32 = 2) rfl z_5 ?_
    refine ge_iload_n a_X3_takeLine_16 rfl 1 rfl ?_
    refine ge_cVI [.int a1] (rest := []) a_X3_takeLine_17 ok_X6_addLine lk_X3_71 ⟨Nat.le_of_ble_eq_true rfl, Nat.le_of_ble_eq_true rfl⟩ (rfl : gm_cls 13 = 5) vc_5 (by decide) rfl rfl (Nat.le_of_ble_eq_true rfl) (t_X6_addLine 13 a1 (rfl : gm_cls 13 = 5) h_2 _ hyp) (fun r_7 h_6 hyp => ?_)
    refine ge_istore_n (lv' := [(2, .int r_7), (0, .ref 32), (1, .int a1)]) a_X3_takeLine_20 rfl (Nat.le_of_ble_eq_true rfl) rfl ?_
    refine ge_aload_n a_X3_takeLine_21 rfl 1 rfl ?_
    refine ge_cVV [] (rest := []) a_X3_takeLine_22 ok_X3_lookOn lk_X3_23 ⟨Nat.le_of_ble_eq_true rfl, Nat.le_of_ble_eq_true rfl⟩ (rfl : gm_cls 32 = 2) vc_2 (by decide) rfl rfl (Nat.le_of_ble_eq_true rfl) (t_X3_lookOn   h_6 _ hyp) (fun h_8 hyp => ?_)
    refine ge_aload_n a_X3_takeLine_25 rfl 1 rfl ?_
    refine ge_ldcS (i := 13) a_X3_takeLine_26 sl_X3_75 ?_
    refine ge_iconst (v := 1) a_X3_takeLine_28 rfl ?_
    refine ge_iload_n a_X3_takeLine_29 rfl 0 rfl ?_
    refine ge_cVI [.ref (100 + 13), .int (1 : Int32), .int r_7] (rest := []) a_X3_takeLine_30 ok_X3_takeFeature lk_X3_77 ⟨Nat.le_of_ble_eq_true rfl, Nat.le_of_ble_eq_true rfl⟩ (rfl : gm_cls 32 = 2) vc_2 (by decide) rfl rfl (Nat.le_of_ble_eq_true rfl) (t_X3_takeFeature 13 (1 : Int32) r_7 (by decide) h_8 _ hyp) (fun r_10 h_9 hyp => ?_)
    refine ge_if_eq a_X3_takeLine_33 (fun c_11 => ?_) (fun c_11 => ?_)
    · have hyp := gm_ip hyp c_11
      refine ge_iconst (v := 0) a_X3_takeLine_51 rfl ?_
      exact ge_zret rfl rfl a_X3_takeLine_52 hyp
    · have hyp := gm_in hyp c_11
      refine ge_aload_n a_X3_takeLine_36 rfl 1 rfl ?_
      refine ge_ldcS (i := 14) a_X3_takeLine_37 sl_X3_81 ?_
      refine ge_iconst (v := 2) a_X3_takeLine_39 rfl ?_
      refine ge_iload_n a_X3_takeLine_40 rfl 0 rfl ?_
      refine ge_cVI [.ref (100 + 14), .int (2 : Int32), .int r_7] (rest := []) a_X3_takeLine_41 ok_X3_takeFeature lk_X3_77 ⟨Nat.le_of_ble_eq_true rfl, Nat.le_of_ble_eq_true rfl⟩ (rfl : gm_cls 32 = 2) vc_2 (by decide) rfl rfl (Nat.le_of_ble_eq_true rfl) (t_X3_takeFeature 14 (2 : Int32) r_7 (by decide) h_9 _ hyp) (fun r_13 h_12 hyp => ?_)
      refine ge_if_eq a_X3_takeLine_44 (fun c_14 => ?_) (fun c_14 => ?_)
      · have hyp := gm_ip hyp c_14
        refine ge_iconst (v := 0) a_X3_takeLine_51 rfl ?_
        exact ge_zret rfl rfl a_X3_takeLine_52 hyp
      · have hyp := gm_in hyp c_14
        refine ge_iconst (v := 1) a_X3_takeLine_47 rfl ?_
        refine ge_goto a_X3_takeLine_48 ?_
        exact ge_zret rfl rfl a_X3_takeLine_52 hyp
  · have hyp := gm_ip hyp c_4
    refine ge_iconst (v := 0) a_X3_takeLine_10 rfl ?_
    exact ge_zret rfl rfl a_X3_takeLine_11 hyp

theorem a_X3_takeDrift_0 : At m_X3_takeDrift 0 (.aload_n 0) 1 1 := at_i (by decide +kernel) rfl
theorem a_X3_takeDrift_1 : At m_X3_takeDrift 1 (.invokevirtual 23) 3 4 := at_i (by decide +kernel) rfl
theorem a_X3_takeDrift_4 : At m_X3_takeDrift 4 (.iconst 1) 1 5 := at_i (by decide +kernel) rfl
theorem a_X3_takeDrift_5 : At m_X3_takeDrift 5 (.istore_n 2) 1 6 := at_i (by decide +kernel) rfl
theorem a_X3_takeDrift_6 : At m_X3_takeDrift 6 (.aload_n 0) 1 7 := at_i (by decide +kernel) rfl
theorem a_X3_takeDrift_7 : At m_X3_takeDrift 7 (.getfield 33) 3 10 := at_i (by decide +kernel) rfl
theorem a_X3_takeDrift_10 : At m_X3_takeDrift 10 (.iconst 4) 1 11 := at_i (by decide +kernel) rfl
theorem a_X3_takeDrift_11 : AtJ m_X3_takeDrift 11 (.if_icmp .ne 9) (9) 20 14 := at_j (by decide +kernel) (by decide) rfl
theorem a_X3_takeDrift_14 : At m_X3_takeDrift 14 (.iconst (-1)) 1 15 := at_i (by decide +kernel) rfl
theorem a_X3_takeDrift_15 : At m_X3_takeDrift 15 (.istore_n 2) 1 16 := at_i (by decide +kernel) rfl
theorem a_X3_takeDrift_16 : At m_X3_takeDrift 16 (.aload_n 0) 1 17 := at_i (by decide +kernel) rfl
theorem a_X3_takeDrift_17 : At m_X3_takeDrift 17 (.invokevirtual 23) 3 20 := at_i (by decide +kernel) rfl
theorem a_X3_takeDrift_20 : At m_X3_takeDrift 20 (.aload_n 0) 1 21 := at_i (by decide +kernel) rfl
theorem a_X3_takeDrift_21 : At m_X3_takeDrift 21 (.iconst 0) 1 22 := at_i (by decide +kernel) rfl
theorem a_X3_takeDrift_22 : At m_X3_takeDrift 22 (.getstatic 111) 3 25 := at_i (by decide +kernel) rfl
theorem a_X3_takeDrift_25 : At m_X3_takeDrift 25 (.iload_n 1) 1 26 := at_i (by decide +kernel) rfl
theorem a_X3_takeDrift_26 : At m_X3_takeDrift 26 (.iaload) 1 27 := at_i (by decide +kernel) rfl
theorem a_X3_takeDrift_27 : At m_X3_takeDrift 27 (.invokevirtual 90) 3 30 := at_i (by decide +kernel) rfl
theorem a_X3_takeDrift_30 : AtJ m_X3_takeDrift 30 (.ifCond .ne 5) (5) 35 33 := at_j (by decide +kernel) (by decide) rfl
theorem a_X3_takeDrift_33 : At m_X3_takeDrift 33 (.iconst 0) 1 34 := at_i (by decide +kernel) rfl
theorem a_X3_takeDrift_34 : At m_X3_takeDrift 34 (.ireturn) 1 35 := at_i (by decide +kernel) rfl
theorem a_X3_takeDrift_35 : At m_X3_takeDrift 35 (.aload_n 0) 1 36 := at_i (by decide +kernel) rfl
theorem a_X3_takeDrift_36 : At m_X3_takeDrift 36 (.getfield 9) 3 39 := at_i (by decide +kernel) rfl
theorem a_X3_takeDrift_39 : At m_X3_takeDrift 39 (.getfield 114) 3 42 := at_i (by decide +kernel) rfl
theorem a_X3_takeDrift_42 : At m_X3_takeDrift 42 (.iload_n 1) 1 43 := at_i (by decide +kernel) rfl
theorem a_X3_takeDrift_43 : At m_X3_takeDrift 43 (.iload_n 2) 1 44 := at_i (by decide +kernel) rfl
theorem a_X3_takeDrift_44 : At m_X3_takeDrift 44 (.aload_n 0) 1 45 := at_i (by decide +kernel) rfl
theorem a_X3_takeDrift_45 : At m_X3_takeDrift 45 (.getfield 98) 3 48 := at_i (by decide +kernel) rfl
theorem a_X3_takeDrift_48 : At m_X3_takeDrift 48 (.imul) 1 49 := at_i (by decide +kernel) rfl
theorem a_X3_takeDrift_49 : At m_X3_takeDrift 49 (.iastore) 1 50 := at_i (by decide +kernel) rfl
theorem a_X3_takeDrift_50 : At m_X3_takeDrift 50 (.aload_n 0) 1 51 := at_i (by decide +kernel) rfl
theorem a_X3_takeDrift_51 : At m_X3_takeDrift 51 (.invokevirtual 23) 3 54 := at_i (by decide +kernel) rfl
theorem a_X3_takeDrift_54 : At m_X3_takeDrift 54 (.iconst 1) 1 55 := at_i (by decide +kernel) rfl
theorem a_X3_takeDrift_55 : At m_X3_takeDrift 55 (.ireturn) 1 56 := at_i (by decide +kernel) rfl
def f_X3_takeDrift_b20 (a1 : Int32)  (Q : Int32 → Mem → Prop)  (v2 : Int32) (h : Mem) : Prop :=
  vp_in a1 10 ∧
  f_X3_isNumber (0 : Int32) ((gm_tab 5).getD a1.toNatClampNeg 0) h fun r_5 h_4 =>
  if r_5 = 0 then (
    Q (0 : Int32) h_4)
  else (
    ¬ h_4 32 1 = 0 ∧
    vp_in a1 10 ∧
    ∀ h_9 : Mem, h_9 = gm_st h_4 17 a1.toNatClampNeg (v2 * (h_4 32 5)) →
    f_X3_lookOn  h_9 fun h_10 =>
    Q (1 : Int32) h_10)
set_option maxRecDepth 20000 in
theorem t_X3_takeDrift_b20 (a1 : Int32)    (Q : Int32 → Mem → Prop)   (v2 : Int32) (h : Mem) (hyp : f_X3_takeDrift_b20 a1  Q  v2 h) : EV m_X3_takeDrift (GI Q) 20 [(0, .ref 32), (1, .int a1), (2, .int v2)] [] h := by
  unfold f_X3_takeDrift_b20 at hyp
  refine ge_aload_n a_X3_takeDrift_20 rfl 0 rfl ?_
  refine ge_iconst (v := 0) a_X3_takeDrift_21 rfl ?_
  refine ge_getsN (i := 5) a_X3_takeDrift_22 (by decide) rfl lk_X3_111 ?_
  refine ge_iload_n a_X3_takeDrift_25 rfl 1 rfl ?_
  obtain ⟨b_3, hyp⟩ := hyp
  refine ge_tld (i := 5) a_X3_takeDrift_26 (by decide) rfl b_3 ?_
  refine ge_cVI [.int (0 : Int32), .int ((gm_tab 5).getD a1.toNatClampNeg 0)] (rest := []) a_X3_takeDrift_27 ok_X3_isNumber lk_X3_90 ⟨Nat.le_of_ble_eq_true rfl, Nat.le_of_ble_eq_true rfl⟩ (rfl : gm_cls 32 = 2) vc_2 (by decide) rfl rfl (Nat.le_of_ble_eq_true rfl) (t_X3_isNumber (0 : Int32) ((gm_tab 5).getD a1.toNatClampNeg 0)  h _ hyp) (fun r_5 h_4 hyp => ?_)
  refine ge_if_ne a_X3_takeDrift_30 (fun c_6 => ?_) (fun c_6 => ?_)
  · have hyp := gm_in hyp c_6
    refine ge_aload_n a_X3_takeDrift_35 rfl 0 rfl ?_
    obtain ⟨z_7, hyp⟩ := hyp
    refine ge_getO (q := 13) a_X3_takeDrift_36 fd_X3_9 (rfl : gm_cls 32 = 2) rfl z_7 ?_
    refine ge_getR (q := 17) a_X3_takeDrift_39 fd_X3_114 (rfl : gm_cls 13 = 5) rfl ?_
    refine ge_iload_n a_X3_takeDrift_42 rfl 1 rfl ?_
    refine ge_iload_n a_X3_takeDrift_43 rfl 2 rfl ?_
    refine ge_aload_n a_X3_takeDrift_44 rfl 0 rfl ?_
    refine ge_getI a_X3_takeDrift_45 fd_X3_98 (rfl : gm_cls 32 = 2) ?_
    refine ge_imul a_X3_takeDrift_48 ?_
    obtain ⟨b_8, hyp⟩ := hyp
    refine ge_iast (j := a1.toNatClampNeg) a_X3_takeDrift_49 ga_17 b_8 rfl ?_
    refine ge_nm (fun h_9 eh_9 => ?_)
    have hyp := hyp h_9 eh_9
    refine ge_aload_n a_X3_takeDrift_50 rfl 0 rfl ?_
    refine ge_cVV [] (rest := []) a_X3_takeDrift_51 ok_X3_lookOn lk_X3_23 ⟨Nat.le_of_ble_eq_true rfl, Nat.le_of_ble_eq_true rfl⟩ (rfl : gm_cls 32 = 2) vc_2 (by decide) rfl rfl (Nat.le_of_ble_eq_true rfl) (t_X3_lookOn   h_9 _ hyp) (fun h_10 hyp => ?_)
    refine ge_iconst (v := 1) a_X3_takeDrift_54 rfl ?_
    exact ge_zret rfl rfl a_X3_takeDrift_55 hyp
  · have hyp := gm_ip hyp c_6
    refine ge_iconst (v := 0) a_X3_takeDrift_33 rfl ?_
    exact ge_zret rfl rfl a_X3_takeDrift_34 hyp
def f_X3_takeDrift (a1 : Int32) (h : Mem) (Q : Int32 → Mem → Prop) : Prop :=
  f_X3_lookOn  h fun h_1 =>
  if h_1 32 2 = (4 : Int32) then (
    f_X3_lookOn  h_1 fun h_11 =>
    f_X3_takeDrift_b20 a1  Q  (-1 : Int32) h_11)
  else (
    f_X3_takeDrift_b20 a1  Q  (1 : Int32) h_1)
set_option maxRecDepth 20000 in
theorem t_X3_takeDrift (a1 : Int32)  (h : Mem) (Q : Int32 → Mem → Prop) (hyp : f_X3_takeDrift a1 h Q) : Cn m_X3_takeDrift [.ref 32, .int a1] h (GI Q) := by
  refine ge_entry (lv := [(0, .ref 32), (1, .int a1)]) pn_X3 (Nat.le_of_ble_eq_true rfl) rfl ?_
  unfold f_X3_takeDrift at hyp
  refine ge_aload_n a_X3_takeDrift_0 rfl 0 rfl ?_
  refine ge_cVV [] (rest := []) a_X3_takeDrift_1 ok_X3_lookOn lk_X3_23 ⟨Nat.le_of_ble_eq_true rfl, Nat.le_of_ble_eq_true rfl⟩ (rfl : gm_cls 32 = 2) vc_2 (by decide) rfl rfl (Nat.le_of_ble_eq_true rfl) (t_X3_lookOn   h _ hyp) (fun h_1 hyp => ?_)
  refine ge_iconst (v := 1) a_X3_takeDrift_4 rfl ?_
  refine ge_istore_n (lv' := [(2, .int (1 : Int32)), (0, .ref 32), (1, .int a1)]) a_X3_takeDrift_5 rfl (Nat.le_of_ble_eq_true rfl) rfl ?_
  refine ge_aload_n a_X3_takeDrift_6 rfl 1 rfl ?_
  refine ge_getI a_X3_takeDrift_7 fd_X3_33 (rfl : gm_cls 32 = 2) ?_
  refine ge_iconst (v := 4) a_X3_takeDrift_10 rfl ?_
  refine ge_icmp_ne a_X3_takeDrift_11 (fun c_2 => ?_) (fun c_2 => ?_)
  · have hyp := gm_in hyp c_2
    exact ge_sub [1, 2, 0] rfl (t_X3_takeDrift_b20 a1    Q   (1 : Int32) h_1 hyp)
  · have hyp := gm_ip hyp c_2
    refine ge_iconst (v := -1) a_X3_takeDrift_14 rfl ?_
    refine ge_istore_n (lv' := [(2, .int (-1 : Int32)), (0, .ref 32), (1, .int a1)]) a_X3_takeDrift_15 rfl (Nat.le_of_ble_eq_true rfl) rfl ?_
    refine ge_aload_n a_X3_takeDrift_16 rfl 1 rfl ?_
    refine ge_cVV [] (rest := []) a_X3_takeDrift_17 ok_X3_lookOn lk_X3_23 ⟨Nat.le_of_ble_eq_true rfl, Nat.le_of_ble_eq_true rfl⟩ (rfl : gm_cls 32 = 2) vc_2 (by decide) rfl rfl (Nat.le_of_ble_eq_true rfl) (t_X3_lookOn   h_1 _ hyp) (fun h_11 hyp => ?_)
    exact ge_sub [1, 2, 0] rfl (t_X3_takeDrift_b20 a1    Q   (-1 : Int32) h_11 hyp)

theorem a_X3_takeRule_0 : At m_X3_takeRule 0 (.aload_n 0) 1 1 := at_i (by decide +kernel) rfl
theorem a_X3_takeRule_1 : At m_X3_takeRule 1 (.invokevirtual 23) 3 4 := at_i (by decide +kernel) rfl
theorem a_X3_takeRule_4 : At m_X3_takeRule 4 (.aload_n 0) 1 5 := at_i (by decide +kernel) rfl
theorem a_X3_takeRule_5 : At m_X3_takeRule 5 (.getstatic 108) 3 8 := at_i (by decide +kernel) rfl
theorem a_X3_takeRule_8 : At m_X3_takeRule 8 (.iload_n 1) 1 9 := at_i (by decide +kernel) rfl
theorem a_X3_takeRule_9 : At m_X3_takeRule 9 (.iaload) 1 10 := at_i (by decide +kernel) rfl
theorem a_X3_takeRule_10 : At m_X3_takeRule 10 (.getstatic 111) 3 13 := at_i (by decide +kernel) rfl
theorem a_X3_takeRule_13 : At m_X3_takeRule 13 (.iload_n 1) 1 14 := at_i (by decide +kernel) rfl
theorem a_X3_takeRule_14 : At m_X3_takeRule 14 (.iaload) 1 15 := at_i (by decide +kernel) rfl
theorem a_X3_takeRule_15 : At m_X3_takeRule 15 (.invokevirtual 90) 3 18 := at_i (by decide +kernel) rfl
theorem a_X3_takeRule_18 : AtJ m_X3_takeRule 18 (.ifCond .ne 5) (5) 23 21 := at_j (by decide +kernel) (by decide) rfl
theorem a_X3_takeRule_21 : At m_X3_takeRule 21 (.iconst 0) 1 22 := at_i (by decide +kernel) rfl
theorem a_X3_takeRule_22 : At m_X3_takeRule 22 (.ireturn) 1 23 := at_i (by decide +kernel) rfl
theorem a_X3_takeRule_23 : At m_X3_takeRule 23 (.aload_n 0) 1 24 := at_i (by decide +kernel) rfl
theorem a_X3_takeRule_24 : At m_X3_takeRule 24 (.getfield 9) 3 27 := at_i (by decide +kernel) rfl
theorem a_X3_takeRule_27 : At m_X3_takeRule 27 (.getfield 114) 3 30 := at_i (by decide +kernel) rfl
theorem a_X3_takeRule_30 : At m_X3_takeRule 30 (.iload_n 1) 1 31 := at_i (by decide +kernel) rfl
theorem a_X3_takeRule_31 : At m_X3_takeRule 31 (.aload_n 0) 1 32 := at_i (by decide +kernel) rfl
theorem a_X3_takeRule_32 : At m_X3_takeRule 32 (.getfield 98) 3 35 := at_i (by decide +kernel) rfl
theorem a_X3_takeRule_35 : At m_X3_takeRule 35 (.iastore) 1 36 := at_i (by decide +kernel) rfl
theorem a_X3_takeRule_36 : At m_X3_takeRule 36 (.aload_n 0) 1 37 := at_i (by decide +kernel) rfl
theorem a_X3_takeRule_37 : At m_X3_takeRule 37 (.invokevirtual 23) 3 40 := at_i (by decide +kernel) rfl
theorem a_X3_takeRule_40 : At m_X3_takeRule 40 (.iconst 1) 1 41 := at_i (by decide +kernel) rfl
theorem a_X3_takeRule_41 : At m_X3_takeRule 41 (.ireturn) 1 42 := at_i (by decide +kernel) rfl
def f_X3_takeRule (a1 : Int32) (h : Mem) (Q : Int32 → Mem → Prop) : Prop :=
  f_X3_lookOn  h fun h_1 =>
  vp_in a1 10 ∧
  vp_in a1 10 ∧
  f_X3_isNumber ((gm_tab 4).getD a1.toNatClampNeg 0) ((gm_tab 5).getD a1.toNatClampNeg 0) h_1 fun r_5 h_4 =>
  if r_5 = 0 then (
    Q (0 : Int32) h_4)
  else (
    ¬ h_4 32 1 = 0 ∧
    vp_in a1 10 ∧
    ∀ h_9 : Mem, h_9 = gm_st h_4 17 a1.toNatClampNeg (h_4 32 5) →
    f_X3_lookOn  h_9 fun h_10 =>
    Q (1 : Int32) h_10)
set_option maxRecDepth 20000 in
theorem t_X3_takeRule (a1 : Int32)  (h : Mem) (Q : Int32 → Mem → Prop) (hyp : f_X3_takeRule a1 h Q) : Cn m_X3_takeRule [.ref 32, .int a1] h (GI Q) := by
  refine ge_entry (lv := [(0, .ref 32), (1, .int a1)]) pn_X3 (Nat.le_of_ble_eq_true rfl) rfl ?_
  unfold f_X3_takeRule at hyp
  refine ge_aload_n a_X3_takeRule_0 rfl 0 rfl ?_
  refine ge_cVV [] (rest := []) a_X3_takeRule_1 ok_X3_lookOn lk_X3_23 ⟨Nat.le_of_ble_eq_true rfl, Nat.le_of_ble_eq_true rfl⟩ (rfl : gm_cls 32 = 2) vc_2 (by decide) rfl rfl (Nat.le_of_ble_eq_true rfl) (t_X3_lookOn   h _ hyp) (fun h_1 hyp => ?_)
  refine ge_aload_n a_X3_takeRule_4 rfl 0 rfl ?_
  refine ge_getsN (i := 4) a_X3_takeRule_5 (by decide) rfl lk_X3_108 ?_
  refine ge_iload_n a_X3_takeRule_8 rfl 1 rfl ?_
  obtain ⟨b_2, hyp⟩ := hyp
  refine ge_tld (i := 4) a_X3_takeRule_9 (by decide) rfl b_2 ?_
  refine ge_getsN (i := 5) a_X3_takeRule_10 (by decide) rfl lk_X3_111 ?_
  refine ge_iload_n a_X3_takeRule_13 rfl 1 rfl ?_
  obtain ⟨b_3, hyp⟩ := hyp
  refine ge_tld (i := 5) a_X3_takeRule_14 (by decide) rfl b_3 ?_
  refine ge_cVI [.int ((gm_tab 4).getD a1.toNatClampNeg 0), .int ((gm_tab 5).getD a1.toNatClampNeg 0)] (rest := []) a_X3_takeRule_15 ok_X3_isNumber lk_X3_90 ⟨Nat.le_of_ble_eq_true rfl, Nat.le_of_ble_eq_true rfl⟩ (rfl : gm_cls 32 = 2) vc_2 (by decide) rfl rfl (Nat.le_of_ble_eq_true rfl) (t_X3_isNumber ((gm_tab 4).getD a1.toNatClampNeg 0) ((gm_tab 5).getD a1.toNatClampNeg 0)  h_1 _ hyp) (fun r_5 h_4 hyp => ?_)
  refine ge_if_ne a_X3_takeRule_18 (fun c_6 => ?_) (fun c_6 => ?_)
  · have hyp := gm_in hyp c_6
    refine ge_aload_n a_X3_takeRule_23 rfl 0 rfl ?_
    obtain ⟨z_7, hyp⟩ := hyp
    refine ge_getO (q := 13) a_X3_takeRule_24 fd_X3_9 (rfl : gm_cls 32 = 2) rfl z_7 ?_
    refine ge_getR (q := 17) a_X3_takeRule_27 fd_X3_114 (rfl : gm_cls 13 = 5) rfl ?_
    refine ge_iload_n a_X3_takeRule_30 rfl 1 rfl ?_
    refine ge_aload_n a_X3_takeRule_31 rfl 0 rfl ?_
    refine ge_getI a_X3_takeRule_32 fd_X3_98 (rfl : gm_cls 32 = 2) ?_
    obtain ⟨b_8, hyp⟩ := hyp
    refine ge_iast (j := a1.toNatClampNeg) a_X3_takeRule_35 ga_17 b_8 rfl ?_
    refine ge_nm (fun h_9 eh_9 => ?_)
    have hyp := hyp h_9 eh_9
    refine ge_aload_n a_X3_takeRule_36 rfl 0 rfl ?_
    refine ge_cVV [] (rest := []) a_X3_takeRule_37 ok_X3_lookOn lk_X3_23 ⟨Nat.le_of_ble_eq_true rfl, Nat.le_of_ble_eq_true rfl⟩ (rfl : gm_cls 32 = 2) vc_2 (by decide) rfl rfl (Nat.le_of_ble_eq_true rfl) (t_X3_lookOn   h_9 _ hyp) (fun h_10 hyp => ?_)
    refine ge_iconst (v := 1) a_X3_takeRule_40 rfl ?_
    exact ge_zret rfl rfl a_X3_takeRule_41 hyp
  · have hyp := gm_ip hyp c_6
    refine ge_iconst (v := 0) a_X3_takeRule_21 rfl ?_
    exact ge_zret rfl rfl a_X3_takeRule_22 hyp
