theorem a_X10_next_0 : At m_X10_next 0 (.aload_n 0) 1 1 := at_i (by decide +kernel) rfl
theorem a_X10_next_1 : At m_X10_next 1 (.aload_n 0) 1 2 := at_i (by decide +kernel) rfl
theorem a_X10_next_2 : At m_X10_next 2 (.getfield 243) 3 5 := at_i (by decide +kernel) rfl
theorem a_X10_next_5 : At m_X10_next 5 (.putfield 246) 3 8 := at_i (by decide +kernel) rfl
theorem a_X10_next_8 : At m_X10_next 8 (.aload_n 0) 1 9 := at_i (by decide +kernel) rfl
theorem a_X10_next_9 : At m_X10_next 9 (.aload_n 0) 1 10 := at_i (by decide +kernel) rfl
theorem a_X10_next_10 : At m_X10_next 10 (.getfield 246) 3 13 := at_i (by decide +kernel) rfl
theorem a_X10_next_13 : At m_X10_next 13 (.invokevirtual 249) 3 16 := at_i (by decide +kernel) rfl
theorem a_X10_next_16 : At m_X10_next 16 (.bipush 32) 2 18 := at_i (by decide +kernel) rfl
theorem a_X10_next_18 : AtJ m_X10_next 18 (.if_icmp .ne 16) (16) 34 21 := at_j (by decide +kernel) (by decide) rfl
theorem a_X10_next_21 : At m_X10_next 21 (.aload_n 0) 1 22 := at_i (by decide +kernel) rfl
theorem a_X10_next_22 : At m_X10_next 22 (.dup) 1 23 := at_i (by decide +kernel) rfl
theorem a_X10_next_23 : At m_X10_next 23 (.getfield 246) 3 26 := at_i (by decide +kernel) rfl
theorem a_X10_next_26 : At m_X10_next 26 (.iconst 1) 1 27 := at_i (by decide +kernel) rfl
theorem a_X10_next_27 : At m_X10_next 27 (.iadd) 1 28 := at_i (by decide +kernel) rfl
theorem a_X10_next_28 : At m_X10_next 28 (.putfield 246) 3 31 := at_i (by decide +kernel) rfl
theorem a_X10_next_31 : AtJ m_X10_next 31 (.goto (-23)) (-23) 8 34 := at_j (by decide +kernel) (by decide) rfl
theorem a_X10_next_34 : At m_X10_next 34 (.aload_n 0) 1 35 := at_i (by decide +kernel) rfl
theorem a_X10_next_35 : At m_X10_next 35 (.aload_n 0) 1 36 := at_i (by decide +kernel) rfl
theorem a_X10_next_36 : At m_X10_next 36 (.getfield 246) 3 39 := at_i (by decide +kernel) rfl
theorem a_X10_next_39 : At m_X10_next 39 (.invokevirtual 249) 3 42 := at_i (by decide +kernel) rfl
theorem a_X10_next_42 : At m_X10_next 42 (.istore_n 1) 1 43 := at_i (by decide +kernel) rfl
theorem a_X10_next_43 : At m_X10_next 43 (.aload_n 0) 1 44 := at_i (by decide +kernel) rfl
theorem a_X10_next_44 : At m_X10_next 44 (.aload_n 0) 1 45 := at_i (by decide +kernel) rfl
theorem a_X10_next_45 : At m_X10_next 45 (.getfield 246) 3 48 := at_i (by decide +kernel) rfl
theorem a_X10_next_48 : At m_X10_next 48 (.putfield 243) 3 51 := at_i (by decide +kernel) rfl
theorem a_X10_next_51 : At m_X10_next 51 (.aload_n 0) 1 52 := at_i (by decide +kernel) rfl
theorem a_X10_next_52 : At m_X10_next 52 (.iconst 0) 1 53 := at_i (by decide +kernel) rfl
theorem a_X10_next_53 : At m_X10_next 53 (.putfield 252) 3 56 := at_i (by decide +kernel) rfl
theorem a_X10_next_56 : At m_X10_next 56 (.iload_n 1) 1 57 := at_i (by decide +kernel) rfl
theorem a_X10_next_57 : AtJ m_X10_next 57 (.ifCond .ge 11) (11) 68 60 := at_j (by decide +kernel) (by decide) rfl
theorem a_X10_next_60 : At m_X10_next 60 (.aload_n 0) 1 61 := at_i (by decide +kernel) rfl
theorem a_X10_next_61 : At m_X10_next 61 (.iconst 0) 1 62 := at_i (by decide +kernel) rfl
theorem a_X10_next_62 : At m_X10_next 62 (.putfield 255) 3 65 := at_i (by decide +kernel) rfl
theorem a_X10_next_65 : AtJ m_X10_next 65 (.goto 141) (141) 206 68 := at_j (by decide +kernel) (by decide) rfl
theorem a_X10_next_68 : At m_X10_next 68 (.iload_n 1) 1 69 := at_i (by decide +kernel) rfl
theorem a_X10_next_69 : At m_X10_next 69 (.bipush 97) 2 71 := at_i (by decide +kernel) rfl
theorem a_X10_next_71 : At m_X10_next 71 (.bipush 122) 2 73 := at_i (by decide +kernel) rfl
theorem a_X10_next_73 : At m_X10_next 73 (.invokestatic 71) 3 76 := at_i (by decide +kernel) rfl
theorem a_X10_next_76 : AtJ m_X10_next 76 (.ifCond .eq 39) (39) 115 79 := at_j (by decide +kernel) (by decide) rfl
theorem a_X10_next_79 : At m_X10_next 79 (.aload_n 0) 1 80 := at_i (by decide +kernel) rfl
theorem a_X10_next_80 : At m_X10_next 80 (.iconst 1) 1 81 := at_i (by decide +kernel) rfl
theorem a_X10_next_81 : At m_X10_next 81 (.putfield 255) 3 84 := at_i (by decide +kernel) rfl
theorem a_X10_next_84 : At m_X10_next 84 (.aload_n 0) 1 85 := at_i (by decide +kernel) rfl
theorem a_X10_next_85 : At m_X10_next 85 (.aload_n 0) 1 86 := at_i (by decide +kernel) rfl
theorem a_X10_next_86 : At m_X10_next 86 (.getfield 243) 3 89 := at_i (by decide +kernel) rfl
theorem a_X10_next_89 : At m_X10_next 89 (.invokevirtual 249) 3 92 := at_i (by decide +kernel) rfl
theorem a_X10_next_92 : At m_X10_next 92 (.bipush 97) 2 94 := at_i (by decide +kernel) rfl
theorem a_X10_next_94 : At m_X10_next 94 (.bipush 122) 2 96 := at_i (by decide +kernel) rfl
theorem a_X10_next_96 : At m_X10_next 96 (.invokestatic 71) 3 99 := at_i (by decide +kernel) rfl
theorem a_X10_next_99 : AtJ m_X10_next 99 (.ifCond .eq 107) (107) 206 102 := at_j (by decide +kernel) (by decide) rfl
theorem a_X10_next_102 : At m_X10_next 102 (.aload_n 0) 1 103 := at_i (by decide +kernel) rfl
theorem a_X10_next_103 : At m_X10_next 103 (.dup) 1 104 := at_i (by decide +kernel) rfl
theorem a_X10_next_104 : At m_X10_next 104 (.getfield 243) 3 107 := at_i (by decide +kernel) rfl
theorem a_X10_next_107 : At m_X10_next 107 (.iconst 1) 1 108 := at_i (by decide +kernel) rfl
theorem a_X10_next_108 : At m_X10_next 108 (.iadd) 1 109 := at_i (by decide +kernel) rfl
theorem a_X10_next_109 : At m_X10_next 109 (.putfield 243) 3 112 := at_i (by decide +kernel) rfl
theorem a_X10_next_112 : AtJ m_X10_next 112 (.goto (-28)) (-28) 84 115 := at_j (by decide +kernel) (by decide) rfl
theorem a_X10_next_115 : At m_X10_next 115 (.iload_n 1) 1 116 := at_i (by decide +kernel) rfl
theorem a_X10_next_116 : At m_X10_next 116 (.bipush 48) 2 118 := at_i (by decide +kernel) rfl
theorem a_X10_next_118 : At m_X10_next 118 (.bipush 57) 2 120 := at_i (by decide +kernel) rfl
theorem a_X10_next_120 : At m_X10_next 120 (.invokestatic 71) 3 123 := at_i (by decide +kernel) rfl
theorem a_X10_next_123 : AtJ m_X10_next 123 (.ifCond .eq 68) (68) 191 126 := at_j (by decide +kernel) (by decide) rfl
theorem a_X10_next_126 : At m_X10_next 126 (.aload_n 0) 1 127 := at_i (by decide +kernel) rfl
theorem a_X10_next_127 : At m_X10_next 127 (.iconst 2) 1 128 := at_i (by decide +kernel) rfl
theorem a_X10_next_128 : At m_X10_next 128 (.putfield 255) 3 131 := at_i (by decide +kernel) rfl
theorem a_X10_next_131 : At m_X10_next 131 (.aload_n 0) 1 132 := at_i (by decide +kernel) rfl
theorem a_X10_next_132 : At m_X10_next 132 (.aload_n 0) 1 133 := at_i (by decide +kernel) rfl
theorem a_X10_next_133 : At m_X10_next 133 (.getfield 243) 3 136 := at_i (by decide +kernel) rfl
theorem a_X10_next_136 : At m_X10_next 136 (.invokevirtual 249) 3 139 := at_i (by decide +kernel) rfl
theorem a_X10_next_139 : At m_X10_next 139 (.bipush 48) 2 141 := at_i (by decide +kernel) rfl
theorem a_X10_next_141 : At m_X10_next 141 (.bipush 57) 2 143 := at_i (by decide +kernel) rfl
theorem a_X10_next_143 : At m_X10_next 143 (.invokestatic 71) 3 146 := at_i (by decide +kernel) rfl
theorem a_X10_next_146 : AtJ m_X10_next 146 (.ifCond .eq 60) (60) 206 149 := at_j (by decide +kernel) (by decide) rfl
theorem a_X10_next_149 : At m_X10_next 149 (.aload_n 0) 1 150 := at_i (by decide +kernel) rfl
theorem a_X10_next_150 : At m_X10_next 150 (.ldc_w 258) 3 153 := at_i (by decide +kernel) rfl
theorem a_X10_next_153 : At m_X10_next 153 (.bipush 10) 2 155 := at_i (by decide +kernel) rfl
theorem a_X10_next_155 : At m_X10_next 155 (.aload_n 0) 1 156 := at_i (by decide +kernel) rfl
theorem a_X10_next_156 : At m_X10_next 156 (.getfield 252) 3 159 := at_i (by decide +kernel) rfl
theorem a_X10_next_159 : At m_X10_next 159 (.imul) 1 160 := at_i (by decide +kernel) rfl
theorem a_X10_next_160 : At m_X10_next 160 (.aload_n 0) 1 161 := at_i (by decide +kernel) rfl
theorem a_X10_next_161 : At m_X10_next 161 (.aload_n 0) 1 162 := at_i (by decide +kernel) rfl
theorem a_X10_next_162 : At m_X10_next 162 (.getfield 243) 3 165 := at_i (by decide +kernel) rfl
theorem a_X10_next_165 : At m_X10_next 165 (.invokevirtual 249) 3 168 := at_i (by decide +kernel) rfl
theorem a_X10_next_168 : At m_X10_next 168 (.iadd) 1 169 := at_i (by decide +kernel) rfl
theorem a_X10_next_169 : At m_X10_next 169 (.bipush 48) 2 171 := at_i (by decide +kernel) rfl
theorem a_X10_next_171 : At m_X10_next 171 (.isub) 1 172 := at_i (by decide +kernel) rfl
theorem a_X10_next_172 : At m_X10_next 172 (.invokestatic 128) 3 175 := at_i (by decide +kernel) rfl
theorem a_X10_next_175 : At m_X10_next 175 (.putfield 252) 3 178 := at_i (by decide +kernel) rfl
theorem a_X10_next_178 : At m_X10_next 178 (.aload_n 0) 1 179 := at_i (by decide +kernel) rfl
theorem a_X10_next_179 : At m_X10_next 179 (.dup) 1 180 := at_i (by decide +kernel) rfl
theorem a_X10_next_180 : At m_X10_next 180 (.getfield 243) 3 183 := at_i (by decide +kernel) rfl
theorem a_X10_next_183 : At m_X10_next 183 (.iconst 1) 1 184 := at_i (by decide +kernel) rfl
theorem a_X10_next_184 : At m_X10_next 184 (.iadd) 1 185 := at_i (by decide +kernel) rfl
theorem a_X10_next_185 : At m_X10_next 185 (.putfield 243) 3 188 := at_i (by decide +kernel) rfl
theorem a_X10_next_188 : AtJ m_X10_next 188 (.goto (-57)) (-57) 131 191 := at_j (by decide +kernel) (by decide) rfl
theorem a_X10_next_191 : At m_X10_next 191 (.aload_n 0) 1 192 := at_i (by decide +kernel) rfl
theorem a_X10_next_192 : At m_X10_next 192 (.iconst 3) 1 193 := at_i (by decide +kernel) rfl
theorem a_X10_next_193 : At m_X10_next 193 (.putfield 255) 3 196 := at_i (by decide +kernel) rfl
theorem a_X10_next_196 : At m_X10_next 196 (.aload_n 0) 1 197 := at_i (by decide +kernel) rfl
theorem a_X10_next_197 : At m_X10_next 197 (.dup) 1 198 := at_i (by decide +kernel) rfl
theorem a_X10_next_198 : At m_X10_next 198 (.getfield 243) 3 201 := at_i (by decide +kernel) rfl
theorem a_X10_next_201 : At m_X10_next 201 (.iconst 1) 1 202 := at_i (by decide +kernel) rfl
theorem a_X10_next_202 : At m_X10_next 202 (.iadd) 1 203 := at_i (by decide +kernel) rfl
theorem a_X10_next_203 : At m_X10_next 203 (.putfield 243) 3 206 := at_i (by decide +kernel) rfl
theorem a_X10_next_206 : At m_X10_next 206 (.return_) 1 207 := at_i (by decide +kernel) rfl
def f_X10_next_b131   (Q : Mem → Prop)  (K131 : Mem → Prop)  (h : Mem) : Prop :=
  f_X10_byteAt (h 43 16) h fun r_20 h_19 =>
  f_X10_within r_20 (48 : Int32) (57 : Int32) h_19 fun r_22 h_21 =>
  if r_22 = 0 then (
    Q h_21)
  else (
    f_X10_byteAt (h_21 43 16) h_21 fun r_25 h_24 =>
    ∀ v_26 : Int32, v_26 = (if (((10 : Int32) * (h_21 43 18)) + r_25) - (48 : Int32) < (100000 : Int32) then (((10 : Int32) * (h_21 43 18)) + r_25) - (48 : Int32) else (100000 : Int32)) →
    ∀ h_27 : Mem, h_27 = gm_st h_24 43 18 v_26 →
    ∀ h_28 : Mem, h_28 = gm_st h_27 43 16 ((h_27 43 16) + (1 : Int32)) →
    K131  h_28)
set_option maxRecDepth 20000 in
theorem t_X10_next_b131     (Q : Mem → Prop)   : ∀ (n : Nat)  (h : Mem), gm_it0 (f_X10_next_b131   Q ) n  h → EV m_X10_next (GV Q) 131 [(0, .ref 43)] [] h := by
  refine ge_loop0 (P := fun  h => EV m_X10_next (GV Q) 131 [(0, .ref 43)] [] h) (fun K131 hK131  h hyp => ?_)
  unfold f_X10_next_b131 at hyp
  refine ge_aload_n a_X10_next_131 rfl 0 rfl ?_
  refine ge_aload_n a_X10_next_132 rfl 0 rfl ?_
  refine ge_getI a_X10_next_133 fd_X10_243 (rfl : gm_cls 43 = 9) ?_
  refine ge_cVI [.int (h 43 16)] (rest := []) a_X10_next_136 ok_X10_byteAt lk_X10_249 ⟨Nat.le_of_ble_eq_true rfl, Nat.le_of_ble_eq_true rfl⟩ (rfl : gm_cls 43 = 9) vc_9 (by decide) rfl rfl (Nat.le_of_ble_eq_true rfl) (t_X10_byteAt (h 43 16)  h _ hyp) (fun r_20 h_19 hyp => ?_)
  refine ge_bipush (v := 48) a_X10_next_139 rfl ?_
  refine ge_bipush (v := 57) a_X10_next_141 rfl ?_
  refine ge_cSI [.int r_20, .int (48 : Int32), .int (57 : Int32)] (rest := []) a_X10_next_143 ok_X10_within lk_X10_71 ⟨Nat.le_of_ble_eq_true rfl, Nat.le_of_ble_eq_true rfl⟩ rfl rfl (Nat.le_of_ble_eq_true rfl) (t_X10_within r_20 (48 : Int32) (57 : Int32)  h_19 _ hyp) (fun r_22 h_21 hyp => ?_)
  refine ge_if_eq a_X10_next_146 (fun c_23 => ?_) (fun c_23 => ?_)
  · have hyp := gm_ip hyp c_23
    exact ge_vret rfl a_X10_next_206 hyp
  · have hyp := gm_in hyp c_23
    refine ge_aload_n a_X10_next_149 rfl 0 rfl ?_
    refine ge_ldcw (v := 100000) a_X10_next_150 ct_X10_258 ?_
    refine ge_bipush (v := 10) a_X10_next_153 rfl ?_
    refine ge_aload_n a_X10_next_155 rfl 0 rfl ?_
    refine ge_getI a_X10_next_156 fd_X10_252 (rfl : gm_cls 43 = 9) ?_
    refine ge_imul a_X10_next_159 ?_
    refine ge_aload_n a_X10_next_160 rfl 0 rfl ?_
    refine ge_aload_n a_X10_next_161 rfl 0 rfl ?_
    refine ge_getI a_X10_next_162 fd_X10_243 (rfl : gm_cls 43 = 9) ?_
    refine ge_cVI [.int (h_21 43 16)] (rest := [.int ((10 : Int32) * (h_21 43 18)), .int (100000 : Int32), .ref 43]) a_X10_next_165 ok_X10_byteAt lk_X10_249 ⟨Nat.le_of_ble_eq_true rfl, Nat.le_of_ble_eq_true rfl⟩ (rfl : gm_cls 43 = 9) vc_9 (by decide) rfl rfl (Nat.le_of_ble_eq_true rfl) (t_X10_byteAt (h_21 43 16)  h_21 _ hyp) (fun r_25 h_24 hyp => ?_)
    refine ge_iadd a_X10_next_168 ?_
    refine ge_bipush (v := 48) a_X10_next_169 rfl ?_
    refine ge_isub a_X10_next_171 ?_
    refine ge_mmin (rest := [.ref 43]) a_X10_next_172 lk_X10_128 (Nat.le_of_ble_eq_true rfl) (Nat.le_of_ble_eq_true rfl) ?_
    refine ge_topi (fun v_26 ev_26 => ?_)
    have hyp := hyp v_26 ev_26
    refine ge_putI a_X10_next_175 pd_X10_252 (rfl : gm_cls 43 = 9) ?_
    refine ge_nm (fun h_27 eh_27 => ?_)
    have hyp := hyp h_27 eh_27
    refine ge_aload_n a_X10_next_178 rfl 0 rfl ?_
    refine ge_dup a_X10_next_179 rfl ?_
    refine ge_getI a_X10_next_180 fd_X10_243 (rfl : gm_cls 43 = 9) ?_
    refine ge_iconst (v := 1) a_X10_next_183 rfl ?_
    refine ge_iadd a_X10_next_184 ?_
    refine ge_putI a_X10_next_185 pd_X10_243 (rfl : gm_cls 43 = 9) ?_
    refine ge_nm (fun h_28 eh_28 => ?_)
    have hyp := hyp h_28 eh_28
    refine ge_goto a_X10_next_188 ?_
    exact ge_sub [0] rfl (hK131  h_28 hyp)
def f_X10_next_b84   (Q : Mem → Prop)  (K84 : Mem → Prop)  (h : Mem) : Prop :=
  f_X10_byteAt (h 43 16) h fun r_31 h_30 =>
  f_X10_within r_31 (97 : Int32) (122 : Int32) h_30 fun r_33 h_32 =>
  if r_33 = 0 then (
    Q h_32)
  else (
    ∀ h_35 : Mem, h_35 = gm_st h_32 43 16 ((h_32 43 16) + (1 : Int32)) →
    K84  h_35)
set_option maxRecDepth 20000 in
theorem t_X10_next_b84     (Q : Mem → Prop)   : ∀ (n : Nat)  (h : Mem), gm_it0 (f_X10_next_b84   Q ) n  h → EV m_X10_next (GV Q) 84 [(0, .ref 43)] [] h := by
  refine ge_loop0 (P := fun  h => EV m_X10_next (GV Q) 84 [(0, .ref 43)] [] h) (fun K84 hK84  h hyp => ?_)
  unfold f_X10_next_b84 at hyp
  refine ge_aload_n a_X10_next_84 rfl 0 rfl ?_
  refine ge_aload_n a_X10_next_85 rfl 0 rfl ?_
  refine ge_getI a_X10_next_86 fd_X10_243 (rfl : gm_cls 43 = 9) ?_
  refine ge_cVI [.int (h 43 16)] (rest := []) a_X10_next_89 ok_X10_byteAt lk_X10_249 ⟨Nat.le_of_ble_eq_true rfl, Nat.le_of_ble_eq_true rfl⟩ (rfl : gm_cls 43 = 9) vc_9 (by decide) rfl rfl (Nat.le_of_ble_eq_true rfl) (t_X10_byteAt (h 43 16)  h _ hyp) (fun r_31 h_30 hyp => ?_)
  refine ge_bipush (v := 97) a_X10_next_92 rfl ?_
  refine ge_bipush (v := 122) a_X10_next_94 rfl ?_
  refine ge_cSI [.int r_31, .int (97 : Int32), .int (122 : Int32)] (rest := []) a_X10_next_96 ok_X10_within lk_X10_71 ⟨Nat.le_of_ble_eq_true rfl, Nat.le_of_ble_eq_true rfl⟩ rfl rfl (Nat.le_of_ble_eq_true rfl) (t_X10_within r_31 (97 : Int32) (122 : Int32)  h_30 _ hyp) (fun r_33 h_32 hyp => ?_)
  refine ge_if_eq a_X10_next_99 (fun c_34 => ?_) (fun c_34 => ?_)
  · have hyp := gm_ip hyp c_34
    exact ge_vret rfl a_X10_next_206 hyp
  · have hyp := gm_in hyp c_34
    refine ge_aload_n a_X10_next_102 rfl 0 rfl ?_
    refine ge_dup a_X10_next_103 rfl ?_
    refine ge_getI a_X10_next_104 fd_X10_243 (rfl : gm_cls 43 = 9) ?_
    refine ge_iconst (v := 1) a_X10_next_107 rfl ?_
    refine ge_iadd a_X10_next_108 ?_
    refine ge_putI a_X10_next_109 pd_X10_243 (rfl : gm_cls 43 = 9) ?_
    refine ge_nm (fun h_35 eh_35 => ?_)
    have hyp := hyp h_35 eh_35
    refine ge_goto a_X10_next_112 ?_
    exact ge_sub [0] rfl (hK84  h_35 hyp)
def f_X10_next_b8   (Q : Mem → Prop)  (K8 : Mem → Prop)  (h : Mem) : Prop :=
  f_X10_byteAt (h 43 15) h fun r_3 h_2 =>
  if r_3 = (32 : Int32) then (
    ∀ h_37 : Mem, h_37 = gm_st h_2 43 15 ((h_2 43 15) + (1 : Int32)) →
    K8  h_37)
  else (
    f_X10_byteAt (h_2 43 15) h_2 fun r_6 h_5 =>
    ∀ h_7 : Mem, h_7 = gm_st h_5 43 16 (h_5 43 15) →
    ∀ h_8 : Mem, h_8 = gm_st h_7 43 18 (0 : Int32) →
    if 0 ≤ r_6 then (
      f_X10_within r_6 (97 : Int32) (122 : Int32) h_8 fun r_11 h_10 =>
      if r_11 = 0 then (
        f_X10_within r_6 (48 : Int32) (57 : Int32) h_10 fun r_14 h_13 =>
        if r_14 = 0 then (
          ∀ h_16 : Mem, h_16 = gm_st h_13 43 17 (3 : Int32) →
          ∀ h_17 : Mem, h_17 = gm_st h_16 43 16 ((h_16 43 16) + (1 : Int32)) →
          Q h_17)
        else (
          ∀ h_18 : Mem, h_18 = gm_st h_13 43 17 (2 : Int32) →
          gm_it0 (f_X10_next_b131   Q ) gm_F  h_18))
      else (
        ∀ h_29 : Mem, h_29 = gm_st h_10 43 17 (1 : Int32) →
        gm_it0 (f_X10_next_b84   Q ) gm_F  h_29))
    else (
      ∀ h_36 : Mem, h_36 = gm_st h_8 43 17 (0 : Int32) →
      Q h_36))
set_option maxRecDepth 20000 in
theorem t_X10_next_b8     (Q : Mem → Prop)   : ∀ (n : Nat)  (h : Mem), gm_it0 (f_X10_next_b8   Q ) n  h → EV m_X10_next (GV Q) 8 [(0, .ref 43)] [] h := by
  refine ge_loop0 (P := fun  h => EV m_X10_next (GV Q) 8 [(0, .ref 43)] [] h) (fun K8 hK8  h hyp => ?_)
  unfold f_X10_next_b8 at hyp
  refine ge_aload_n a_X10_next_8 rfl 0 rfl ?_
  refine ge_aload_n a_X10_next_9 rfl 0 rfl ?_
  refine ge_getI a_X10_next_10 fd_X10_246 (rfl : gm_cls 43 = 9) ?_
  refine ge_cVI [.int (h 43 15)] (rest := []) a_X10_next_13 ok_X10_byteAt lk_X10_249 ⟨Nat.le_of_ble_eq_true rfl, Nat.le_of_ble_eq_true rfl⟩ (rfl : gm_cls 43 = 9) vc_9 (by decide) rfl rfl (Nat.le_of_ble_eq_true rfl) (t_X10_byteAt (h 43 15)  h _ hyp) (fun r_3 h_2 hyp => ?_)
  refine ge_bipush (v := 32) a_X10_next_16 rfl ?_
  refine ge_icmp_ne a_X10_next_18 (fun c_4 => ?_) (fun c_4 => ?_)
  · have hyp := gm_in hyp c_4
    refine ge_aload_n a_X10_next_34 rfl 0 rfl ?_
    refine ge_aload_n a_X10_next_35 rfl 0 rfl ?_
    refine ge_getI a_X10_next_36 fd_X10_246 (rfl : gm_cls 43 = 9) ?_
    refine ge_cVI [.int (h_2 43 15)] (rest := []) a_X10_next_39 ok_X10_byteAt lk_X10_249 ⟨Nat.le_of_ble_eq_true rfl, Nat.le_of_ble_eq_true rfl⟩ (rfl : gm_cls 43 = 9) vc_9 (by decide) rfl rfl (Nat.le_of_ble_eq_true rfl) (t_X10_byteAt (h_2 43 15)  h_2 _ hyp) (fun r_6 h_5 hyp => ?_)
    refine ge_istore_n (lv' := [(1, .int r_6), (0, .ref 43)]) a_X10_next_42 rfl (Nat.le_of_ble_eq_true rfl) rfl ?_
    refine ge_aload_n a_X10_next_43 rfl 1 rfl ?_
    refine ge_aload_n a_X10_next_44 rfl 1 rfl ?_
    refine ge_getI a_X10_next_45 fd_X10_246 (rfl : gm_cls 43 = 9) ?_
    refine ge_putI a_X10_next_48 pd_X10_243 (rfl : gm_cls 43 = 9) ?_
    refine ge_nm (fun h_7 eh_7 => ?_)
    have hyp := hyp h_7 eh_7
    refine ge_aload_n a_X10_next_51 rfl 1 rfl ?_
    refine ge_iconst (v := 0) a_X10_next_52 rfl ?_
    refine ge_putI a_X10_next_53 pd_X10_252 (rfl : gm_cls 43 = 9) ?_
    refine ge_nm (fun h_8 eh_8 => ?_)
    have hyp := hyp h_8 eh_8
    refine ge_iload_n a_X10_next_56 rfl 0 rfl ?_
    refine ge_if_ge a_X10_next_57 (fun c_9 => ?_) (fun c_9 => ?_)
    · have hyp := gm_ip hyp c_9
      refine ge_iload_n a_X10_next_68 rfl 0 rfl ?_
      refine ge_bipush (v := 97) a_X10_next_69 rfl ?_
      refine ge_bipush (v := 122) a_X10_next_71 rfl ?_
      refine ge_cSI [.int r_6, .int (97 : Int32), .int (122 : Int32)] (rest := []) a_X10_next_73 ok_X10_within lk_X10_71 ⟨Nat.le_of_ble_eq_true rfl, Nat.le_of_ble_eq_true rfl⟩ rfl rfl (Nat.le_of_ble_eq_true rfl) (t_X10_within r_6 (97 : Int32) (122 : Int32)  h_8 _ hyp) (fun r_11 h_10 hyp => ?_)
      refine ge_if_eq a_X10_next_76 (fun c_12 => ?_) (fun c_12 => ?_)
      · have hyp := gm_ip hyp c_12
        refine ge_iload_n a_X10_next_115 rfl 0 rfl ?_
        refine ge_bipush (v := 48) a_X10_next_116 rfl ?_
        refine ge_bipush (v := 57) a_X10_next_118 rfl ?_
        refine ge_cSI [.int r_6, .int (48 : Int32), .int (57 : Int32)] (rest := []) a_X10_next_120 ok_X10_within lk_X10_71 ⟨Nat.le_of_ble_eq_true rfl, Nat.le_of_ble_eq_true rfl⟩ rfl rfl (Nat.le_of_ble_eq_true rfl) (t_X10_within r_6 (48 : Int32) (57 : Int32)  h_10 _ hyp) (fun r_14 h_13 hyp => ?_)
        refine ge_if_eq a_X10_next_123 (fun c_15 => ?_) (fun c_15 => ?_)
        · have hyp := gm_ip hyp c_15
          refine ge_aload_n a_X10_next_191 rfl 1 rfl ?_
          refine ge_iconst (v := 3) a_X10_next_192 rfl ?_
          refine ge_putI a_X10_next_193 pd_X10_255 (rfl : gm_cls 43 = 9) ?_
          refine ge_nm (fun h_16 eh_16 => ?_)
          have hyp := hyp h_16 eh_16
          refine ge_aload_n a_X10_next_196 rfl 1 rfl ?_
          refine ge_dup a_X10_next_197 rfl ?_
          refine ge_getI a_X10_next_198 fd_X10_243 (rfl : gm_cls 43 = 9) ?_
          refine ge_iconst (v := 1) a_X10_next_201 rfl ?_
          refine ge_iadd a_X10_next_202 ?_
          refine ge_putI a_X10_next_203 pd_X10_243 (rfl : gm_cls 43 = 9) ?_
          refine ge_nm (fun h_17 eh_17 => ?_)
          have hyp := hyp h_17 eh_17
          exact ge_vret rfl a_X10_next_206 hyp
        · have hyp := gm_in hyp c_15
          refine ge_aload_n a_X10_next_126 rfl 1 rfl ?_
          refine ge_iconst (v := 2) a_X10_next_127 rfl ?_
          refine ge_putI a_X10_next_128 pd_X10_255 (rfl : gm_cls 43 = 9) ?_
          refine ge_nm (fun h_18 eh_18 => ?_)
          have hyp := hyp h_18 eh_18
          exact ge_sub [1] rfl (t_X10_next_b131     Q   gm_F  h_18 hyp)
      · have hyp := gm_in hyp c_12
        refine ge_aload_n a_X10_next_79 rfl 1 rfl ?_
        refine ge_iconst (v := 1) a_X10_next_80 rfl ?_
        refine ge_putI a_X10_next_81 pd_X10_255 (rfl : gm_cls 43 = 9) ?_
        refine ge_nm (fun h_29 eh_29 => ?_)
        have hyp := hyp h_29 eh_29
        exact ge_sub [1] rfl (t_X10_next_b84     Q   gm_F  h_29 hyp)
    · have hyp := gm_in hyp c_9
      refine ge_aload_n a_X10_next_60 rfl 1 rfl ?_
      refine ge_iconst (v := 0) a_X10_next_61 rfl ?_
      refine ge_putI a_X10_next_62 pd_X10_255 (rfl : gm_cls 43 = 9) ?_
      refine ge_nm (fun h_36 eh_36 => ?_)
      have hyp := hyp h_36 eh_36
      refine ge_goto a_X10_next_65 ?_
      exact ge_vret rfl a_X10_next_206 hyp
  · have hyp := gm_ip hyp c_4
    refine ge_aload_n a_X10_next_21 rfl 0 rfl ?_
    refine ge_dup a_X10_next_22 rfl ?_
    refine ge_getI a_X10_next_23 fd_X10_246 (rfl : gm_cls 43 = 9) ?_
    refine ge_iconst (v := 1) a_X10_next_26 rfl ?_
    refine ge_iadd a_X10_next_27 ?_
    refine ge_putI a_X10_next_28 pd_X10_246 (rfl : gm_cls 43 = 9) ?_
    refine ge_nm (fun h_37 eh_37 => ?_)
    have hyp := hyp h_37 eh_37
    refine ge_goto a_X10_next_31 ?_
    exact ge_sub [0] rfl (hK8  h_37 hyp)
def f_X10_next  (h : Mem) (Q : Mem → Prop) : Prop :=
  ∀ h_1 : Mem, h_1 = gm_st h 43 15 (h 43 16) →
  gm_it0 (f_X10_next_b8   Q ) gm_F  h_1
set_option maxRecDepth 20000 in
theorem t_X10_next   (h : Mem) (Q : Mem → Prop) (hyp : f_X10_next  h Q) : Cn m_X10_next [.ref 43] h (GV Q) := by
  refine ge_entry (lv := [(0, .ref 43)]) pn_X10 (Nat.le_of_ble_eq_true rfl) rfl ?_
  unfold f_X10_next at hyp
  refine ge_aload_n a_X10_next_0 rfl 0 rfl ?_
  refine ge_aload_n a_X10_next_1 rfl 0 rfl ?_
  refine ge_getI a_X10_next_2 fd_X10_243 (rfl : gm_cls 43 = 9) ?_
  refine ge_putI a_X10_next_5 pd_X10_246 (rfl : gm_cls 43 = 9) ?_
  refine ge_nm (fun h_1 eh_1 => ?_)
  have hyp := hyp h_1 eh_1
  exact ge_sub [0] rfl (t_X10_next_b8     Q   gm_F  h_1 hyp)

theorem a_X10_isWord_0 : At m_X10_isWord 0 (.aload_n 0) 1 1 := at_i (by decide +kernel) rfl
theorem a_X10_isWord_1 : At m_X10_isWord 1 (.getfield 255) 3 4 := at_i (by decide +kernel) rfl
theorem a_X10_isWord_4 : At m_X10_isWord 4 (.iconst 1) 1 5 := at_i (by decide +kernel) rfl
theorem a_X10_isWord_5 : AtJ m_X10_isWord 5 (.if_icmp .ne 23) (23) 28 8 := at_j (by decide +kernel) (by decide) rfl
theorem a_X10_isWord_8 : At m_X10_isWord 8 (.aload_n 0) 1 9 := at_i (by decide +kernel) rfl
theorem a_X10_isWord_9 : At m_X10_isWord 9 (.getfield 243) 3 12 := at_i (by decide +kernel) rfl
theorem a_X10_isWord_12 : At m_X10_isWord 12 (.aload_n 0) 1 13 := at_i (by decide +kernel) rfl
theorem a_X10_isWord_13 : At m_X10_isWord 13 (.getfield 246) 3 16 := at_i (by decide +kernel) rfl
theorem a_X10_isWord_16 : At m_X10_isWord 16 (.isub) 1 17 := at_i (by decide +kernel) rfl
theorem a_X10_isWord_17 : At m_X10_isWord 17 (.aload_n 1) 1 18 := at_i (by decide +kernel) rfl
theorem a_X10_isWord_18 : At m_X10_isWord 18 (.invokevirtual 259) 3 21 := at_i (by decide +kernel) rfl
theorem a_X10_isWord_21 : AtJ m_X10_isWord 21 (.if_icmp .ne 7) (7) 28 24 := at_j (by decide +kernel) (by decide) rfl
theorem a_X10_isWord_24 : At m_X10_isWord 24 (.iconst 1) 1 25 := at_i (by decide +kernel) rfl
theorem a_X10_isWord_25 : AtJ m_X10_isWord 25 (.goto 4) (4) 29 28 := at_j (by decide +kernel) (by decide) rfl
theorem a_X10_isWord_28 : At m_X10_isWord 28 (.iconst 0) 1 29 := at_i (by decide +kernel) rfl
theorem a_X10_isWord_29 : At m_X10_isWord 29 (.istore_n 2) 1 30 := at_i (by decide +kernel) rfl
theorem a_X10_isWord_30 : At m_X10_isWord 30 (.iconst 0) 1 31 := at_i (by decide +kernel) rfl
theorem a_X10_isWord_31 : At m_X10_isWord 31 (.istore_n 3) 1 32 := at_i (by decide +kernel) rfl
theorem a_X10_isWord_32 : At m_X10_isWord 32 (.iload_n 3) 1 33 := at_i (by decide +kernel) rfl
theorem a_X10_isWord_33 : At m_X10_isWord 33 (.aload_n 1) 1 34 := at_i (by decide +kernel) rfl
theorem a_X10_isWord_34 : At m_X10_isWord 34 (.invokevirtual 259) 3 37 := at_i (by decide +kernel) rfl
theorem a_X10_isWord_37 : AtJ m_X10_isWord 37 (.if_icmp .ge 38) (38) 75 40 := at_j (by decide +kernel) (by decide) rfl
theorem a_X10_isWord_40 : At m_X10_isWord 40 (.iload_n 2) 1 41 := at_i (by decide +kernel) rfl
theorem a_X10_isWord_41 : AtJ m_X10_isWord 41 (.ifCond .eq 34) (34) 75 44 := at_j (by decide +kernel) (by decide) rfl
theorem a_X10_isWord_44 : At m_X10_isWord 44 (.aload_n 0) 1 45 := at_i (by decide +kernel) rfl
theorem a_X10_isWord_45 : At m_X10_isWord 45 (.getfield 28) 3 48 := at_i (by decide +kernel) rfl
theorem a_X10_isWord_48 : At m_X10_isWord 48 (.aload_n 0) 1 49 := at_i (by decide +kernel) rfl
theorem a_X10_isWord_49 : At m_X10_isWord 49 (.getfield 246) 3 52 := at_i (by decide +kernel) rfl
theorem a_X10_isWord_52 : At m_X10_isWord 52 (.iload_n 3) 1 53 := at_i (by decide +kernel) rfl
theorem a_X10_isWord_53 : At m_X10_isWord 53 (.iadd) 1 54 := at_i (by decide +kernel) rfl
theorem a_X10_isWord_54 : At m_X10_isWord 54 (.iaload) 1 55 := at_i (by decide +kernel) rfl
theorem a_X10_isWord_55 : At m_X10_isWord 55 (.aload_n 1) 1 56 := at_i (by decide +kernel) rfl
theorem a_X10_isWord_56 : At m_X10_isWord 56 (.iload_n 3) 1 57 := at_i (by decide +kernel) rfl
theorem a_X10_isWord_57 : At m_X10_isWord 57 (.invokevirtual 262) 3 60 := at_i (by decide +kernel) rfl
theorem a_X10_isWord_60 : AtJ m_X10_isWord 60 (.if_icmp .ne 7) (7) 67 63 := at_j (by decide +kernel) (by decide) rfl
theorem a_X10_isWord_63 : At m_X10_isWord 63 (.iconst 1) 1 64 := at_i (by decide +kernel) rfl
theorem a_X10_isWord_64 : AtJ m_X10_isWord 64 (.goto 4) (4) 68 67 := at_j (by decide +kernel) (by decide) rfl
theorem a_X10_isWord_67 : At m_X10_isWord 67 (.iconst 0) 1 68 := at_i (by decide +kernel) rfl
theorem a_X10_isWord_68 : At m_X10_isWord 68 (.istore_n 2) 1 69 := at_i (by decide +kernel) rfl
theorem a_X10_isWord_69 : At m_X10_isWord 69 (.iinc 3 1) 3 72 := at_i (by decide +kernel) rfl
theorem a_X10_isWord_72 : AtJ m_X10_isWord 72 (.goto (-40)) (-40) 32 75 := at_j (by decide +kernel) (by decide) rfl
theorem a_X10_isWord_75 : At m_X10_isWord 75 (.iload_n 2) 1 76 := at_i (by decide +kernel) rfl
theorem a_X10_isWord_76 : At m_X10_isWord 76 (.ireturn) 1 77 := at_i (by decide +kernel) rfl
def f_X10_isWord_b32 (i1 : Nat)  (Q : Int32 → Mem → Prop)  (K32 : Int32 → Int32 → Mem → Prop) (v2 : Int32) (v3 : Int32) (h : Mem) : Prop :=
  f_J0_length_8abf5 i1 h fun r_3 h_2 =>
  if r_3 ≤ v3 then (
    gm_b v2 ∧ Q v2 h_2)
  else (
    if v2 = 0 then (
      gm_b v2 ∧ Q v2 h_2)
    else (
      vp_in ((h_2 43 15) + v3) 120 ∧
      f_J0_charAt_5068e i1 v3 h_2 fun r_8 h_7 =>
      if h_2 50 (((h_2 43 15) + v3).toNatClampNeg) = r_8 then (
        ∀ v_11 : Int32, v_11 = v3 + (1 : Int32) →
        K32 (1 : Int32) v_11 h_7)
      else (
        ∀ v_10 : Int32, v_10 = v3 + (1 : Int32) →
        K32 (0 : Int32) v_10 h_7)))
set_option maxRecDepth 20000 in
theorem t_X10_isWord_b32 (i1 : Nat)  (hi1 : i1 < 17)  (Q : Int32 → Mem → Prop)   : ∀ (n : Nat) (v2 : Int32) (v3 : Int32) (h : Mem), gm_it2 (f_X10_isWord_b32 i1  Q ) n v2 v3 h → EV m_X10_isWord (GI Q) 32 [(0, .ref 43), (1, .ref (100 + i1)), (2, .int v2), (3, .int v3)] [] h := by
  refine ge_loop2 (P := fun v2 v3 h => EV m_X10_isWord (GI Q) 32 [(0, .ref 43), (1, .ref (100 + i1)), (2, .int v2), (3, .int v3)] [] h) (fun K32 hK32 v2 v3 h hyp => ?_)
  unfold f_X10_isWord_b32 at hyp
  refine ge_iload_n a_X10_isWord_32 rfl 3 rfl ?_
  refine ge_aload_n a_X10_isWord_33 rfl 1 rfl ?_
  refine ge_cTI [] (rest := [.int v3]) a_X10_isWord_34 ok_J0_length_8abf5 rfl lk_X10_259 ⟨Nat.le_of_ble_eq_true rfl, Nat.le_of_ble_eq_true rfl⟩ hi1 rfl rfl (Nat.le_of_ble_eq_true rfl) (t_J0_length_8abf5 i1 hi1 h _ hyp) (fun r_3 h_2 hyp => ?_)
  refine ge_icmp_ge a_X10_isWord_37 (fun c_4 => ?_) (fun c_4 => ?_)
  · have hyp := gm_ip hyp c_4
    refine ge_iload_n a_X10_isWord_75 rfl 2 rfl ?_
    exact ge_zret rfl (gm_b_nar hyp.1) a_X10_isWord_76 hyp.2
  · have hyp := gm_in hyp c_4
    refine ge_iload_n a_X10_isWord_40 rfl 2 rfl ?_
    refine ge_if_eq a_X10_isWord_41 (fun c_5 => ?_) (fun c_5 => ?_)
    · have hyp := gm_ip hyp c_5
      refine ge_iload_n a_X10_isWord_75 rfl 2 rfl ?_
      exact ge_zret rfl (gm_b_nar hyp.1) a_X10_isWord_76 hyp.2
    · have hyp := gm_in hyp c_5
      refine ge_aload_n a_X10_isWord_44 rfl 0 rfl ?_
      refine ge_getR (q := 50) a_X10_isWord_45 fd_X10_28 (rfl : gm_cls 43 = 9) rfl ?_
      refine ge_aload_n a_X10_isWord_48 rfl 0 rfl ?_
      refine ge_getI a_X10_isWord_49 fd_X10_246 (rfl : gm_cls 43 = 9) ?_
      refine ge_iload_n a_X10_isWord_52 rfl 3 rfl ?_
      refine ge_iadd a_X10_isWord_53 ?_
      obtain ⟨b_6, hyp⟩ := hyp
      refine ge_iald (j := ((h_2 43 15) + v3).toNatClampNeg) a_X10_isWord_54 ga_50 b_6 rfl ?_
      refine ge_aload_n a_X10_isWord_55 rfl 1 rfl ?_
      refine ge_iload_n a_X10_isWord_56 rfl 3 rfl ?_
      refine ge_cTI [.int v3] (rest := [.int (h_2 50 (((h_2 43 15) + v3).toNatClampNeg))]) a_X10_isWord_57 ok_J0_charAt_5068e rfl lk_X10_262 ⟨Nat.le_of_ble_eq_true rfl, Nat.le_of_ble_eq_true rfl⟩ hi1 rfl rfl (Nat.le_of_ble_eq_true rfl) (t_J0_charAt_5068e i1 v3 hi1 h_2 _ hyp) (fun r_8 h_7 hyp => ?_)
      refine ge_icmp_ne a_X10_isWord_60 (fun c_9 => ?_) (fun c_9 => ?_)
      · have hyp := gm_in hyp c_9
        refine ge_iconst (v := 0) a_X10_isWord_67 rfl ?_
        refine ge_istore_n (lv' := [(2, .int (0 : Int32)), (0, .ref 43), (1, .ref (100 + i1)), (3, .int v3)]) a_X10_isWord_68 rfl (Nat.le_of_ble_eq_true rfl) rfl ?_
        obtain ⟨v_10, ev_10⟩ : ∃ y : Int32, y = v3 + (1 : Int32) := ⟨_, rfl⟩
        have hyp := hyp v_10 ev_10
        refine ge_iinc (v := v_10) (lv' := [(3, .int v_10), (2, .int (0 : Int32)), (0, .ref 43), (1, .ref (100 + i1))]) a_X10_isWord_69 3 rfl ev_10.symm (Nat.le_of_ble_eq_true rfl) rfl ?_
        refine ge_goto a_X10_isWord_72 ?_
        exact ge_sub [2, 3, 1, 0] rfl (hK32 (0 : Int32) v_10 h_7 hyp)
      · have hyp := gm_ip hyp c_9
        refine ge_iconst (v := 1) a_X10_isWord_63 rfl ?_
        refine ge_goto a_X10_isWord_64 ?_
        refine ge_istore_n (lv' := [(2, .int (1 : Int32)), (0, .ref 43), (1, .ref (100 + i1)), (3, .int v3)]) a_X10_isWord_68 rfl (Nat.le_of_ble_eq_true rfl) rfl ?_
        obtain ⟨v_11, ev_11⟩ : ∃ y : Int32, y = v3 + (1 : Int32) := ⟨_, rfl⟩
        have hyp := hyp v_11 ev_11
        refine ge_iinc (v := v_11) (lv' := [(3, .int v_11), (2, .int (1 : Int32)), (0, .ref 43), (1, .ref (100 + i1))]) a_X10_isWord_69 3 rfl ev_11.symm (Nat.le_of_ble_eq_true rfl) rfl ?_
        refine ge_goto a_X10_isWord_72 ?_
        exact ge_sub [2, 3, 1, 0] rfl (hK32 (1 : Int32) v_11 h_7 hyp)
def f_X10_isWord (i1 : Nat) (h : Mem) (Q : Int32 → Mem → Prop) : Prop :=
  if h 43 17 = (1 : Int32) then (
    f_J0_length_8abf5 i1 h fun r_13 h_12 =>
    if (h 43 16) - (h 43 15) = r_13 then (
      gm_it2 (f_X10_isWord_b32 i1  Q ) gm_F (1 : Int32) (0 : Int32) h_12)
    else (
      gm_it2 (f_X10_isWord_b32 i1  Q ) gm_F (0 : Int32) (0 : Int32) h_12))
  else (
    gm_it2 (f_X10_isWord_b32 i1  Q ) gm_F (0 : Int32) (0 : Int32) h)
set_option maxRecDepth 20000 in
theorem t_X10_isWord (i1 : Nat) (hi1 : i1 < 17) (h : Mem) (Q : Int32 → Mem → Prop) (hyp : f_X10_isWord i1 h Q) : Cn m_X10_isWord [.ref 43, .ref (100 + i1)] h (GI Q) := by
  refine ge_entry (lv := [(0, .ref 43), (1, .ref (100 + i1))]) pn_X10 (Nat.le_of_ble_eq_true rfl) rfl ?_
  unfold f_X10_isWord at hyp
  refine ge_aload_n a_X10_isWord_0 rfl 0 rfl ?_
  refine ge_getI a_X10_isWord_1 fd_X10_255 (rfl : gm_cls 43 = 9) ?_
  refine ge_iconst (v := 1) a_X10_isWord_4 rfl ?_
  refine ge_icmp_ne a_X10_isWord_5 (fun c_1 => ?_) (fun c_1 => ?_)
  · have hyp := gm_in hyp c_1
    refine ge_iconst (v := 0) a_X10_isWord_28 rfl ?_
    refine ge_istore_n (lv' := [(2, .int (0 : Int32)), (0, .ref 43), (1, .ref (100 + i1))]) a_X10_isWord_29 rfl (Nat.le_of_ble_eq_true rfl) rfl ?_
    refine ge_iconst (v := 0) a_X10_isWord_30 rfl ?_
    refine ge_istore_n (lv' := [(3, .int (0 : Int32)), (2, .int (0 : Int32)), (0, .ref 43), (1, .ref (100 + i1))]) a_X10_isWord_31 rfl (Nat.le_of_ble_eq_true rfl) rfl ?_
    exact ge_sub [2, 3, 1, 0] rfl (t_X10_isWord_b32 i1  hi1  Q   gm_F (0 : Int32) (0 : Int32) h hyp)
  · have hyp := gm_ip hyp c_1
    refine ge_aload_n a_X10_isWord_8 rfl 0 rfl ?_
    refine ge_getI a_X10_isWord_9 fd_X10_243 (rfl : gm_cls 43 = 9) ?_
    refine ge_aload_n a_X10_isWord_12 rfl 0 rfl ?_
    refine ge_getI a_X10_isWord_13 fd_X10_246 (rfl : gm_cls 43 = 9) ?_
    refine ge_isub a_X10_isWord_16 ?_
    refine ge_aload_n a_X10_isWord_17 rfl 1 rfl ?_
    refine ge_cTI [] (rest := [.int ((h 43 16) - (h 43 15))]) a_X10_isWord_18 ok_J0_length_8abf5 rfl lk_X10_259 ⟨Nat.le_of_ble_eq_true rfl, Nat.le_of_ble_eq_true rfl⟩ hi1 rfl rfl (Nat.le_of_ble_eq_true rfl) (t_J0_length_8abf5 i1 hi1 h _ hyp) (fun r_13 h_12 hyp => ?_)
    refine ge_icmp_ne a_X10_isWord_21 (fun c_14 => ?_) (fun c_14 => ?_)
    · have hyp := gm_in hyp c_14
      refine ge_iconst (v := 0) a_X10_isWord_28 rfl ?_
      refine ge_istore_n (lv' := [(2, .int (0 : Int32)), (0, .ref 43), (1, .ref (100 + i1))]) a_X10_isWord_29 rfl (Nat.le_of_ble_eq_true rfl) rfl ?_
      refine ge_iconst (v := 0) a_X10_isWord_30 rfl ?_
      refine ge_istore_n (lv' := [(3, .int (0 : Int32)), (2, .int (0 : Int32)), (0, .ref 43), (1, .ref (100 + i1))]) a_X10_isWord_31 rfl (Nat.le_of_ble_eq_true rfl) rfl ?_
      exact ge_sub [2, 3, 1, 0] rfl (t_X10_isWord_b32 i1  hi1  Q   gm_F (0 : Int32) (0 : Int32) h_12 hyp)
    · have hyp := gm_ip hyp c_14
      refine ge_iconst (v := 1) a_X10_isWord_24 rfl ?_
      refine ge_goto a_X10_isWord_25 ?_
      refine ge_istore_n (lv' := [(2, .int (1 : Int32)), (0, .ref 43), (1, .ref (100 + i1))]) a_X10_isWord_29 rfl (Nat.le_of_ble_eq_true rfl) rfl ?_
      refine ge_iconst (v := 0) a_X10_isWord_30 rfl ?_
      refine ge_istore_n (lv' := [(3, .int (0 : Int32)), (2, .int (1 : Int32)), (0, .ref 43), (1, .ref (100 + i1))]) a_X10_isWord_31 rfl (Nat.le_of_ble_eq_true rfl) rfl ?_
      exact ge_sub [2, 3, 1, 0] rfl (t_X10_isWord_b32 i1  hi1  Q   gm_F (1 : Int32) (0 : Int32) h_12 hyp)

theorem a_X10_must_0 : At m_X10_must 0 (.aload_n 0) 1 1 := at_i (by decide +kernel) rfl
theorem a_X10_must_1 : At m_X10_must 1 (.aload_n 0) 1 2 := at_i (by decide +kernel) rfl
theorem a_X10_must_2 : At m_X10_must 2 (.getfield 266) 3 5 := at_i (by decide +kernel) rfl
theorem a_X10_must_5 : AtJ m_X10_must 5 (.ifCond .ne 7) (7) 12 8 := at_j (by decide +kernel) (by decide) rfl
theorem a_X10_must_8 : At m_X10_must 8 (.iload_n 1) 1 9 := at_i (by decide +kernel) rfl
theorem a_X10_must_9 : AtJ m_X10_must 9 (.ifCond .ne 7) (7) 16 12 := at_j (by decide +kernel) (by decide) rfl
theorem a_X10_must_12 : At m_X10_must 12 (.iconst 1) 1 13 := at_i (by decide +kernel) rfl
theorem a_X10_must_13 : AtJ m_X10_must 13 (.goto 4) (4) 17 16 := at_j (by decide +kernel) (by decide) rfl
theorem a_X10_must_16 : At m_X10_must 16 (.iconst 0) 1 17 := at_i (by decide +kernel) rfl
theorem a_X10_must_17 : At m_X10_must 17 (.putfield 266) 3 20 := at_i (by decide +kernel) rfl
theorem a_X10_must_20 : At m_X10_must 20 (.aload_n 0) 1 21 := at_i (by decide +kernel) rfl
theorem a_X10_must_21 : At m_X10_must 21 (.getfield 266) 3 24 := at_i (by decide +kernel) rfl
theorem a_X10_must_24 : AtJ m_X10_must 24 (.ifCond .ne 7) (7) 31 27 := at_j (by decide +kernel) (by decide) rfl
theorem a_X10_must_27 : At m_X10_must 27 (.aload_n 0) 1 28 := at_i (by decide +kernel) rfl
theorem a_X10_must_28 : At m_X10_must 28 (.invokevirtual 270) 3 31 := at_i (by decide +kernel) rfl
theorem a_X10_must_31 : At m_X10_must 31 (.return_) 1 32 := at_i (by decide +kernel) rfl
def f_X10_must_b17 (a1 : Int32)  (Q : Mem → Prop)  (s0 : Int32) (h : Mem) : Prop :=
  gm_b s0 ∧
  ∀ h_2 : Mem, h_2 = gm_st h 43 19 s0 →
  if h_2 43 19 = 0 then (
    f_X10_next  h_2 fun h_5 =>
    Q h_5)
  else (
    Q h_2)
set_option maxRecDepth 20000 in
theorem t_X10_must_b17 (a1 : Int32)    (Q : Mem → Prop)   (s0 : Int32) (h : Mem) (hyp : f_X10_must_b17 a1  Q  s0 h) : EV m_X10_must (GV Q) 17 [(0, .ref 43)] [.int s0, .ref 43] h := by
  unfold f_X10_must_b17 at hyp
  obtain ⟨z_3, hyp⟩ := hyp
  refine ge_putZ a_X10_must_17 pd_X10_266 (rfl : gm_cls 43 = 9) z_3 ?_
  refine ge_nm (fun h_2 eh_2 => ?_)
  have hyp := hyp h_2 eh_2
  refine ge_aload_n a_X10_must_20 rfl 0 rfl ?_
  refine ge_getI a_X10_must_21 fd_X10_266 (rfl : gm_cls 43 = 9) ?_
  refine ge_if_ne a_X10_must_24 (fun c_4 => ?_) (fun c_4 => ?_)
  · have hyp := gm_in hyp c_4
    exact ge_vret rfl a_X10_must_31 hyp
  · have hyp := gm_ip hyp c_4
    refine ge_aload_n a_X10_must_27 rfl 0 rfl ?_
    refine ge_cVV [] (rest := []) a_X10_must_28 ok_X10_next lk_X10_270 ⟨Nat.le_of_ble_eq_true rfl, Nat.le_of_ble_eq_true rfl⟩ (rfl : gm_cls 43 = 9) vc_9 (by decide) rfl rfl (Nat.le_of_ble_eq_true rfl) (t_X10_next   h_2 _ hyp) (fun h_5 hyp => ?_)
    exact ge_vret rfl a_X10_must_31 hyp
def f_X10_must_b12 (a1 : Int32)  (Q : Mem → Prop)   (h : Mem) : Prop :=
  f_X10_must_b17 a1  Q  (1 : Int32) h
set_option maxRecDepth 20000 in
theorem t_X10_must_b12 (a1 : Int32)    (Q : Mem → Prop)    (h : Mem) (hyp : f_X10_must_b12 a1  Q   h) : EV m_X10_must (GV Q) 12 [(0, .ref 43)] [.ref 43] h := by
  unfold f_X10_must_b12 at hyp
  refine ge_iconst (v := 1) a_X10_must_12 rfl ?_
  refine ge_goto a_X10_must_13 ?_
  exact ge_sub [0] rfl (t_X10_must_b17 a1    Q   (1 : Int32) h hyp)
def f_X10_must (a1 : Int32) (h : Mem) (Q : Mem → Prop) : Prop :=
  if h 43 19 = 0 then (
    if a1 = 0 then (
      f_X10_must_b12 a1  Q   h)
    else (
      f_X10_must_b17 a1  Q  (0 : Int32) h))
  else (
    f_X10_must_b12 a1  Q   h)
set_option maxRecDepth 20000 in
theorem t_X10_must (a1 : Int32)  (h : Mem) (Q : Mem → Prop) (hyp : f_X10_must a1 h Q) : Cn m_X10_must [.ref 43, .int a1] h (GV Q) := by
  refine ge_entry (lv := [(0, .ref 43), (1, .int a1)]) pn_X10 (Nat.le_of_ble_eq_true rfl) rfl ?_
  unfold f_X10_must at hyp
  refine ge_aload_n a_X10_must_0 rfl 0 rfl ?_
  refine ge_aload_n a_X10_must_1 rfl 0 rfl ?_
  refine ge_getI a_X10_must_2 fd_X10_266 (rfl : gm_cls 43 = 9) ?_
  refine ge_if_ne a_X10_must_5 (fun c_1 => ?_) (fun c_1 => ?_)
  · have hyp := gm_in hyp c_1
    exact ge_sub [0] rfl (t_X10_must_b12 a1    Q    h hyp)
  · have hyp := gm_ip hyp c_1
    refine ge_iload_n a_X10_must_8 rfl 1 rfl ?_
    refine ge_if_ne a_X10_must_9 (fun c_6 => ?_) (fun c_6 => ?_)
    · have hyp := gm_in hyp c_6
      refine ge_iconst (v := 0) a_X10_must_16 rfl ?_
      exact ge_sub [0] rfl (t_X10_must_b17 a1    Q   (0 : Int32) h hyp)
    · have hyp := gm_ip hyp c_6
      exact ge_sub [0] rfl (t_X10_must_b12 a1    Q    h hyp)

theorem a_X10_number_0 : At m_X10_number 0 (.aload_n 0) 1 1 := at_i (by decide +kernel) rfl
theorem a_X10_number_1 : At m_X10_number 1 (.getfield 252) 3 4 := at_i (by decide +kernel) rfl
theorem a_X10_number_4 : At m_X10_number 4 (.istore_n 3) 1 5 := at_i (by decide +kernel) rfl
theorem a_X10_number_5 : At m_X10_number 5 (.aload_n 0) 1 6 := at_i (by decide +kernel) rfl
theorem a_X10_number_6 : At m_X10_number 6 (.aload_n 0) 1 7 := at_i (by decide +kernel) rfl
theorem a_X10_number_7 : At m_X10_number 7 (.getfield 255) 3 10 := at_i (by decide +kernel) rfl
theorem a_X10_number_10 : At m_X10_number 10 (.iconst 2) 1 11 := at_i (by decide +kernel) rfl
theorem a_X10_number_11 : AtJ m_X10_number 11 (.if_icmp .ne 16) (16) 27 14 := at_j (by decide +kernel) (by decide) rfl
theorem a_X10_number_14 : At m_X10_number 14 (.iload_n 3) 1 15 := at_i (by decide +kernel) rfl
theorem a_X10_number_15 : At m_X10_number 15 (.iload_n 1) 1 16 := at_i (by decide +kernel) rfl
theorem a_X10_number_16 : At m_X10_number 16 (.iload_n 2) 1 17 := at_i (by decide +kernel) rfl
theorem a_X10_number_17 : At m_X10_number 17 (.invokestatic 71) 3 20 := at_i (by decide +kernel) rfl
theorem a_X10_number_20 : AtJ m_X10_number 20 (.ifCond .eq 7) (7) 27 23 := at_j (by decide +kernel) (by decide) rfl
theorem a_X10_number_23 : At m_X10_number 23 (.iconst 1) 1 24 := at_i (by decide +kernel) rfl
theorem a_X10_number_24 : AtJ m_X10_number 24 (.goto 4) (4) 28 27 := at_j (by decide +kernel) (by decide) rfl
theorem a_X10_number_27 : At m_X10_number 27 (.iconst 0) 1 28 := at_i (by decide +kernel) rfl
theorem a_X10_number_28 : At m_X10_number 28 (.invokevirtual 273) 3 31 := at_i (by decide +kernel) rfl
theorem a_X10_number_31 : At m_X10_number 31 (.iload_n 3) 1 32 := at_i (by decide +kernel) rfl
theorem a_X10_number_32 : At m_X10_number 32 (.ireturn) 1 33 := at_i (by decide +kernel) rfl
def f_X10_number (a1 : Int32) (a2 : Int32) (h : Mem) (Q : Int32 → Mem → Prop) : Prop :=
  ∀ v_1 : Int32, v_1 = h 43 18 →
  if h 43 17 = (2 : Int32) then (
    f_X10_within v_1 a1 a2 h fun r_5 h_4 =>
    if r_5 = 0 then (
      f_X10_must (0 : Int32) h_4 fun h_7 =>
      Q v_1 h_7)
    else (
      f_X10_must (1 : Int32) h_4 fun h_8 =>
      Q v_1 h_8))
  else (
    f_X10_must (0 : Int32) h fun h_3 =>
    Q v_1 h_3)
set_option maxRecDepth 20000 in
theorem t_X10_number (a1 : Int32) (a2 : Int32)  (h : Mem) (Q : Int32 → Mem → Prop) (hyp : f_X10_number a1 a2 h Q) : Cn m_X10_number [.ref 43, .int a1, .int a2] h (GI Q) := by
  refine ge_entry (lv := [(0, .ref 43), (1, .int a1), (2, .int a2)]) pn_X10 (Nat.le_of_ble_eq_true rfl) rfl ?_
  unfold f_X10_number at hyp
  refine ge_aload_n a_X10_number_0 rfl 0 rfl ?_
  refine ge_getI a_X10_number_1 fd_X10_252 (rfl : gm_cls 43 = 9) ?_
  refine ge_topi (fun v_1 ev_1 => ?_)
  have hyp := hyp v_1 ev_1
  refine ge_istore_n (lv' := [(3, .int v_1), (0, .ref 43), (1, .int a1), (2, .int a2)]) a_X10_number_4 rfl (Nat.le_of_ble_eq_true rfl) rfl ?_
  refine ge_aload_n a_X10_number_5 rfl 1 rfl ?_
  refine ge_aload_n a_X10_number_6 rfl 1 rfl ?_
  refine ge_getI a_X10_number_7 fd_X10_255 (rfl : gm_cls 43 = 9) ?_
  refine ge_iconst (v := 2) a_X10_number_10 rfl ?_
  refine ge_icmp_ne a_X10_number_11 (fun c_2 => ?_) (fun c_2 => ?_)
  · have hyp := gm_in hyp c_2
    refine ge_iconst (v := 0) a_X10_number_27 rfl ?_
    refine ge_cVV [.int (0 : Int32)] (rest := []) a_X10_number_28 ok_X10_must lk_X10_273 ⟨Nat.le_of_ble_eq_true rfl, Nat.le_of_ble_eq_true rfl⟩ (rfl : gm_cls 43 = 9) vc_9 (by decide) rfl rfl (Nat.le_of_ble_eq_true rfl) (t_X10_must (0 : Int32)  h _ hyp) (fun h_3 hyp => ?_)
    refine ge_iload_n a_X10_number_31 rfl 0 rfl ?_
    exact ge_iret rfl a_X10_number_32 hyp
  · have hyp := gm_ip hyp c_2
    refine ge_iload_n a_X10_number_14 rfl 0 rfl ?_
    refine ge_iload_n a_X10_number_15 rfl 2 rfl ?_
    refine ge_iload_n a_X10_number_16 rfl 3 rfl ?_
    refine ge_cSI [.int v_1, .int a1, .int a2] (rest := [.ref 43]) a_X10_number_17 ok_X10_within lk_X10_71 ⟨Nat.le_of_ble_eq_true rfl, Nat.le_of_ble_eq_true rfl⟩ rfl rfl (Nat.le_of_ble_eq_true rfl) (t_X10_within v_1 a1 a2  h _ hyp) (fun r_5 h_4 hyp => ?_)
    refine ge_if_eq a_X10_number_20 (fun c_6 => ?_) (fun c_6 => ?_)
    · have hyp := gm_ip hyp c_6
      refine ge_iconst (v := 0) a_X10_number_27 rfl ?_
      refine ge_cVV [.int (0 : Int32)] (rest := []) a_X10_number_28 ok_X10_must lk_X10_273 ⟨Nat.le_of_ble_eq_true rfl, Nat.le_of_ble_eq_true rfl⟩ (rfl : gm_cls 43 = 9) vc_9 (by decide) rfl rfl (Nat.le_of_ble_eq_true rfl) (t_X10_must (0 : Int32)  h_4 _ hyp) (fun h_7 hyp => ?_)
      refine ge_iload_n a_X10_number_31 rfl 0 rfl ?_
      exact ge_iret rfl a_X10_number_32 hyp
    · have hyp := gm_in hyp c_6
      refine ge_iconst (v := 1) a_X10_number_23 rfl ?_
      refine ge_goto a_X10_number_24 ?_
      refine ge_cVV [.int (1 : Int32)] (rest := []) a_X10_number_28 ok_X10_must lk_X10_273 ⟨Nat.le_of_ble_eq_true rfl, Nat.le_of_ble_eq_true rfl⟩ (rfl : gm_cls 43 = 9) vc_9 (by decide) rfl rfl (Nat.le_of_ble_eq_true rfl) (t_X10_must (1 : Int32)  h_4 _ hyp) (fun h_8 hyp => ?_)
      refine ge_iload_n a_X10_number_31 rfl 0 rfl ?_
      exact ge_iret rfl a_X10_number_32 hyp

theorem a_X10_item_0 : At m_X10_item 0 (.iconst 4) 1 1 := at_i (by decide +kernel) rfl
theorem a_X10_item_1 : At m_X10_item 1 (.aload_n 0) 1 2 := at_i (by decide +kernel) rfl
theorem a_X10_item_2 : At m_X10_item 2 (.getfield 277) 3 5 := at_i (by decide +kernel) rfl
theorem a_X10_item_5 : At m_X10_item 5 (.imul) 1 6 := at_i (by decide +kernel) rfl
theorem a_X10_item_6 : At m_X10_item 6 (.istore 5) 2 8 := at_i (by decide +kernel) rfl
theorem a_X10_item_8 : At m_X10_item 8 (.aload_n 0) 1 9 := at_i (by decide +kernel) rfl
theorem a_X10_item_9 : At m_X10_item 9 (.getfield 51) 3 12 := at_i (by decide +kernel) rfl
theorem a_X10_item_12 : At m_X10_item 12 (.iload 5) 2 14 := at_i (by decide +kernel) rfl
theorem a_X10_item_14 : At m_X10_item 14 (.iload_n 1) 1 15 := at_i (by decide +kernel) rfl
theorem a_X10_item_15 : At m_X10_item 15 (.iastore) 1 16 := at_i (by decide +kernel) rfl
theorem a_X10_item_16 : At m_X10_item 16 (.aload_n 0) 1 17 := at_i (by decide +kernel) rfl
theorem a_X10_item_17 : At m_X10_item 17 (.getfield 51) 3 20 := at_i (by decide +kernel) rfl
theorem a_X10_item_20 : At m_X10_item 20 (.iload 5) 2 22 := at_i (by decide +kernel) rfl
theorem a_X10_item_22 : At m_X10_item 22 (.iconst 1) 1 23 := at_i (by decide +kernel) rfl
theorem a_X10_item_23 : At m_X10_item 23 (.iadd) 1 24 := at_i (by decide +kernel) rfl
theorem a_X10_item_24 : At m_X10_item 24 (.iload_n 2) 1 25 := at_i (by decide +kernel) rfl
theorem a_X10_item_25 : At m_X10_item 25 (.iastore) 1 26 := at_i (by decide +kernel) rfl
theorem a_X10_item_26 : At m_X10_item 26 (.aload_n 0) 1 27 := at_i (by decide +kernel) rfl
theorem a_X10_item_27 : At m_X10_item 27 (.getfield 51) 3 30 := at_i (by decide +kernel) rfl
theorem a_X10_item_30 : At m_X10_item 30 (.iload 5) 2 32 := at_i (by decide +kernel) rfl
theorem a_X10_item_32 : At m_X10_item 32 (.iconst 2) 1 33 := at_i (by decide +kernel) rfl
theorem a_X10_item_33 : At m_X10_item 33 (.iadd) 1 34 := at_i (by decide +kernel) rfl
theorem a_X10_item_34 : At m_X10_item 34 (.iload_n 3) 1 35 := at_i (by decide +kernel) rfl
theorem a_X10_item_35 : At m_X10_item 35 (.iastore) 1 36 := at_i (by decide +kernel) rfl
theorem a_X10_item_36 : At m_X10_item 36 (.aload_n 0) 1 37 := at_i (by decide +kernel) rfl
theorem a_X10_item_37 : At m_X10_item 37 (.getfield 51) 3 40 := at_i (by decide +kernel) rfl
theorem a_X10_item_40 : At m_X10_item 40 (.iload 5) 2 42 := at_i (by decide +kernel) rfl
theorem a_X10_item_42 : At m_X10_item 42 (.iconst 3) 1 43 := at_i (by decide +kernel) rfl
theorem a_X10_item_43 : At m_X10_item 43 (.iadd) 1 44 := at_i (by decide +kernel) rfl
theorem a_X10_item_44 : At m_X10_item 44 (.iload 4) 2 46 := at_i (by decide +kernel) rfl
theorem a_X10_item_46 : At m_X10_item 46 (.iastore) 1 47 := at_i (by decide +kernel) rfl
theorem a_X10_item_47 : At m_X10_item 47 (.aload_n 0) 1 48 := at_i (by decide +kernel) rfl
theorem a_X10_item_48 : At m_X10_item 48 (.dup) 1 49 := at_i (by decide +kernel) rfl
theorem a_X10_item_49 : At m_X10_item 49 (.getfield 277) 3 52 := at_i (by decide +kernel) rfl
theorem a_X10_item_52 : At m_X10_item 52 (.iconst 1) 1 53 := at_i (by decide +kernel) rfl
theorem a_X10_item_53 : At m_X10_item 53 (.iadd) 1 54 := at_i (by decide +kernel) rfl
theorem a_X10_item_54 : At m_X10_item 54 (.putfield 277) 3 57 := at_i (by decide +kernel) rfl
theorem a_X10_item_57 : At m_X10_item 57 (.return_) 1 58 := at_i (by decide +kernel) rfl
def f_X10_item (a1 : Int32) (a2 : Int32) (a3 : Int32) (a4 : Int32) (h : Mem) (Q : Mem → Prop) : Prop :=
  ∀ v_1 : Int32, v_1 = (4 : Int32) * (h 43 22) →
  vp_in v_1 480 ∧
  ∀ h_3 : Mem, h_3 = gm_st h 52 v_1.toNatClampNeg a1 →
  vp_in (v_1 + (1 : Int32)) 480 ∧
  ∀ h_5 : Mem, h_5 = gm_st h_3 52 ((v_1 + (1 : Int32)).toNatClampNeg) a2 →
  vp_in (v_1 + (2 : Int32)) 480 ∧
  ∀ h_7 : Mem, h_7 = gm_st h_5 52 ((v_1 + (2 : Int32)).toNatClampNeg) a3 →
  vp_in (v_1 + (3 : Int32)) 480 ∧
  ∀ h_9 : Mem, h_9 = gm_st h_7 52 ((v_1 + (3 : Int32)).toNatClampNeg) a4 →
  ∀ h_10 : Mem, h_10 = gm_st h_9 43 22 ((h_9 43 22) + (1 : Int32)) →
  Q h_10
set_option maxRecDepth 20000 in
theorem t_X10_item (a1 : Int32) (a2 : Int32) (a3 : Int32) (a4 : Int32)  (h : Mem) (Q : Mem → Prop) (hyp : f_X10_item a1 a2 a3 a4 h Q) : Cn m_X10_item [.ref 43, .int a1, .int a2, .int a3, .int a4] h (GV Q) := by
  refine ge_entry (lv := [(0, .ref 43), (1, .int a1), (2, .int a2), (3, .int a3), (4, .int a4)]) pn_X10 (Nat.le_of_ble_eq_true rfl) rfl ?_
  unfold f_X10_item at hyp
  refine ge_iconst (v := 4) a_X10_item_0 rfl ?_
  refine ge_aload_n a_X10_item_1 rfl 0 rfl ?_
  refine ge_getI a_X10_item_2 fd_X10_277 (rfl : gm_cls 43 = 9) ?_
  refine ge_imul a_X10_item_5 ?_
  refine ge_topi (fun v_1 ev_1 => ?_)
  have hyp := hyp v_1 ev_1
  refine ge_istore (lv' := [(5, .int v_1), (0, .ref 43), (1, .int a1), (2, .int a2), (3, .int a3), (4, .int a4)]) a_X10_item_6 (Nat.le_of_ble_eq_true rfl) rfl ?_
  refine ge_aload_n a_X10_item_8 rfl 1 rfl ?_
  refine ge_getR (q := 52) a_X10_item_9 fd_X10_51 (rfl : gm_cls 43 = 9) rfl ?_
  refine ge_iload a_X10_item_12 0 rfl ?_
  refine ge_iload_n a_X10_item_14 rfl 2 rfl ?_
  obtain ⟨b_2, hyp⟩ := hyp
  refine ge_iast (j := v_1.toNatClampNeg) a_X10_item_15 ga_52 b_2 rfl ?_
  refine ge_nm (fun h_3 eh_3 => ?_)
  have hyp := hyp h_3 eh_3
  refine ge_aload_n a_X10_item_16 rfl 1 rfl ?_
  refine ge_getR (q := 52) a_X10_item_17 fd_X10_51 (rfl : gm_cls 43 = 9) rfl ?_
  refine ge_iload a_X10_item_20 0 rfl ?_
  refine ge_iconst (v := 1) a_X10_item_22 rfl ?_
  refine ge_iadd a_X10_item_23 ?_
  refine ge_iload_n a_X10_item_24 rfl 3 rfl ?_
  obtain ⟨b_4, hyp⟩ := hyp
  refine ge_iast (j := (v_1 + (1 : Int32)).toNatClampNeg) a_X10_item_25 ga_52 b_4 rfl ?_
  refine ge_nm (fun h_5 eh_5 => ?_)
  have hyp := hyp h_5 eh_5
  refine ge_aload_n a_X10_item_26 rfl 1 rfl ?_
  refine ge_getR (q := 52) a_X10_item_27 fd_X10_51 (rfl : gm_cls 43 = 9) rfl ?_
  refine ge_iload a_X10_item_30 0 rfl ?_
  refine ge_iconst (v := 2) a_X10_item_32 rfl ?_
  refine ge_iadd a_X10_item_33 ?_
  refine ge_iload_n a_X10_item_34 rfl 4 rfl ?_
  obtain ⟨b_6, hyp⟩ := hyp
  refine ge_iast (j := (v_1 + (2 : Int32)).toNatClampNeg) a_X10_item_35 ga_52 b_6 rfl ?_
  refine ge_nm (fun h_7 eh_7 => ?_)
  have hyp := hyp h_7 eh_7
  refine ge_aload_n a_X10_item_36 rfl 1 rfl ?_
  refine ge_getR (q := 52) a_X10_item_37 fd_X10_51 (rfl : gm_cls 43 = 9) rfl ?_
  refine ge_iload a_X10_item_40 0 rfl ?_
  refine ge_iconst (v := 3) a_X10_item_42 rfl ?_
  refine ge_iadd a_X10_item_43 ?_
  refine ge_iload a_X10_item_44 5 rfl ?_
  obtain ⟨b_8, hyp⟩ := hyp
  refine ge_iast (j := (v_1 + (3 : Int32)).toNatClampNeg) a_X10_item_46 ga_52 b_8 rfl ?_
  refine ge_nm (fun h_9 eh_9 => ?_)
  have hyp := hyp h_9 eh_9
  refine ge_aload_n a_X10_item_47 rfl 1 rfl ?_
  refine ge_dup a_X10_item_48 rfl ?_
  refine ge_getI a_X10_item_49 fd_X10_277 (rfl : gm_cls 43 = 9) ?_
  refine ge_iconst (v := 1) a_X10_item_52 rfl ?_
  refine ge_iadd a_X10_item_53 ?_
  refine ge_putI a_X10_item_54 pd_X10_277 (rfl : gm_cls 43 = 9) ?_
  refine ge_nm (fun h_10 eh_10 => ?_)
  have hyp := hyp h_10 eh_10
  exact ge_vret rfl a_X10_item_57 hyp

theorem a_X10_kindTold_0 : At m_X10_kindTold 0 (.iconst (-1)) 1 1 := at_i (by decide +kernel) rfl
theorem a_X10_kindTold_1 : At m_X10_kindTold 1 (.istore_n 1) 1 2 := at_i (by decide +kernel) rfl
theorem a_X10_kindTold_2 : At m_X10_kindTold 2 (.iconst 0) 1 3 := at_i (by decide +kernel) rfl
theorem a_X10_kindTold_3 : At m_X10_kindTold 3 (.istore_n 2) 1 4 := at_i (by decide +kernel) rfl
theorem a_X10_kindTold_4 : At m_X10_kindTold 4 (.iload_n 2) 1 5 := at_i (by decide +kernel) rfl
theorem a_X10_kindTold_5 : At m_X10_kindTold 5 (.aload_n 0) 1 6 := at_i (by decide +kernel) rfl
theorem a_X10_kindTold_6 : At m_X10_kindTold 6 (.getfield 47) 3 9 := at_i (by decide +kernel) rfl
theorem a_X10_kindTold_9 : At m_X10_kindTold 9 (.arraylength) 1 10 := at_i (by decide +kernel) rfl
theorem a_X10_kindTold_10 : AtJ m_X10_kindTold 10 (.if_icmp .ge 28) (28) 38 13 := at_j (by decide +kernel) (by decide) rfl
theorem a_X10_kindTold_13 : At m_X10_kindTold 13 (.aload_n 0) 1 14 := at_i (by decide +kernel) rfl
theorem a_X10_kindTold_14 : At m_X10_kindTold 14 (.aload_n 0) 1 15 := at_i (by decide +kernel) rfl
theorem a_X10_kindTold_15 : At m_X10_kindTold 15 (.getfield 47) 3 18 := at_i (by decide +kernel) rfl
theorem a_X10_kindTold_18 : At m_X10_kindTold 18 (.iload_n 2) 1 19 := at_i (by decide +kernel) rfl
theorem a_X10_kindTold_19 : At m_X10_kindTold 19 (.aaload) 1 20 := at_i (by decide +kernel) rfl
theorem a_X10_kindTold_20 : At m_X10_kindTold 20 (.invokevirtual 280) 3 23 := at_i (by decide +kernel) rfl
theorem a_X10_kindTold_23 : AtJ m_X10_kindTold 23 (.ifCond .eq 7) (7) 30 26 := at_j (by decide +kernel) (by decide) rfl
theorem a_X10_kindTold_26 : At m_X10_kindTold 26 (.iload_n 2) 1 27 := at_i (by decide +kernel) rfl
theorem a_X10_kindTold_27 : AtJ m_X10_kindTold 27 (.goto 4) (4) 31 30 := at_j (by decide +kernel) (by decide) rfl
theorem a_X10_kindTold_30 : At m_X10_kindTold 30 (.iload_n 1) 1 31 := at_i (by decide +kernel) rfl
theorem a_X10_kindTold_31 : At m_X10_kindTold 31 (.istore_n 1) 1 32 := at_i (by decide +kernel) rfl
theorem a_X10_kindTold_32 : At m_X10_kindTold 32 (.iinc 2 1) 3 35 := at_i (by decide +kernel) rfl
theorem a_X10_kindTold_35 : AtJ m_X10_kindTold 35 (.goto (-31)) (-31) 4 38 := at_j (by decide +kernel) (by decide) rfl
theorem a_X10_kindTold_38 : At m_X10_kindTold 38 (.iload_n 1) 1 39 := at_i (by decide +kernel) rfl
theorem a_X10_kindTold_39 : At m_X10_kindTold 39 (.ireturn) 1 40 := at_i (by decide +kernel) rfl
def f_X10_kindTold_b4   (Q : Int32 → Mem → Prop)  (K4 : Int32 → Int32 → Mem → Prop) (v1 : Int32) (v2 : Int32) (h : Mem) : Prop :=
  if (7 : Int32) ≤ v2 then (
    Q v1 h)
  else (
    vp_in v2 7 ∧
    f_X10_isWord v2.toNatClampNeg h fun r_4 h_3 =>
    if r_4 = 0 then (
      ∀ v_6 : Int32, v_6 = v2 + (1 : Int32) →
      K4 v1 v_6 h_3)
    else (
      ∀ v_7 : Int32, v_7 = v2 + (1 : Int32) →
      K4 v2 v_7 h_3))
set_option maxRecDepth 20000 in
theorem t_X10_kindTold_b4     (Q : Int32 → Mem → Prop)   : ∀ (n : Nat) (v1 : Int32) (v2 : Int32) (h : Mem), gm_it2 (f_X10_kindTold_b4   Q ) n v1 v2 h → EV m_X10_kindTold (GI Q) 4 [(0, .ref 43), (1, .int v1), (2, .int v2)] [] h := by
  refine ge_loop2 (P := fun v1 v2 h => EV m_X10_kindTold (GI Q) 4 [(0, .ref 43), (1, .int v1), (2, .int v2)] [] h) (fun K4 hK4 v1 v2 h hyp => ?_)
  unfold f_X10_kindTold_b4 at hyp
  refine ge_iload_n a_X10_kindTold_4 rfl 2 rfl ?_
  refine ge_aload_n a_X10_kindTold_5 rfl 0 rfl ?_
  refine ge_getR (q := 51) a_X10_kindTold_6 fd_X10_47 (rfl : gm_cls 43 = 9) rfl ?_
  refine ge_alen51 a_X10_kindTold_9 ?_
  refine ge_icmp_ge a_X10_kindTold_10 (fun c_1 => ?_) (fun c_1 => ?_)
  · have hyp := gm_ip hyp c_1
    refine ge_iload_n a_X10_kindTold_38 rfl 1 rfl ?_
    exact ge_iret rfl a_X10_kindTold_39 hyp
  · have hyp := gm_in hyp c_1
    refine ge_aload_n a_X10_kindTold_13 rfl 0 rfl ?_
    refine ge_aload_n a_X10_kindTold_14 rfl 0 rfl ?_
    refine ge_getR (q := 51) a_X10_kindTold_15 fd_X10_47 (rfl : gm_cls 43 = 9) rfl ?_
    refine ge_iload_n a_X10_kindTold_18 rfl 2 rfl ?_
    obtain ⟨b_2, hyp⟩ := hyp
    refine ge_ald51 a_X10_kindTold_19 b_2 ?_
    refine ge_cVI [.ref (100 + v2.toNatClampNeg)] (rest := []) a_X10_kindTold_20 ok_X10_isWord lk_X10_280 ⟨Nat.le_of_ble_eq_true rfl, Nat.le_of_ble_eq_true rfl⟩ (rfl : gm_cls 43 = 9) vc_9 (by decide) rfl rfl (Nat.le_of_ble_eq_true rfl) (t_X10_isWord v2.toNatClampNeg (gm_seven b_2) h _ hyp) (fun r_4 h_3 hyp => ?_)
    refine ge_if_eq a_X10_kindTold_23 (fun c_5 => ?_) (fun c_5 => ?_)
    · have hyp := gm_ip hyp c_5
      refine ge_iload_n a_X10_kindTold_30 rfl 1 rfl ?_
      refine ge_istore_n (lv' := [(1, .int v1), (0, .ref 43), (2, .int v2)]) a_X10_kindTold_31 rfl (Nat.le_of_ble_eq_true rfl) rfl ?_
      obtain ⟨v_6, ev_6⟩ : ∃ y : Int32, y = v2 + (1 : Int32) := ⟨_, rfl⟩
      have hyp := hyp v_6 ev_6
      refine ge_iinc (v := v_6) (lv' := [(2, .int v_6), (1, .int v1), (0, .ref 43)]) a_X10_kindTold_32 2 rfl ev_6.symm (Nat.le_of_ble_eq_true rfl) rfl ?_
      refine ge_goto a_X10_kindTold_35 ?_
      exact ge_sub [2, 1, 0] rfl (hK4 v1 v_6 h_3 hyp)
    · have hyp := gm_in hyp c_5
      refine ge_iload_n a_X10_kindTold_26 rfl 2 rfl ?_
      refine ge_goto a_X10_kindTold_27 ?_
      refine ge_istore_n (lv' := [(1, .int v2), (0, .ref 43), (2, .int v2)]) a_X10_kindTold_31 rfl (Nat.le_of_ble_eq_true rfl) rfl ?_
      obtain ⟨v_7, ev_7⟩ : ∃ y : Int32, y = v2 + (1 : Int32) := ⟨_, rfl⟩
      have hyp := hyp v_7 ev_7
      refine ge_iinc (v := v_7) (lv' := [(2, .int v_7), (1, .int v2), (0, .ref 43)]) a_X10_kindTold_32 2 rfl ev_7.symm (Nat.le_of_ble_eq_true rfl) rfl ?_
      refine ge_goto a_X10_kindTold_35 ?_
      exact ge_sub [2, 1, 0] rfl (hK4 v2 v_7 h_3 hyp)
def f_X10_kindTold  (h : Mem) (Q : Int32 → Mem → Prop) : Prop :=
  gm_it2 (f_X10_kindTold_b4   Q ) gm_F (-1 : Int32) (0 : Int32) h
set_option maxRecDepth 20000 in
theorem t_X10_kindTold   (h : Mem) (Q : Int32 → Mem → Prop) (hyp : f_X10_kindTold  h Q) : Cn m_X10_kindTold [.ref 43] h (GI Q) := by
  refine ge_entry (lv := [(0, .ref 43)]) pn_X10 (Nat.le_of_ble_eq_true rfl) rfl ?_
  unfold f_X10_kindTold at hyp
  refine ge_iconst (v := -1) a_X10_kindTold_0 rfl ?_
  refine ge_istore_n (lv' := [(1, .int (-1 : Int32)), (0, .ref 43)]) a_X10_kindTold_1 rfl (Nat.le_of_ble_eq_true rfl) rfl ?_
  refine ge_iconst (v := 0) a_X10_kindTold_2 rfl ?_
  refine ge_istore_n (lv' := [(2, .int (0 : Int32)), (1, .int (-1 : Int32)), (0, .ref 43)]) a_X10_kindTold_3 rfl (Nat.le_of_ble_eq_true rfl) rfl ?_
  exact ge_sub [2, 1, 0] rfl (t_X10_kindTold_b4     Q   gm_F (-1 : Int32) (0 : Int32) h hyp)

theorem a_X10_isNext_0 : At m_X10_isNext 0 (.aload_n 0) 1 1 := at_i (by decide +kernel) rfl
theorem a_X10_isNext_1 : At m_X10_isNext 1 (.getfield 266) 3 4 := at_i (by decide +kernel) rfl
theorem a_X10_isNext_4 : AtJ m_X10_isNext 4 (.ifCond .ne 15) (15) 19 7 := at_j (by decide +kernel) (by decide) rfl
theorem a_X10_isNext_7 : At m_X10_isNext 7 (.aload_n 0) 1 8 := at_i (by decide +kernel) rfl
theorem a_X10_isNext_8 : At m_X10_isNext 8 (.aload_n 1) 1 9 := at_i (by decide +kernel) rfl
theorem a_X10_isNext_9 : At m_X10_isNext 9 (.invokevirtual 280) 3 12 := at_i (by decide +kernel) rfl
theorem a_X10_isNext_12 : AtJ m_X10_isNext 12 (.ifCond .eq 7) (7) 19 15 := at_j (by decide +kernel) (by decide) rfl
theorem a_X10_isNext_15 : At m_X10_isNext 15 (.iconst 1) 1 16 := at_i (by decide +kernel) rfl
theorem a_X10_isNext_16 : AtJ m_X10_isNext 16 (.goto 4) (4) 20 19 := at_j (by decide +kernel) (by decide) rfl
theorem a_X10_isNext_19 : At m_X10_isNext 19 (.iconst 0) 1 20 := at_i (by decide +kernel) rfl
theorem a_X10_isNext_20 : At m_X10_isNext 20 (.istore_n 2) 1 21 := at_i (by decide +kernel) rfl
theorem a_X10_isNext_21 : At m_X10_isNext 21 (.iload_n 2) 1 22 := at_i (by decide +kernel) rfl
theorem a_X10_isNext_22 : AtJ m_X10_isNext 22 (.ifCond .eq 8) (8) 30 25 := at_j (by decide +kernel) (by decide) rfl
theorem a_X10_isNext_25 : At m_X10_isNext 25 (.aload_n 0) 1 26 := at_i (by decide +kernel) rfl
theorem a_X10_isNext_26 : At m_X10_isNext 26 (.iconst 1) 1 27 := at_i (by decide +kernel) rfl
theorem a_X10_isNext_27 : At m_X10_isNext 27 (.invokevirtual 273) 3 30 := at_i (by decide +kernel) rfl
theorem a_X10_isNext_30 : At m_X10_isNext 30 (.iload_n 2) 1 31 := at_i (by decide +kernel) rfl
theorem a_X10_isNext_31 : At m_X10_isNext 31 (.ireturn) 1 32 := at_i (by decide +kernel) rfl
def f_X10_isNext_b20 (i1 : Nat)  (Q : Int32 → Mem → Prop)  (s0 : Int32) (h : Mem) : Prop :=
  if s0 = 0 then (
    gm_b s0 ∧ Q s0 h)
  else (
    f_X10_must (1 : Int32) h fun h_3 =>
    gm_b s0 ∧ Q s0 h_3)
set_option maxRecDepth 20000 in
theorem t_X10_isNext_b20 (i1 : Nat)  (hi1 : i1 < 17)  (Q : Int32 → Mem → Prop)   (s0 : Int32) (h : Mem) (hyp : f_X10_isNext_b20 i1  Q  s0 h) : EV m_X10_isNext (GI Q) 20 [(0, .ref 43)] [.int s0] h := by
  unfold f_X10_isNext_b20 at hyp
  refine ge_istore_n (lv' := [(2, .int s0), (0, .ref 43)]) a_X10_isNext_20 rfl (Nat.le_of_ble_eq_true rfl) rfl ?_
  refine ge_iload_n a_X10_isNext_21 rfl 0 rfl ?_
  refine ge_if_eq a_X10_isNext_22 (fun c_2 => ?_) (fun c_2 => ?_)
  · have hyp := gm_ip hyp c_2
    refine ge_iload_n a_X10_isNext_30 rfl 0 rfl ?_
    exact ge_zret rfl (gm_b_nar hyp.1) a_X10_isNext_31 hyp.2
  · have hyp := gm_in hyp c_2
    refine ge_aload_n a_X10_isNext_25 rfl 1 rfl ?_
    refine ge_iconst (v := 1) a_X10_isNext_26 rfl ?_
    refine ge_cVV [.int (1 : Int32)] (rest := []) a_X10_isNext_27 ok_X10_must lk_X10_273 ⟨Nat.le_of_ble_eq_true rfl, Nat.le_of_ble_eq_true rfl⟩ (rfl : gm_cls 43 = 9) vc_9 (by decide) rfl rfl (Nat.le_of_ble_eq_true rfl) (t_X10_must (1 : Int32)  h _ hyp) (fun h_3 hyp => ?_)
    refine ge_iload_n a_X10_isNext_30 rfl 0 rfl ?_
    exact ge_zret rfl (gm_b_nar hyp.1) a_X10_isNext_31 hyp.2
def f_X10_isNext_b19 (i1 : Nat)  (Q : Int32 → Mem → Prop)   (h : Mem) : Prop :=
  f_X10_isNext_b20 i1  Q  (0 : Int32) h
set_option maxRecDepth 20000 in
theorem t_X10_isNext_b19 (i1 : Nat)  (hi1 : i1 < 17)  (Q : Int32 → Mem → Prop)    (h : Mem) (hyp : f_X10_isNext_b19 i1  Q   h) : EV m_X10_isNext (GI Q) 19 [(0, .ref 43)] [] h := by
  unfold f_X10_isNext_b19 at hyp
  refine ge_iconst (v := 0) a_X10_isNext_19 rfl ?_
  exact ge_sub [0] rfl (t_X10_isNext_b20 i1  hi1  Q   (0 : Int32) h hyp)
def f_X10_isNext (i1 : Nat) (h : Mem) (Q : Int32 → Mem → Prop) : Prop :=
  if h 43 19 = 0 then (
    f_X10_isWord i1 h fun r_5 h_4 =>
    if r_5 = 0 then (
      f_X10_isNext_b19 i1  Q   h_4)
    else (
      f_X10_isNext_b20 i1  Q  (1 : Int32) h_4))
  else (
    f_X10_isNext_b19 i1  Q   h)
set_option maxRecDepth 20000 in
theorem t_X10_isNext (i1 : Nat) (hi1 : i1 < 17) (h : Mem) (Q : Int32 → Mem → Prop) (hyp : f_X10_isNext i1 h Q) : Cn m_X10_isNext [.ref 43, .ref (100 + i1)] h (GI Q) := by
  refine ge_entry (lv := [(0, .ref 43), (1, .ref (100 + i1))]) pn_X10 (Nat.le_of_ble_eq_true rfl) rfl ?_
  unfold f_X10_isNext at hyp
  refine ge_aload_n a_X10_isNext_0 rfl 0 rfl ?_
  refine ge_getI a_X10_isNext_1 fd_X10_266 (rfl : gm_cls 43 = 9) ?_
  refine ge_if_ne a_X10_isNext_4 (fun c_1 => ?_) (fun c_1 => ?_)
  · have hyp := gm_in hyp c_1
    exact ge_sub [0] rfl (t_X10_isNext_b19 i1  hi1  Q    h hyp)
  · have hyp := gm_ip hyp c_1
    refine ge_aload_n a_X10_isNext_7 rfl 0 rfl ?_
    refine ge_aload_n a_X10_isNext_8 rfl 1 rfl ?_
    refine ge_cVI [.ref (100 + i1)] (rest := []) a_X10_isNext_9 ok_X10_isWord lk_X10_280 ⟨Nat.le_of_ble_eq_true rfl, Nat.le_of_ble_eq_true rfl⟩ (rfl : gm_cls 43 = 9) vc_9 (by decide) rfl rfl (Nat.le_of_ble_eq_true rfl) (t_X10_isWord i1 hi1 h _ hyp) (fun r_5 h_4 hyp => ?_)
    refine ge_if_eq a_X10_isNext_12 (fun c_6 => ?_) (fun c_6 => ?_)
    · have hyp := gm_ip hyp c_6
      exact ge_sub [0] rfl (t_X10_isNext_b19 i1  hi1  Q    h_4 hyp)
    · have hyp := gm_in hyp c_6
      refine ge_iconst (v := 1) a_X10_isNext_15 rfl ?_
      refine ge_goto a_X10_isNext_16 ?_
      exact ge_sub [0] rfl (t_X10_isNext_b20 i1  hi1  Q   (1 : Int32) h_4 hyp)

theorem a_X10_drift_0 : At m_X10_drift 0 (.aload_n 0) 1 1 := at_i (by decide +kernel) rfl
theorem a_X10_drift_1 : At m_X10_drift 1 (.getfield 266) 3 4 := at_i (by decide +kernel) rfl
theorem a_X10_drift_4 : AtJ m_X10_drift 4 (.ifCond .ne 29) (29) 33 7 := at_j (by decide +kernel) (by decide) rfl
theorem a_X10_drift_7 : At m_X10_drift 7 (.aload_n 0) 1 8 := at_i (by decide +kernel) rfl
theorem a_X10_drift_8 : At m_X10_drift 8 (.getfield 255) 3 11 := at_i (by decide +kernel) rfl
theorem a_X10_drift_11 : At m_X10_drift 11 (.iconst 3) 1 12 := at_i (by decide +kernel) rfl
theorem a_X10_drift_12 : AtJ m_X10_drift 12 (.if_icmp .ne 21) (21) 33 15 := at_j (by decide +kernel) (by decide) rfl
theorem a_X10_drift_15 : At m_X10_drift 15 (.aload_n 0) 1 16 := at_i (by decide +kernel) rfl
theorem a_X10_drift_16 : At m_X10_drift 16 (.getfield 28) 3 19 := at_i (by decide +kernel) rfl
theorem a_X10_drift_19 : At m_X10_drift 19 (.aload_n 0) 1 20 := at_i (by decide +kernel) rfl
theorem a_X10_drift_20 : At m_X10_drift 20 (.getfield 246) 3 23 := at_i (by decide +kernel) rfl
theorem a_X10_drift_23 : At m_X10_drift 23 (.iaload) 1 24 := at_i (by decide +kernel) rfl
theorem a_X10_drift_24 : At m_X10_drift 24 (.bipush 45) 2 26 := at_i (by decide +kernel) rfl
theorem a_X10_drift_26 : AtJ m_X10_drift 26 (.if_icmp .ne 7) (7) 33 29 := at_j (by decide +kernel) (by decide) rfl
theorem a_X10_drift_29 : At m_X10_drift 29 (.iconst 1) 1 30 := at_i (by decide +kernel) rfl
theorem a_X10_drift_30 : AtJ m_X10_drift 30 (.goto 4) (4) 34 33 := at_j (by decide +kernel) (by decide) rfl
theorem a_X10_drift_33 : At m_X10_drift 33 (.iconst 0) 1 34 := at_i (by decide +kernel) rfl
theorem a_X10_drift_34 : At m_X10_drift 34 (.istore_n 1) 1 35 := at_i (by decide +kernel) rfl
theorem a_X10_drift_35 : At m_X10_drift 35 (.iload_n 1) 1 36 := at_i (by decide +kernel) rfl
theorem a_X10_drift_36 : AtJ m_X10_drift 36 (.ifCond .eq 8) (8) 44 39 := at_j (by decide +kernel) (by decide) rfl
theorem a_X10_drift_39 : At m_X10_drift 39 (.aload_n 0) 1 40 := at_i (by decide +kernel) rfl
theorem a_X10_drift_40 : At m_X10_drift 40 (.iconst 1) 1 41 := at_i (by decide +kernel) rfl
theorem a_X10_drift_41 : At m_X10_drift 41 (.invokevirtual 273) 3 44 := at_i (by decide +kernel) rfl
theorem a_X10_drift_44 : At m_X10_drift 44 (.aload_n 0) 1 45 := at_i (by decide +kernel) rfl
theorem a_X10_drift_45 : At m_X10_drift 45 (.iconst 0) 1 46 := at_i (by decide +kernel) rfl
theorem a_X10_drift_46 : At m_X10_drift 46 (.bipush 9) 2 48 := at_i (by decide +kernel) rfl
theorem a_X10_drift_48 : At m_X10_drift 48 (.invokevirtual 284) 3 51 := at_i (by decide +kernel) rfl
theorem a_X10_drift_51 : At m_X10_drift 51 (.istore_n 2) 1 52 := at_i (by decide +kernel) rfl
theorem a_X10_drift_52 : At m_X10_drift 52 (.iload_n 1) 1 53 := at_i (by decide +kernel) rfl
theorem a_X10_drift_53 : AtJ m_X10_drift 53 (.ifCond .eq 8) (8) 61 56 := at_j (by decide +kernel) (by decide) rfl
theorem a_X10_drift_56 : At m_X10_drift 56 (.iload_n 2) 1 57 := at_i (by decide +kernel) rfl
theorem a_X10_drift_57 : At m_X10_drift 57 (.ineg) 1 58 := at_i (by decide +kernel) rfl
theorem a_X10_drift_58 : AtJ m_X10_drift 58 (.goto 4) (4) 62 61 := at_j (by decide +kernel) (by decide) rfl
theorem a_X10_drift_61 : At m_X10_drift 61 (.iload_n 2) 1 62 := at_i (by decide +kernel) rfl
theorem a_X10_drift_62 : At m_X10_drift 62 (.ireturn) 1 63 := at_i (by decide +kernel) rfl
def f_X10_drift_b44   (Q : Int32 → Mem → Prop)  (v1 : Int32) (h : Mem) : Prop :=
  f_X10_number (0 : Int32) (9 : Int32) h fun r_4 h_3 =>
  if v1 = 0 then (
    Q r_4 h_3)
  else (
    Q (-r_4) h_3)
set_option maxRecDepth 20000 in
theorem t_X10_drift_b44     (Q : Int32 → Mem → Prop)   (v1 : Int32) (h : Mem) (hyp : f_X10_drift_b44   Q  v1 h) : EV m_X10_drift (GI Q) 44 [(0, .ref 43), (1, .int v1)] [] h := by
  unfold f_X10_drift_b44 at hyp
  refine ge_aload_n a_X10_drift_44 rfl 0 rfl ?_
  refine ge_iconst (v := 0) a_X10_drift_45 rfl ?_
  refine ge_bipush (v := 9) a_X10_drift_46 rfl ?_
  refine ge_cVI [.int (0 : Int32), .int (9 : Int32)] (rest := []) a_X10_drift_48 ok_X10_number lk_X10_284 ⟨Nat.le_of_ble_eq_true rfl, Nat.le_of_ble_eq_true rfl⟩ (rfl : gm_cls 43 = 9) vc_9 (by decide) rfl rfl (Nat.le_of_ble_eq_true rfl) (t_X10_number (0 : Int32) (9 : Int32)  h _ hyp) (fun r_4 h_3 hyp => ?_)
  refine ge_istore_n (lv' := [(2, .int r_4), (0, .ref 43), (1, .int v1)]) a_X10_drift_51 rfl (Nat.le_of_ble_eq_true rfl) rfl ?_
  refine ge_iload_n a_X10_drift_52 rfl 2 rfl ?_
  refine ge_if_eq a_X10_drift_53 (fun c_5 => ?_) (fun c_5 => ?_)
  · have hyp := gm_ip hyp c_5
    refine ge_iload_n a_X10_drift_61 rfl 0 rfl ?_
    exact ge_iret rfl a_X10_drift_62 hyp
  · have hyp := gm_in hyp c_5
    refine ge_iload_n a_X10_drift_56 rfl 0 rfl ?_
    refine ge_ineg a_X10_drift_57 ?_
    refine ge_goto a_X10_drift_58 ?_
    exact ge_iret rfl a_X10_drift_62 hyp
def f_X10_drift_b34   (Q : Int32 → Mem → Prop)  (s0 : Int32) (h : Mem) : Prop :=
  if s0 = 0 then (
    f_X10_drift_b44   Q  s0 h)
  else (
    f_X10_must (1 : Int32) h fun h_6 =>
    f_X10_drift_b44   Q  s0 h_6)
set_option maxRecDepth 20000 in
theorem t_X10_drift_b34     (Q : Int32 → Mem → Prop)   (s0 : Int32) (h : Mem) (hyp : f_X10_drift_b34   Q  s0 h) : EV m_X10_drift (GI Q) 34 [(0, .ref 43)] [.int s0] h := by
  unfold f_X10_drift_b34 at hyp
  refine ge_istore_n (lv' := [(1, .int s0), (0, .ref 43)]) a_X10_drift_34 rfl (Nat.le_of_ble_eq_true rfl) rfl ?_
  refine ge_iload_n a_X10_drift_35 rfl 0 rfl ?_
  refine ge_if_eq a_X10_drift_36 (fun c_2 => ?_) (fun c_2 => ?_)
  · have hyp := gm_ip hyp c_2
    exact ge_sub [1, 0] rfl (t_X10_drift_b44     Q   s0 h hyp)
  · have hyp := gm_in hyp c_2
    refine ge_aload_n a_X10_drift_39 rfl 1 rfl ?_
    refine ge_iconst (v := 1) a_X10_drift_40 rfl ?_
    refine ge_cVV [.int (1 : Int32)] (rest := []) a_X10_drift_41 ok_X10_must lk_X10_273 ⟨Nat.le_of_ble_eq_true rfl, Nat.le_of_ble_eq_true rfl⟩ (rfl : gm_cls 43 = 9) vc_9 (by decide) rfl rfl (Nat.le_of_ble_eq_true rfl) (t_X10_must (1 : Int32)  h _ hyp) (fun h_6 hyp => ?_)
    exact ge_sub [1, 0] rfl (t_X10_drift_b44     Q   s0 h_6 hyp)
def f_X10_drift_b33   (Q : Int32 → Mem → Prop)   (h : Mem) : Prop :=
  f_X10_drift_b34   Q  (0 : Int32) h
set_option maxRecDepth 20000 in
theorem t_X10_drift_b33     (Q : Int32 → Mem → Prop)    (h : Mem) (hyp : f_X10_drift_b33   Q   h) : EV m_X10_drift (GI Q) 33 [(0, .ref 43)] [] h := by
  unfold f_X10_drift_b33 at hyp
  refine ge_iconst (v := 0) a_X10_drift_33 rfl ?_
  exact ge_sub [0] rfl (t_X10_drift_b34     Q   (0 : Int32) h hyp)
def f_X10_drift  (h : Mem) (Q : Int32 → Mem → Prop) : Prop :=
  if h 43 19 = 0 then (
    if h 43 17 = (3 : Int32) then (
      vp_in (h 43 15) 120 ∧
      if h 50 ((h 43 15).toNatClampNeg) = (45 : Int32) then (
        f_X10_drift_b34   Q  (1 : Int32) h)
      else (
        f_X10_drift_b33   Q   h))
    else (
      f_X10_drift_b33   Q   h))
  else (
    f_X10_drift_b33   Q   h)
set_option maxRecDepth 20000 in
theorem t_X10_drift   (h : Mem) (Q : Int32 → Mem → Prop) (hyp : f_X10_drift  h Q) : Cn m_X10_drift [.ref 43] h (GI Q) := by
  refine ge_entry (lv := [(0, .ref 43)]) pn_X10 (Nat.le_of_ble_eq_true rfl) rfl ?_
  unfold f_X10_drift at hyp
  refine ge_aload_n a_X10_drift_0 rfl 0 rfl ?_
  refine ge_getI a_X10_drift_1 fd_X10_266 (rfl : gm_cls 43 = 9) ?_
  refine ge_if_ne a_X10_drift_4 (fun c_1 => ?_) (fun c_1 => ?_)
  · have hyp := gm_in hyp c_1
    exact ge_sub [0] rfl (t_X10_drift_b33     Q    h hyp)
  · have hyp := gm_ip hyp c_1
    refine ge_aload_n a_X10_drift_7 rfl 0 rfl ?_
    refine ge_getI a_X10_drift_8 fd_X10_255 (rfl : gm_cls 43 = 9) ?_
    refine ge_iconst (v := 3) a_X10_drift_11 rfl ?_
    refine ge_icmp_ne a_X10_drift_12 (fun c_7 => ?_) (fun c_7 => ?_)
    · have hyp := gm_in hyp c_7
      exact ge_sub [0] rfl (t_X10_drift_b33     Q    h hyp)
    · have hyp := gm_ip hyp c_7
      refine ge_aload_n a_X10_drift_15 rfl 0 rfl ?_
      refine ge_getR (q := 50) a_X10_drift_16 fd_X10_28 (rfl : gm_cls 43 = 9) rfl ?_
      refine ge_aload_n a_X10_drift_19 rfl 0 rfl ?_
      refine ge_getI a_X10_drift_20 fd_X10_246 (rfl : gm_cls 43 = 9) ?_
      obtain ⟨b_8, hyp⟩ := hyp
      refine ge_iald (j := (h 43 15).toNatClampNeg) a_X10_drift_23 ga_50 b_8 rfl ?_
      refine ge_bipush (v := 45) a_X10_drift_24 rfl ?_
      refine ge_icmp_ne a_X10_drift_26 (fun c_9 => ?_) (fun c_9 => ?_)
      · have hyp := gm_in hyp c_9
        exact ge_sub [0] rfl (t_X10_drift_b33     Q    h hyp)
      · have hyp := gm_ip hyp c_9
        refine ge_iconst (v := 1) a_X10_drift_29 rfl ?_
        refine ge_goto a_X10_drift_30 ?_
        exact ge_sub [0] rfl (t_X10_drift_b34     Q   (1 : Int32) h hyp)

theorem a_X10_readPace_0 : At m_X10_readPace 0 (.aload_n 0) 1 1 := at_i (by decide +kernel) rfl
theorem a_X10_readPace_1 : At m_X10_readPace 1 (.iconst 1) 1 2 := at_i (by decide +kernel) rfl
theorem a_X10_readPace_2 : At m_X10_readPace 2 (.bipush 99) 2 4 := at_i (by decide +kernel) rfl
theorem a_X10_readPace_4 : At m_X10_readPace 4 (.invokevirtual 284) 3 7 := at_i (by decide +kernel) rfl
theorem a_X10_readPace_7 : At m_X10_readPace 7 (.istore_n 2) 1 8 := at_i (by decide +kernel) rfl
theorem a_X10_readPace_8 : At m_X10_readPace 8 (.aload_n 0) 1 9 := at_i (by decide +kernel) rfl
theorem a_X10_readPace_9 : At m_X10_readPace 9 (.ldc_w 287) 3 12 := at_i (by decide +kernel) rfl
theorem a_X10_readPace_12 : At m_X10_readPace 12 (.invokevirtual 289) 3 15 := at_i (by decide +kernel) rfl
theorem a_X10_readPace_15 : AtJ m_X10_readPace 15 (.ifCond .eq 13) (13) 28 18 := at_j (by decide +kernel) (by decide) rfl
theorem a_X10_readPace_18 : At m_X10_readPace 18 (.aload_n 0) 1 19 := at_i (by decide +kernel) rfl
theorem a_X10_readPace_19 : At m_X10_readPace 19 (.iconst 0) 1 20 := at_i (by decide +kernel) rfl
theorem a_X10_readPace_20 : At m_X10_readPace 20 (.bipush 10) 2 22 := at_i (by decide +kernel) rfl
theorem a_X10_readPace_22 : At m_X10_readPace 22 (.invokevirtual 284) 3 25 := at_i (by decide +kernel) rfl
theorem a_X10_readPace_25 : AtJ m_X10_readPace 25 (.goto 5) (5) 30 28 := at_j (by decide +kernel) (by decide) rfl
theorem a_X10_readPace_28 : At m_X10_readPace 28 (.bipush (-100)) 2 30 := at_i (by decide +kernel) rfl
theorem a_X10_readPace_30 : At m_X10_readPace 30 (.istore_n 3) 1 31 := at_i (by decide +kernel) rfl
theorem a_X10_readPace_31 : At m_X10_readPace 31 (.aload_n 0) 1 32 := at_i (by decide +kernel) rfl
theorem a_X10_readPace_32 : At m_X10_readPace 32 (.bipush 10) 2 34 := at_i (by decide +kernel) rfl
theorem a_X10_readPace_34 : At m_X10_readPace 34 (.iload_n 1) 1 35 := at_i (by decide +kernel) rfl
theorem a_X10_readPace_35 : At m_X10_readPace 35 (.iadd) 1 36 := at_i (by decide +kernel) rfl
theorem a_X10_readPace_36 : At m_X10_readPace 36 (.iload_n 2) 1 37 := at_i (by decide +kernel) rfl
theorem a_X10_readPace_37 : At m_X10_readPace 37 (.iload_n 3) 1 38 := at_i (by decide +kernel) rfl
theorem a_X10_readPace_38 : At m_X10_readPace 38 (.aload_n 0) 1 39 := at_i (by decide +kernel) rfl
theorem a_X10_readPace_39 : At m_X10_readPace 39 (.ldc_w 292) 3 42 := at_i (by decide +kernel) rfl
theorem a_X10_readPace_42 : At m_X10_readPace 42 (.invokevirtual 289) 3 45 := at_i (by decide +kernel) rfl
theorem a_X10_readPace_45 : AtJ m_X10_readPace 45 (.ifCond .eq 10) (10) 55 48 := at_j (by decide +kernel) (by decide) rfl
theorem a_X10_readPace_48 : At m_X10_readPace 48 (.aload_n 0) 1 49 := at_i (by decide +kernel) rfl
theorem a_X10_readPace_49 : At m_X10_readPace 49 (.invokevirtual 294) 3 52 := at_i (by decide +kernel) rfl
theorem a_X10_readPace_52 : AtJ m_X10_readPace 52 (.goto 5) (5) 57 55 := at_j (by decide +kernel) (by decide) rfl
theorem a_X10_readPace_55 : At m_X10_readPace 55 (.bipush (-100)) 2 57 := at_i (by decide +kernel) rfl
theorem a_X10_readPace_57 : At m_X10_readPace 57 (.invokevirtual 296) 3 60 := at_i (by decide +kernel) rfl
theorem a_X10_readPace_60 : At m_X10_readPace 60 (.return_) 1 61 := at_i (by decide +kernel) rfl
def f_X10_readPace_b30 (a1 : Int32)  (Q : Mem → Prop)  (v2 : Int32) (s0 : Int32) (h : Mem) : Prop :=
  f_X10_isNext 16 h fun r_7 h_6 =>
  if r_7 = 0 then (
    f_X10_item ((10 : Int32) + a1) v2 s0 (-100 : Int32) h_6 fun h_9 =>
    Q h_9)
  else (
    f_X10_drift  h_6 fun r_11 h_10 =>
    f_X10_item ((10 : Int32) + a1) v2 s0 r_11 h_10 fun h_12 =>
    Q h_12)
set_option maxRecDepth 20000 in
theorem t_X10_readPace_b30 (a1 : Int32)    (Q : Mem → Prop)   (v2 : Int32) (s0 : Int32) (h : Mem) (hyp : f_X10_readPace_b30 a1  Q  v2 s0 h) : EV m_X10_readPace (GV Q) 30 [(0, .ref 43), (1, .int a1), (2, .int v2)] [.int s0] h := by
  unfold f_X10_readPace_b30 at hyp
  refine ge_istore_n (lv' := [(3, .int s0), (0, .ref 43), (1, .int a1), (2, .int v2)]) a_X10_readPace_30 rfl (Nat.le_of_ble_eq_true rfl) rfl ?_
  refine ge_aload_n a_X10_readPace_31 rfl 1 rfl ?_
  refine ge_bipush (v := 10) a_X10_readPace_32 rfl ?_
  refine ge_iload_n a_X10_readPace_34 rfl 2 rfl ?_
  refine ge_iadd a_X10_readPace_35 ?_
  refine ge_iload_n a_X10_readPace_36 rfl 3 rfl ?_
  refine ge_iload_n a_X10_readPace_37 rfl 0 rfl ?_
  refine ge_aload_n a_X10_readPace_38 rfl 1 rfl ?_
  refine ge_ldcwS (i := 16) a_X10_readPace_39 sl_X10_292 ?_
  refine ge_cVI [.ref (100 + 16)] (rest := [.int s0, .int v2, .int ((10 : Int32) + a1), .ref 43]) a_X10_readPace_42 ok_X10_isNext lk_X10_289 ⟨Nat.le_of_ble_eq_true rfl, Nat.le_of_ble_eq_true rfl⟩ (rfl : gm_cls 43 = 9) vc_9 (by decide) rfl rfl (Nat.le_of_ble_eq_true rfl) (t_X10_isNext 16 (by decide) h _ hyp) (fun r_7 h_6 hyp => ?_)
  refine ge_if_eq a_X10_readPace_45 (fun c_8 => ?_) (fun c_8 => ?_)
  · have hyp := gm_ip hyp c_8
    refine ge_bipush (v := -100) a_X10_readPace_55 rfl ?_
    refine ge_cVV [.int ((10 : Int32) + a1), .int v2, .int s0, .int (-100 : Int32)] (rest := []) a_X10_readPace_57 ok_X10_item lk_X10_296 ⟨Nat.le_of_ble_eq_true rfl, Nat.le_of_ble_eq_true rfl⟩ (rfl : gm_cls 43 = 9) vc_9 (by decide) rfl rfl (Nat.le_of_ble_eq_true rfl) (t_X10_item ((10 : Int32) + a1) v2 s0 (-100 : Int32)  h_6 _ hyp) (fun h_9 hyp => ?_)
    exact ge_vret rfl a_X10_readPace_60 hyp
  · have hyp := gm_in hyp c_8
    refine ge_aload_n a_X10_readPace_48 rfl 1 rfl ?_
    refine ge_cVI [] (rest := [.int s0, .int v2, .int ((10 : Int32) + a1), .ref 43]) a_X10_readPace_49 ok_X10_drift lk_X10_294 ⟨Nat.le_of_ble_eq_true rfl, Nat.le_of_ble_eq_true rfl⟩ (rfl : gm_cls 43 = 9) vc_9 (by decide) rfl rfl (Nat.le_of_ble_eq_true rfl) (t_X10_drift   h_6 _ hyp) (fun r_11 h_10 hyp => ?_)
    refine ge_goto a_X10_readPace_52 ?_
    refine ge_cVV [.int ((10 : Int32) + a1), .int v2, .int s0, .int r_11] (rest := []) a_X10_readPace_57 ok_X10_item lk_X10_296 ⟨Nat.le_of_ble_eq_true rfl, Nat.le_of_ble_eq_true rfl⟩ (rfl : gm_cls 43 = 9) vc_9 (by decide) rfl rfl (Nat.le_of_ble_eq_true rfl) (t_X10_item ((10 : Int32) + a1) v2 s0 r_11  h_10 _ hyp) (fun h_12 hyp => ?_)
    exact ge_vret rfl a_X10_readPace_60 hyp
def f_X10_readPace (a1 : Int32) (h : Mem) (Q : Mem → Prop) : Prop :=
  f_X10_number (1 : Int32) (99 : Int32) h fun r_2 h_1 =>
  f_X10_isNext 15 h_1 fun r_4 h_3 =>
  if r_4 = 0 then (
    f_X10_readPace_b30 a1  Q  r_2 (-100 : Int32) h_3)
  else (
    f_X10_number (0 : Int32) (10 : Int32) h_3 fun r_14 h_13 =>
    f_X10_readPace_b30 a1  Q  r_2 r_14 h_13)
set_option maxRecDepth 20000 in
theorem t_X10_readPace (a1 : Int32)  (h : Mem) (Q : Mem → Prop) (hyp : f_X10_readPace a1 h Q) : Cn m_X10_readPace [.ref 43, .int a1] h (GV Q) := by
  refine ge_entry (lv := [(0, .ref 43), (1, .int a1)]) pn_X10 (Nat.le_of_ble_eq_true rfl) rfl ?_
  unfold f_X10_readPace at hyp
  refine ge_aload_n a_X10_readPace_0 rfl 0 rfl ?_
  refine ge_iconst (v := 1) a_X10_readPace_1 rfl ?_
  refine ge_bipush (v := 99) a_X10_readPace_2 rfl ?_
  refine ge_cVI [.int (1 : Int32), .int (99 : Int32)] (rest := []) a_X10_readPace_4 ok_X10_number lk_X10_284 ⟨Nat.le_of_ble_eq_true rfl, Nat.le_of_ble_eq_true rfl⟩ (rfl : gm_cls 43 = 9) vc_9 (by decide) rfl rfl (Nat.le_of_ble_eq_true rfl) (t_X10_number (1 : Int32) (99 : Int32)  h _ hyp) (fun r_2 h_1 hyp => ?_)
  refine ge_istore_n (lv' := [(2, .int r_2), (0, .ref 43), (1, .int a1)]) a_X10_readPace_7 rfl (Nat.le_of_ble_eq_true rfl) rfl ?_
  refine ge_aload_n a_X10_readPace_8 rfl 1 rfl ?_
  refine ge_ldcwS (i := 15) a_X10_readPace_9 sl_X10_287 ?_
  refine ge_cVI [.ref (100 + 15)] (rest := []) a_X10_readPace_12 ok_X10_isNext lk_X10_289 ⟨Nat.le_of_ble_eq_true rfl, Nat.le_of_ble_eq_true rfl⟩ (rfl : gm_cls 43 = 9) vc_9 (by decide) rfl rfl (Nat.le_of_ble_eq_true rfl) (t_X10_isNext 15 (by decide) h_1 _ hyp) (fun r_4 h_3 hyp => ?_)
  refine ge_if_eq a_X10_readPace_15 (fun c_5 => ?_) (fun c_5 => ?_)
  · have hyp := gm_ip hyp c_5
    refine ge_bipush (v := -100) a_X10_readPace_28 rfl ?_
    exact ge_sub [1, 2, 0] rfl (t_X10_readPace_b30 a1    Q   r_2 (-100 : Int32) h_3 hyp)
  · have hyp := gm_in hyp c_5
    refine ge_aload_n a_X10_readPace_18 rfl 1 rfl ?_
    refine ge_iconst (v := 0) a_X10_readPace_19 rfl ?_
    refine ge_bipush (v := 10) a_X10_readPace_20 rfl ?_
    refine ge_cVI [.int (0 : Int32), .int (10 : Int32)] (rest := []) a_X10_readPace_22 ok_X10_number lk_X10_284 ⟨Nat.le_of_ble_eq_true rfl, Nat.le_of_ble_eq_true rfl⟩ (rfl : gm_cls 43 = 9) vc_9 (by decide) rfl rfl (Nat.le_of_ble_eq_true rfl) (t_X10_number (0 : Int32) (10 : Int32)  h_3 _ hyp) (fun r_14 h_13 hyp => ?_)
    refine ge_goto a_X10_readPace_25 ?_
    exact ge_sub [1, 2, 0] rfl (t_X10_readPace_b30 a1    Q   r_2 r_14 h_13 hyp)

theorem a_X10_readRule_0 : At m_X10_readRule 0 (.aload_n 0) 1 1 := at_i (by decide +kernel) rfl
theorem a_X10_readRule_1 : At m_X10_readRule 1 (.bipush 10) 2 3 := at_i (by decide +kernel) rfl
theorem a_X10_readRule_3 : At m_X10_readRule 3 (.iload_n 1) 1 4 := at_i (by decide +kernel) rfl
theorem a_X10_readRule_4 : At m_X10_readRule 4 (.iadd) 1 5 := at_i (by decide +kernel) rfl
theorem a_X10_readRule_5 : At m_X10_readRule 5 (.aload_n 0) 1 6 := at_i (by decide +kernel) rfl
theorem a_X10_readRule_6 : At m_X10_readRule 6 (.iload_n 1) 1 7 := at_i (by decide +kernel) rfl
theorem a_X10_readRule_7 : At m_X10_readRule 7 (.invokestatic 122) 3 10 := at_i (by decide +kernel) rfl
theorem a_X10_readRule_10 : At m_X10_readRule 10 (.iload_n 1) 1 11 := at_i (by decide +kernel) rfl
theorem a_X10_readRule_11 : At m_X10_readRule 11 (.invokestatic 125) 3 14 := at_i (by decide +kernel) rfl
theorem a_X10_readRule_14 : At m_X10_readRule 14 (.invokevirtual 284) 3 17 := at_i (by decide +kernel) rfl
theorem a_X10_readRule_17 : At m_X10_readRule 17 (.bipush (-100)) 2 19 := at_i (by decide +kernel) rfl
theorem a_X10_readRule_19 : At m_X10_readRule 19 (.bipush (-100)) 2 21 := at_i (by decide +kernel) rfl
theorem a_X10_readRule_21 : At m_X10_readRule 21 (.invokevirtual 296) 3 24 := at_i (by decide +kernel) rfl
theorem a_X10_readRule_24 : At m_X10_readRule 24 (.return_) 1 25 := at_i (by decide +kernel) rfl
def f_X10_readRule (a1 : Int32) (h : Mem) (Q : Mem → Prop) : Prop :=
  f_X10_least a1 h fun r_2 h_1 =>
  f_X10_most a1 h_1 fun r_4 h_3 =>
  f_X10_number r_2 r_4 h_3 fun r_6 h_5 =>
  f_X10_item ((10 : Int32) + a1) r_6 (-100 : Int32) (-100 : Int32) h_5 fun h_7 =>
  Q h_7
set_option maxRecDepth 20000 in
theorem t_X10_readRule (a1 : Int32)  (h : Mem) (Q : Mem → Prop) (hyp : f_X10_readRule a1 h Q) : Cn m_X10_readRule [.ref 43, .int a1] h (GV Q) := by
  refine ge_entry (lv := [(0, .ref 43), (1, .int a1)]) pn_X10 (Nat.le_of_ble_eq_true rfl) rfl ?_
  unfold f_X10_readRule at hyp
  refine ge_aload_n a_X10_readRule_0 rfl 0 rfl ?_
  refine ge_bipush (v := 10) a_X10_readRule_1 rfl ?_
  refine ge_iload_n a_X10_readRule_3 rfl 1 rfl ?_
  refine ge_iadd a_X10_readRule_4 ?_
  refine ge_aload_n a_X10_readRule_5 rfl 0 rfl ?_
  refine ge_iload_n a_X10_readRule_6 rfl 1 rfl ?_
  refine ge_cSI [.int a1] (rest := [.ref 43, .int ((10 : Int32) + a1), .ref 43]) a_X10_readRule_7 ok_X10_least lk_X10_122 ⟨Nat.le_of_ble_eq_true rfl, Nat.le_of_ble_eq_true rfl⟩ rfl rfl (Nat.le_of_ble_eq_true rfl) (t_X10_least a1  h _ hyp) (fun r_2 h_1 hyp => ?_)
  refine ge_iload_n a_X10_readRule_10 rfl 1 rfl ?_
  refine ge_cSI [.int a1] (rest := [.int r_2, .ref 43, .int ((10 : Int32) + a1), .ref 43]) a_X10_readRule_11 ok_X10_most lk_X10_125 ⟨Nat.le_of_ble_eq_true rfl, Nat.le_of_ble_eq_true rfl⟩ rfl rfl (Nat.le_of_ble_eq_true rfl) (t_X10_most a1  h_1 _ hyp) (fun r_4 h_3 hyp => ?_)
  refine ge_cVI [.int r_2, .int r_4] (rest := [.int ((10 : Int32) + a1), .ref 43]) a_X10_readRule_14 ok_X10_number lk_X10_284 ⟨Nat.le_of_ble_eq_true rfl, Nat.le_of_ble_eq_true rfl⟩ (rfl : gm_cls 43 = 9) vc_9 (by decide) rfl rfl (Nat.le_of_ble_eq_true rfl) (t_X10_number r_2 r_4  h_3 _ hyp) (fun r_6 h_5 hyp => ?_)
  refine ge_bipush (v := -100) a_X10_readRule_17 rfl ?_
  refine ge_bipush (v := -100) a_X10_readRule_19 rfl ?_
  refine ge_cVV [.int ((10 : Int32) + a1), .int r_6, .int (-100 : Int32), .int (-100 : Int32)] (rest := []) a_X10_readRule_21 ok_X10_item lk_X10_296 ⟨Nat.le_of_ble_eq_true rfl, Nat.le_of_ble_eq_true rfl⟩ (rfl : gm_cls 43 = 9) vc_9 (by decide) rfl rfl (Nat.le_of_ble_eq_true rfl) (t_X10_item ((10 : Int32) + a1) r_6 (-100 : Int32) (-100 : Int32)  h_5 _ hyp) (fun h_7 hyp => ?_)
  exact ge_vret rfl a_X10_readRule_24 hyp

theorem a_X10_readItem_0 : At m_X10_readItem 0 (.aload_n 0) 1 1 := at_i (by decide +kernel) rfl
theorem a_X10_readItem_1 : At m_X10_readItem 1 (.invokevirtual 300) 3 4 := at_i (by decide +kernel) rfl
theorem a_X10_readItem_4 : At m_X10_readItem 4 (.istore_n 1) 1 5 := at_i (by decide +kernel) rfl
theorem a_X10_readItem_5 : At m_X10_readItem 5 (.iload_n 1) 1 6 := at_i (by decide +kernel) rfl
theorem a_X10_readItem_6 : AtJ m_X10_readItem 6 (.ifCond .lt 84) (84) 90 9 := at_j (by decide +kernel) (by decide) rfl
theorem a_X10_readItem_9 : At m_X10_readItem 9 (.aload_n 0) 1 10 := at_i (by decide +kernel) rfl
theorem a_X10_readItem_10 : At m_X10_readItem 10 (.aload_n 0) 1 11 := at_i (by decide +kernel) rfl
theorem a_X10_readItem_11 : At m_X10_readItem 11 (.getfield 303) 3 14 := at_i (by decide +kernel) rfl
theorem a_X10_readItem_14 : At m_X10_readItem 14 (.bipush 12) 2 16 := at_i (by decide +kernel) rfl
theorem a_X10_readItem_16 : AtJ m_X10_readItem 16 (.if_icmp .ge 7) (7) 23 19 := at_j (by decide +kernel) (by decide) rfl
theorem a_X10_readItem_19 : At m_X10_readItem 19 (.iconst 1) 1 20 := at_i (by decide +kernel) rfl
theorem a_X10_readItem_20 : AtJ m_X10_readItem 20 (.goto 4) (4) 24 23 := at_j (by decide +kernel) (by decide) rfl
theorem a_X10_readItem_23 : At m_X10_readItem 23 (.iconst 0) 1 24 := at_i (by decide +kernel) rfl
theorem a_X10_readItem_24 : At m_X10_readItem 24 (.invokevirtual 273) 3 27 := at_i (by decide +kernel) rfl
theorem a_X10_readItem_27 : At m_X10_readItem 27 (.aload_n 0) 1 28 := at_i (by decide +kernel) rfl
theorem a_X10_readItem_28 : At m_X10_readItem 28 (.dup) 1 29 := at_i (by decide +kernel) rfl
theorem a_X10_readItem_29 : At m_X10_readItem 29 (.getfield 303) 3 32 := at_i (by decide +kernel) rfl
theorem a_X10_readItem_32 : At m_X10_readItem 32 (.iconst 1) 1 33 := at_i (by decide +kernel) rfl
theorem a_X10_readItem_33 : At m_X10_readItem 33 (.iadd) 1 34 := at_i (by decide +kernel) rfl
theorem a_X10_readItem_34 : At m_X10_readItem 34 (.putfield 303) 3 37 := at_i (by decide +kernel) rfl
theorem a_X10_readItem_37 : At m_X10_readItem 37 (.aload_n 0) 1 38 := at_i (by decide +kernel) rfl
theorem a_X10_readItem_38 : At m_X10_readItem 38 (.ldc_w 306) 3 41 := at_i (by decide +kernel) rfl
theorem a_X10_readItem_41 : At m_X10_readItem 41 (.invokevirtual 289) 3 44 := at_i (by decide +kernel) rfl
theorem a_X10_readItem_44 : AtJ m_X10_readItem 44 (.ifCond .eq 13) (13) 57 47 := at_j (by decide +kernel) (by decide) rfl
theorem a_X10_readItem_47 : At m_X10_readItem 47 (.aload_n 0) 1 48 := at_i (by decide +kernel) rfl
theorem a_X10_readItem_48 : At m_X10_readItem 48 (.iconst 1) 1 49 := at_i (by decide +kernel) rfl
theorem a_X10_readItem_49 : At m_X10_readItem 49 (.bipush 20) 2 51 := at_i (by decide +kernel) rfl
theorem a_X10_readItem_51 : At m_X10_readItem 51 (.invokevirtual 284) 3 54 := at_i (by decide +kernel) rfl
theorem a_X10_readItem_54 : AtJ m_X10_readItem 54 (.goto 4) (4) 58 57 := at_j (by decide +kernel) (by decide) rfl
theorem a_X10_readItem_57 : At m_X10_readItem 57 (.iconst 5) 1 58 := at_i (by decide +kernel) rfl
theorem a_X10_readItem_58 : At m_X10_readItem 58 (.istore_n 2) 1 59 := at_i (by decide +kernel) rfl
theorem a_X10_readItem_59 : At m_X10_readItem 59 (.aload_n 0) 1 60 := at_i (by decide +kernel) rfl
theorem a_X10_readItem_60 : At m_X10_readItem 60 (.iload_n 1) 1 61 := at_i (by decide +kernel) rfl
theorem a_X10_readItem_61 : At m_X10_readItem 61 (.iload_n 2) 1 62 := at_i (by decide +kernel) rfl
theorem a_X10_readItem_62 : At m_X10_readItem 62 (.aload_n 0) 1 63 := at_i (by decide +kernel) rfl
theorem a_X10_readItem_63 : At m_X10_readItem 63 (.ldc_w 308) 3 66 := at_i (by decide +kernel) rfl
theorem a_X10_readItem_66 : At m_X10_readItem 66 (.invokevirtual 289) 3 69 := at_i (by decide +kernel) rfl
theorem a_X10_readItem_69 : AtJ m_X10_readItem 69 (.ifCond .eq 13) (13) 82 72 := at_j (by decide +kernel) (by decide) rfl
theorem a_X10_readItem_72 : At m_X10_readItem 72 (.aload_n 0) 1 73 := at_i (by decide +kernel) rfl
theorem a_X10_readItem_73 : At m_X10_readItem 73 (.iconst 0) 1 74 := at_i (by decide +kernel) rfl
theorem a_X10_readItem_74 : At m_X10_readItem 74 (.bipush 9) 2 76 := at_i (by decide +kernel) rfl
theorem a_X10_readItem_76 : At m_X10_readItem 76 (.invokevirtual 284) 3 79 := at_i (by decide +kernel) rfl
theorem a_X10_readItem_79 : AtJ m_X10_readItem 79 (.goto 4) (4) 83 82 := at_j (by decide +kernel) (by decide) rfl
theorem a_X10_readItem_82 : At m_X10_readItem 82 (.iconst 0) 1 83 := at_i (by decide +kernel) rfl
theorem a_X10_readItem_83 : At m_X10_readItem 83 (.iconst 0) 1 84 := at_i (by decide +kernel) rfl
theorem a_X10_readItem_84 : At m_X10_readItem 84 (.invokevirtual 296) 3 87 := at_i (by decide +kernel) rfl
theorem a_X10_readItem_87 : AtJ m_X10_readItem 87 (.goto 113) (113) 200 90 := at_j (by decide +kernel) (by decide) rfl
theorem a_X10_readItem_90 : At m_X10_readItem 90 (.aload_n 0) 1 91 := at_i (by decide +kernel) rfl
theorem a_X10_readItem_91 : At m_X10_readItem 91 (.ldc_w 310) 3 94 := at_i (by decide +kernel) rfl
theorem a_X10_readItem_94 : At m_X10_readItem 94 (.invokevirtual 289) 3 97 := at_i (by decide +kernel) rfl
theorem a_X10_readItem_97 : AtJ m_X10_readItem 97 (.ifCond .eq 11) (11) 108 100 := at_j (by decide +kernel) (by decide) rfl
theorem a_X10_readItem_100 : At m_X10_readItem 100 (.aload_n 0) 1 101 := at_i (by decide +kernel) rfl
theorem a_X10_readItem_101 : At m_X10_readItem 101 (.iconst 0) 1 102 := at_i (by decide +kernel) rfl
theorem a_X10_readItem_102 : At m_X10_readItem 102 (.invokevirtual 312) 3 105 := at_i (by decide +kernel) rfl
theorem a_X10_readItem_105 : AtJ m_X10_readItem 105 (.goto 95) (95) 200 108 := at_j (by decide +kernel) (by decide) rfl
theorem a_X10_readItem_108 : At m_X10_readItem 108 (.aload_n 0) 1 109 := at_i (by decide +kernel) rfl
theorem a_X10_readItem_109 : At m_X10_readItem 109 (.ldc_w 316) 3 112 := at_i (by decide +kernel) rfl
theorem a_X10_readItem_112 : At m_X10_readItem 112 (.invokevirtual 289) 3 115 := at_i (by decide +kernel) rfl
theorem a_X10_readItem_115 : AtJ m_X10_readItem 115 (.ifCond .eq 11) (11) 126 118 := at_j (by decide +kernel) (by decide) rfl
theorem a_X10_readItem_118 : At m_X10_readItem 118 (.aload_n 0) 1 119 := at_i (by decide +kernel) rfl
theorem a_X10_readItem_119 : At m_X10_readItem 119 (.iconst 1) 1 120 := at_i (by decide +kernel) rfl
theorem a_X10_readItem_120 : At m_X10_readItem 120 (.invokevirtual 312) 3 123 := at_i (by decide +kernel) rfl
theorem a_X10_readItem_123 : AtJ m_X10_readItem 123 (.goto 77) (77) 200 126 := at_j (by decide +kernel) (by decide) rfl
theorem a_X10_readItem_126 : At m_X10_readItem 126 (.aload_n 0) 1 127 := at_i (by decide +kernel) rfl
theorem a_X10_readItem_127 : At m_X10_readItem 127 (.ldc_w 318) 3 130 := at_i (by decide +kernel) rfl
theorem a_X10_readItem_130 : At m_X10_readItem 130 (.invokevirtual 289) 3 133 := at_i (by decide +kernel) rfl
theorem a_X10_readItem_133 : AtJ m_X10_readItem 133 (.ifCond .eq 12) (12) 145 136 := at_j (by decide +kernel) (by decide) rfl
theorem a_X10_readItem_136 : At m_X10_readItem 136 (.aload_n 0) 1 137 := at_i (by decide +kernel) rfl
theorem a_X10_readItem_137 : At m_X10_readItem 137 (.bipush 7) 2 139 := at_i (by decide +kernel) rfl
theorem a_X10_readItem_139 : At m_X10_readItem 139 (.invokevirtual 320) 3 142 := at_i (by decide +kernel) rfl
theorem a_X10_readItem_142 : AtJ m_X10_readItem 142 (.goto 58) (58) 200 145 := at_j (by decide +kernel) (by decide) rfl
theorem a_X10_readItem_145 : At m_X10_readItem 145 (.aload_n 0) 1 146 := at_i (by decide +kernel) rfl
theorem a_X10_readItem_146 : At m_X10_readItem 146 (.ldc_w 323) 3 149 := at_i (by decide +kernel) rfl
theorem a_X10_readItem_149 : At m_X10_readItem 149 (.invokevirtual 289) 3 152 := at_i (by decide +kernel) rfl
theorem a_X10_readItem_152 : AtJ m_X10_readItem 152 (.ifCond .eq 12) (12) 164 155 := at_j (by decide +kernel) (by decide) rfl
theorem a_X10_readItem_155 : At m_X10_readItem 155 (.aload_n 0) 1 156 := at_i (by decide +kernel) rfl
theorem a_X10_readItem_156 : At m_X10_readItem 156 (.bipush 6) 2 158 := at_i (by decide +kernel) rfl
theorem a_X10_readItem_158 : At m_X10_readItem 158 (.invokevirtual 320) 3 161 := at_i (by decide +kernel) rfl
theorem a_X10_readItem_161 : AtJ m_X10_readItem 161 (.goto 39) (39) 200 164 := at_j (by decide +kernel) (by decide) rfl
theorem a_X10_readItem_164 : At m_X10_readItem 164 (.aload_n 0) 1 165 := at_i (by decide +kernel) rfl
theorem a_X10_readItem_165 : At m_X10_readItem 165 (.ldc_w 325) 3 168 := at_i (by decide +kernel) rfl
theorem a_X10_readItem_168 : At m_X10_readItem 168 (.invokevirtual 289) 3 171 := at_i (by decide +kernel) rfl
theorem a_X10_readItem_171 : AtJ m_X10_readItem 171 (.ifCond .eq 12) (12) 183 174 := at_j (by decide +kernel) (by decide) rfl
theorem a_X10_readItem_174 : At m_X10_readItem 174 (.aload_n 0) 1 175 := at_i (by decide +kernel) rfl
theorem a_X10_readItem_175 : At m_X10_readItem 175 (.bipush 8) 2 177 := at_i (by decide +kernel) rfl
theorem a_X10_readItem_177 : At m_X10_readItem 177 (.invokevirtual 320) 3 180 := at_i (by decide +kernel) rfl
theorem a_X10_readItem_180 : AtJ m_X10_readItem 180 (.goto 20) (20) 200 183 := at_j (by decide +kernel) (by decide) rfl
theorem a_X10_readItem_183 : At m_X10_readItem 183 (.aload_n 0) 1 184 := at_i (by decide +kernel) rfl
theorem a_X10_readItem_184 : At m_X10_readItem 184 (.aload_n 0) 1 185 := at_i (by decide +kernel) rfl
theorem a_X10_readItem_185 : At m_X10_readItem 185 (.ldc_w 327) 3 188 := at_i (by decide +kernel) rfl
theorem a_X10_readItem_188 : At m_X10_readItem 188 (.invokevirtual 280) 3 191 := at_i (by decide +kernel) rfl
theorem a_X10_readItem_191 : At m_X10_readItem 191 (.invokevirtual 273) 3 194 := at_i (by decide +kernel) rfl
theorem a_X10_readItem_194 : At m_X10_readItem 194 (.aload_n 0) 1 195 := at_i (by decide +kernel) rfl
theorem a_X10_readItem_195 : At m_X10_readItem 195 (.bipush 9) 2 197 := at_i (by decide +kernel) rfl
theorem a_X10_readItem_197 : At m_X10_readItem 197 (.invokevirtual 320) 3 200 := at_i (by decide +kernel) rfl
theorem a_X10_readItem_200 : At m_X10_readItem 200 (.return_) 1 201 := at_i (by decide +kernel) rfl
def f_X10_readItem_b58   (Q : Mem → Prop)  (v1 : Int32) (s0 : Int32) (h : Mem) : Prop :=
  f_X10_isNext 14 h fun r_35 h_34 =>
  if r_35 = 0 then (
    f_X10_item v1 s0 (0 : Int32) (0 : Int32) h_34 fun h_37 =>
    Q h_37)
  else (
    f_X10_number (0 : Int32) (9 : Int32) h_34 fun r_39 h_38 =>
    f_X10_item v1 s0 r_39 (0 : Int32) h_38 fun h_40 =>
    Q h_40)
set_option maxRecDepth 20000 in
theorem t_X10_readItem_b58     (Q : Mem → Prop)   (v1 : Int32) (s0 : Int32) (h : Mem) (hyp : f_X10_readItem_b58   Q  v1 s0 h) : EV m_X10_readItem (GV Q) 58 [(0, .ref 43), (1, .int v1)] [.int s0] h := by
  unfold f_X10_readItem_b58 at hyp
  refine ge_istore_n (lv' := [(2, .int s0), (0, .ref 43), (1, .int v1)]) a_X10_readItem_58 rfl (Nat.le_of_ble_eq_true rfl) rfl ?_
  refine ge_aload_n a_X10_readItem_59 rfl 1 rfl ?_
  refine ge_iload_n a_X10_readItem_60 rfl 2 rfl ?_
  refine ge_iload_n a_X10_readItem_61 rfl 0 rfl ?_
  refine ge_aload_n a_X10_readItem_62 rfl 1 rfl ?_
  refine ge_ldcwS (i := 14) a_X10_readItem_63 sl_X10_308 ?_
  refine ge_cVI [.ref (100 + 14)] (rest := [.int s0, .int v1, .ref 43]) a_X10_readItem_66 ok_X10_isNext lk_X10_289 ⟨Nat.le_of_ble_eq_true rfl, Nat.le_of_ble_eq_true rfl⟩ (rfl : gm_cls 43 = 9) vc_9 (by decide) rfl rfl (Nat.le_of_ble_eq_true rfl) (t_X10_isNext 14 (by decide) h _ hyp) (fun r_35 h_34 hyp => ?_)
  refine ge_if_eq a_X10_readItem_69 (fun c_36 => ?_) (fun c_36 => ?_)
  · have hyp := gm_ip hyp c_36
    refine ge_iconst (v := 0) a_X10_readItem_82 rfl ?_
    refine ge_iconst (v := 0) a_X10_readItem_83 rfl ?_
    refine ge_cVV [.int v1, .int s0, .int (0 : Int32), .int (0 : Int32)] (rest := []) a_X10_readItem_84 ok_X10_item lk_X10_296 ⟨Nat.le_of_ble_eq_true rfl, Nat.le_of_ble_eq_true rfl⟩ (rfl : gm_cls 43 = 9) vc_9 (by decide) rfl rfl (Nat.le_of_ble_eq_true rfl) (t_X10_item v1 s0 (0 : Int32) (0 : Int32)  h_34 _ hyp) (fun h_37 hyp => ?_)
    refine ge_goto a_X10_readItem_87 ?_
    exact ge_vret rfl a_X10_readItem_200 hyp
  · have hyp := gm_in hyp c_36
    refine ge_aload_n a_X10_readItem_72 rfl 1 rfl ?_
    refine ge_iconst (v := 0) a_X10_readItem_73 rfl ?_
    refine ge_bipush (v := 9) a_X10_readItem_74 rfl ?_
    refine ge_cVI [.int (0 : Int32), .int (9 : Int32)] (rest := [.int s0, .int v1, .ref 43]) a_X10_readItem_76 ok_X10_number lk_X10_284 ⟨Nat.le_of_ble_eq_true rfl, Nat.le_of_ble_eq_true rfl⟩ (rfl : gm_cls 43 = 9) vc_9 (by decide) rfl rfl (Nat.le_of_ble_eq_true rfl) (t_X10_number (0 : Int32) (9 : Int32)  h_34 _ hyp) (fun r_39 h_38 hyp => ?_)
    refine ge_goto a_X10_readItem_79 ?_
    refine ge_iconst (v := 0) a_X10_readItem_83 rfl ?_
    refine ge_cVV [.int v1, .int s0, .int r_39, .int (0 : Int32)] (rest := []) a_X10_readItem_84 ok_X10_item lk_X10_296 ⟨Nat.le_of_ble_eq_true rfl, Nat.le_of_ble_eq_true rfl⟩ (rfl : gm_cls 43 = 9) vc_9 (by decide) rfl rfl (Nat.le_of_ble_eq_true rfl) (t_X10_item v1 s0 r_39 (0 : Int32)  h_38 _ hyp) (fun h_40 hyp => ?_)
    refine ge_goto a_X10_readItem_87 ?_
    exact ge_vret rfl a_X10_readItem_200 hyp
def f_X10_readItem_b24   (Q : Mem → Prop)  (v1 : Int32) (s0 : Int32) (h : Mem) : Prop :=
  f_X10_must s0 h fun h_29 =>
  ∀ h_30 : Mem, h_30 = gm_st h_29 43 23 ((h_29 43 23) + (1 : Int32)) →
  f_X10_isNext 13 h_30 fun r_32 h_31 =>
  if r_32 = 0 then (
    f_X10_readItem_b58   Q  v1 (5 : Int32) h_31)
  else (
    f_X10_number (1 : Int32) (20 : Int32) h_31 fun r_42 h_41 =>
    f_X10_readItem_b58   Q  v1 r_42 h_41)
set_option maxRecDepth 20000 in
theorem t_X10_readItem_b24     (Q : Mem → Prop)   (v1 : Int32) (s0 : Int32) (h : Mem) (hyp : f_X10_readItem_b24   Q  v1 s0 h) : EV m_X10_readItem (GV Q) 24 [(0, .ref 43), (1, .int v1)] [.int s0, .ref 43] h := by
  unfold f_X10_readItem_b24 at hyp
  refine ge_cVV [.int s0] (rest := []) a_X10_readItem_24 ok_X10_must lk_X10_273 ⟨Nat.le_of_ble_eq_true rfl, Nat.le_of_ble_eq_true rfl⟩ (rfl : gm_cls 43 = 9) vc_9 (by decide) rfl rfl (Nat.le_of_ble_eq_true rfl) (t_X10_must s0  h _ hyp) (fun h_29 hyp => ?_)
  refine ge_aload_n a_X10_readItem_27 rfl 0 rfl ?_
  refine ge_dup a_X10_readItem_28 rfl ?_
  refine ge_getI a_X10_readItem_29 fd_X10_303 (rfl : gm_cls 43 = 9) ?_
  refine ge_iconst (v := 1) a_X10_readItem_32 rfl ?_
  refine ge_iadd a_X10_readItem_33 ?_
  refine ge_putI a_X10_readItem_34 pd_X10_303 (rfl : gm_cls 43 = 9) ?_
  refine ge_nm (fun h_30 eh_30 => ?_)
  have hyp := hyp h_30 eh_30
  refine ge_aload_n a_X10_readItem_37 rfl 0 rfl ?_
  refine ge_ldcwS (i := 13) a_X10_readItem_38 sl_X10_306 ?_
  refine ge_cVI [.ref (100 + 13)] (rest := []) a_X10_readItem_41 ok_X10_isNext lk_X10_289 ⟨Nat.le_of_ble_eq_true rfl, Nat.le_of_ble_eq_true rfl⟩ (rfl : gm_cls 43 = 9) vc_9 (by decide) rfl rfl (Nat.le_of_ble_eq_true rfl) (t_X10_isNext 13 (by decide) h_30 _ hyp) (fun r_32 h_31 hyp => ?_)
  refine ge_if_eq a_X10_readItem_44 (fun c_33 => ?_) (fun c_33 => ?_)
  · have hyp := gm_ip hyp c_33
    refine ge_iconst (v := 5) a_X10_readItem_57 rfl ?_
    exact ge_sub [0, 1] rfl (t_X10_readItem_b58     Q   v1 (5 : Int32) h_31 hyp)
  · have hyp := gm_in hyp c_33
    refine ge_aload_n a_X10_readItem_47 rfl 0 rfl ?_
    refine ge_iconst (v := 1) a_X10_readItem_48 rfl ?_
    refine ge_bipush (v := 20) a_X10_readItem_49 rfl ?_
    refine ge_cVI [.int (1 : Int32), .int (20 : Int32)] (rest := []) a_X10_readItem_51 ok_X10_number lk_X10_284 ⟨Nat.le_of_ble_eq_true rfl, Nat.le_of_ble_eq_true rfl⟩ (rfl : gm_cls 43 = 9) vc_9 (by decide) rfl rfl (Nat.le_of_ble_eq_true rfl) (t_X10_number (1 : Int32) (20 : Int32)  h_31 _ hyp) (fun r_42 h_41 hyp => ?_)
    refine ge_goto a_X10_readItem_54 ?_
    exact ge_sub [0, 1] rfl (t_X10_readItem_b58     Q   v1 r_42 h_41 hyp)
def f_X10_readItem  (h : Mem) (Q : Mem → Prop) : Prop :=
  f_X10_kindTold  h fun r_2 h_1 =>
  if r_2 < 0 then (
    f_X10_isNext 7 h_1 fun r_5 h_4 =>
    if r_5 = 0 then (
      f_X10_isNext 8 h_4 fun r_8 h_7 =>
      if r_8 = 0 then (
        f_X10_isNext 9 h_7 fun r_11 h_10 =>
        if r_11 = 0 then (
          f_X10_isNext 10 h_10 fun r_14 h_13 =>
          if r_14 = 0 then (
            f_X10_isNext 11 h_13 fun r_17 h_16 =>
            if r_17 = 0 then (
              f_X10_isWord 12 h_16 fun r_20 h_19 =>
              f_X10_must r_20 h_19 fun h_21 =>
              f_X10_readRule (9 : Int32) h_21 fun h_22 =>
              Q h_22)
            else (
              f_X10_readRule (8 : Int32) h_16 fun h_23 =>
              Q h_23))
          else (
            f_X10_readRule (6 : Int32) h_13 fun h_24 =>
            Q h_24))
        else (
          f_X10_readRule (7 : Int32) h_10 fun h_25 =>
          Q h_25))
      else (
        f_X10_readPace (1 : Int32) h_7 fun h_26 =>
        Q h_26))
    else (
      f_X10_readPace (0 : Int32) h_4 fun h_27 =>
      Q h_27))
  else (
    if (12 : Int32) ≤ h_1 43 23 then (
      f_X10_readItem_b24   Q  r_2 (0 : Int32) h_1)
    else (
      f_X10_readItem_b24   Q  r_2 (1 : Int32) h_1))
set_option maxRecDepth 20000 in
theorem t_X10_readItem   (h : Mem) (Q : Mem → Prop) (hyp : f_X10_readItem  h Q) : Cn m_X10_readItem [.ref 43] h (GV Q) := by
  refine ge_entry (lv := [(0, .ref 43)]) pn_X10 (Nat.le_of_ble_eq_true rfl) rfl ?_
  unfold f_X10_readItem at hyp
  refine ge_aload_n a_X10_readItem_0 rfl 0 rfl ?_
  refine ge_cVI [] (rest := []) a_X10_readItem_1 ok_X10_kindTold lk_X10_300 ⟨Nat.le_of_ble_eq_true rfl, Nat.le_of_ble_eq_true rfl⟩ (rfl : gm_cls 43 = 9) vc_9 (by decide) rfl rfl (Nat.le_of_ble_eq_true rfl) (t_X10_kindTold   h _ hyp) (fun r_2 h_1 hyp => ?_)
  refine ge_istore_n (lv' := [(1, .int r_2), (0, .ref 43)]) a_X10_readItem_4 rfl (Nat.le_of_ble_eq_true rfl) rfl ?_
  refine ge_iload_n a_X10_readItem_5 rfl 0 rfl ?_
  refine ge_if_lt a_X10_readItem_6 (fun c_3 => ?_) (fun c_3 => ?_)
  · have hyp := gm_ip hyp c_3
    refine ge_aload_n a_X10_readItem_90 rfl 1 rfl ?_
    refine ge_ldcwS (i := 7) a_X10_readItem_91 sl_X10_310 ?_
    refine ge_cVI [.ref (100 + 7)] (rest := []) a_X10_readItem_94 ok_X10_isNext lk_X10_289 ⟨Nat.le_of_ble_eq_true rfl, Nat.le_of_ble_eq_true rfl⟩ (rfl : gm_cls 43 = 9) vc_9 (by decide) rfl rfl (Nat.le_of_ble_eq_true rfl) (t_X10_isNext 7 (by decide) h_1 _ hyp) (fun r_5 h_4 hyp => ?_)
    refine ge_if_eq a_X10_readItem_97 (fun c_6 => ?_) (fun c_6 => ?_)
    · have hyp := gm_ip hyp c_6
      refine ge_aload_n a_X10_readItem_108 rfl 1 rfl ?_
      refine ge_ldcwS (i := 8) a_X10_readItem_109 sl_X10_316 ?_
      refine ge_cVI [.ref (100 + 8)] (rest := []) a_X10_readItem_112 ok_X10_isNext lk_X10_289 ⟨Nat.le_of_ble_eq_true rfl, Nat.le_of_ble_eq_true rfl⟩ (rfl : gm_cls 43 = 9) vc_9 (by decide) rfl rfl (Nat.le_of_ble_eq_true rfl) (t_X10_isNext 8 (by decide) h_4 _ hyp) (fun r_8 h_7 hyp => ?_)
      refine ge_if_eq a_X10_readItem_115 (fun c_9 => ?_) (fun c_9 => ?_)
      · have hyp := gm_ip hyp c_9
        refine ge_aload_n a_X10_readItem_126 rfl 1 rfl ?_
        refine ge_ldcwS (i := 9) a_X10_readItem_127 sl_X10_318 ?_
        refine ge_cVI [.ref (100 + 9)] (rest := []) a_X10_readItem_130 ok_X10_isNext lk_X10_289 ⟨Nat.le_of_ble_eq_true rfl, Nat.le_of_ble_eq_true rfl⟩ (rfl : gm_cls 43 = 9) vc_9 (by decide) rfl rfl (Nat.le_of_ble_eq_true rfl) (t_X10_isNext 9 (by decide) h_7 _ hyp) (fun r_11 h_10 hyp => ?_)
        refine ge_if_eq a_X10_readItem_133 (fun c_12 => ?_) (fun c_12 => ?_)
        · have hyp := gm_ip hyp c_12
          refine ge_aload_n a_X10_readItem_145 rfl 1 rfl ?_
          refine ge_ldcwS (i := 10) a_X10_readItem_146 sl_X10_323 ?_
          refine ge_cVI [.ref (100 + 10)] (rest := []) a_X10_readItem_149 ok_X10_isNext lk_X10_289 ⟨Nat.le_of_ble_eq_true rfl, Nat.le_of_ble_eq_true rfl⟩ (rfl : gm_cls 43 = 9) vc_9 (by decide) rfl rfl (Nat.le_of_ble_eq_true rfl) (t_X10_isNext 10 (by decide) h_10 _ hyp) (fun r_14 h_13 hyp => ?_)
          refine ge_if_eq a_X10_readItem_152 (fun c_15 => ?_) (fun c_15 => ?_)
          · have hyp := gm_ip hyp c_15
            refine ge_aload_n a_X10_readItem_164 rfl 1 rfl ?_
            refine ge_ldcwS (i := 11) a_X10_readItem_165 sl_X10_325 ?_
            refine ge_cVI [.ref (100 + 11)] (rest := []) a_X10_readItem_168 ok_X10_isNext lk_X10_289 ⟨Nat.le_of_ble_eq_true rfl, Nat.le_of_ble_eq_true rfl⟩ (rfl : gm_cls 43 = 9) vc_9 (by decide) rfl rfl (Nat.le_of_ble_eq_true rfl) (t_X10_isNext 11 (by decide) h_13 _ hyp) (fun r_17 h_16 hyp => ?_)
            refine ge_if_eq a_X10_readItem_171 (fun c_18 => ?_) (fun c_18 => ?_)
            · have hyp := gm_ip hyp c_18
              refine ge_aload_n a_X10_readItem_183 rfl 1 rfl ?_
              refine ge_aload_n a_X10_readItem_184 rfl 1 rfl ?_
              refine ge_ldcwS (i := 12) a_X10_readItem_185 sl_X10_327 ?_
              refine ge_cVI [.ref (100 + 12)] (rest := [.ref 43]) a_X10_readItem_188 ok_X10_isWord lk_X10_280 ⟨Nat.le_of_ble_eq_true rfl, Nat.le_of_ble_eq_true rfl⟩ (rfl : gm_cls 43 = 9) vc_9 (by decide) rfl rfl (Nat.le_of_ble_eq_true rfl) (t_X10_isWord 12 (by decide) h_16 _ hyp) (fun r_20 h_19 hyp => ?_)
              refine ge_cVV [.int r_20] (rest := []) a_X10_readItem_191 ok_X10_must lk_X10_273 ⟨Nat.le_of_ble_eq_true rfl, Nat.le_of_ble_eq_true rfl⟩ (rfl : gm_cls 43 = 9) vc_9 (by decide) rfl rfl (Nat.le_of_ble_eq_true rfl) (t_X10_must r_20  h_19 _ hyp) (fun h_21 hyp => ?_)
              refine ge_aload_n a_X10_readItem_194 rfl 1 rfl ?_
              refine ge_bipush (v := 9) a_X10_readItem_195 rfl ?_
              refine ge_cVV [.int (9 : Int32)] (rest := []) a_X10_readItem_197 ok_X10_readRule lk_X10_320 ⟨Nat.le_of_ble_eq_true rfl, Nat.le_of_ble_eq_true rfl⟩ (rfl : gm_cls 43 = 9) vc_9 (by decide) rfl rfl (Nat.le_of_ble_eq_true rfl) (t_X10_readRule (9 : Int32)  h_21 _ hyp) (fun h_22 hyp => ?_)
              exact ge_vret rfl a_X10_readItem_200 hyp
            · have hyp := gm_in hyp c_18
              refine ge_aload_n a_X10_readItem_174 rfl 1 rfl ?_
              refine ge_bipush (v := 8) a_X10_readItem_175 rfl ?_
              refine ge_cVV [.int (8 : Int32)] (rest := []) a_X10_readItem_177 ok_X10_readRule lk_X10_320 ⟨Nat.le_of_ble_eq_true rfl, Nat.le_of_ble_eq_true rfl⟩ (rfl : gm_cls 43 = 9) vc_9 (by decide) rfl rfl (Nat.le_of_ble_eq_true rfl) (t_X10_readRule (8 : Int32)  h_16 _ hyp) (fun h_23 hyp => ?_)
              refine ge_goto a_X10_readItem_180 ?_
              exact ge_vret rfl a_X10_readItem_200 hyp
          · have hyp := gm_in hyp c_15
            refine ge_aload_n a_X10_readItem_155 rfl 1 rfl ?_
            refine ge_bipush (v := 6) a_X10_readItem_156 rfl ?_
            refine ge_cVV [.int (6 : Int32)] (rest := []) a_X10_readItem_158 ok_X10_readRule lk_X10_320 ⟨Nat.le_of_ble_eq_true rfl, Nat.le_of_ble_eq_true rfl⟩ (rfl : gm_cls 43 = 9) vc_9 (by decide) rfl rfl (Nat.le_of_ble_eq_true rfl) (t_X10_readRule (6 : Int32)  h_13 _ hyp) (fun h_24 hyp => ?_)
            refine ge_goto a_X10_readItem_161 ?_
            exact ge_vret rfl a_X10_readItem_200 hyp
        · have hyp := gm_in hyp c_12
          refine ge_aload_n a_X10_readItem_136 rfl 1 rfl ?_
          refine ge_bipush (v := 7) a_X10_readItem_137 rfl ?_
          refine ge_cVV [.int (7 : Int32)] (rest := []) a_X10_readItem_139 ok_X10_readRule lk_X10_320 ⟨Nat.le_of_ble_eq_true rfl, Nat.le_of_ble_eq_true rfl⟩ (rfl : gm_cls 43 = 9) vc_9 (by decide) rfl rfl (Nat.le_of_ble_eq_true rfl) (t_X10_readRule (7 : Int32)  h_10 _ hyp) (fun h_25 hyp => ?_)
          refine ge_goto a_X10_readItem_142 ?_
          exact ge_vret rfl a_X10_readItem_200 hyp
      · have hyp := gm_in hyp c_9
        refine ge_aload_n a_X10_readItem_118 rfl 1 rfl ?_
        refine ge_iconst (v := 1) a_X10_readItem_119 rfl ?_
        refine ge_cVV [.int (1 : Int32)] (rest := []) a_X10_readItem_120 ok_X10_readPace lk_X10_312 ⟨Nat.le_of_ble_eq_true rfl, Nat.le_of_ble_eq_true rfl⟩ (rfl : gm_cls 43 = 9) vc_9 (by decide) rfl rfl (Nat.le_of_ble_eq_true rfl) (t_X10_readPace (1 : Int32)  h_7 _ hyp) (fun h_26 hyp => ?_)
        refine ge_goto a_X10_readItem_123 ?_
        exact ge_vret rfl a_X10_readItem_200 hyp
    · have hyp := gm_in hyp c_6
      refine ge_aload_n a_X10_readItem_100 rfl 1 rfl ?_
      refine ge_iconst (v := 0) a_X10_readItem_101 rfl ?_
      refine ge_cVV [.int (0 : Int32)] (rest := []) a_X10_readItem_102 ok_X10_readPace lk_X10_312 ⟨Nat.le_of_ble_eq_true rfl, Nat.le_of_ble_eq_true rfl⟩ (rfl : gm_cls 43 = 9) vc_9 (by decide) rfl rfl (Nat.le_of_ble_eq_true rfl) (t_X10_readPace (0 : Int32)  h_4 _ hyp) (fun h_27 hyp => ?_)
      refine ge_goto a_X10_readItem_105 ?_
      exact ge_vret rfl a_X10_readItem_200 hyp
  · have hyp := gm_in hyp c_3
    refine ge_aload_n a_X10_readItem_9 rfl 1 rfl ?_
    refine ge_aload_n a_X10_readItem_10 rfl 1 rfl ?_
    refine ge_getI a_X10_readItem_11 fd_X10_303 (rfl : gm_cls 43 = 9) ?_
    refine ge_bipush (v := 12) a_X10_readItem_14 rfl ?_
    refine ge_icmp_ge a_X10_readItem_16 (fun c_28 => ?_) (fun c_28 => ?_)
    · have hyp := gm_ip hyp c_28
      refine ge_iconst (v := 0) a_X10_readItem_23 rfl ?_
      exact ge_sub [1, 0] rfl (t_X10_readItem_b24     Q   r_2 (0 : Int32) h_1 hyp)
    · have hyp := gm_in hyp c_28
      refine ge_iconst (v := 1) a_X10_readItem_19 rfl ?_
      refine ge_goto a_X10_readItem_20 ?_
      exact ge_sub [1, 0] rfl (t_X10_readItem_b24     Q   r_2 (1 : Int32) h_1 hyp)

theorem a_X10_becomesTold_0 : At m_X10_becomesTold 0 (.aload_n 0) 1 1 := at_i (by decide +kernel) rfl
theorem a_X10_becomesTold_1 : At m_X10_becomesTold 1 (.getfield 9) 3 4 := at_i (by decide +kernel) rfl
theorem a_X10_becomesTold_4 : At m_X10_becomesTold 4 (.iload_n 1) 1 5 := at_i (by decide +kernel) rfl
theorem a_X10_becomesTold_5 : At m_X10_becomesTold 5 (.iload_n 2) 1 6 := at_i (by decide +kernel) rfl
theorem a_X10_becomesTold_6 : At m_X10_becomesTold 6 (.bipush (-100)) 2 8 := at_i (by decide +kernel) rfl
theorem a_X10_becomesTold_8 : AtJ m_X10_becomesTold 8 (.if_icmp .ne 12) (12) 20 11 := at_j (by decide +kernel) (by decide) rfl
theorem a_X10_becomesTold_11 : At m_X10_becomesTold 11 (.aload_n 0) 1 12 := at_i (by decide +kernel) rfl
theorem a_X10_becomesTold_12 : At m_X10_becomesTold 12 (.getfield 9) 3 15 := at_i (by decide +kernel) rfl
theorem a_X10_becomesTold_15 : At m_X10_becomesTold 15 (.iload_n 1) 1 16 := at_i (by decide +kernel) rfl
theorem a_X10_becomesTold_16 : At m_X10_becomesTold 16 (.iaload) 1 17 := at_i (by decide +kernel) rfl
theorem a_X10_becomesTold_17 : AtJ m_X10_becomesTold 17 (.goto 4) (4) 21 20 := at_j (by decide +kernel) (by decide) rfl
theorem a_X10_becomesTold_20 : At m_X10_becomesTold 20 (.iload_n 2) 1 21 := at_i (by decide +kernel) rfl
theorem a_X10_becomesTold_21 : At m_X10_becomesTold 21 (.iastore) 1 22 := at_i (by decide +kernel) rfl
theorem a_X10_becomesTold_22 : At m_X10_becomesTold 22 (.return_) 1 23 := at_i (by decide +kernel) rfl
def f_X10_becomesTold (a1 : Int32) (a2 : Int32) (h : Mem) (Q : Mem → Prop) : Prop :=
  if a2 = (-100 : Int32) then (
    vp_in a1 62 ∧
    vp_in a1 62 ∧
    ∀ h_6 : Mem, h_6 = gm_st h 44 a1.toNatClampNeg (h 44 a1.toNatClampNeg) →
    Q h_6)
  else (
    vp_in a1 62 ∧
    ∀ h_3 : Mem, h_3 = gm_st h 44 a1.toNatClampNeg a2 →
    Q h_3)
set_option maxRecDepth 20000 in
theorem t_X10_becomesTold (a1 : Int32) (a2 : Int32)  (h : Mem) (Q : Mem → Prop) (hyp : f_X10_becomesTold a1 a2 h Q) : Cn m_X10_becomesTold [.ref 43, .int a1, .int a2] h (GV Q) := by
  refine ge_entry (lv := [(0, .ref 43), (1, .int a1), (2, .int a2)]) pn_X10 (Nat.le_of_ble_eq_true rfl) rfl ?_
  unfold f_X10_becomesTold at hyp
  refine ge_aload_n a_X10_becomesTold_0 rfl 0 rfl ?_
  refine ge_getR (q := 44) a_X10_becomesTold_1 fd_X10_9 (rfl : gm_cls 43 = 9) rfl ?_
  refine ge_iload_n a_X10_becomesTold_4 rfl 1 rfl ?_
  refine ge_iload_n a_X10_becomesTold_5 rfl 2 rfl ?_
  refine ge_bipush (v := -100) a_X10_becomesTold_6 rfl ?_
  refine ge_icmp_ne a_X10_becomesTold_8 (fun c_1 => ?_) (fun c_1 => ?_)
  · have hyp := gm_in hyp c_1
    refine ge_iload_n a_X10_becomesTold_20 rfl 2 rfl ?_
    obtain ⟨b_2, hyp⟩ := hyp
    refine ge_iast (j := a1.toNatClampNeg) a_X10_becomesTold_21 ga_44 b_2 rfl ?_
    refine ge_nm (fun h_3 eh_3 => ?_)
    have hyp := hyp h_3 eh_3
    exact ge_vret rfl a_X10_becomesTold_22 hyp
  · have hyp := gm_ip hyp c_1
    refine ge_aload_n a_X10_becomesTold_11 rfl 0 rfl ?_
    refine ge_getR (q := 44) a_X10_becomesTold_12 fd_X10_9 (rfl : gm_cls 43 = 9) rfl ?_
    refine ge_iload_n a_X10_becomesTold_15 rfl 1 rfl ?_
    obtain ⟨b_4, hyp⟩ := hyp
    refine ge_iald (j := a1.toNatClampNeg) a_X10_becomesTold_16 ga_44 b_4 rfl ?_
    refine ge_goto a_X10_becomesTold_17 ?_
    obtain ⟨b_5, hyp⟩ := hyp
    refine ge_iast (j := a1.toNatClampNeg) a_X10_becomesTold_21 ga_44 b_5 rfl ?_
    refine ge_nm (fun h_6 eh_6 => ?_)
    have hyp := hyp h_6 eh_6
    exact ge_vret rfl a_X10_becomesTold_22 hyp

theorem a_X10_isSo_0 : At m_X10_isSo 0 (.aload_n 0) 1 1 := at_i (by decide +kernel) rfl
theorem a_X10_isSo_1 : At m_X10_isSo 1 (.getfield 51) 3 4 := at_i (by decide +kernel) rfl
theorem a_X10_isSo_4 : At m_X10_isSo 4 (.iload_n 1) 1 5 := at_i (by decide +kernel) rfl
theorem a_X10_isSo_5 : At m_X10_isSo 5 (.iaload) 1 6 := at_i (by decide +kernel) rfl
theorem a_X10_isSo_6 : At m_X10_isSo 6 (.istore_n 2) 1 7 := at_i (by decide +kernel) rfl
theorem a_X10_isSo_7 : At m_X10_isSo 7 (.aload_n 0) 1 8 := at_i (by decide +kernel) rfl
theorem a_X10_isSo_8 : At m_X10_isSo 8 (.getfield 51) 3 11 := at_i (by decide +kernel) rfl
theorem a_X10_isSo_11 : At m_X10_isSo 11 (.iload_n 1) 1 12 := at_i (by decide +kernel) rfl
theorem a_X10_isSo_12 : At m_X10_isSo 12 (.iconst 1) 1 13 := at_i (by decide +kernel) rfl
theorem a_X10_isSo_13 : At m_X10_isSo 13 (.iadd) 1 14 := at_i (by decide +kernel) rfl
theorem a_X10_isSo_14 : At m_X10_isSo 14 (.iaload) 1 15 := at_i (by decide +kernel) rfl
theorem a_X10_isSo_15 : At m_X10_isSo 15 (.istore_n 3) 1 16 := at_i (by decide +kernel) rfl
theorem a_X10_isSo_16 : At m_X10_isSo 16 (.iload_n 2) 1 17 := at_i (by decide +kernel) rfl
theorem a_X10_isSo_17 : At m_X10_isSo 17 (.bipush 10) 2 19 := at_i (by decide +kernel) rfl
theorem a_X10_isSo_19 : AtJ m_X10_isSo 19 (.if_icmp .ge 18) (18) 37 22 := at_j (by decide +kernel) (by decide) rfl
theorem a_X10_isSo_22 : At m_X10_isSo 22 (.aload_n 0) 1 23 := at_i (by decide +kernel) rfl
theorem a_X10_isSo_23 : At m_X10_isSo 23 (.iload_n 2) 1 24 := at_i (by decide +kernel) rfl
theorem a_X10_isSo_24 : At m_X10_isSo 24 (.iload_n 3) 1 25 := at_i (by decide +kernel) rfl
theorem a_X10_isSo_25 : At m_X10_isSo 25 (.aload_n 0) 1 26 := at_i (by decide +kernel) rfl
theorem a_X10_isSo_26 : At m_X10_isSo 26 (.getfield 51) 3 29 := at_i (by decide +kernel) rfl
theorem a_X10_isSo_29 : At m_X10_isSo 29 (.iload_n 1) 1 30 := at_i (by decide +kernel) rfl
theorem a_X10_isSo_30 : At m_X10_isSo 30 (.iconst 2) 1 31 := at_i (by decide +kernel) rfl
theorem a_X10_isSo_31 : At m_X10_isSo 31 (.iadd) 1 32 := at_i (by decide +kernel) rfl
theorem a_X10_isSo_32 : At m_X10_isSo 32 (.iaload) 1 33 := at_i (by decide +kernel) rfl
theorem a_X10_isSo_33 : At m_X10_isSo 33 (.invokevirtual 88) 3 36 := at_i (by decide +kernel) rfl
theorem a_X10_isSo_36 : At m_X10_isSo 36 (.ireturn) 1 37 := at_i (by decide +kernel) rfl
theorem a_X10_isSo_37 : At m_X10_isSo 37 (.bipush 6) 2 39 := at_i (by decide +kernel) rfl
theorem a_X10_isSo_39 : At m_X10_isSo 39 (.iload_n 2) 1 40 := at_i (by decide +kernel) rfl
theorem a_X10_isSo_40 : At m_X10_isSo 40 (.iadd) 1 41 := at_i (by decide +kernel) rfl
theorem a_X10_isSo_41 : At m_X10_isSo 41 (.bipush 10) 2 43 := at_i (by decide +kernel) rfl
theorem a_X10_isSo_43 : At m_X10_isSo 43 (.isub) 1 44 := at_i (by decide +kernel) rfl
theorem a_X10_isSo_44 : At m_X10_isSo 44 (.istore 4) 2 46 := at_i (by decide +kernel) rfl
theorem a_X10_isSo_46 : At m_X10_isSo 46 (.aload_n 0) 1 47 := at_i (by decide +kernel) rfl
theorem a_X10_isSo_47 : At m_X10_isSo 47 (.getfield 9) 3 50 := at_i (by decide +kernel) rfl
theorem a_X10_isSo_50 : At m_X10_isSo 50 (.iload 4) 2 52 := at_i (by decide +kernel) rfl
theorem a_X10_isSo_52 : At m_X10_isSo 52 (.iload_n 3) 1 53 := at_i (by decide +kernel) rfl
theorem a_X10_isSo_53 : At m_X10_isSo 53 (.iastore) 1 54 := at_i (by decide +kernel) rfl
theorem a_X10_isSo_54 : At m_X10_isSo 54 (.aload_n 0) 1 55 := at_i (by decide +kernel) rfl
theorem a_X10_isSo_55 : At m_X10_isSo 55 (.iload 4) 2 57 := at_i (by decide +kernel) rfl
theorem a_X10_isSo_57 : At m_X10_isSo 57 (.bipush 8) 2 59 := at_i (by decide +kernel) rfl
theorem a_X10_isSo_59 : AtJ m_X10_isSo 59 (.if_icmp .ge 10) (10) 69 62 := at_j (by decide +kernel) (by decide) rfl
theorem a_X10_isSo_62 : At m_X10_isSo 62 (.iload 4) 2 64 := at_i (by decide +kernel) rfl
theorem a_X10_isSo_64 : At m_X10_isSo 64 (.iconst 2) 1 65 := at_i (by decide +kernel) rfl
theorem a_X10_isSo_65 : At m_X10_isSo 65 (.iadd) 1 66 := at_i (by decide +kernel) rfl
theorem a_X10_isSo_66 : AtJ m_X10_isSo 66 (.goto 5) (5) 71 69 := at_j (by decide +kernel) (by decide) rfl
theorem a_X10_isSo_69 : At m_X10_isSo 69 (.iload 4) 2 71 := at_i (by decide +kernel) rfl
theorem a_X10_isSo_71 : At m_X10_isSo 71 (.aload_n 0) 1 72 := at_i (by decide +kernel) rfl
theorem a_X10_isSo_72 : At m_X10_isSo 72 (.getfield 51) 3 75 := at_i (by decide +kernel) rfl
theorem a_X10_isSo_75 : At m_X10_isSo 75 (.iload_n 1) 1 76 := at_i (by decide +kernel) rfl
theorem a_X10_isSo_76 : At m_X10_isSo 76 (.iconst 2) 1 77 := at_i (by decide +kernel) rfl
theorem a_X10_isSo_77 : At m_X10_isSo 77 (.iadd) 1 78 := at_i (by decide +kernel) rfl
theorem a_X10_isSo_78 : At m_X10_isSo 78 (.iaload) 1 79 := at_i (by decide +kernel) rfl
theorem a_X10_isSo_79 : At m_X10_isSo 79 (.invokevirtual 329) 3 82 := at_i (by decide +kernel) rfl
theorem a_X10_isSo_82 : At m_X10_isSo 82 (.aload_n 0) 1 83 := at_i (by decide +kernel) rfl
theorem a_X10_isSo_83 : At m_X10_isSo 83 (.iload 4) 2 85 := at_i (by decide +kernel) rfl
theorem a_X10_isSo_85 : At m_X10_isSo 85 (.bipush 8) 2 87 := at_i (by decide +kernel) rfl
theorem a_X10_isSo_87 : AtJ m_X10_isSo 87 (.if_icmp .ge 10) (10) 97 90 := at_j (by decide +kernel) (by decide) rfl
theorem a_X10_isSo_90 : At m_X10_isSo 90 (.iload 4) 2 92 := at_i (by decide +kernel) rfl
theorem a_X10_isSo_92 : At m_X10_isSo 92 (.iconst 4) 1 93 := at_i (by decide +kernel) rfl
theorem a_X10_isSo_93 : At m_X10_isSo 93 (.iadd) 1 94 := at_i (by decide +kernel) rfl
theorem a_X10_isSo_94 : AtJ m_X10_isSo 94 (.goto 5) (5) 99 97 := at_j (by decide +kernel) (by decide) rfl
theorem a_X10_isSo_97 : At m_X10_isSo 97 (.iload 4) 2 99 := at_i (by decide +kernel) rfl
theorem a_X10_isSo_99 : At m_X10_isSo 99 (.aload_n 0) 1 100 := at_i (by decide +kernel) rfl
theorem a_X10_isSo_100 : At m_X10_isSo 100 (.getfield 51) 3 103 := at_i (by decide +kernel) rfl
theorem a_X10_isSo_103 : At m_X10_isSo 103 (.iload_n 1) 1 104 := at_i (by decide +kernel) rfl
theorem a_X10_isSo_104 : At m_X10_isSo 104 (.iconst 3) 1 105 := at_i (by decide +kernel) rfl
theorem a_X10_isSo_105 : At m_X10_isSo 105 (.iadd) 1 106 := at_i (by decide +kernel) rfl
theorem a_X10_isSo_106 : At m_X10_isSo 106 (.iaload) 1 107 := at_i (by decide +kernel) rfl
theorem a_X10_isSo_107 : At m_X10_isSo 107 (.invokevirtual 329) 3 110 := at_i (by decide +kernel) rfl
theorem a_X10_isSo_110 : At m_X10_isSo 110 (.iconst 0) 1 111 := at_i (by decide +kernel) rfl
theorem a_X10_isSo_111 : At m_X10_isSo 111 (.ireturn) 1 112 := at_i (by decide +kernel) rfl
def f_X10_isSo_b71 (a1 : Int32)  (Q : Int32 → Mem → Prop)  (v4 : Int32) (s0 : Int32) (h : Mem) : Prop :=
  vp_in (a1 + (2 : Int32)) 480 ∧
  f_X10_becomesTold s0 (h 52 ((a1 + (2 : Int32)).toNatClampNeg)) h fun h_11 =>
  if (8 : Int32) ≤ v4 then (
    vp_in (a1 + (3 : Int32)) 480 ∧
    f_X10_becomesTold v4 (h_11 52 ((a1 + (3 : Int32)).toNatClampNeg)) h_11 fun h_14 =>
    Q (0 : Int32) h_14)
  else (
    vp_in (a1 + (3 : Int32)) 480 ∧
    f_X10_becomesTold (v4 + (4 : Int32)) (h_11 52 ((a1 + (3 : Int32)).toNatClampNeg)) h_11 fun h_16 =>
    Q (0 : Int32) h_16)
set_option maxRecDepth 20000 in
theorem t_X10_isSo_b71 (a1 : Int32)    (Q : Int32 → Mem → Prop)   (v4 : Int32) (s0 : Int32) (h : Mem) (hyp : f_X10_isSo_b71 a1  Q  v4 s0 h) : EV m_X10_isSo (GI Q) 71 [(0, .ref 43), (1, .int a1), (4, .int v4)] [.int s0, .ref 43] h := by
  unfold f_X10_isSo_b71 at hyp
  refine ge_aload_n a_X10_isSo_71 rfl 0 rfl ?_
  refine ge_getR (q := 52) a_X10_isSo_72 fd_X10_51 (rfl : gm_cls 43 = 9) rfl ?_
  refine ge_iload_n a_X10_isSo_75 rfl 1 rfl ?_
  refine ge_iconst (v := 2) a_X10_isSo_76 rfl ?_
  refine ge_iadd a_X10_isSo_77 ?_
  obtain ⟨b_10, hyp⟩ := hyp
  refine ge_iald (j := (a1 + (2 : Int32)).toNatClampNeg) a_X10_isSo_78 ga_52 b_10 rfl ?_
  refine ge_cVV [.int s0, .int (h 52 ((a1 + (2 : Int32)).toNatClampNeg))] (rest := []) a_X10_isSo_79 ok_X10_becomesTold lk_X10_329 ⟨Nat.le_of_ble_eq_true rfl, Nat.le_of_ble_eq_true rfl⟩ (rfl : gm_cls 43 = 9) vc_9 (by decide) rfl rfl (Nat.le_of_ble_eq_true rfl) (t_X10_becomesTold s0 (h 52 ((a1 + (2 : Int32)).toNatClampNeg))  h _ hyp) (fun h_11 hyp => ?_)
  refine ge_aload_n a_X10_isSo_82 rfl 0 rfl ?_
  refine ge_iload a_X10_isSo_83 2 rfl ?_
  refine ge_bipush (v := 8) a_X10_isSo_85 rfl ?_
  refine ge_icmp_ge a_X10_isSo_87 (fun c_12 => ?_) (fun c_12 => ?_)
  · have hyp := gm_ip hyp c_12
    refine ge_iload a_X10_isSo_97 2 rfl ?_
    refine ge_aload_n a_X10_isSo_99 rfl 0 rfl ?_
    refine ge_getR (q := 52) a_X10_isSo_100 fd_X10_51 (rfl : gm_cls 43 = 9) rfl ?_
    refine ge_iload_n a_X10_isSo_103 rfl 1 rfl ?_
    refine ge_iconst (v := 3) a_X10_isSo_104 rfl ?_
    refine ge_iadd a_X10_isSo_105 ?_
    obtain ⟨b_13, hyp⟩ := hyp
    refine ge_iald (j := (a1 + (3 : Int32)).toNatClampNeg) a_X10_isSo_106 ga_52 b_13 rfl ?_
    refine ge_cVV [.int v4, .int (h_11 52 ((a1 + (3 : Int32)).toNatClampNeg))] (rest := []) a_X10_isSo_107 ok_X10_becomesTold lk_X10_329 ⟨Nat.le_of_ble_eq_true rfl, Nat.le_of_ble_eq_true rfl⟩ (rfl : gm_cls 43 = 9) vc_9 (by decide) rfl rfl (Nat.le_of_ble_eq_true rfl) (t_X10_becomesTold v4 (h_11 52 ((a1 + (3 : Int32)).toNatClampNeg))  h_11 _ hyp) (fun h_14 hyp => ?_)
    refine ge_iconst (v := 0) a_X10_isSo_110 rfl ?_
    exact ge_iret rfl a_X10_isSo_111 hyp
  · have hyp := gm_in hyp c_12
    refine ge_iload a_X10_isSo_90 2 rfl ?_
    refine ge_iconst (v := 4) a_X10_isSo_92 rfl ?_
    refine ge_iadd a_X10_isSo_93 ?_
    refine ge_goto a_X10_isSo_94 ?_
    refine ge_aload_n a_X10_isSo_99 rfl 0 rfl ?_
    refine ge_getR (q := 52) a_X10_isSo_100 fd_X10_51 (rfl : gm_cls 43 = 9) rfl ?_
    refine ge_iload_n a_X10_isSo_103 rfl 1 rfl ?_
    refine ge_iconst (v := 3) a_X10_isSo_104 rfl ?_
    refine ge_iadd a_X10_isSo_105 ?_
    obtain ⟨b_15, hyp⟩ := hyp
    refine ge_iald (j := (a1 + (3 : Int32)).toNatClampNeg) a_X10_isSo_106 ga_52 b_15 rfl ?_
    refine ge_cVV [.int (v4 + (4 : Int32)), .int (h_11 52 ((a1 + (3 : Int32)).toNatClampNeg))] (rest := []) a_X10_isSo_107 ok_X10_becomesTold lk_X10_329 ⟨Nat.le_of_ble_eq_true rfl, Nat.le_of_ble_eq_true rfl⟩ (rfl : gm_cls 43 = 9) vc_9 (by decide) rfl rfl (Nat.le_of_ble_eq_true rfl) (t_X10_becomesTold (v4 + (4 : Int32)) (h_11 52 ((a1 + (3 : Int32)).toNatClampNeg))  h_11 _ hyp) (fun h_16 hyp => ?_)
    refine ge_iconst (v := 0) a_X10_isSo_110 rfl ?_
    exact ge_iret rfl a_X10_isSo_111 hyp
def f_X10_isSo (a1 : Int32) (h : Mem) (Q : Int32 → Mem → Prop) : Prop :=
  vp_in a1 480 ∧
  ∀ v_2 : Int32, v_2 = h 52 a1.toNatClampNeg →
  vp_in (a1 + (1 : Int32)) 480 ∧
  ∀ v_4 : Int32, v_4 = h 52 ((a1 + (1 : Int32)).toNatClampNeg) →
  if (10 : Int32) ≤ v_2 then (
    ∀ v_6 : Int32, v_6 = ((6 : Int32) + v_2) - (10 : Int32) →
    vp_in v_6 62 ∧
    ∀ h_8 : Mem, h_8 = gm_st h 44 v_6.toNatClampNeg v_4 →
    if (8 : Int32) ≤ v_6 then (
      f_X10_isSo_b71 a1  Q  v_6 v_6 h_8)
    else (
      f_X10_isSo_b71 a1  Q  v_6 (v_6 + (2 : Int32)) h_8))
  else (
    vp_in (a1 + (2 : Int32)) 480 ∧
    f_X10_comes v_2 v_4 (h 52 ((a1 + (2 : Int32)).toNatClampNeg)) h fun r_19 h_18 =>
    Q r_19 h_18)
set_option maxRecDepth 20000 in
theorem t_X10_isSo (a1 : Int32)  (h : Mem) (Q : Int32 → Mem → Prop) (hyp : f_X10_isSo a1 h Q) : Cn m_X10_isSo [.ref 43, .int a1] h (GI Q) := by
  refine ge_entry (lv := [(0, .ref 43), (1, .int a1)]) pn_X10 (Nat.le_of_ble_eq_true rfl) rfl ?_
  unfold f_X10_isSo at hyp
  refine ge_aload_n a_X10_isSo_0 rfl 0 rfl ?_
  refine ge_getR (q := 52) a_X10_isSo_1 fd_X10_51 (rfl : gm_cls 43 = 9) rfl ?_
  refine ge_iload_n a_X10_isSo_4 rfl 1 rfl ?_
  obtain ⟨b_1, hyp⟩ := hyp
  refine ge_iald (j := a1.toNatClampNeg) a_X10_isSo_5 ga_52 b_1 rfl ?_
  refine ge_topi (fun v_2 ev_2 => ?_)
  have hyp := hyp v_2 ev_2
  refine ge_istore_n (lv' := [(2, .int v_2), (0, .ref 43), (1, .int a1)]) a_X10_isSo_6 rfl (Nat.le_of_ble_eq_true rfl) rfl ?_
  refine ge_aload_n a_X10_isSo_7 rfl 1 rfl ?_
  refine ge_getR (q := 52) a_X10_isSo_8 fd_X10_51 (rfl : gm_cls 43 = 9) rfl ?_
  refine ge_iload_n a_X10_isSo_11 rfl 2 rfl ?_
  refine ge_iconst (v := 1) a_X10_isSo_12 rfl ?_
  refine ge_iadd a_X10_isSo_13 ?_
  obtain ⟨b_3, hyp⟩ := hyp
  refine ge_iald (j := (a1 + (1 : Int32)).toNatClampNeg) a_X10_isSo_14 ga_52 b_3 rfl ?_
  refine ge_topi (fun v_4 ev_4 => ?_)
  have hyp := hyp v_4 ev_4
  refine ge_istore_n (lv' := [(3, .int v_4), (2, .int v_2), (0, .ref 43), (1, .int a1)]) a_X10_isSo_15 rfl (Nat.le_of_ble_eq_true rfl) rfl ?_
  refine ge_iload_n a_X10_isSo_16 rfl 1 rfl ?_
  refine ge_bipush (v := 10) a_X10_isSo_17 rfl ?_
  refine ge_icmp_ge a_X10_isSo_19 (fun c_5 => ?_) (fun c_5 => ?_)
  · have hyp := gm_ip hyp c_5
    refine ge_bipush (v := 6) a_X10_isSo_37 rfl ?_
    refine ge_iload_n a_X10_isSo_39 rfl 1 rfl ?_
    refine ge_iadd a_X10_isSo_40 ?_
    refine ge_bipush (v := 10) a_X10_isSo_41 rfl ?_
    refine ge_isub a_X10_isSo_43 ?_
    refine ge_topi (fun v_6 ev_6 => ?_)
    have hyp := hyp v_6 ev_6
    refine ge_istore (lv' := [(4, .int v_6), (3, .int v_4), (2, .int v_2), (0, .ref 43), (1, .int a1)]) a_X10_isSo_44 (Nat.le_of_ble_eq_true rfl) rfl ?_
    refine ge_aload_n a_X10_isSo_46 rfl 3 rfl ?_
    refine ge_getR (q := 44) a_X10_isSo_47 fd_X10_9 (rfl : gm_cls 43 = 9) rfl ?_
    refine ge_iload a_X10_isSo_50 0 rfl ?_
    refine ge_iload_n a_X10_isSo_52 rfl 1 rfl ?_
    obtain ⟨b_7, hyp⟩ := hyp
    refine ge_iast (j := v_6.toNatClampNeg) a_X10_isSo_53 ga_44 b_7 rfl ?_
    refine ge_nm (fun h_8 eh_8 => ?_)
    have hyp := hyp h_8 eh_8
    refine ge_aload_n a_X10_isSo_54 rfl 3 rfl ?_
    refine ge_iload a_X10_isSo_55 0 rfl ?_
    refine ge_bipush (v := 8) a_X10_isSo_57 rfl ?_
    refine ge_icmp_ge a_X10_isSo_59 (fun c_9 => ?_) (fun c_9 => ?_)
    · have hyp := gm_ip hyp c_9
      refine ge_iload a_X10_isSo_69 0 rfl ?_
      exact ge_sub [3, 4, 0] rfl (t_X10_isSo_b71 a1    Q   v_6 v_6 h_8 hyp)
    · have hyp := gm_in hyp c_9
      refine ge_iload a_X10_isSo_62 0 rfl ?_
      refine ge_iconst (v := 2) a_X10_isSo_64 rfl ?_
      refine ge_iadd a_X10_isSo_65 ?_
      refine ge_goto a_X10_isSo_66 ?_
      exact ge_sub [3, 4, 0] rfl (t_X10_isSo_b71 a1    Q   v_6 (v_6 + (2 : Int32)) h_8 hyp)
  · have hyp := gm_in hyp c_5
    refine ge_aload_n a_X10_isSo_22 rfl 2 rfl ?_
    refine ge_iload_n a_X10_isSo_23 rfl 1 rfl ?_
    refine ge_iload_n a_X10_isSo_24 rfl 0 rfl ?_
    refine ge_aload_n a_X10_isSo_25 rfl 2 rfl ?_
    refine ge_getR (q := 52) a_X10_isSo_26 fd_X10_51 (rfl : gm_cls 43 = 9) rfl ?_
    refine ge_iload_n a_X10_isSo_29 rfl 3 rfl ?_
    refine ge_iconst (v := 2) a_X10_isSo_30 rfl ?_
    refine ge_iadd a_X10_isSo_31 ?_
    obtain ⟨b_17, hyp⟩ := hyp
    refine ge_iald (j := (a1 + (2 : Int32)).toNatClampNeg) a_X10_isSo_32 ga_52 b_17 rfl ?_
    refine ge_cVI [.int v_2, .int v_4, .int (h 52 ((a1 + (2 : Int32)).toNatClampNeg))] (rest := []) a_X10_isSo_33 ok_X10_comes lk_X10_88 ⟨Nat.le_of_ble_eq_true rfl, Nat.le_of_ble_eq_true rfl⟩ (rfl : gm_cls 43 = 9) vc_9 (by decide) rfl rfl (Nat.le_of_ble_eq_true rfl) (t_X10_comes v_2 v_4 (h 52 ((a1 + (2 : Int32)).toNatClampNeg))  h _ hyp) (fun r_19 h_18 hyp => ?_)
    exact ge_iret rfl a_X10_isSo_36 hyp

theorem a_X10_text_0 : At m_X10_text 0 (.aload_n 0) 1 1 := at_i (by decide +kernel) rfl
theorem a_X10_text_1 : At m_X10_text 1 (.iconst 0) 1 2 := at_i (by decide +kernel) rfl
theorem a_X10_text_2 : At m_X10_text 2 (.putfield 243) 3 5 := at_i (by decide +kernel) rfl
theorem a_X10_text_5 : At m_X10_text 5 (.aload_n 0) 1 6 := at_i (by decide +kernel) rfl
theorem a_X10_text_6 : At m_X10_text 6 (.iconst 0) 1 7 := at_i (by decide +kernel) rfl
theorem a_X10_text_7 : At m_X10_text 7 (.putfield 266) 3 10 := at_i (by decide +kernel) rfl
theorem a_X10_text_10 : At m_X10_text 10 (.aload_n 0) 1 11 := at_i (by decide +kernel) rfl
theorem a_X10_text_11 : At m_X10_text 11 (.iconst 0) 1 12 := at_i (by decide +kernel) rfl
theorem a_X10_text_12 : At m_X10_text 12 (.putfield 277) 3 15 := at_i (by decide +kernel) rfl
theorem a_X10_text_15 : At m_X10_text 15 (.aload_n 0) 1 16 := at_i (by decide +kernel) rfl
theorem a_X10_text_16 : At m_X10_text 16 (.aload_n 0) 1 17 := at_i (by decide +kernel) rfl
theorem a_X10_text_17 : At m_X10_text 17 (.getfield 9) 3 20 := at_i (by decide +kernel) rfl
theorem a_X10_text_20 : At m_X10_text 20 (.iconst 4) 1 21 := at_i (by decide +kernel) rfl
theorem a_X10_text_21 : At m_X10_text 21 (.iaload) 1 22 := at_i (by decide +kernel) rfl
theorem a_X10_text_22 : At m_X10_text 22 (.putfield 303) 3 25 := at_i (by decide +kernel) rfl
theorem a_X10_text_25 : At m_X10_text 25 (.aload_n 0) 1 26 := at_i (by decide +kernel) rfl
theorem a_X10_text_26 : At m_X10_text 26 (.invokevirtual 270) 3 29 := at_i (by decide +kernel) rfl
theorem a_X10_text_29 : At m_X10_text 29 (.aload_n 0) 1 30 := at_i (by decide +kernel) rfl
theorem a_X10_text_30 : At m_X10_text 30 (.invokevirtual 333) 3 33 := at_i (by decide +kernel) rfl
theorem a_X10_text_33 : At m_X10_text 33 (.aload_n 0) 1 34 := at_i (by decide +kernel) rfl
theorem a_X10_text_34 : At m_X10_text 34 (.getfield 266) 3 37 := at_i (by decide +kernel) rfl
theorem a_X10_text_37 : AtJ m_X10_text 37 (.ifCond .ne 37) (37) 74 40 := at_j (by decide +kernel) (by decide) rfl
theorem a_X10_text_40 : At m_X10_text 40 (.aload_n 0) 1 41 := at_i (by decide +kernel) rfl
theorem a_X10_text_41 : At m_X10_text 41 (.getfield 255) 3 44 := at_i (by decide +kernel) rfl
theorem a_X10_text_44 : At m_X10_text 44 (.iconst 3) 1 45 := at_i (by decide +kernel) rfl
theorem a_X10_text_45 : AtJ m_X10_text 45 (.if_icmp .ne 29) (29) 74 48 := at_j (by decide +kernel) (by decide) rfl
theorem a_X10_text_48 : At m_X10_text 48 (.aload_n 0) 1 49 := at_i (by decide +kernel) rfl
theorem a_X10_text_49 : At m_X10_text 49 (.getfield 28) 3 52 := at_i (by decide +kernel) rfl
theorem a_X10_text_52 : At m_X10_text 52 (.aload_n 0) 1 53 := at_i (by decide +kernel) rfl
theorem a_X10_text_53 : At m_X10_text 53 (.getfield 246) 3 56 := at_i (by decide +kernel) rfl
theorem a_X10_text_56 : At m_X10_text 56 (.iaload) 1 57 := at_i (by decide +kernel) rfl
theorem a_X10_text_57 : At m_X10_text 57 (.bipush 59) 2 59 := at_i (by decide +kernel) rfl
theorem a_X10_text_59 : AtJ m_X10_text 59 (.if_icmp .ne 15) (15) 74 62 := at_j (by decide +kernel) (by decide) rfl
theorem a_X10_text_62 : At m_X10_text 62 (.aload_n 0) 1 63 := at_i (by decide +kernel) rfl
theorem a_X10_text_63 : At m_X10_text 63 (.iconst 1) 1 64 := at_i (by decide +kernel) rfl
theorem a_X10_text_64 : At m_X10_text 64 (.invokevirtual 273) 3 67 := at_i (by decide +kernel) rfl
theorem a_X10_text_67 : At m_X10_text 67 (.aload_n 0) 1 68 := at_i (by decide +kernel) rfl
theorem a_X10_text_68 : At m_X10_text 68 (.invokevirtual 333) 3 71 := at_i (by decide +kernel) rfl
theorem a_X10_text_71 : AtJ m_X10_text 71 (.goto (-38)) (-38) 33 74 := at_j (by decide +kernel) (by decide) rfl
theorem a_X10_text_74 : At m_X10_text 74 (.aload_n 0) 1 75 := at_i (by decide +kernel) rfl
theorem a_X10_text_75 : At m_X10_text 75 (.aload_n 0) 1 76 := at_i (by decide +kernel) rfl
theorem a_X10_text_76 : At m_X10_text 76 (.getfield 255) 3 79 := at_i (by decide +kernel) rfl
theorem a_X10_text_79 : AtJ m_X10_text 79 (.ifCond .ne 7) (7) 86 82 := at_j (by decide +kernel) (by decide) rfl
theorem a_X10_text_82 : At m_X10_text 82 (.iconst 1) 1 83 := at_i (by decide +kernel) rfl
theorem a_X10_text_83 : AtJ m_X10_text 83 (.goto 4) (4) 87 86 := at_j (by decide +kernel) (by decide) rfl
theorem a_X10_text_86 : At m_X10_text 86 (.iconst 0) 1 87 := at_i (by decide +kernel) rfl
theorem a_X10_text_87 : At m_X10_text 87 (.invokevirtual 273) 3 90 := at_i (by decide +kernel) rfl
theorem a_X10_text_90 : At m_X10_text 90 (.aload_n 0) 1 91 := at_i (by decide +kernel) rfl
theorem a_X10_text_91 : At m_X10_text 91 (.iconst 0) 1 92 := at_i (by decide +kernel) rfl
theorem a_X10_text_92 : At m_X10_text 92 (.putfield 240) 3 95 := at_i (by decide +kernel) rfl
theorem a_X10_text_95 : At m_X10_text 95 (.aload_n 0) 1 96 := at_i (by decide +kernel) rfl
theorem a_X10_text_96 : At m_X10_text 96 (.getfield 266) 3 99 := at_i (by decide +kernel) rfl
theorem a_X10_text_99 : AtJ m_X10_text 99 (.ifCond .eq 10) (10) 109 102 := at_j (by decide +kernel) (by decide) rfl
theorem a_X10_text_102 : At m_X10_text 102 (.iconst (-1)) 1 103 := at_i (by decide +kernel) rfl
theorem a_X10_text_103 : At m_X10_text 103 (.aload_n 0) 1 104 := at_i (by decide +kernel) rfl
theorem a_X10_text_104 : At m_X10_text 104 (.getfield 246) 3 107 := at_i (by decide +kernel) rfl
theorem a_X10_text_107 : At m_X10_text 107 (.isub) 1 108 := at_i (by decide +kernel) rfl
theorem a_X10_text_108 : At m_X10_text 108 (.ireturn) 1 109 := at_i (by decide +kernel) rfl
theorem a_X10_text_109 : At m_X10_text 109 (.iconst 0) 1 110 := at_i (by decide +kernel) rfl
theorem a_X10_text_110 : At m_X10_text 110 (.istore_n 1) 1 111 := at_i (by decide +kernel) rfl
theorem a_X10_text_111 : At m_X10_text 111 (.iconst 0) 1 112 := at_i (by decide +kernel) rfl
theorem a_X10_text_112 : At m_X10_text 112 (.istore_n 2) 1 113 := at_i (by decide +kernel) rfl
theorem a_X10_text_113 : At m_X10_text 113 (.iload_n 2) 1 114 := at_i (by decide +kernel) rfl
theorem a_X10_text_114 : At m_X10_text 114 (.aload_n 0) 1 115 := at_i (by decide +kernel) rfl
theorem a_X10_text_115 : At m_X10_text 115 (.getfield 277) 3 118 := at_i (by decide +kernel) rfl
theorem a_X10_text_118 : AtJ m_X10_text 118 (.if_icmp .ge 27) (27) 145 121 := at_j (by decide +kernel) (by decide) rfl
theorem a_X10_text_121 : At m_X10_text 121 (.iload_n 1) 1 122 := at_i (by decide +kernel) rfl
theorem a_X10_text_122 : At m_X10_text 122 (.aload_n 0) 1 123 := at_i (by decide +kernel) rfl
theorem a_X10_text_123 : At m_X10_text 123 (.iconst 4) 1 124 := at_i (by decide +kernel) rfl
theorem a_X10_text_124 : At m_X10_text 124 (.iload_n 2) 1 125 := at_i (by decide +kernel) rfl
theorem a_X10_text_125 : At m_X10_text 125 (.imul) 1 126 := at_i (by decide +kernel) rfl
theorem a_X10_text_126 : At m_X10_text 126 (.invokevirtual 336) 3 129 := at_i (by decide +kernel) rfl
theorem a_X10_text_129 : AtJ m_X10_text 129 (.ifCond .ge 7) (7) 136 132 := at_j (by decide +kernel) (by decide) rfl
theorem a_X10_text_132 : At m_X10_text 132 (.iconst 0) 1 133 := at_i (by decide +kernel) rfl
theorem a_X10_text_133 : AtJ m_X10_text 133 (.goto 4) (4) 137 136 := at_j (by decide +kernel) (by decide) rfl
theorem a_X10_text_136 : At m_X10_text 136 (.iconst 1) 1 137 := at_i (by decide +kernel) rfl
theorem a_X10_text_137 : At m_X10_text 137 (.iadd) 1 138 := at_i (by decide +kernel) rfl
theorem a_X10_text_138 : At m_X10_text 138 (.istore_n 1) 1 139 := at_i (by decide +kernel) rfl
theorem a_X10_text_139 : At m_X10_text 139 (.iinc 2 1) 3 142 := at_i (by decide +kernel) rfl
theorem a_X10_text_142 : AtJ m_X10_text 142 (.goto (-29)) (-29) 113 145 := at_j (by decide +kernel) (by decide) rfl
theorem a_X10_text_145 : At m_X10_text 145 (.iload_n 1) 1 146 := at_i (by decide +kernel) rfl
theorem a_X10_text_146 : At m_X10_text 146 (.ireturn) 1 147 := at_i (by decide +kernel) rfl
def f_X10_text_b113   (Q : Int32 → Mem → Prop)  (K113 : Int32 → Int32 → Mem → Prop) (v1 : Int32) (v2 : Int32) (h : Mem) : Prop :=
  if h 43 22 ≤ v2 then (
    Q v1 h)
  else (
    f_X10_isSo ((4 : Int32) * v2) h fun r_14 h_13 =>
    if 0 ≤ r_14 then (
      ∀ v_16 : Int32, v_16 = v1 + (1 : Int32) →
      ∀ v_17 : Int32, v_17 = v2 + (1 : Int32) →
      K113 v_16 v_17 h_13)
    else (
      ∀ v_18 : Int32, v_18 = v1 + (0 : Int32) →
      ∀ v_19 : Int32, v_19 = v2 + (1 : Int32) →
      K113 v_18 v_19 h_13))
set_option maxRecDepth 20000 in
theorem t_X10_text_b113     (Q : Int32 → Mem → Prop)   : ∀ (n : Nat) (v1 : Int32) (v2 : Int32) (h : Mem), gm_it2 (f_X10_text_b113   Q ) n v1 v2 h → EV m_X10_text (GI Q) 113 [(0, .ref 43), (1, .int v1), (2, .int v2)] [] h := by
  refine ge_loop2 (P := fun v1 v2 h => EV m_X10_text (GI Q) 113 [(0, .ref 43), (1, .int v1), (2, .int v2)] [] h) (fun K113 hK113 v1 v2 h hyp => ?_)
  unfold f_X10_text_b113 at hyp
  refine ge_iload_n a_X10_text_113 rfl 2 rfl ?_
  refine ge_aload_n a_X10_text_114 rfl 0 rfl ?_
  refine ge_getI a_X10_text_115 fd_X10_277 (rfl : gm_cls 43 = 9) ?_
  refine ge_icmp_ge a_X10_text_118 (fun c_12 => ?_) (fun c_12 => ?_)
  · have hyp := gm_ip hyp c_12
    refine ge_iload_n a_X10_text_145 rfl 1 rfl ?_
    exact ge_iret rfl a_X10_text_146 hyp
  · have hyp := gm_in hyp c_12
    refine ge_iload_n a_X10_text_121 rfl 1 rfl ?_
    refine ge_aload_n a_X10_text_122 rfl 0 rfl ?_
    refine ge_iconst (v := 4) a_X10_text_123 rfl ?_
    refine ge_iload_n a_X10_text_124 rfl 2 rfl ?_
    refine ge_imul a_X10_text_125 ?_
    refine ge_cVI [.int ((4 : Int32) * v2)] (rest := [.int v1]) a_X10_text_126 ok_X10_isSo lk_X10_336 ⟨Nat.le_of_ble_eq_true rfl, Nat.le_of_ble_eq_true rfl⟩ (rfl : gm_cls 43 = 9) vc_9 (by decide) rfl rfl (Nat.le_of_ble_eq_true rfl) (t_X10_isSo ((4 : Int32) * v2)  h _ hyp) (fun r_14 h_13 hyp => ?_)
    refine ge_if_ge a_X10_text_129 (fun c_15 => ?_) (fun c_15 => ?_)
    · have hyp := gm_ip hyp c_15
      refine ge_iconst (v := 1) a_X10_text_136 rfl ?_
      refine ge_iadd a_X10_text_137 ?_
      refine ge_topi (fun v_16 ev_16 => ?_)
      have hyp := hyp v_16 ev_16
      refine ge_istore_n (lv' := [(1, .int v_16), (0, .ref 43), (2, .int v2)]) a_X10_text_138 rfl (Nat.le_of_ble_eq_true rfl) rfl ?_
      obtain ⟨v_17, ev_17⟩ : ∃ y : Int32, y = v2 + (1 : Int32) := ⟨_, rfl⟩
      have hyp := hyp v_17 ev_17
      refine ge_iinc (v := v_17) (lv' := [(2, .int v_17), (1, .int v_16), (0, .ref 43)]) a_X10_text_139 2 rfl ev_17.symm (Nat.le_of_ble_eq_true rfl) rfl ?_
      refine ge_goto a_X10_text_142 ?_
      exact ge_sub [2, 1, 0] rfl (hK113 v_16 v_17 h_13 hyp)
    · have hyp := gm_in hyp c_15
      refine ge_iconst (v := 0) a_X10_text_132 rfl ?_
      refine ge_goto a_X10_text_133 ?_
      refine ge_iadd a_X10_text_137 ?_
      refine ge_topi (fun v_18 ev_18 => ?_)
      have hyp := hyp v_18 ev_18
      refine ge_istore_n (lv' := [(1, .int v_18), (0, .ref 43), (2, .int v2)]) a_X10_text_138 rfl (Nat.le_of_ble_eq_true rfl) rfl ?_
      obtain ⟨v_19, ev_19⟩ : ∃ y : Int32, y = v2 + (1 : Int32) := ⟨_, rfl⟩
      have hyp := hyp v_19 ev_19
      refine ge_iinc (v := v_19) (lv' := [(2, .int v_19), (1, .int v_18), (0, .ref 43)]) a_X10_text_139 2 rfl ev_19.symm (Nat.le_of_ble_eq_true rfl) rfl ?_
      refine ge_goto a_X10_text_142 ?_
      exact ge_sub [2, 1, 0] rfl (hK113 v_18 v_19 h_13 hyp)
def f_X10_text_b87   (Q : Int32 → Mem → Prop)  (s0 : Int32) (h : Mem) : Prop :=
  f_X10_must s0 h fun h_9 =>
  ∀ h_10 : Mem, h_10 = gm_st h_9 43 14 (0 : Int32) →
  if h_10 43 19 = 0 then (
    gm_it2 (f_X10_text_b113   Q ) gm_F (0 : Int32) (0 : Int32) h_10)
  else (
    Q ((-1 : Int32) - (h_10 43 15)) h_10)
set_option maxRecDepth 20000 in
theorem t_X10_text_b87     (Q : Int32 → Mem → Prop)   (s0 : Int32) (h : Mem) (hyp : f_X10_text_b87   Q  s0 h) : EV m_X10_text (GI Q) 87 [(0, .ref 43)] [.int s0, .ref 43] h := by
  unfold f_X10_text_b87 at hyp
  refine ge_cVV [.int s0] (rest := []) a_X10_text_87 ok_X10_must lk_X10_273 ⟨Nat.le_of_ble_eq_true rfl, Nat.le_of_ble_eq_true rfl⟩ (rfl : gm_cls 43 = 9) vc_9 (by decide) rfl rfl (Nat.le_of_ble_eq_true rfl) (t_X10_must s0  h _ hyp) (fun h_9 hyp => ?_)
  refine ge_aload_n a_X10_text_90 rfl 0 rfl ?_
  refine ge_iconst (v := 0) a_X10_text_91 rfl ?_
  refine ge_putI a_X10_text_92 pd_X10_240 (rfl : gm_cls 43 = 9) ?_
  refine ge_nm (fun h_10 eh_10 => ?_)
  have hyp := hyp h_10 eh_10
  refine ge_aload_n a_X10_text_95 rfl 0 rfl ?_
  refine ge_getI a_X10_text_96 fd_X10_266 (rfl : gm_cls 43 = 9) ?_
  refine ge_if_eq a_X10_text_99 (fun c_11 => ?_) (fun c_11 => ?_)
  · have hyp := gm_ip hyp c_11
    refine ge_iconst (v := 0) a_X10_text_109 rfl ?_
    refine ge_istore_n (lv' := [(1, .int (0 : Int32)), (0, .ref 43)]) a_X10_text_110 rfl (Nat.le_of_ble_eq_true rfl) rfl ?_
    refine ge_iconst (v := 0) a_X10_text_111 rfl ?_
    refine ge_istore_n (lv' := [(2, .int (0 : Int32)), (1, .int (0 : Int32)), (0, .ref 43)]) a_X10_text_112 rfl (Nat.le_of_ble_eq_true rfl) rfl ?_
    exact ge_sub [2, 1, 0] rfl (t_X10_text_b113     Q   gm_F (0 : Int32) (0 : Int32) h_10 hyp)
  · have hyp := gm_in hyp c_11
    refine ge_iconst (v := -1) a_X10_text_102 rfl ?_
    refine ge_aload_n a_X10_text_103 rfl 0 rfl ?_
    refine ge_getI a_X10_text_104 fd_X10_246 (rfl : gm_cls 43 = 9) ?_
    refine ge_isub a_X10_text_107 ?_
    exact ge_iret rfl a_X10_text_108 hyp
def f_X10_text_b74   (Q : Int32 → Mem → Prop)   (h : Mem) : Prop :=
  if h 43 17 = 0 then (
    f_X10_text_b87   Q  (1 : Int32) h)
  else (
    f_X10_text_b87   Q  (0 : Int32) h)
set_option maxRecDepth 20000 in
theorem t_X10_text_b74     (Q : Int32 → Mem → Prop)    (h : Mem) (hyp : f_X10_text_b74   Q   h) : EV m_X10_text (GI Q) 74 [(0, .ref 43)] [] h := by
  unfold f_X10_text_b74 at hyp
  refine ge_aload_n a_X10_text_74 rfl 0 rfl ?_
  refine ge_aload_n a_X10_text_75 rfl 0 rfl ?_
  refine ge_getI a_X10_text_76 fd_X10_255 (rfl : gm_cls 43 = 9) ?_
  refine ge_if_ne a_X10_text_79 (fun c_8 => ?_) (fun c_8 => ?_)
  · have hyp := gm_in hyp c_8
    refine ge_iconst (v := 0) a_X10_text_86 rfl ?_
    exact ge_sub [0] rfl (t_X10_text_b87     Q   (0 : Int32) h hyp)
  · have hyp := gm_ip hyp c_8
    refine ge_iconst (v := 1) a_X10_text_82 rfl ?_
    refine ge_goto a_X10_text_83 ?_
    exact ge_sub [0] rfl (t_X10_text_b87     Q   (1 : Int32) h hyp)
def f_X10_text_b33   (Q : Int32 → Mem → Prop)  (K33 : Mem → Prop)  (h : Mem) : Prop :=
  if h 43 19 = 0 then (
    if h 43 17 = (3 : Int32) then (
      vp_in (h 43 15) 120 ∧
      if h 50 ((h 43 15).toNatClampNeg) = (59 : Int32) then (
        f_X10_must (1 : Int32) h fun h_23 =>
        f_X10_readItem  h_23 fun h_24 =>
        K33  h_24)
      else (
        f_X10_text_b74   Q   h))
    else (
      f_X10_text_b74   Q   h))
  else (
    f_X10_text_b74   Q   h)
set_option maxRecDepth 20000 in
theorem t_X10_text_b33     (Q : Int32 → Mem → Prop)   : ∀ (n : Nat)  (h : Mem), gm_it0 (f_X10_text_b33   Q ) n  h → EV m_X10_text (GI Q) 33 [(0, .ref 43)] [] h := by
  refine ge_loop0 (P := fun  h => EV m_X10_text (GI Q) 33 [(0, .ref 43)] [] h) (fun K33 hK33  h hyp => ?_)
  unfold f_X10_text_b33 at hyp
  refine ge_aload_n a_X10_text_33 rfl 0 rfl ?_
  refine ge_getI a_X10_text_34 fd_X10_266 (rfl : gm_cls 43 = 9) ?_
  refine ge_if_ne a_X10_text_37 (fun c_7 => ?_) (fun c_7 => ?_)
  · have hyp := gm_in hyp c_7
    exact ge_sub [0] rfl (t_X10_text_b74     Q    h hyp)
  · have hyp := gm_ip hyp c_7
    refine ge_aload_n a_X10_text_40 rfl 0 rfl ?_
    refine ge_getI a_X10_text_41 fd_X10_255 (rfl : gm_cls 43 = 9) ?_
    refine ge_iconst (v := 3) a_X10_text_44 rfl ?_
    refine ge_icmp_ne a_X10_text_45 (fun c_20 => ?_) (fun c_20 => ?_)
    · have hyp := gm_in hyp c_20
      exact ge_sub [0] rfl (t_X10_text_b74     Q    h hyp)
    · have hyp := gm_ip hyp c_20
      refine ge_aload_n a_X10_text_48 rfl 0 rfl ?_
      refine ge_getR (q := 50) a_X10_text_49 fd_X10_28 (rfl : gm_cls 43 = 9) rfl ?_
      refine ge_aload_n a_X10_text_52 rfl 0 rfl ?_
      refine ge_getI a_X10_text_53 fd_X10_246 (rfl : gm_cls 43 = 9) ?_
      obtain ⟨b_21, hyp⟩ := hyp
      refine ge_iald (j := (h 43 15).toNatClampNeg) a_X10_text_56 ga_50 b_21 rfl ?_
      refine ge_bipush (v := 59) a_X10_text_57 rfl ?_
      refine ge_icmp_ne a_X10_text_59 (fun c_22 => ?_) (fun c_22 => ?_)
      · have hyp := gm_in hyp c_22
        exact ge_sub [0] rfl (t_X10_text_b74     Q    h hyp)
      · have hyp := gm_ip hyp c_22
        refine ge_aload_n a_X10_text_62 rfl 0 rfl ?_
        refine ge_iconst (v := 1) a_X10_text_63 rfl ?_
        refine ge_cVV [.int (1 : Int32)] (rest := []) a_X10_text_64 ok_X10_must lk_X10_273 ⟨Nat.le_of_ble_eq_true rfl, Nat.le_of_ble_eq_true rfl⟩ (rfl : gm_cls 43 = 9) vc_9 (by decide) rfl rfl (Nat.le_of_ble_eq_true rfl) (t_X10_must (1 : Int32)  h _ hyp) (fun h_23 hyp => ?_)
        refine ge_aload_n a_X10_text_67 rfl 0 rfl ?_
        refine ge_cVV [] (rest := []) a_X10_text_68 ok_X10_readItem lk_X10_333 ⟨Nat.le_of_ble_eq_true rfl, Nat.le_of_ble_eq_true rfl⟩ (rfl : gm_cls 43 = 9) vc_9 (by decide) rfl rfl (Nat.le_of_ble_eq_true rfl) (t_X10_readItem   h_23 _ hyp) (fun h_24 hyp => ?_)
        refine ge_goto a_X10_text_71 ?_
        exact ge_sub [0] rfl (hK33  h_24 hyp)
def f_X10_text  (h : Mem) (Q : Int32 → Mem → Prop) : Prop :=
  ∀ h_1 : Mem, h_1 = gm_st h 43 16 (0 : Int32) →
  ∀ h_2 : Mem, h_2 = gm_st h_1 43 19 (0 : Int32) →
  ∀ h_3 : Mem, h_3 = gm_st h_2 43 22 (0 : Int32) →
  ∀ h_4 : Mem, h_4 = gm_st h_3 43 23 (h_3 44 4) →
  f_X10_next  h_4 fun h_5 =>
  f_X10_readItem  h_5 fun h_6 =>
  gm_it0 (f_X10_text_b33   Q ) gm_F  h_6
set_option maxRecDepth 20000 in
theorem t_X10_text   (h : Mem) (Q : Int32 → Mem → Prop) (hyp : f_X10_text  h Q) : Cn m_X10_text [.ref 43] h (GI Q) := by
  refine ge_entry (lv := [(0, .ref 43)]) pn_X10 (Nat.le_of_ble_eq_true rfl) rfl ?_
  unfold f_X10_text at hyp
  refine ge_aload_n a_X10_text_0 rfl 0 rfl ?_
  refine ge_iconst (v := 0) a_X10_text_1 rfl ?_
  refine ge_putI a_X10_text_2 pd_X10_243 (rfl : gm_cls 43 = 9) ?_
  refine ge_nm (fun h_1 eh_1 => ?_)
  have hyp := hyp h_1 eh_1
  refine ge_aload_n a_X10_text_5 rfl 0 rfl ?_
  refine ge_iconst (v := 0) a_X10_text_6 rfl ?_
  refine ge_putZ a_X10_text_7 pd_X10_266 (rfl : gm_cls 43 = 9) gm_b0 ?_
  refine ge_nm (fun h_2 eh_2 => ?_)
  have hyp := hyp h_2 eh_2
  refine ge_aload_n a_X10_text_10 rfl 0 rfl ?_
  refine ge_iconst (v := 0) a_X10_text_11 rfl ?_
  refine ge_putI a_X10_text_12 pd_X10_277 (rfl : gm_cls 43 = 9) ?_
  refine ge_nm (fun h_3 eh_3 => ?_)
  have hyp := hyp h_3 eh_3
  refine ge_aload_n a_X10_text_15 rfl 0 rfl ?_
  refine ge_aload_n a_X10_text_16 rfl 0 rfl ?_
  refine ge_getR (q := 44) a_X10_text_17 fd_X10_9 (rfl : gm_cls 43 = 9) rfl ?_
  refine ge_iconst (v := 4) a_X10_text_20 rfl ?_
  refine ge_iald (j := 4) a_X10_text_21 ga_44 li_4_62.1 li_4_62.2 ?_
  refine ge_putI a_X10_text_22 pd_X10_303 (rfl : gm_cls 43 = 9) ?_
  refine ge_nm (fun h_4 eh_4 => ?_)
  have hyp := hyp h_4 eh_4
  refine ge_aload_n a_X10_text_25 rfl 0 rfl ?_
  refine ge_cVV [] (rest := []) a_X10_text_26 ok_X10_next lk_X10_270 ⟨Nat.le_of_ble_eq_true rfl, Nat.le_of_ble_eq_true rfl⟩ (rfl : gm_cls 43 = 9) vc_9 (by decide) rfl rfl (Nat.le_of_ble_eq_true rfl) (t_X10_next   h_4 _ hyp) (fun h_5 hyp => ?_)
  refine ge_aload_n a_X10_text_29 rfl 0 rfl ?_
  refine ge_cVV [] (rest := []) a_X10_text_30 ok_X10_readItem lk_X10_333 ⟨Nat.le_of_ble_eq_true rfl, Nat.le_of_ble_eq_true rfl⟩ (rfl : gm_cls 43 = 9) vc_9 (by decide) rfl rfl (Nat.le_of_ble_eq_true rfl) (t_X10_readItem   h_5 _ hyp) (fun h_6 hyp => ?_)
  exact ge_sub [0] rfl (t_X10_text_b33     Q   gm_F  h_6 hyp)

theorem a_X10_isSpot_0 : At m_X10_isSpot 0 (.iload_n 0) 1 1 := at_i (by decide +kernel) rfl
theorem a_X10_isSpot_1 : At m_X10_isSpot 1 (.iconst 0) 1 2 := at_i (by decide +kernel) rfl
theorem a_X10_isSpot_2 : At m_X10_isSpot 2 (.bipush 9) 2 4 := at_i (by decide +kernel) rfl
theorem a_X10_isSpot_4 : At m_X10_isSpot 4 (.invokestatic 71) 3 7 := at_i (by decide +kernel) rfl
theorem a_X10_isSpot_7 : At m_X10_isSpot 7 (.ireturn) 1 8 := at_i (by decide +kernel) rfl
def f_X10_isSpot (a0 : Int32) (h : Mem) (Q : Int32 → Mem → Prop) : Prop :=
  f_X10_within a0 (0 : Int32) (9 : Int32) h fun r_2 h_1 =>
  gm_b r_2 ∧ Q r_2 h_1
set_option maxRecDepth 20000 in
theorem t_X10_isSpot (a0 : Int32)  (h : Mem) (Q : Int32 → Mem → Prop) (hyp : f_X10_isSpot a0 h Q) : Cn m_X10_isSpot [.int a0] h (GI Q) := by
  refine ge_entry (lv := [(0, .int a0)]) pn_X10 (Nat.le_of_ble_eq_true rfl) rfl ?_
  unfold f_X10_isSpot at hyp
  refine ge_iload_n a_X10_isSpot_0 rfl 0 rfl ?_
  refine ge_iconst (v := 0) a_X10_isSpot_1 rfl ?_
  refine ge_bipush (v := 9) a_X10_isSpot_2 rfl ?_
  refine ge_cSI [.int a0, .int (0 : Int32), .int (9 : Int32)] (rest := []) a_X10_isSpot_4 ok_X10_within lk_X10_71 ⟨Nat.le_of_ble_eq_true rfl, Nat.le_of_ble_eq_true rfl⟩ rfl rfl (Nat.le_of_ble_eq_true rfl) (t_X10_within a0 (0 : Int32) (9 : Int32)  h _ hyp) (fun r_2 h_1 hyp => ?_)
  exact ge_zret rfl (gm_b_nar hyp.1) a_X10_isSpot_7 hyp.2

theorem a_X10_hold_0 : At m_X10_hold 0 (.iload_n 1) 1 1 := at_i (by decide +kernel) rfl
theorem a_X10_hold_1 : At m_X10_hold 1 (.invokestatic 339) 3 4 := at_i (by decide +kernel) rfl
theorem a_X10_hold_4 : AtJ m_X10_hold 4 (.ifCond .eq 16) (16) 20 7 := at_j (by decide +kernel) (by decide) rfl
theorem a_X10_hold_7 : At m_X10_hold 7 (.iload_n 2) 1 8 := at_i (by decide +kernel) rfl
theorem a_X10_hold_8 : At m_X10_hold 8 (.iconst (-1)) 1 9 := at_i (by decide +kernel) rfl
theorem a_X10_hold_9 : AtJ m_X10_hold 9 (.if_icmp .eq 18) (18) 27 12 := at_j (by decide +kernel) (by decide) rfl
theorem a_X10_hold_12 : At m_X10_hold 12 (.aload_n 0) 1 13 := at_i (by decide +kernel) rfl
theorem a_X10_hold_13 : At m_X10_hold 13 (.iload_n 2) 1 14 := at_i (by decide +kernel) rfl
theorem a_X10_hold_14 : At m_X10_hold 14 (.invokevirtual 103) 3 17 := at_i (by decide +kernel) rfl
theorem a_X10_hold_17 : AtJ m_X10_hold 17 (.ifCond .ne 10) (10) 27 20 := at_j (by decide +kernel) (by decide) rfl
theorem a_X10_hold_20 : At m_X10_hold 20 (.aload_n 0) 1 21 := at_i (by decide +kernel) rfl
theorem a_X10_hold_21 : At m_X10_hold 21 (.ldc 66) 2 23 := at_i (by decide +kernel) rfl
theorem a_X10_hold_23 : At m_X10_hold 23 (.invokevirtual 83) 3 26 := at_i (by decide +kernel) rfl
theorem a_X10_hold_26 : At m_X10_hold 26 (.ireturn) 1 27 := at_i (by decide +kernel) rfl
theorem a_X10_hold_27 : At m_X10_hold 27 (.aload_n 0) 1 28 := at_i (by decide +kernel) rfl
theorem a_X10_hold_28 : At m_X10_hold 28 (.getfield 9) 3 31 := at_i (by decide +kernel) rfl
theorem a_X10_hold_31 : At m_X10_hold 31 (.bipush 16) 2 33 := at_i (by decide +kernel) rfl
theorem a_X10_hold_33 : At m_X10_hold 33 (.iload_n 1) 1 34 := at_i (by decide +kernel) rfl
theorem a_X10_hold_34 : At m_X10_hold 34 (.iadd) 1 35 := at_i (by decide +kernel) rfl
theorem a_X10_hold_35 : At m_X10_hold 35 (.iload_n 2) 1 36 := at_i (by decide +kernel) rfl
theorem a_X10_hold_36 : At m_X10_hold 36 (.iastore) 1 37 := at_i (by decide +kernel) rfl
theorem a_X10_hold_37 : At m_X10_hold 37 (.iconst 1) 1 38 := at_i (by decide +kernel) rfl
theorem a_X10_hold_38 : At m_X10_hold 38 (.ireturn) 1 39 := at_i (by decide +kernel) rfl
def f_X10_hold (a1 : Int32) (a2 : Int32) (h : Mem) (Q : Int32 → Mem → Prop) : Prop :=
  f_X10_isSpot a1 h fun r_2 h_1 =>
  if r_2 = 0 then (
    f_X10_finding (-1000001 : Int32) h_1 fun r_5 h_4 =>
    Q r_5 h_4)
  else (
    if a2 = (-1 : Int32) then (
      vp_in ((16 : Int32) + a1) 62 ∧
      ∀ h_8 : Mem, h_8 = gm_st h_1 44 (((16 : Int32) + a1).toNatClampNeg) a2 →
      Q (1 : Int32) h_8)
    else (
      f_X10_isLine a2 h_1 fun r_10 h_9 =>
      if r_10 = 0 then (
        f_X10_finding (-1000001 : Int32) h_9 fun r_15 h_14 =>
        Q r_15 h_14)
      else (
        vp_in ((16 : Int32) + a1) 62 ∧
        ∀ h_13 : Mem, h_13 = gm_st h_9 44 (((16 : Int32) + a1).toNatClampNeg) a2 →
        Q (1 : Int32) h_13)))
set_option maxRecDepth 20000 in
theorem t_X10_hold (a1 : Int32) (a2 : Int32)  (h : Mem) (Q : Int32 → Mem → Prop) (hyp : f_X10_hold a1 a2 h Q) : Cn m_X10_hold [.ref 43, .int a1, .int a2] h (GI Q) := by
  refine ge_entry (lv := [(0, .ref 43), (1, .int a1), (2, .int a2)]) pn_X10 (Nat.le_of_ble_eq_true rfl) rfl ?_
  unfold f_X10_hold at hyp
  refine ge_iload_n a_X10_hold_0 rfl 1 rfl ?_
  refine ge_cSI [.int a1] (rest := []) a_X10_hold_1 ok_X10_isSpot lk_X10_339 ⟨Nat.le_of_ble_eq_true rfl, Nat.le_of_ble_eq_true rfl⟩ rfl rfl (Nat.le_of_ble_eq_true rfl) (t_X10_isSpot a1  h _ hyp) (fun r_2 h_1 hyp => ?_)
  refine ge_if_eq a_X10_hold_4 (fun c_3 => ?_) (fun c_3 => ?_)
  · have hyp := gm_ip hyp c_3
    refine ge_aload_n a_X10_hold_20 rfl 0 rfl ?_
    refine ge_ldc (v := -1000001) a_X10_hold_21 ct_X10_66 ?_
    refine ge_cVI [.int (-1000001 : Int32)] (rest := []) a_X10_hold_23 ok_X10_finding lk_X10_83 ⟨Nat.le_of_ble_eq_true rfl, Nat.le_of_ble_eq_true rfl⟩ (rfl : gm_cls 43 = 9) vc_9 (by decide) rfl rfl (Nat.le_of_ble_eq_true rfl) (t_X10_finding (-1000001 : Int32)  h_1 _ hyp) (fun r_5 h_4 hyp => ?_)
    exact ge_iret rfl a_X10_hold_26 hyp
  · have hyp := gm_in hyp c_3
    refine ge_iload_n a_X10_hold_7 rfl 2 rfl ?_
    refine ge_iconst (v := -1) a_X10_hold_8 rfl ?_
    refine ge_icmp_eq a_X10_hold_9 (fun c_6 => ?_) (fun c_6 => ?_)
    · have hyp := gm_ip hyp c_6
      refine ge_aload_n a_X10_hold_27 rfl 0 rfl ?_
      refine ge_getR (q := 44) a_X10_hold_28 fd_X10_9 (rfl : gm_cls 43 = 9) rfl ?_
      refine ge_bipush (v := 16) a_X10_hold_31 rfl ?_
      refine ge_iload_n a_X10_hold_33 rfl 1 rfl ?_
      refine ge_iadd a_X10_hold_34 ?_
      refine ge_iload_n a_X10_hold_35 rfl 2 rfl ?_
      obtain ⟨b_7, hyp⟩ := hyp
      refine ge_iast (j := ((16 : Int32) + a1).toNatClampNeg) a_X10_hold_36 ga_44 b_7 rfl ?_
      refine ge_nm (fun h_8 eh_8 => ?_)
      have hyp := hyp h_8 eh_8
      refine ge_iconst (v := 1) a_X10_hold_37 rfl ?_
      exact ge_iret rfl a_X10_hold_38 hyp
    · have hyp := gm_in hyp c_6
      refine ge_aload_n a_X10_hold_12 rfl 0 rfl ?_
      refine ge_iload_n a_X10_hold_13 rfl 2 rfl ?_
      refine ge_cVI [.int a2] (rest := []) a_X10_hold_14 ok_X10_isLine lk_X10_103 ⟨Nat.le_of_ble_eq_true rfl, Nat.le_of_ble_eq_true rfl⟩ (rfl : gm_cls 43 = 9) vc_9 (by decide) rfl rfl (Nat.le_of_ble_eq_true rfl) (t_X10_isLine a2  h_1 _ hyp) (fun r_10 h_9 hyp => ?_)
      refine ge_if_ne a_X10_hold_17 (fun c_11 => ?_) (fun c_11 => ?_)
      · have hyp := gm_in hyp c_11
        refine ge_aload_n a_X10_hold_27 rfl 0 rfl ?_
        refine ge_getR (q := 44) a_X10_hold_28 fd_X10_9 (rfl : gm_cls 43 = 9) rfl ?_
        refine ge_bipush (v := 16) a_X10_hold_31 rfl ?_
        refine ge_iload_n a_X10_hold_33 rfl 1 rfl ?_
        refine ge_iadd a_X10_hold_34 ?_
        refine ge_iload_n a_X10_hold_35 rfl 2 rfl ?_
        obtain ⟨b_12, hyp⟩ := hyp
        refine ge_iast (j := ((16 : Int32) + a1).toNatClampNeg) a_X10_hold_36 ga_44 b_12 rfl ?_
        refine ge_nm (fun h_13 eh_13 => ?_)
        have hyp := hyp h_13 eh_13
        refine ge_iconst (v := 1) a_X10_hold_37 rfl ?_
        exact ge_iret rfl a_X10_hold_38 hyp
      · have hyp := gm_ip hyp c_11
        refine ge_aload_n a_X10_hold_20 rfl 0 rfl ?_
        refine ge_ldc (v := -1000001) a_X10_hold_21 ct_X10_66 ?_
        refine ge_cVI [.int (-1000001 : Int32)] (rest := []) a_X10_hold_23 ok_X10_finding lk_X10_83 ⟨Nat.le_of_ble_eq_true rfl, Nat.le_of_ble_eq_true rfl⟩ (rfl : gm_cls 43 = 9) vc_9 (by decide) rfl rfl (Nat.le_of_ble_eq_true rfl) (t_X10_finding (-1000001 : Int32)  h_9 _ hyp) (fun r_15 h_14 hyp => ?_)
        exact ge_iret rfl a_X10_hold_26 hyp

theorem a_X10_as_0 : At m_X10_as 0 (.iload_n 1) 1 1 := at_i (by decide +kernel) rfl
theorem a_X10_as_1 : At m_X10_as 1 (.invokestatic 339) 3 4 := at_i (by decide +kernel) rfl
theorem a_X10_as_4 : AtJ m_X10_as 4 (.ifCond .eq 10) (10) 14 7 := at_j (by decide +kernel) (by decide) rfl
theorem a_X10_as_7 : At m_X10_as 7 (.iload_n 2) 1 8 := at_i (by decide +kernel) rfl
theorem a_X10_as_8 : At m_X10_as 8 (.invokestatic 79) 3 11 := at_i (by decide +kernel) rfl
theorem a_X10_as_11 : AtJ m_X10_as 11 (.ifCond .ne 10) (10) 21 14 := at_j (by decide +kernel) (by decide) rfl
theorem a_X10_as_14 : At m_X10_as 14 (.aload_n 0) 1 15 := at_i (by decide +kernel) rfl
theorem a_X10_as_15 : At m_X10_as 15 (.ldc 66) 2 17 := at_i (by decide +kernel) rfl
theorem a_X10_as_17 : At m_X10_as 17 (.invokevirtual 83) 3 20 := at_i (by decide +kernel) rfl
theorem a_X10_as_20 : At m_X10_as 20 (.ireturn) 1 21 := at_i (by decide +kernel) rfl
theorem a_X10_as_21 : At m_X10_as 21 (.aload_n 0) 1 22 := at_i (by decide +kernel) rfl
theorem a_X10_as_22 : At m_X10_as 22 (.getfield 9) 3 25 := at_i (by decide +kernel) rfl
theorem a_X10_as_25 : At m_X10_as 25 (.bipush 16) 2 27 := at_i (by decide +kernel) rfl
theorem a_X10_as_27 : At m_X10_as 27 (.iload_n 1) 1 28 := at_i (by decide +kernel) rfl
theorem a_X10_as_28 : At m_X10_as 28 (.iadd) 1 29 := at_i (by decide +kernel) rfl
theorem a_X10_as_29 : At m_X10_as 29 (.iaload) 1 30 := at_i (by decide +kernel) rfl
theorem a_X10_as_30 : At m_X10_as 30 (.istore_n 3) 1 31 := at_i (by decide +kernel) rfl
theorem a_X10_as_31 : At m_X10_as 31 (.iload_n 3) 1 32 := at_i (by decide +kernel) rfl
theorem a_X10_as_32 : AtJ m_X10_as 32 (.ifCond .ge 10) (10) 42 35 := at_j (by decide +kernel) (by decide) rfl
theorem a_X10_as_35 : At m_X10_as 35 (.aload_n 0) 1 36 := at_i (by decide +kernel) rfl
theorem a_X10_as_36 : At m_X10_as 36 (.ldc 225) 2 38 := at_i (by decide +kernel) rfl
theorem a_X10_as_38 : At m_X10_as 38 (.invokevirtual 83) 3 41 := at_i (by decide +kernel) rfl
theorem a_X10_as_41 : At m_X10_as 41 (.ireturn) 1 42 := at_i (by decide +kernel) rfl
theorem a_X10_as_42 : At m_X10_as 42 (.aload_n 0) 1 43 := at_i (by decide +kernel) rfl
theorem a_X10_as_43 : At m_X10_as 43 (.iload_n 3) 1 44 := at_i (by decide +kernel) rfl
theorem a_X10_as_44 : At m_X10_as 44 (.iconst 0) 1 45 := at_i (by decide +kernel) rfl
theorem a_X10_as_45 : At m_X10_as 45 (.invokevirtual 95) 3 48 := at_i (by decide +kernel) rfl
theorem a_X10_as_48 : At m_X10_as 48 (.iload_n 2) 1 49 := at_i (by decide +kernel) rfl
theorem a_X10_as_49 : At m_X10_as 49 (.invokestatic 342) 3 52 := at_i (by decide +kernel) rfl
theorem a_X10_as_52 : AtJ m_X10_as 52 (.ifCond .eq 7) (7) 59 55 := at_j (by decide +kernel) (by decide) rfl
theorem a_X10_as_55 : At m_X10_as 55 (.iload_n 3) 1 56 := at_i (by decide +kernel) rfl
theorem a_X10_as_56 : AtJ m_X10_as 56 (.goto 10) (10) 66 59 := at_j (by decide +kernel) (by decide) rfl
theorem a_X10_as_59 : At m_X10_as 59 (.aload_n 0) 1 60 := at_i (by decide +kernel) rfl
theorem a_X10_as_60 : At m_X10_as 60 (.ldc_w 345) 3 63 := at_i (by decide +kernel) rfl
theorem a_X10_as_63 : At m_X10_as 63 (.invokevirtual 83) 3 66 := at_i (by decide +kernel) rfl
theorem a_X10_as_66 : At m_X10_as 66 (.ireturn) 1 67 := at_i (by decide +kernel) rfl
def f_X10_as (a1 : Int32) (a2 : Int32) (h : Mem) (Q : Int32 → Mem → Prop) : Prop :=
  f_X10_isSpot a1 h fun r_2 h_1 =>
  if r_2 = 0 then (
    f_X10_finding (-1000001 : Int32) h_1 fun r_5 h_4 =>
    Q r_5 h_4)
  else (
    f_X10_isKind a2 h_1 fun r_7 h_6 =>
    if r_7 = 0 then (
      f_X10_finding (-1000001 : Int32) h_6 fun r_22 h_21 =>
      Q r_22 h_21)
    else (
      vp_in ((16 : Int32) + a1) 62 ∧
      ∀ v_10 : Int32, v_10 = h_6 44 (((16 : Int32) + a1).toNatClampNeg) →
      if 0 ≤ v_10 then (
        f_X10_lineIs v_10 (0 : Int32) h_6 fun r_13 h_12 =>
        f_X10_isUnder r_13 a2 h_12 fun r_15 h_14 =>
        if r_15 = 0 then (
          f_X10_finding (-1000003 : Int32) h_14 fun r_18 h_17 =>
          Q r_18 h_17)
        else (
          Q v_10 h_14))
      else (
        f_X10_finding (-1000006 : Int32) h_6 fun r_20 h_19 =>
        Q r_20 h_19)))
set_option maxRecDepth 20000 in
theorem t_X10_as (a1 : Int32) (a2 : Int32)  (h : Mem) (Q : Int32 → Mem → Prop) (hyp : f_X10_as a1 a2 h Q) : Cn m_X10_as [.ref 43, .int a1, .int a2] h (GI Q) := by
  refine ge_entry (lv := [(0, .ref 43), (1, .int a1), (2, .int a2)]) pn_X10 (Nat.le_of_ble_eq_true rfl) rfl ?_
  unfold f_X10_as at hyp
  refine ge_iload_n a_X10_as_0 rfl 1 rfl ?_
  refine ge_cSI [.int a1] (rest := []) a_X10_as_1 ok_X10_isSpot lk_X10_339 ⟨Nat.le_of_ble_eq_true rfl, Nat.le_of_ble_eq_true rfl⟩ rfl rfl (Nat.le_of_ble_eq_true rfl) (t_X10_isSpot a1  h _ hyp) (fun r_2 h_1 hyp => ?_)
  refine ge_if_eq a_X10_as_4 (fun c_3 => ?_) (fun c_3 => ?_)
  · have hyp := gm_ip hyp c_3
    refine ge_aload_n a_X10_as_14 rfl 0 rfl ?_
    refine ge_ldc (v := -1000001) a_X10_as_15 ct_X10_66 ?_
    refine ge_cVI [.int (-1000001 : Int32)] (rest := []) a_X10_as_17 ok_X10_finding lk_X10_83 ⟨Nat.le_of_ble_eq_true rfl, Nat.le_of_ble_eq_true rfl⟩ (rfl : gm_cls 43 = 9) vc_9 (by decide) rfl rfl (Nat.le_of_ble_eq_true rfl) (t_X10_finding (-1000001 : Int32)  h_1 _ hyp) (fun r_5 h_4 hyp => ?_)
    exact ge_iret rfl a_X10_as_20 hyp
  · have hyp := gm_in hyp c_3
    refine ge_iload_n a_X10_as_7 rfl 2 rfl ?_
    refine ge_cSI [.int a2] (rest := []) a_X10_as_8 ok_X10_isKind lk_X10_79 ⟨Nat.le_of_ble_eq_true rfl, Nat.le_of_ble_eq_true rfl⟩ rfl rfl (Nat.le_of_ble_eq_true rfl) (t_X10_isKind a2  h_1 _ hyp) (fun r_7 h_6 hyp => ?_)
    refine ge_if_ne a_X10_as_11 (fun c_8 => ?_) (fun c_8 => ?_)
    · have hyp := gm_in hyp c_8
      refine ge_aload_n a_X10_as_21 rfl 0 rfl ?_
      refine ge_getR (q := 44) a_X10_as_22 fd_X10_9 (rfl : gm_cls 43 = 9) rfl ?_
      refine ge_bipush (v := 16) a_X10_as_25 rfl ?_
      refine ge_iload_n a_X10_as_27 rfl 1 rfl ?_
      refine ge_iadd a_X10_as_28 ?_
      obtain ⟨b_9, hyp⟩ := hyp
      refine ge_iald (j := ((16 : Int32) + a1).toNatClampNeg) a_X10_as_29 ga_44 b_9 rfl ?_
      refine ge_topi (fun v_10 ev_10 => ?_)
      have hyp := hyp v_10 ev_10
      refine ge_istore_n (lv' := [(3, .int v_10), (0, .ref 43), (1, .int a1), (2, .int a2)]) a_X10_as_30 rfl (Nat.le_of_ble_eq_true rfl) rfl ?_
      refine ge_iload_n a_X10_as_31 rfl 0 rfl ?_
      refine ge_if_ge a_X10_as_32 (fun c_11 => ?_) (fun c_11 => ?_)
      · have hyp := gm_ip hyp c_11
        refine ge_aload_n a_X10_as_42 rfl 1 rfl ?_
        refine ge_iload_n a_X10_as_43 rfl 0 rfl ?_
        refine ge_iconst (v := 0) a_X10_as_44 rfl ?_
        refine ge_cVI [.int v_10, .int (0 : Int32)] (rest := []) a_X10_as_45 ok_X10_lineIs lk_X10_95 ⟨Nat.le_of_ble_eq_true rfl, Nat.le_of_ble_eq_true rfl⟩ (rfl : gm_cls 43 = 9) vc_9 (by decide) rfl rfl (Nat.le_of_ble_eq_true rfl) (t_X10_lineIs v_10 (0 : Int32)  h_6 _ hyp) (fun r_13 h_12 hyp => ?_)
        refine ge_iload_n a_X10_as_48 rfl 3 rfl ?_
        refine ge_cSI [.int r_13, .int a2] (rest := []) a_X10_as_49 ok_X10_isUnder lk_X10_342 ⟨Nat.le_of_ble_eq_true rfl, Nat.le_of_ble_eq_true rfl⟩ rfl rfl (Nat.le_of_ble_eq_true rfl) (t_X10_isUnder r_13 a2  h_12 _ hyp) (fun r_15 h_14 hyp => ?_)
        refine ge_if_eq a_X10_as_52 (fun c_16 => ?_) (fun c_16 => ?_)
        · have hyp := gm_ip hyp c_16
          refine ge_aload_n a_X10_as_59 rfl 1 rfl ?_
          refine ge_ldcw (v := -1000003) a_X10_as_60 ct_X10_345 ?_
          refine ge_cVI [.int (-1000003 : Int32)] (rest := []) a_X10_as_63 ok_X10_finding lk_X10_83 ⟨Nat.le_of_ble_eq_true rfl, Nat.le_of_ble_eq_true rfl⟩ (rfl : gm_cls 43 = 9) vc_9 (by decide) rfl rfl (Nat.le_of_ble_eq_true rfl) (t_X10_finding (-1000003 : Int32)  h_14 _ hyp) (fun r_18 h_17 hyp => ?_)
          exact ge_iret rfl a_X10_as_66 hyp
        · have hyp := gm_in hyp c_16
          refine ge_iload_n a_X10_as_55 rfl 0 rfl ?_
          refine ge_goto a_X10_as_56 ?_
          exact ge_iret rfl a_X10_as_66 hyp
      · have hyp := gm_in hyp c_11
        refine ge_aload_n a_X10_as_35 rfl 1 rfl ?_
        refine ge_ldc (v := -1000006) a_X10_as_36 ct_X10_225 ?_
        refine ge_cVI [.int (-1000006 : Int32)] (rest := []) a_X10_as_38 ok_X10_finding lk_X10_83 ⟨Nat.le_of_ble_eq_true rfl, Nat.le_of_ble_eq_true rfl⟩ (rfl : gm_cls 43 = 9) vc_9 (by decide) rfl rfl (Nat.le_of_ble_eq_true rfl) (t_X10_finding (-1000006 : Int32)  h_6 _ hyp) (fun r_20 h_19 hyp => ?_)
        exact ge_iret rfl a_X10_as_41 hyp
    · have hyp := gm_ip hyp c_8
      refine ge_aload_n a_X10_as_14 rfl 0 rfl ?_
      refine ge_ldc (v := -1000001) a_X10_as_15 ct_X10_66 ?_
      refine ge_cVI [.int (-1000001 : Int32)] (rest := []) a_X10_as_17 ok_X10_finding lk_X10_83 ⟨Nat.le_of_ble_eq_true rfl, Nat.le_of_ble_eq_true rfl⟩ (rfl : gm_cls 43 = 9) vc_9 (by decide) rfl rfl (Nat.le_of_ble_eq_true rfl) (t_X10_finding (-1000001 : Int32)  h_6 _ hyp) (fun r_22 h_21 hyp => ?_)
      exact ge_iret rfl a_X10_as_20 hyp

theorem a_X10_cutTo_0 : At m_X10_cutTo 0 (.iload_n 1) 1 1 := at_i (by decide +kernel) rfl
theorem a_X10_cutTo_1 : At m_X10_cutTo 1 (.bipush 8) 2 3 := at_i (by decide +kernel) rfl
theorem a_X10_cutTo_3 : AtJ m_X10_cutTo 3 (.if_icmp .ne 8) (8) 11 6 := at_j (by decide +kernel) (by decide) rfl
theorem a_X10_cutTo_6 : At m_X10_cutTo 6 (.iload_n 0) 1 7 := at_i (by decide +kernel) rfl
theorem a_X10_cutTo_7 : At m_X10_cutTo 7 (.i2b) 1 8 := at_i (by decide +kernel) rfl
theorem a_X10_cutTo_8 : AtJ m_X10_cutTo 8 (.goto 15) (15) 23 11 := at_j (by decide +kernel) (by decide) rfl
theorem a_X10_cutTo_11 : At m_X10_cutTo 11 (.iload_n 1) 1 12 := at_i (by decide +kernel) rfl
theorem a_X10_cutTo_12 : At m_X10_cutTo 12 (.bipush 16) 2 14 := at_i (by decide +kernel) rfl
theorem a_X10_cutTo_14 : AtJ m_X10_cutTo 14 (.if_icmp .ne 8) (8) 22 17 := at_j (by decide +kernel) (by decide) rfl
theorem a_X10_cutTo_17 : At m_X10_cutTo 17 (.iload_n 0) 1 18 := at_i (by decide +kernel) rfl
theorem a_X10_cutTo_18 : At m_X10_cutTo 18 (.i2s) 1 19 := at_i (by decide +kernel) rfl
theorem a_X10_cutTo_19 : AtJ m_X10_cutTo 19 (.goto 4) (4) 23 22 := at_j (by decide +kernel) (by decide) rfl
theorem a_X10_cutTo_22 : At m_X10_cutTo 22 (.iload_n 0) 1 23 := at_i (by decide +kernel) rfl
theorem a_X10_cutTo_23 : At m_X10_cutTo 23 (.ireturn) 1 24 := at_i (by decide +kernel) rfl
def f_X10_cutTo (a0 : Int32) (a1 : Int32) (h : Mem) (Q : Int32 → Mem → Prop) : Prop :=
  if a1 = (8 : Int32) then (
    Q a0.toInt8.toInt32 h)
  else (
    if a1 = (16 : Int32) then (
      Q a0.toInt16.toInt32 h)
    else (
      Q a0 h))
set_option maxRecDepth 20000 in
theorem t_X10_cutTo (a0 : Int32) (a1 : Int32)  (h : Mem) (Q : Int32 → Mem → Prop) (hyp : f_X10_cutTo a0 a1 h Q) : Cn m_X10_cutTo [.int a0, .int a1] h (GI Q) := by
  refine ge_entry (lv := [(0, .int a0), (1, .int a1)]) pn_X10 (Nat.le_of_ble_eq_true rfl) rfl ?_
  unfold f_X10_cutTo at hyp
  refine ge_iload_n a_X10_cutTo_0 rfl 1 rfl ?_
  refine ge_bipush (v := 8) a_X10_cutTo_1 rfl ?_
  refine ge_icmp_ne a_X10_cutTo_3 (fun c_1 => ?_) (fun c_1 => ?_)
  · have hyp := gm_in hyp c_1
    refine ge_iload_n a_X10_cutTo_11 rfl 1 rfl ?_
    refine ge_bipush (v := 16) a_X10_cutTo_12 rfl ?_
    refine ge_icmp_ne a_X10_cutTo_14 (fun c_2 => ?_) (fun c_2 => ?_)
    · have hyp := gm_in hyp c_2
      refine ge_iload_n a_X10_cutTo_22 rfl 0 rfl ?_
      exact ge_iret rfl a_X10_cutTo_23 hyp
    · have hyp := gm_ip hyp c_2
      refine ge_iload_n a_X10_cutTo_17 rfl 0 rfl ?_
      refine ge_i2s a_X10_cutTo_18 ?_
      refine ge_goto a_X10_cutTo_19 ?_
      exact ge_iret rfl a_X10_cutTo_23 hyp
  · have hyp := gm_ip hyp c_1
    refine ge_iload_n a_X10_cutTo_6 rfl 0 rfl ?_
    refine ge_i2b a_X10_cutTo_7 ?_
    refine ge_goto a_X10_cutTo_8 ?_
    exact ge_iret rfl a_X10_cutTo_23 hyp

theorem a_X10_sheet_0 : At m_X10_sheet 0 (.iload_n 1) 1 1 := at_i (by decide +kernel) rfl
theorem a_X10_sheet_1 : At m_X10_sheet 1 (.invokestatic 222) 3 4 := at_i (by decide +kernel) rfl
theorem a_X10_sheet_4 : AtJ m_X10_sheet 4 (.ifCond .eq 25) (25) 29 7 := at_j (by decide +kernel) (by decide) rfl
theorem a_X10_sheet_7 : At m_X10_sheet 7 (.iload_n 2) 1 8 := at_i (by decide +kernel) rfl
theorem a_X10_sheet_8 : AtJ m_X10_sheet 8 (.ifCond .eq 28) (28) 36 11 := at_j (by decide +kernel) (by decide) rfl
theorem a_X10_sheet_11 : At m_X10_sheet 11 (.iload_n 2) 1 12 := at_i (by decide +kernel) rfl
theorem a_X10_sheet_12 : At m_X10_sheet 12 (.bipush 8) 2 14 := at_i (by decide +kernel) rfl
theorem a_X10_sheet_14 : AtJ m_X10_sheet 14 (.if_icmp .eq 22) (22) 36 17 := at_j (by decide +kernel) (by decide) rfl
theorem a_X10_sheet_17 : At m_X10_sheet 17 (.iload_n 2) 1 18 := at_i (by decide +kernel) rfl
theorem a_X10_sheet_18 : At m_X10_sheet 18 (.bipush 16) 2 20 := at_i (by decide +kernel) rfl
theorem a_X10_sheet_20 : AtJ m_X10_sheet 20 (.if_icmp .eq 16) (16) 36 23 := at_j (by decide +kernel) (by decide) rfl
theorem a_X10_sheet_23 : At m_X10_sheet 23 (.iload_n 2) 1 24 := at_i (by decide +kernel) rfl
theorem a_X10_sheet_24 : At m_X10_sheet 24 (.bipush 32) 2 26 := at_i (by decide +kernel) rfl
theorem a_X10_sheet_26 : AtJ m_X10_sheet 26 (.if_icmp .eq 10) (10) 36 29 := at_j (by decide +kernel) (by decide) rfl
theorem a_X10_sheet_29 : At m_X10_sheet 29 (.aload_n 0) 1 30 := at_i (by decide +kernel) rfl
theorem a_X10_sheet_30 : At m_X10_sheet 30 (.ldc 66) 2 32 := at_i (by decide +kernel) rfl
theorem a_X10_sheet_32 : At m_X10_sheet 32 (.invokevirtual 83) 3 35 := at_i (by decide +kernel) rfl
theorem a_X10_sheet_35 : At m_X10_sheet 35 (.ireturn) 1 36 := at_i (by decide +kernel) rfl
theorem a_X10_sheet_36 : At m_X10_sheet 36 (.iload_n 3) 1 37 := at_i (by decide +kernel) rfl
theorem a_X10_sheet_37 : AtJ m_X10_sheet 37 (.ifCond .ge 11) (11) 48 40 := at_j (by decide +kernel) (by decide) rfl
theorem a_X10_sheet_40 : At m_X10_sheet 40 (.aload_n 0) 1 41 := at_i (by decide +kernel) rfl
theorem a_X10_sheet_41 : At m_X10_sheet 41 (.ldc_w 346) 3 44 := at_i (by decide +kernel) rfl
theorem a_X10_sheet_44 : At m_X10_sheet 44 (.invokevirtual 83) 3 47 := at_i (by decide +kernel) rfl
theorem a_X10_sheet_47 : At m_X10_sheet 47 (.ireturn) 1 48 := at_i (by decide +kernel) rfl
theorem a_X10_sheet_48 : At m_X10_sheet 48 (.iload_n 3) 1 49 := at_i (by decide +kernel) rfl
theorem a_X10_sheet_49 : At m_X10_sheet 49 (.bipush 40) 2 51 := at_i (by decide +kernel) rfl
theorem a_X10_sheet_51 : AtJ m_X10_sheet 51 (.if_icmp .le 10) (10) 61 54 := at_j (by decide +kernel) (by decide) rfl
theorem a_X10_sheet_54 : At m_X10_sheet 54 (.aload_n 0) 1 55 := at_i (by decide +kernel) rfl
theorem a_X10_sheet_55 : At m_X10_sheet 55 (.ldc 66) 2 57 := at_i (by decide +kernel) rfl
theorem a_X10_sheet_57 : At m_X10_sheet 57 (.invokevirtual 83) 3 60 := at_i (by decide +kernel) rfl
theorem a_X10_sheet_60 : At m_X10_sheet 60 (.ireturn) 1 61 := at_i (by decide +kernel) rfl
theorem a_X10_sheet_61 : At m_X10_sheet 61 (.aload_n 0) 1 62 := at_i (by decide +kernel) rfl
theorem a_X10_sheet_62 : At m_X10_sheet 62 (.getfield 54) 3 65 := at_i (by decide +kernel) rfl
theorem a_X10_sheet_65 : At m_X10_sheet 65 (.iload_n 1) 1 66 := at_i (by decide +kernel) rfl
theorem a_X10_sheet_66 : At m_X10_sheet 66 (.iload_n 2) 1 67 := at_i (by decide +kernel) rfl
theorem a_X10_sheet_67 : At m_X10_sheet 67 (.iastore) 1 68 := at_i (by decide +kernel) rfl
theorem a_X10_sheet_68 : At m_X10_sheet 68 (.aload_n 0) 1 69 := at_i (by decide +kernel) rfl
theorem a_X10_sheet_69 : At m_X10_sheet 69 (.getfield 57) 3 72 := at_i (by decide +kernel) rfl
theorem a_X10_sheet_72 : At m_X10_sheet 72 (.iload_n 1) 1 73 := at_i (by decide +kernel) rfl
theorem a_X10_sheet_73 : At m_X10_sheet 73 (.iload_n 2) 1 74 := at_i (by decide +kernel) rfl
theorem a_X10_sheet_74 : AtJ m_X10_sheet 74 (.ifCond .ne 7) (7) 81 77 := at_j (by decide +kernel) (by decide) rfl
theorem a_X10_sheet_77 : At m_X10_sheet 77 (.iconst 0) 1 78 := at_i (by decide +kernel) rfl
theorem a_X10_sheet_78 : AtJ m_X10_sheet 78 (.goto 4) (4) 82 81 := at_j (by decide +kernel) (by decide) rfl
theorem a_X10_sheet_81 : At m_X10_sheet 81 (.iload_n 3) 1 82 := at_i (by decide +kernel) rfl
theorem a_X10_sheet_82 : At m_X10_sheet 82 (.iastore) 1 83 := at_i (by decide +kernel) rfl
theorem a_X10_sheet_83 : At m_X10_sheet 83 (.iconst 0) 1 84 := at_i (by decide +kernel) rfl
theorem a_X10_sheet_84 : At m_X10_sheet 84 (.istore 4) 2 86 := at_i (by decide +kernel) rfl
theorem a_X10_sheet_86 : At m_X10_sheet 86 (.iload 4) 2 88 := at_i (by decide +kernel) rfl
theorem a_X10_sheet_88 : At m_X10_sheet 88 (.bipush 40) 2 90 := at_i (by decide +kernel) rfl
theorem a_X10_sheet_90 : AtJ m_X10_sheet 90 (.if_icmp .ge 22) (22) 112 93 := at_j (by decide +kernel) (by decide) rfl
theorem a_X10_sheet_93 : At m_X10_sheet 93 (.aload_n 0) 1 94 := at_i (by decide +kernel) rfl
theorem a_X10_sheet_94 : At m_X10_sheet 94 (.getfield 60) 3 97 := at_i (by decide +kernel) rfl
theorem a_X10_sheet_97 : At m_X10_sheet 97 (.bipush 40) 2 99 := at_i (by decide +kernel) rfl
theorem a_X10_sheet_99 : At m_X10_sheet 99 (.iload_n 1) 1 100 := at_i (by decide +kernel) rfl
theorem a_X10_sheet_100 : At m_X10_sheet 100 (.imul) 1 101 := at_i (by decide +kernel) rfl
theorem a_X10_sheet_101 : At m_X10_sheet 101 (.iload 4) 2 103 := at_i (by decide +kernel) rfl
theorem a_X10_sheet_103 : At m_X10_sheet 103 (.iadd) 1 104 := at_i (by decide +kernel) rfl
theorem a_X10_sheet_104 : At m_X10_sheet 104 (.iconst 0) 1 105 := at_i (by decide +kernel) rfl
theorem a_X10_sheet_105 : At m_X10_sheet 105 (.iastore) 1 106 := at_i (by decide +kernel) rfl
theorem a_X10_sheet_106 : At m_X10_sheet 106 (.iinc 4 1) 3 109 := at_i (by decide +kernel) rfl
theorem a_X10_sheet_109 : AtJ m_X10_sheet 109 (.goto (-23)) (-23) 86 112 := at_j (by decide +kernel) (by decide) rfl
theorem a_X10_sheet_112 : At m_X10_sheet 112 (.aload_n 0) 1 113 := at_i (by decide +kernel) rfl
theorem a_X10_sheet_113 : At m_X10_sheet 113 (.getfield 57) 3 116 := at_i (by decide +kernel) rfl
theorem a_X10_sheet_116 : At m_X10_sheet 116 (.iload_n 1) 1 117 := at_i (by decide +kernel) rfl
theorem a_X10_sheet_117 : At m_X10_sheet 117 (.iaload) 1 118 := at_i (by decide +kernel) rfl
theorem a_X10_sheet_118 : At m_X10_sheet 118 (.ireturn) 1 119 := at_i (by decide +kernel) rfl
def f_X10_sheet_b86 (a1 : Int32) (a2 : Int32) (a3 : Int32)  (Q : Int32 → Mem → Prop)  (K86 : Int32 → Mem → Prop) (v4 : Int32) (h : Mem) : Prop :=
  if (40 : Int32) ≤ v4 then (
    vp_in a1 4 ∧
    Q (h 54 a1.toNatClampNeg) h)
  else (
    vp_in (((40 : Int32) * a1) + v4) 160 ∧
    ∀ h_17 : Mem, h_17 = gm_st h 55 ((((40 : Int32) * a1) + v4).toNatClampNeg) (0 : Int32) →
    ∀ v_18 : Int32, v_18 = v4 + (1 : Int32) →
    K86 v_18 h_17)
set_option maxRecDepth 20000 in
theorem t_X10_sheet_b86 (a1 : Int32) (a2 : Int32) (a3 : Int32)    (Q : Int32 → Mem → Prop)   : ∀ (n : Nat) (v4 : Int32) (h : Mem), gm_it1 (f_X10_sheet_b86 a1 a2 a3  Q ) n v4 h → EV m_X10_sheet (GI Q) 86 [(0, .ref 43), (1, .int a1), (4, .int v4)] [] h := by
  refine ge_loop1 (P := fun v4 h => EV m_X10_sheet (GI Q) 86 [(0, .ref 43), (1, .int a1), (4, .int v4)] [] h) (fun K86 hK86 v4 h hyp => ?_)
  unfold f_X10_sheet_b86 at hyp
  refine ge_iload a_X10_sheet_86 2 rfl ?_
  refine ge_bipush (v := 40) a_X10_sheet_88 rfl ?_
  refine ge_icmp_ge a_X10_sheet_90 (fun c_14 => ?_) (fun c_14 => ?_)
  · have hyp := gm_ip hyp c_14
    refine ge_aload_n a_X10_sheet_112 rfl 0 rfl ?_
    refine ge_getR (q := 54) a_X10_sheet_113 fd_X10_57 (rfl : gm_cls 43 = 9) rfl ?_
    refine ge_iload_n a_X10_sheet_116 rfl 1 rfl ?_
    obtain ⟨b_15, hyp⟩ := hyp
    refine ge_iald (j := a1.toNatClampNeg) a_X10_sheet_117 ga_54 b_15 rfl ?_
    exact ge_iret rfl a_X10_sheet_118 hyp
  · have hyp := gm_in hyp c_14
    refine ge_aload_n a_X10_sheet_93 rfl 0 rfl ?_
    refine ge_getR (q := 55) a_X10_sheet_94 fd_X10_60 (rfl : gm_cls 43 = 9) rfl ?_
    refine ge_bipush (v := 40) a_X10_sheet_97 rfl ?_
    refine ge_iload_n a_X10_sheet_99 rfl 1 rfl ?_
    refine ge_imul a_X10_sheet_100 ?_
    refine ge_iload a_X10_sheet_101 2 rfl ?_
    refine ge_iadd a_X10_sheet_103 ?_
    refine ge_iconst (v := 0) a_X10_sheet_104 rfl ?_
    obtain ⟨b_16, hyp⟩ := hyp
    refine ge_iast (j := (((40 : Int32) * a1) + v4).toNatClampNeg) a_X10_sheet_105 ga_55 b_16 rfl ?_
    refine ge_nm (fun h_17 eh_17 => ?_)
    have hyp := hyp h_17 eh_17
    obtain ⟨v_18, ev_18⟩ : ∃ y : Int32, y = v4 + (1 : Int32) := ⟨_, rfl⟩
    have hyp := hyp v_18 ev_18
    refine ge_iinc (v := v_18) (lv' := [(4, .int v_18), (0, .ref 43), (1, .int a1)]) a_X10_sheet_106 2 rfl ev_18.symm (Nat.le_of_ble_eq_true rfl) rfl ?_
    refine ge_goto a_X10_sheet_109 ?_
    exact ge_sub [1, 2, 0] rfl (hK86 v_18 h_17 hyp)
def f_X10_sheet_b36 (a1 : Int32) (a2 : Int32) (a3 : Int32)  (Q : Int32 → Mem → Prop)   (h : Mem) : Prop :=
  if 0 ≤ a3 then (
    if a3 ≤ (40 : Int32) then (
      vp_in a1 4 ∧
      ∀ h_10 : Mem, h_10 = gm_st h 53 a1.toNatClampNeg a2 →
      if a2 = 0 then (
        vp_in a1 4 ∧
        ∀ h_20 : Mem, h_20 = gm_st h_10 54 a1.toNatClampNeg (0 : Int32) →
        gm_it1 (f_X10_sheet_b86 a1 a2 a3  Q ) gm_F (0 : Int32) h_20)
      else (
        vp_in a1 4 ∧
        ∀ h_13 : Mem, h_13 = gm_st h_10 54 a1.toNatClampNeg a3 →
        gm_it1 (f_X10_sheet_b86 a1 a2 a3  Q ) gm_F (0 : Int32) h_13))
    else (
      f_X10_finding (-1000001 : Int32) h fun r_22 h_21 =>
      Q r_22 h_21))
  else (
    f_X10_finding (-1000007 : Int32) h fun r_24 h_23 =>
    Q r_24 h_23)
set_option maxRecDepth 20000 in
theorem t_X10_sheet_b36 (a1 : Int32) (a2 : Int32) (a3 : Int32)    (Q : Int32 → Mem → Prop)    (h : Mem) (hyp : f_X10_sheet_b36 a1 a2 a3  Q   h) : EV m_X10_sheet (GI Q) 36 [(0, .ref 43), (1, .int a1), (2, .int a2), (3, .int a3)] [] h := by
  unfold f_X10_sheet_b36 at hyp
  refine ge_iload_n a_X10_sheet_36 rfl 3 rfl ?_
  refine ge_if_ge a_X10_sheet_37 (fun c_7 => ?_) (fun c_7 => ?_)
  · have hyp := gm_ip hyp c_7
    refine ge_iload_n a_X10_sheet_48 rfl 3 rfl ?_
    refine ge_bipush (v := 40) a_X10_sheet_49 rfl ?_
    refine ge_icmp_le a_X10_sheet_51 (fun c_8 => ?_) (fun c_8 => ?_)
    · have hyp := gm_ip hyp c_8
      refine ge_aload_n a_X10_sheet_61 rfl 0 rfl ?_
      refine ge_getR (q := 53) a_X10_sheet_62 fd_X10_54 (rfl : gm_cls 43 = 9) rfl ?_
      refine ge_iload_n a_X10_sheet_65 rfl 1 rfl ?_
      refine ge_iload_n a_X10_sheet_66 rfl 2 rfl ?_
      obtain ⟨b_9, hyp⟩ := hyp
      refine ge_iast (j := a1.toNatClampNeg) a_X10_sheet_67 ga_53 b_9 rfl ?_
      refine ge_nm (fun h_10 eh_10 => ?_)
      have hyp := hyp h_10 eh_10
      refine ge_aload_n a_X10_sheet_68 rfl 0 rfl ?_
      refine ge_getR (q := 54) a_X10_sheet_69 fd_X10_57 (rfl : gm_cls 43 = 9) rfl ?_
      refine ge_iload_n a_X10_sheet_72 rfl 1 rfl ?_
      refine ge_iload_n a_X10_sheet_73 rfl 2 rfl ?_
      refine ge_if_ne a_X10_sheet_74 (fun c_11 => ?_) (fun c_11 => ?_)
      · have hyp := gm_in hyp c_11
        refine ge_iload_n a_X10_sheet_81 rfl 3 rfl ?_
        obtain ⟨b_12, hyp⟩ := hyp
        refine ge_iast (j := a1.toNatClampNeg) a_X10_sheet_82 ga_54 b_12 rfl ?_
        refine ge_nm (fun h_13 eh_13 => ?_)
        have hyp := hyp h_13 eh_13
        refine ge_iconst (v := 0) a_X10_sheet_83 rfl ?_
        refine ge_istore (lv' := [(4, .int (0 : Int32)), (0, .ref 43), (1, .int a1), (2, .int a2), (3, .int a3)]) a_X10_sheet_84 (Nat.le_of_ble_eq_true rfl) rfl ?_
        exact ge_sub [1, 2, 0] rfl (t_X10_sheet_b86 a1 a2 a3    Q   gm_F (0 : Int32) h_13 hyp)
      · have hyp := gm_ip hyp c_11
        refine ge_iconst (v := 0) a_X10_sheet_77 rfl ?_
        refine ge_goto a_X10_sheet_78 ?_
        obtain ⟨b_19, hyp⟩ := hyp
        refine ge_iast (j := a1.toNatClampNeg) a_X10_sheet_82 ga_54 b_19 rfl ?_
        refine ge_nm (fun h_20 eh_20 => ?_)
        have hyp := hyp h_20 eh_20
        refine ge_iconst (v := 0) a_X10_sheet_83 rfl ?_
        refine ge_istore (lv' := [(4, .int (0 : Int32)), (0, .ref 43), (1, .int a1), (2, .int a2), (3, .int a3)]) a_X10_sheet_84 (Nat.le_of_ble_eq_true rfl) rfl ?_
        exact ge_sub [1, 2, 0] rfl (t_X10_sheet_b86 a1 a2 a3    Q   gm_F (0 : Int32) h_20 hyp)
    · have hyp := gm_in hyp c_8
      refine ge_aload_n a_X10_sheet_54 rfl 0 rfl ?_
      refine ge_ldc (v := -1000001) a_X10_sheet_55 ct_X10_66 ?_
      refine ge_cVI [.int (-1000001 : Int32)] (rest := []) a_X10_sheet_57 ok_X10_finding lk_X10_83 ⟨Nat.le_of_ble_eq_true rfl, Nat.le_of_ble_eq_true rfl⟩ (rfl : gm_cls 43 = 9) vc_9 (by decide) rfl rfl (Nat.le_of_ble_eq_true rfl) (t_X10_finding (-1000001 : Int32)  h _ hyp) (fun r_22 h_21 hyp => ?_)
      exact ge_iret rfl a_X10_sheet_60 hyp
  · have hyp := gm_in hyp c_7
    refine ge_aload_n a_X10_sheet_40 rfl 0 rfl ?_
    refine ge_ldcw (v := -1000007) a_X10_sheet_41 ct_X10_346 ?_
    refine ge_cVI [.int (-1000007 : Int32)] (rest := []) a_X10_sheet_44 ok_X10_finding lk_X10_83 ⟨Nat.le_of_ble_eq_true rfl, Nat.le_of_ble_eq_true rfl⟩ (rfl : gm_cls 43 = 9) vc_9 (by decide) rfl rfl (Nat.le_of_ble_eq_true rfl) (t_X10_finding (-1000007 : Int32)  h _ hyp) (fun r_24 h_23 hyp => ?_)
    exact ge_iret rfl a_X10_sheet_47 hyp
def f_X10_sheet (a1 : Int32) (a2 : Int32) (a3 : Int32) (h : Mem) (Q : Int32 → Mem → Prop) : Prop :=
  f_X10_isSheet a1 h fun r_2 h_1 =>
  if r_2 = 0 then (
    f_X10_finding (-1000001 : Int32) h_1 fun r_5 h_4 =>
    Q r_5 h_4)
  else (
    if a2 = 0 then (
      f_X10_sheet_b36 a1 a2 a3  Q   h_1)
    else (
      if a2 = (8 : Int32) then (
        f_X10_sheet_b36 a1 a2 a3  Q   h_1)
      else (
        if a2 = (16 : Int32) then (
          f_X10_sheet_b36 a1 a2 a3  Q   h_1)
        else (
          if a2 = (32 : Int32) then (
            f_X10_sheet_b36 a1 a2 a3  Q   h_1)
          else (
            f_X10_finding (-1000001 : Int32) h_1 fun r_29 h_28 =>
            Q r_29 h_28)))))
set_option maxRecDepth 20000 in
theorem t_X10_sheet (a1 : Int32) (a2 : Int32) (a3 : Int32)  (h : Mem) (Q : Int32 → Mem → Prop) (hyp : f_X10_sheet a1 a2 a3 h Q) : Cn m_X10_sheet [.ref 43, .int a1, .int a2, .int a3] h (GI Q) := by
  refine ge_entry (lv := [(0, .ref 43), (1, .int a1), (2, .int a2), (3, .int a3)]) pn_X10 (Nat.le_of_ble_eq_true rfl) rfl ?_
  unfold f_X10_sheet at hyp
  refine ge_iload_n a_X10_sheet_0 rfl 1 rfl ?_
  refine ge_cSI [.int a1] (rest := []) a_X10_sheet_1 ok_X10_isSheet lk_X10_222 ⟨Nat.le_of_ble_eq_true rfl, Nat.le_of_ble_eq_true rfl⟩ rfl rfl (Nat.le_of_ble_eq_true rfl) (t_X10_isSheet a1  h _ hyp) (fun r_2 h_1 hyp => ?_)
  refine ge_if_eq a_X10_sheet_4 (fun c_3 => ?_) (fun c_3 => ?_)
  · have hyp := gm_ip hyp c_3
    refine ge_aload_n a_X10_sheet_29 rfl 0 rfl ?_
    refine ge_ldc (v := -1000001) a_X10_sheet_30 ct_X10_66 ?_
    refine ge_cVI [.int (-1000001 : Int32)] (rest := []) a_X10_sheet_32 ok_X10_finding lk_X10_83 ⟨Nat.le_of_ble_eq_true rfl, Nat.le_of_ble_eq_true rfl⟩ (rfl : gm_cls 43 = 9) vc_9 (by decide) rfl rfl (Nat.le_of_ble_eq_true rfl) (t_X10_finding (-1000001 : Int32)  h_1 _ hyp) (fun r_5 h_4 hyp => ?_)
    exact ge_iret rfl a_X10_sheet_35 hyp
  · have hyp := gm_in hyp c_3
    refine ge_iload_n a_X10_sheet_7 rfl 2 rfl ?_
    refine ge_if_eq a_X10_sheet_8 (fun c_6 => ?_) (fun c_6 => ?_)
    · have hyp := gm_ip hyp c_6
      exact ge_sub [0, 1, 2, 3] rfl (t_X10_sheet_b36 a1 a2 a3    Q    h_1 hyp)
    · have hyp := gm_in hyp c_6
      refine ge_iload_n a_X10_sheet_11 rfl 2 rfl ?_
      refine ge_bipush (v := 8) a_X10_sheet_12 rfl ?_
      refine ge_icmp_eq a_X10_sheet_14 (fun c_25 => ?_) (fun c_25 => ?_)
      · have hyp := gm_ip hyp c_25
        exact ge_sub [0, 1, 2, 3] rfl (t_X10_sheet_b36 a1 a2 a3    Q    h_1 hyp)
      · have hyp := gm_in hyp c_25
        refine ge_iload_n a_X10_sheet_17 rfl 2 rfl ?_
        refine ge_bipush (v := 16) a_X10_sheet_18 rfl ?_
        refine ge_icmp_eq a_X10_sheet_20 (fun c_26 => ?_) (fun c_26 => ?_)
        · have hyp := gm_ip hyp c_26
          exact ge_sub [0, 1, 2, 3] rfl (t_X10_sheet_b36 a1 a2 a3    Q    h_1 hyp)
        · have hyp := gm_in hyp c_26
          refine ge_iload_n a_X10_sheet_23 rfl 2 rfl ?_
          refine ge_bipush (v := 32) a_X10_sheet_24 rfl ?_
          refine ge_icmp_eq a_X10_sheet_26 (fun c_27 => ?_) (fun c_27 => ?_)
          · have hyp := gm_ip hyp c_27
            exact ge_sub [0, 1, 2, 3] rfl (t_X10_sheet_b36 a1 a2 a3    Q    h_1 hyp)
          · have hyp := gm_in hyp c_27
            refine ge_aload_n a_X10_sheet_29 rfl 0 rfl ?_
            refine ge_ldc (v := -1000001) a_X10_sheet_30 ct_X10_66 ?_
            refine ge_cVI [.int (-1000001 : Int32)] (rest := []) a_X10_sheet_32 ok_X10_finding lk_X10_83 ⟨Nat.le_of_ble_eq_true rfl, Nat.le_of_ble_eq_true rfl⟩ (rfl : gm_cls 43 = 9) vc_9 (by decide) rfl rfl (Nat.le_of_ble_eq_true rfl) (t_X10_finding (-1000001 : Int32)  h_1 _ hyp) (fun r_29 h_28 hyp => ?_)
            exact ge_iret rfl a_X10_sheet_35 hyp

theorem a_X10_write_0 : At m_X10_write 0 (.iload_n 1) 1 1 := at_i (by decide +kernel) rfl
theorem a_X10_write_1 : At m_X10_write 1 (.invokestatic 222) 3 4 := at_i (by decide +kernel) rfl
theorem a_X10_write_4 : AtJ m_X10_write 4 (.ifCond .ne 10) (10) 14 7 := at_j (by decide +kernel) (by decide) rfl
theorem a_X10_write_7 : At m_X10_write 7 (.aload_n 0) 1 8 := at_i (by decide +kernel) rfl
theorem a_X10_write_8 : At m_X10_write 8 (.ldc 66) 2 10 := at_i (by decide +kernel) rfl
theorem a_X10_write_10 : At m_X10_write 10 (.invokevirtual 83) 3 13 := at_i (by decide +kernel) rfl
theorem a_X10_write_13 : At m_X10_write 13 (.ireturn) 1 14 := at_i (by decide +kernel) rfl
theorem a_X10_write_14 : At m_X10_write 14 (.aload_n 0) 1 15 := at_i (by decide +kernel) rfl
theorem a_X10_write_15 : At m_X10_write 15 (.getfield 54) 3 18 := at_i (by decide +kernel) rfl
theorem a_X10_write_18 : At m_X10_write 18 (.iload_n 1) 1 19 := at_i (by decide +kernel) rfl
theorem a_X10_write_19 : At m_X10_write 19 (.iaload) 1 20 := at_i (by decide +kernel) rfl
theorem a_X10_write_20 : AtJ m_X10_write 20 (.ifCond .ne 10) (10) 30 23 := at_j (by decide +kernel) (by decide) rfl
theorem a_X10_write_23 : At m_X10_write 23 (.aload_n 0) 1 24 := at_i (by decide +kernel) rfl
theorem a_X10_write_24 : At m_X10_write 24 (.ldc 225) 2 26 := at_i (by decide +kernel) rfl
theorem a_X10_write_26 : At m_X10_write 26 (.invokevirtual 83) 3 29 := at_i (by decide +kernel) rfl
theorem a_X10_write_29 : At m_X10_write 29 (.ireturn) 1 30 := at_i (by decide +kernel) rfl
theorem a_X10_write_30 : At m_X10_write 30 (.iload_n 2) 1 31 := at_i (by decide +kernel) rfl
theorem a_X10_write_31 : At m_X10_write 31 (.iconst 0) 1 32 := at_i (by decide +kernel) rfl
theorem a_X10_write_32 : At m_X10_write 32 (.aload_n 0) 1 33 := at_i (by decide +kernel) rfl
theorem a_X10_write_33 : At m_X10_write 33 (.getfield 57) 3 36 := at_i (by decide +kernel) rfl
theorem a_X10_write_36 : At m_X10_write 36 (.iload_n 1) 1 37 := at_i (by decide +kernel) rfl
theorem a_X10_write_37 : At m_X10_write 37 (.iaload) 1 38 := at_i (by decide +kernel) rfl
theorem a_X10_write_38 : At m_X10_write 38 (.iconst 1) 1 39 := at_i (by decide +kernel) rfl
theorem a_X10_write_39 : At m_X10_write 39 (.isub) 1 40 := at_i (by decide +kernel) rfl
theorem a_X10_write_40 : At m_X10_write 40 (.invokestatic 71) 3 43 := at_i (by decide +kernel) rfl
theorem a_X10_write_43 : AtJ m_X10_write 43 (.ifCond .ne 10) (10) 53 46 := at_j (by decide +kernel) (by decide) rfl
theorem a_X10_write_46 : At m_X10_write 46 (.aload_n 0) 1 47 := at_i (by decide +kernel) rfl
theorem a_X10_write_47 : At m_X10_write 47 (.ldc 66) 2 49 := at_i (by decide +kernel) rfl
theorem a_X10_write_49 : At m_X10_write 49 (.invokevirtual 83) 3 52 := at_i (by decide +kernel) rfl
theorem a_X10_write_52 : At m_X10_write 52 (.ireturn) 1 53 := at_i (by decide +kernel) rfl
theorem a_X10_write_53 : At m_X10_write 53 (.aload_n 0) 1 54 := at_i (by decide +kernel) rfl
theorem a_X10_write_54 : At m_X10_write 54 (.getfield 60) 3 57 := at_i (by decide +kernel) rfl
theorem a_X10_write_57 : At m_X10_write 57 (.bipush 40) 2 59 := at_i (by decide +kernel) rfl
theorem a_X10_write_59 : At m_X10_write 59 (.iload_n 1) 1 60 := at_i (by decide +kernel) rfl
theorem a_X10_write_60 : At m_X10_write 60 (.imul) 1 61 := at_i (by decide +kernel) rfl
theorem a_X10_write_61 : At m_X10_write 61 (.iload_n 2) 1 62 := at_i (by decide +kernel) rfl
theorem a_X10_write_62 : At m_X10_write 62 (.iadd) 1 63 := at_i (by decide +kernel) rfl
theorem a_X10_write_63 : At m_X10_write 63 (.iload_n 3) 1 64 := at_i (by decide +kernel) rfl
theorem a_X10_write_64 : At m_X10_write 64 (.aload_n 0) 1 65 := at_i (by decide +kernel) rfl
theorem a_X10_write_65 : At m_X10_write 65 (.getfield 54) 3 68 := at_i (by decide +kernel) rfl
theorem a_X10_write_68 : At m_X10_write 68 (.iload_n 1) 1 69 := at_i (by decide +kernel) rfl
theorem a_X10_write_69 : At m_X10_write 69 (.iaload) 1 70 := at_i (by decide +kernel) rfl
theorem a_X10_write_70 : At m_X10_write 70 (.invokestatic 347) 3 73 := at_i (by decide +kernel) rfl
theorem a_X10_write_73 : At m_X10_write 73 (.iastore) 1 74 := at_i (by decide +kernel) rfl
theorem a_X10_write_74 : At m_X10_write 74 (.iconst 1) 1 75 := at_i (by decide +kernel) rfl
theorem a_X10_write_75 : At m_X10_write 75 (.ireturn) 1 76 := at_i (by decide +kernel) rfl
def f_X10_write (a1 : Int32) (a2 : Int32) (a3 : Int32) (h : Mem) (Q : Int32 → Mem → Prop) : Prop :=
  f_X10_isSheet a1 h fun r_2 h_1 =>
  if r_2 = 0 then (
    f_X10_finding (-1000001 : Int32) h_1 fun r_20 h_19 =>
    Q r_20 h_19)
  else (
    vp_in a1 4 ∧
    if h_1 53 a1.toNatClampNeg = 0 then (
      f_X10_finding (-1000006 : Int32) h_1 fun r_18 h_17 =>
      Q r_18 h_17)
    else (
      vp_in a1 4 ∧
      f_X10_within a2 (0 : Int32) ((h_1 54 a1.toNatClampNeg) - (1 : Int32)) h_1 fun r_8 h_7 =>
      if r_8 = 0 then (
        f_X10_finding (-1000001 : Int32) h_7 fun r_16 h_15 =>
        Q r_16 h_15)
      else (
        vp_in a1 4 ∧
        f_X10_cutTo a3 (h_7 53 a1.toNatClampNeg) h_7 fun r_12 h_11 =>
        vp_in (((40 : Int32) * a1) + a2) 160 ∧
        ∀ h_14 : Mem, h_14 = gm_st h_11 55 ((((40 : Int32) * a1) + a2).toNatClampNeg) r_12 →
        Q (1 : Int32) h_14)))
set_option maxRecDepth 20000 in
theorem t_X10_write (a1 : Int32) (a2 : Int32) (a3 : Int32)  (h : Mem) (Q : Int32 → Mem → Prop) (hyp : f_X10_write a1 a2 a3 h Q) : Cn m_X10_write [.ref 43, .int a1, .int a2, .int a3] h (GI Q) := by
  refine ge_entry (lv := [(0, .ref 43), (1, .int a1), (2, .int a2), (3, .int a3)]) pn_X10 (Nat.le_of_ble_eq_true rfl) rfl ?_
  unfold f_X10_write at hyp
  refine ge_iload_n a_X10_write_0 rfl 1 rfl ?_
  refine ge_cSI [.int a1] (rest := []) a_X10_write_1 ok_X10_isSheet lk_X10_222 ⟨Nat.le_of_ble_eq_true rfl, Nat.le_of_ble_eq_true rfl⟩ rfl rfl (Nat.le_of_ble_eq_true rfl) (t_X10_isSheet a1  h _ hyp) (fun r_2 h_1 hyp => ?_)
  refine ge_if_ne a_X10_write_4 (fun c_3 => ?_) (fun c_3 => ?_)
  · have hyp := gm_in hyp c_3
    refine ge_aload_n a_X10_write_14 rfl 0 rfl ?_
    refine ge_getR (q := 53) a_X10_write_15 fd_X10_54 (rfl : gm_cls 43 = 9) rfl ?_
    refine ge_iload_n a_X10_write_18 rfl 1 rfl ?_
    obtain ⟨b_4, hyp⟩ := hyp
    refine ge_iald (j := a1.toNatClampNeg) a_X10_write_19 ga_53 b_4 rfl ?_
    refine ge_if_ne a_X10_write_20 (fun c_5 => ?_) (fun c_5 => ?_)
    · have hyp := gm_in hyp c_5
      refine ge_iload_n a_X10_write_30 rfl 2 rfl ?_
      refine ge_iconst (v := 0) a_X10_write_31 rfl ?_
      refine ge_aload_n a_X10_write_32 rfl 0 rfl ?_
      refine ge_getR (q := 54) a_X10_write_33 fd_X10_57 (rfl : gm_cls 43 = 9) rfl ?_
      refine ge_iload_n a_X10_write_36 rfl 1 rfl ?_
      obtain ⟨b_6, hyp⟩ := hyp
      refine ge_iald (j := a1.toNatClampNeg) a_X10_write_37 ga_54 b_6 rfl ?_
      refine ge_iconst (v := 1) a_X10_write_38 rfl ?_
      refine ge_isub a_X10_write_39 ?_
      refine ge_cSI [.int a2, .int (0 : Int32), .int ((h_1 54 a1.toNatClampNeg) - (1 : Int32))] (rest := []) a_X10_write_40 ok_X10_within lk_X10_71 ⟨Nat.le_of_ble_eq_true rfl, Nat.le_of_ble_eq_true rfl⟩ rfl rfl (Nat.le_of_ble_eq_true rfl) (t_X10_within a2 (0 : Int32) ((h_1 54 a1.toNatClampNeg) - (1 : Int32))  h_1 _ hyp) (fun r_8 h_7 hyp => ?_)
      refine ge_if_ne a_X10_write_43 (fun c_9 => ?_) (fun c_9 => ?_)
      · have hyp := gm_in hyp c_9
        refine ge_aload_n a_X10_write_53 rfl 0 rfl ?_
        refine ge_getR (q := 55) a_X10_write_54 fd_X10_60 (rfl : gm_cls 43 = 9) rfl ?_
        refine ge_bipush (v := 40) a_X10_write_57 rfl ?_
        refine ge_iload_n a_X10_write_59 rfl 1 rfl ?_
        refine ge_imul a_X10_write_60 ?_
        refine ge_iload_n a_X10_write_61 rfl 2 rfl ?_
        refine ge_iadd a_X10_write_62 ?_
        refine ge_iload_n a_X10_write_63 rfl 3 rfl ?_
        refine ge_aload_n a_X10_write_64 rfl 0 rfl ?_
        refine ge_getR (q := 53) a_X10_write_65 fd_X10_54 (rfl : gm_cls 43 = 9) rfl ?_
        refine ge_iload_n a_X10_write_68 rfl 1 rfl ?_
        obtain ⟨b_10, hyp⟩ := hyp
        refine ge_iald (j := a1.toNatClampNeg) a_X10_write_69 ga_53 b_10 rfl ?_
        refine ge_cSI [.int a3, .int (h_7 53 a1.toNatClampNeg)] (rest := [.int (((40 : Int32) * a1) + a2), .ref 55]) a_X10_write_70 ok_X10_cutTo lk_X10_347 ⟨Nat.le_of_ble_eq_true rfl, Nat.le_of_ble_eq_true rfl⟩ rfl rfl (Nat.le_of_ble_eq_true rfl) (t_X10_cutTo a3 (h_7 53 a1.toNatClampNeg)  h_7 _ hyp) (fun r_12 h_11 hyp => ?_)
        obtain ⟨b_13, hyp⟩ := hyp
        refine ge_iast (j := (((40 : Int32) * a1) + a2).toNatClampNeg) a_X10_write_73 ga_55 b_13 rfl ?_
        refine ge_nm (fun h_14 eh_14 => ?_)
        have hyp := hyp h_14 eh_14
        refine ge_iconst (v := 1) a_X10_write_74 rfl ?_
        exact ge_iret rfl a_X10_write_75 hyp
      · have hyp := gm_ip hyp c_9
        refine ge_aload_n a_X10_write_46 rfl 0 rfl ?_
        refine ge_ldc (v := -1000001) a_X10_write_47 ct_X10_66 ?_
        refine ge_cVI [.int (-1000001 : Int32)] (rest := []) a_X10_write_49 ok_X10_finding lk_X10_83 ⟨Nat.le_of_ble_eq_true rfl, Nat.le_of_ble_eq_true rfl⟩ (rfl : gm_cls 43 = 9) vc_9 (by decide) rfl rfl (Nat.le_of_ble_eq_true rfl) (t_X10_finding (-1000001 : Int32)  h_7 _ hyp) (fun r_16 h_15 hyp => ?_)
        exact ge_iret rfl a_X10_write_52 hyp
    · have hyp := gm_ip hyp c_5
      refine ge_aload_n a_X10_write_23 rfl 0 rfl ?_
      refine ge_ldc (v := -1000006) a_X10_write_24 ct_X10_225 ?_
      refine ge_cVI [.int (-1000006 : Int32)] (rest := []) a_X10_write_26 ok_X10_finding lk_X10_83 ⟨Nat.le_of_ble_eq_true rfl, Nat.le_of_ble_eq_true rfl⟩ (rfl : gm_cls 43 = 9) vc_9 (by decide) rfl rfl (Nat.le_of_ble_eq_true rfl) (t_X10_finding (-1000006 : Int32)  h_1 _ hyp) (fun r_18 h_17 hyp => ?_)
      exact ge_iret rfl a_X10_write_29 hyp
  · have hyp := gm_ip hyp c_3
    refine ge_aload_n a_X10_write_7 rfl 0 rfl ?_
    refine ge_ldc (v := -1000001) a_X10_write_8 ct_X10_66 ?_
    refine ge_cVI [.int (-1000001 : Int32)] (rest := []) a_X10_write_10 ok_X10_finding lk_X10_83 ⟨Nat.le_of_ble_eq_true rfl, Nat.le_of_ble_eq_true rfl⟩ (rfl : gm_cls 43 = 9) vc_9 (by decide) rfl rfl (Nat.le_of_ble_eq_true rfl) (t_X10_finding (-1000001 : Int32)  h_1 _ hyp) (fun r_20 h_19 hyp => ?_)
    exact ge_iret rfl a_X10_write_13 hyp
