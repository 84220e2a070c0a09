theorem a_X10_copy_0 : At m_X10_copy 0 (.iload_n 1) 1 1 := at_i (by decide +kernel) rfl
theorem a_X10_copy_1 : At m_X10_copy 1 (.invokestatic 222) 3 4 := at_i (by decide +kernel) rfl
theorem a_X10_copy_4 : AtJ m_X10_copy 4 (.ifCond .eq 10) (10) 14 7 := at_j (by decide +kernel) (by decide) rfl
theorem a_X10_copy_7 : At m_X10_copy 7 (.iload_n 3) 1 8 := at_i (by decide +kernel) rfl
theorem a_X10_copy_8 : At m_X10_copy 8 (.invokestatic 222) 3 11 := at_i (by decide +kernel) rfl
theorem a_X10_copy_11 : AtJ m_X10_copy 11 (.ifCond .ne 10) (10) 21 14 := at_j (by decide +kernel) (by decide) rfl
theorem a_X10_copy_14 : At m_X10_copy 14 (.aload_n 0) 1 15 := at_i (by decide +kernel) rfl
theorem a_X10_copy_15 : At m_X10_copy 15 (.ldc 66) 2 17 := at_i (by decide +kernel) rfl
theorem a_X10_copy_17 : At m_X10_copy 17 (.invokevirtual 83) 3 20 := at_i (by decide +kernel) rfl
theorem a_X10_copy_20 : At m_X10_copy 20 (.ireturn) 1 21 := at_i (by decide +kernel) rfl
theorem a_X10_copy_21 : At m_X10_copy 21 (.aload_n 0) 1 22 := at_i (by decide +kernel) rfl
theorem a_X10_copy_22 : At m_X10_copy 22 (.getfield 54) 3 25 := at_i (by decide +kernel) rfl
theorem a_X10_copy_25 : At m_X10_copy 25 (.iload_n 1) 1 26 := at_i (by decide +kernel) rfl
theorem a_X10_copy_26 : At m_X10_copy 26 (.iaload) 1 27 := at_i (by decide +kernel) rfl
theorem a_X10_copy_27 : AtJ m_X10_copy 27 (.ifCond .eq 12) (12) 39 30 := at_j (by decide +kernel) (by decide) rfl
theorem a_X10_copy_30 : At m_X10_copy 30 (.aload_n 0) 1 31 := at_i (by decide +kernel) rfl
theorem a_X10_copy_31 : At m_X10_copy 31 (.getfield 54) 3 34 := at_i (by decide +kernel) rfl
theorem a_X10_copy_34 : At m_X10_copy 34 (.iload_n 3) 1 35 := at_i (by decide +kernel) rfl
theorem a_X10_copy_35 : At m_X10_copy 35 (.iaload) 1 36 := at_i (by decide +kernel) rfl
theorem a_X10_copy_36 : AtJ m_X10_copy 36 (.ifCond .ne 10) (10) 46 39 := at_j (by decide +kernel) (by decide) rfl
theorem a_X10_copy_39 : At m_X10_copy 39 (.aload_n 0) 1 40 := at_i (by decide +kernel) rfl
theorem a_X10_copy_40 : At m_X10_copy 40 (.ldc 225) 2 42 := at_i (by decide +kernel) rfl
theorem a_X10_copy_42 : At m_X10_copy 42 (.invokevirtual 83) 3 45 := at_i (by decide +kernel) rfl
theorem a_X10_copy_45 : At m_X10_copy 45 (.ireturn) 1 46 := at_i (by decide +kernel) rfl
theorem a_X10_copy_46 : At m_X10_copy 46 (.aload_n 0) 1 47 := at_i (by decide +kernel) rfl
theorem a_X10_copy_47 : At m_X10_copy 47 (.getfield 54) 3 50 := at_i (by decide +kernel) rfl
theorem a_X10_copy_50 : At m_X10_copy 50 (.iload_n 1) 1 51 := at_i (by decide +kernel) rfl
theorem a_X10_copy_51 : At m_X10_copy 51 (.iaload) 1 52 := at_i (by decide +kernel) rfl
theorem a_X10_copy_52 : At m_X10_copy 52 (.aload_n 0) 1 53 := at_i (by decide +kernel) rfl
theorem a_X10_copy_53 : At m_X10_copy 53 (.getfield 54) 3 56 := at_i (by decide +kernel) rfl
theorem a_X10_copy_56 : At m_X10_copy 56 (.iload_n 3) 1 57 := at_i (by decide +kernel) rfl
theorem a_X10_copy_57 : At m_X10_copy 57 (.iaload) 1 58 := at_i (by decide +kernel) rfl
theorem a_X10_copy_58 : AtJ m_X10_copy 58 (.if_icmp .eq 11) (11) 69 61 := at_j (by decide +kernel) (by decide) rfl
theorem a_X10_copy_61 : At m_X10_copy 61 (.aload_n 0) 1 62 := at_i (by decide +kernel) rfl
theorem a_X10_copy_62 : At m_X10_copy 62 (.ldc_w 345) 3 65 := at_i (by decide +kernel) rfl
theorem a_X10_copy_65 : At m_X10_copy 65 (.invokevirtual 83) 3 68 := at_i (by decide +kernel) rfl
theorem a_X10_copy_68 : At m_X10_copy 68 (.ireturn) 1 69 := at_i (by decide +kernel) rfl
theorem a_X10_copy_69 : At m_X10_copy 69 (.iload_n 2) 1 70 := at_i (by decide +kernel) rfl
theorem a_X10_copy_70 : AtJ m_X10_copy 70 (.ifCond .lt 48) (48) 118 73 := at_j (by decide +kernel) (by decide) rfl
theorem a_X10_copy_73 : At m_X10_copy 73 (.iload 4) 2 75 := at_i (by decide +kernel) rfl
theorem a_X10_copy_75 : AtJ m_X10_copy 75 (.ifCond .lt 43) (43) 118 78 := at_j (by decide +kernel) (by decide) rfl
theorem a_X10_copy_78 : At m_X10_copy 78 (.iload 5) 2 80 := at_i (by decide +kernel) rfl
theorem a_X10_copy_80 : AtJ m_X10_copy 80 (.ifCond .lt 38) (38) 118 83 := at_j (by decide +kernel) (by decide) rfl
theorem a_X10_copy_83 : At m_X10_copy 83 (.iload_n 2) 1 84 := at_i (by decide +kernel) rfl
theorem a_X10_copy_84 : At m_X10_copy 84 (.i2l) 1 85 := at_i (by decide +kernel) rfl
theorem a_X10_copy_85 : At m_X10_copy 85 (.iload 5) 2 87 := at_i (by decide +kernel) rfl
theorem a_X10_copy_87 : At m_X10_copy 87 (.i2l) 1 88 := at_i (by decide +kernel) rfl
theorem a_X10_copy_88 : At m_X10_copy 88 (.ladd) 1 89 := at_i (by decide +kernel) rfl
theorem a_X10_copy_89 : At m_X10_copy 89 (.aload_n 0) 1 90 := at_i (by decide +kernel) rfl
theorem a_X10_copy_90 : At m_X10_copy 90 (.getfield 57) 3 93 := at_i (by decide +kernel) rfl
theorem a_X10_copy_93 : At m_X10_copy 93 (.iload_n 1) 1 94 := at_i (by decide +kernel) rfl
theorem a_X10_copy_94 : At m_X10_copy 94 (.iaload) 1 95 := at_i (by decide +kernel) rfl
theorem a_X10_copy_95 : At m_X10_copy 95 (.i2l) 1 96 := at_i (by decide +kernel) rfl
theorem a_X10_copy_96 : At m_X10_copy 96 (.lcmp) 1 97 := at_i (by decide +kernel) rfl
theorem a_X10_copy_97 : AtJ m_X10_copy 97 (.ifCond .gt 21) (21) 118 100 := at_j (by decide +kernel) (by decide) rfl
theorem a_X10_copy_100 : At m_X10_copy 100 (.iload 4) 2 102 := at_i (by decide +kernel) rfl
theorem a_X10_copy_102 : At m_X10_copy 102 (.i2l) 1 103 := at_i (by decide +kernel) rfl
theorem a_X10_copy_103 : At m_X10_copy 103 (.iload 5) 2 105 := at_i (by decide +kernel) rfl
theorem a_X10_copy_105 : At m_X10_copy 105 (.i2l) 1 106 := at_i (by decide +kernel) rfl
theorem a_X10_copy_106 : At m_X10_copy 106 (.ladd) 1 107 := at_i (by decide +kernel) rfl
theorem a_X10_copy_107 : At m_X10_copy 107 (.aload_n 0) 1 108 := at_i (by decide +kernel) rfl
theorem a_X10_copy_108 : At m_X10_copy 108 (.getfield 57) 3 111 := at_i (by decide +kernel) rfl
theorem a_X10_copy_111 : At m_X10_copy 111 (.iload_n 3) 1 112 := at_i (by decide +kernel) rfl
theorem a_X10_copy_112 : At m_X10_copy 112 (.iaload) 1 113 := at_i (by decide +kernel) rfl
theorem a_X10_copy_113 : At m_X10_copy 113 (.i2l) 1 114 := at_i (by decide +kernel) rfl
theorem a_X10_copy_114 : At m_X10_copy 114 (.lcmp) 1 115 := at_i (by decide +kernel) rfl
theorem a_X10_copy_115 : AtJ m_X10_copy 115 (.ifCond .le 10) (10) 125 118 := at_j (by decide +kernel) (by decide) rfl
theorem a_X10_copy_118 : At m_X10_copy 118 (.aload_n 0) 1 119 := at_i (by decide +kernel) rfl
theorem a_X10_copy_119 : At m_X10_copy 119 (.ldc 66) 2 121 := at_i (by decide +kernel) rfl
theorem a_X10_copy_121 : At m_X10_copy 121 (.invokevirtual 83) 3 124 := at_i (by decide +kernel) rfl
theorem a_X10_copy_124 : At m_X10_copy 124 (.ireturn) 1 125 := at_i (by decide +kernel) rfl
theorem a_X10_copy_125 : At m_X10_copy 125 (.iconst 0) 1 126 := at_i (by decide +kernel) rfl
theorem a_X10_copy_126 : At m_X10_copy 126 (.istore 6) 2 128 := at_i (by decide +kernel) rfl
theorem a_X10_copy_128 : At m_X10_copy 128 (.iload 6) 2 130 := at_i (by decide +kernel) rfl
theorem a_X10_copy_130 : At m_X10_copy 130 (.iload 5) 2 132 := at_i (by decide +kernel) rfl
theorem a_X10_copy_132 : AtJ m_X10_copy 132 (.if_icmp .ge 30) (30) 162 135 := at_j (by decide +kernel) (by decide) rfl
theorem a_X10_copy_135 : At m_X10_copy 135 (.aload_n 0) 1 136 := at_i (by decide +kernel) rfl
theorem a_X10_copy_136 : At m_X10_copy 136 (.getfield 63) 3 139 := at_i (by decide +kernel) rfl
theorem a_X10_copy_139 : At m_X10_copy 139 (.iload 6) 2 141 := at_i (by decide +kernel) rfl
theorem a_X10_copy_141 : At m_X10_copy 141 (.aload_n 0) 1 142 := at_i (by decide +kernel) rfl
theorem a_X10_copy_142 : At m_X10_copy 142 (.getfield 60) 3 145 := at_i (by decide +kernel) rfl
theorem a_X10_copy_145 : At m_X10_copy 145 (.bipush 40) 2 147 := at_i (by decide +kernel) rfl
theorem a_X10_copy_147 : At m_X10_copy 147 (.iload_n 1) 1 148 := at_i (by decide +kernel) rfl
theorem a_X10_copy_148 : At m_X10_copy 148 (.imul) 1 149 := at_i (by decide +kernel) rfl
theorem a_X10_copy_149 : At m_X10_copy 149 (.iload_n 2) 1 150 := at_i (by decide +kernel) rfl
theorem a_X10_copy_150 : At m_X10_copy 150 (.iadd) 1 151 := at_i (by decide +kernel) rfl
theorem a_X10_copy_151 : At m_X10_copy 151 (.iload 6) 2 153 := at_i (by decide +kernel) rfl
theorem a_X10_copy_153 : At m_X10_copy 153 (.iadd) 1 154 := at_i (by decide +kernel) rfl
theorem a_X10_copy_154 : At m_X10_copy 154 (.iaload) 1 155 := at_i (by decide +kernel) rfl
theorem a_X10_copy_155 : At m_X10_copy 155 (.iastore) 1 156 := at_i (by decide +kernel) rfl
theorem a_X10_copy_156 : At m_X10_copy 156 (.iinc 6 1) 3 159 := at_i (by decide +kernel) rfl
theorem a_X10_copy_159 : AtJ m_X10_copy 159 (.goto (-31)) (-31) 128 162 := at_j (by decide +kernel) (by decide) rfl
theorem a_X10_copy_162 : At m_X10_copy 162 (.iconst 0) 1 163 := at_i (by decide +kernel) rfl
theorem a_X10_copy_163 : At m_X10_copy 163 (.istore 6) 2 165 := at_i (by decide +kernel) rfl
theorem a_X10_copy_165 : At m_X10_copy 165 (.iload 6) 2 167 := at_i (by decide +kernel) rfl
theorem a_X10_copy_167 : At m_X10_copy 167 (.iload 5) 2 169 := at_i (by decide +kernel) rfl
theorem a_X10_copy_169 : AtJ m_X10_copy 169 (.if_icmp .ge 31) (31) 200 172 := at_j (by decide +kernel) (by decide) rfl
theorem a_X10_copy_172 : At m_X10_copy 172 (.aload_n 0) 1 173 := at_i (by decide +kernel) rfl
theorem a_X10_copy_173 : At m_X10_copy 173 (.getfield 60) 3 176 := at_i (by decide +kernel) rfl
theorem a_X10_copy_176 : At m_X10_copy 176 (.bipush 40) 2 178 := at_i (by decide +kernel) rfl
theorem a_X10_copy_178 : At m_X10_copy 178 (.iload_n 3) 1 179 := at_i (by decide +kernel) rfl
theorem a_X10_copy_179 : At m_X10_copy 179 (.imul) 1 180 := at_i (by decide +kernel) rfl
theorem a_X10_copy_180 : At m_X10_copy 180 (.iload 4) 2 182 := at_i (by decide +kernel) rfl
theorem a_X10_copy_182 : At m_X10_copy 182 (.iadd) 1 183 := at_i (by decide +kernel) rfl
theorem a_X10_copy_183 : At m_X10_copy 183 (.iload 6) 2 185 := at_i (by decide +kernel) rfl
theorem a_X10_copy_185 : At m_X10_copy 185 (.iadd) 1 186 := at_i (by decide +kernel) rfl
theorem a_X10_copy_186 : At m_X10_copy 186 (.aload_n 0) 1 187 := at_i (by decide +kernel) rfl
theorem a_X10_copy_187 : At m_X10_copy 187 (.getfield 63) 3 190 := at_i (by decide +kernel) rfl
theorem a_X10_copy_190 : At m_X10_copy 190 (.iload 6) 2 192 := at_i (by decide +kernel) rfl
theorem a_X10_copy_192 : At m_X10_copy 192 (.iaload) 1 193 := at_i (by decide +kernel) rfl
theorem a_X10_copy_193 : At m_X10_copy 193 (.iastore) 1 194 := at_i (by decide +kernel) rfl
theorem a_X10_copy_194 : At m_X10_copy 194 (.iinc 6 1) 3 197 := at_i (by decide +kernel) rfl
theorem a_X10_copy_197 : AtJ m_X10_copy 197 (.goto (-32)) (-32) 165 200 := at_j (by decide +kernel) (by decide) rfl
theorem a_X10_copy_200 : At m_X10_copy 200 (.iload 5) 2 202 := at_i (by decide +kernel) rfl
theorem a_X10_copy_202 : At m_X10_copy 202 (.ireturn) 1 203 := at_i (by decide +kernel) rfl
def f_X10_copy_b165 (a1 : Int32) (a2 : Int32) (a3 : Int32) (a4 : Int32) (a5 : Int32)  (Q : Int32 → Mem → Prop)  (K165 : Int32 → Mem → Prop) (v6 : Int32) (h : Mem) : Prop :=
  if a5 ≤ v6 then (
    Q a5 h)
  else (
    vp_in v6 40 ∧
    vp_in ((((40 : Int32) * a3) + a4) + v6) 160 ∧
    ∀ h_37 : Mem, h_37 = gm_st h 55 (((((40 : Int32) * a3) + a4) + v6).toNatClampNeg) (h 56 v6.toNatClampNeg) →
    ∀ v_38 : Int32, v_38 = v6 + (1 : Int32) →
    K165 v_38 h_37)
set_option maxRecDepth 20000 in
theorem t_X10_copy_b165 (a1 : Int32) (a2 : Int32) (a3 : Int32) (a4 : Int32) (a5 : Int32)    (Q : Int32 → Mem → Prop)   : ∀ (n : Nat) (v6 : Int32) (h : Mem), gm_it1 (f_X10_copy_b165 a1 a2 a3 a4 a5  Q ) n v6 h → EV m_X10_copy (GI Q) 165 [(0, .ref 43), (3, .int a3), (4, .int a4), (5, .int a5), (6, .int v6)] [] h := by
  refine ge_loop1 (P := fun v6 h => EV m_X10_copy (GI Q) 165 [(0, .ref 43), (3, .int a3), (4, .int a4), (5, .int a5), (6, .int v6)] [] h) (fun K165 hK165 v6 h hyp => ?_)
  unfold f_X10_copy_b165 at hyp
  refine ge_iload a_X10_copy_165 4 rfl ?_
  refine ge_iload a_X10_copy_167 3 rfl ?_
  refine ge_icmp_ge a_X10_copy_169 (fun c_34 => ?_) (fun c_34 => ?_)
  · have hyp := gm_ip hyp c_34
    refine ge_iload a_X10_copy_200 3 rfl ?_
    exact ge_iret rfl a_X10_copy_202 hyp
  · have hyp := gm_in hyp c_34
    refine ge_aload_n a_X10_copy_172 rfl 0 rfl ?_
    refine ge_getR (q := 55) a_X10_copy_173 fd_X10_60 (rfl : gm_cls 43 = 9) rfl ?_
    refine ge_bipush (v := 40) a_X10_copy_176 rfl ?_
    refine ge_iload_n a_X10_copy_178 rfl 1 rfl ?_
    refine ge_imul a_X10_copy_179 ?_
    refine ge_iload a_X10_copy_180 2 rfl ?_
    refine ge_iadd a_X10_copy_182 ?_
    refine ge_iload a_X10_copy_183 4 rfl ?_
    refine ge_iadd a_X10_copy_185 ?_
    refine ge_aload_n a_X10_copy_186 rfl 0 rfl ?_
    refine ge_getR (q := 56) a_X10_copy_187 fd_X10_63 (rfl : gm_cls 43 = 9) rfl ?_
    refine ge_iload a_X10_copy_190 4 rfl ?_
    obtain ⟨b_35, hyp⟩ := hyp
    refine ge_iald (j := v6.toNatClampNeg) a_X10_copy_192 ga_56 b_35 rfl ?_
    obtain ⟨b_36, hyp⟩ := hyp
    refine ge_iast (j := ((((40 : Int32) * a3) + a4) + v6).toNatClampNeg) a_X10_copy_193 ga_55 b_36 rfl ?_
    refine ge_nm (fun h_37 eh_37 => ?_)
    have hyp := hyp h_37 eh_37
    obtain ⟨v_38, ev_38⟩ : ∃ y : Int32, y = v6 + (1 : Int32) := ⟨_, rfl⟩
    have hyp := hyp v_38 ev_38
    refine ge_iinc (v := v_38) (lv' := [(6, .int v_38), (0, .ref 43), (3, .int a3), (4, .int a4), (5, .int a5)]) a_X10_copy_194 4 rfl ev_38.symm (Nat.le_of_ble_eq_true rfl) rfl ?_
    refine ge_goto a_X10_copy_197 ?_
    exact ge_sub [1, 2, 3, 4, 0] rfl (hK165 v_38 h_37 hyp)
def f_X10_copy_b128 (a1 : Int32) (a2 : Int32) (a3 : Int32) (a4 : Int32) (a5 : Int32)  (Q : Int32 → Mem → Prop)  (K128 : Int32 → Mem → Prop) (v6 : Int32) (h : Mem) : Prop :=
  if a5 ≤ v6 then (
    gm_it1 (f_X10_copy_b165 a1 a2 a3 a4 a5  Q ) gm_F (0 : Int32) h)
  else (
    vp_in ((((40 : Int32) * a1) + a2) + v6) 160 ∧
    vp_in v6 40 ∧
    ∀ h_41 : Mem, h_41 = gm_st h 56 v6.toNatClampNeg (h 55 (((((40 : Int32) * a1) + a2) + v6).toNatClampNeg)) →
    ∀ v_42 : Int32, v_42 = v6 + (1 : Int32) →
    K128 v_42 h_41)
set_option maxRecDepth 20000 in
theorem t_X10_copy_b128 (a1 : Int32) (a2 : Int32) (a3 : Int32) (a4 : Int32) (a5 : Int32)    (Q : Int32 → Mem → Prop)   : ∀ (n : Nat) (v6 : Int32) (h : Mem), gm_it1 (f_X10_copy_b128 a1 a2 a3 a4 a5  Q ) n v6 h → EV m_X10_copy (GI Q) 128 [(0, .ref 43), (1, .int a1), (2, .int a2), (3, .int a3), (4, .int a4), (5, .int a5), (6, .int v6)] [] h := by
  refine ge_loop1 (P := fun v6 h => EV m_X10_copy (GI Q) 128 [(0, .ref 43), (1, .int a1), (2, .int a2), (3, .int a3), (4, .int a4), (5, .int a5), (6, .int v6)] [] h) (fun K128 hK128 v6 h hyp => ?_)
  unfold f_X10_copy_b128 at hyp
  refine ge_iload a_X10_copy_128 6 rfl ?_
  refine ge_iload a_X10_copy_130 5 rfl ?_
  refine ge_icmp_ge a_X10_copy_132 (fun c_33 => ?_) (fun c_33 => ?_)
  · have hyp := gm_ip hyp c_33
    refine ge_iconst (v := 0) a_X10_copy_162 rfl ?_
    refine ge_istore (lv' := [(6, .int (0 : Int32)), (0, .ref 43), (1, .int a1), (2, .int a2), (3, .int a3), (4, .int a4), (5, .int a5)]) a_X10_copy_163 (Nat.le_of_ble_eq_true rfl) rfl ?_
    exact ge_sub [1, 4, 5, 6, 0] rfl (t_X10_copy_b165 a1 a2 a3 a4 a5    Q   gm_F (0 : Int32) h hyp)
  · have hyp := gm_in hyp c_33
    refine ge_aload_n a_X10_copy_135 rfl 0 rfl ?_
    refine ge_getR (q := 56) a_X10_copy_136 fd_X10_63 (rfl : gm_cls 43 = 9) rfl ?_
    refine ge_iload a_X10_copy_139 6 rfl ?_
    refine ge_aload_n a_X10_copy_141 rfl 0 rfl ?_
    refine ge_getR (q := 55) a_X10_copy_142 fd_X10_60 (rfl : gm_cls 43 = 9) rfl ?_
    refine ge_bipush (v := 40) a_X10_copy_145 rfl ?_
    refine ge_iload_n a_X10_copy_147 rfl 1 rfl ?_
    refine ge_imul a_X10_copy_148 ?_
    refine ge_iload_n a_X10_copy_149 rfl 2 rfl ?_
    refine ge_iadd a_X10_copy_150 ?_
    refine ge_iload a_X10_copy_151 6 rfl ?_
    refine ge_iadd a_X10_copy_153 ?_
    obtain ⟨b_39, hyp⟩ := hyp
    refine ge_iald (j := ((((40 : Int32) * a1) + a2) + v6).toNatClampNeg) a_X10_copy_154 ga_55 b_39 rfl ?_
    obtain ⟨b_40, hyp⟩ := hyp
    refine ge_iast (j := v6.toNatClampNeg) a_X10_copy_155 ga_56 b_40 rfl ?_
    refine ge_nm (fun h_41 eh_41 => ?_)
    have hyp := hyp h_41 eh_41
    obtain ⟨v_42, ev_42⟩ : ∃ y : Int32, y = v6 + (1 : Int32) := ⟨_, rfl⟩
    have hyp := hyp v_42 ev_42
    refine ge_iinc (v := v_42) (lv' := [(6, .int v_42), (0, .ref 43), (1, .int a1), (2, .int a2), (3, .int a3), (4, .int a4), (5, .int a5)]) a_X10_copy_156 6 rfl ev_42.symm (Nat.le_of_ble_eq_true rfl) rfl ?_
    refine ge_goto a_X10_copy_159 ?_
    exact ge_sub [1, 2, 3, 4, 5, 6, 0] rfl (hK128 v_42 h_41 hyp)
def f_X10_copy (a1 : Int32) (a2 : Int32) (a3 : Int32) (a4 : Int32) (a5 : Int32) (h : Mem) (Q : Int32 → Mem → Prop) : Prop :=
  f_X10_isSheet a1 h fun r_2 h_1 =>
  if r_2 = 0 then (
    f_X10_finding (-1000001 : Int32) h_1 fun r_5 h_4 =>
    Q r_5 h_4)
  else (
    f_X10_isSheet a3 h_1 fun r_7 h_6 =>
    if r_7 = 0 then (
      f_X10_finding (-1000001 : Int32) h_6 fun r_50 h_49 =>
      Q r_50 h_49)
    else (
      vp_in a1 4 ∧
      if h_6 53 a1.toNatClampNeg = 0 then (
        f_X10_finding (-1000006 : Int32) h_6 fun r_12 h_11 =>
        Q r_12 h_11)
      else (
        vp_in a3 4 ∧
        if h_6 53 a3.toNatClampNeg = 0 then (
          f_X10_finding (-1000006 : Int32) h_6 fun r_48 h_47 =>
          Q r_48 h_47)
        else (
          vp_in a1 4 ∧
          vp_in a3 4 ∧
          if h_6 53 a1.toNatClampNeg = h_6 53 a3.toNatClampNeg then (
            if a2 < 0 then (
              f_X10_finding (-1000001 : Int32) h_6 fun r_20 h_19 =>
              Q r_20 h_19)
            else (
              if a4 < 0 then (
                f_X10_finding (-1000001 : Int32) h_6 fun r_23 h_22 =>
                Q r_23 h_22)
              else (
                if a5 < 0 then (
                  f_X10_finding (-1000001 : Int32) h_6 fun r_26 h_25 =>
                  Q r_26 h_25)
                else (
                  vp_in a1 4 ∧
                  if 0 < lg_cmp (a2.toInt64 + a5.toInt64) ((h_6 54 a1.toNatClampNeg).toInt64) then (
                    f_X10_finding (-1000001 : Int32) h_6 fun r_30 h_29 =>
                    Q r_30 h_29)
                  else (
                    vp_in a3 4 ∧
                    if lg_cmp (a4.toInt64 + a5.toInt64) ((h_6 54 a3.toNatClampNeg).toInt64) ≤ 0 then (
                      gm_it1 (f_X10_copy_b128 a1 a2 a3 a4 a5  Q ) gm_F (0 : Int32) h_6)
                    else (
                      f_X10_finding (-1000001 : Int32) h_6 fun r_44 h_43 =>
                      Q r_44 h_43))))))
          else (
            f_X10_finding (-1000003 : Int32) h_6 fun r_46 h_45 =>
            Q r_46 h_45)))))
set_option maxRecDepth 20000 in
theorem t_X10_copy (a1 : Int32) (a2 : Int32) (a3 : Int32) (a4 : Int32) (a5 : Int32)  (h : Mem) (Q : Int32 → Mem → Prop) (hyp : f_X10_copy a1 a2 a3 a4 a5 h Q) : Cn m_X10_copy [.ref 43, .int a1, .int a2, .int a3, .int a4, .int a5] h (GI Q) := by
  refine ge_entry (lv := [(0, .ref 43), (1, .int a1), (2, .int a2), (3, .int a3), (4, .int a4), (5, .int a5)]) pn_X10 (Nat.le_of_ble_eq_true rfl) rfl ?_
  unfold f_X10_copy at hyp
  refine ge_iload_n a_X10_copy_0 rfl 1 rfl ?_
  refine ge_cSI [.int a1] (rest := []) a_X10_copy_1 ok_X10_isSheet lk_X10_222 ⟨Nat.le_of_ble_eq_true rfl, Nat.le_of_ble_eq_true rfl⟩ rfl rfl (Nat.le_of_ble_eq_true rfl) (t_X10_isSheet a1  h _ hyp) (fun r_2 h_1 hyp => ?_)
  refine ge_if_eq a_X10_copy_4 (fun c_3 => ?_) (fun c_3 => ?_)
  · have hyp := gm_ip hyp c_3
    refine ge_aload_n a_X10_copy_14 rfl 0 rfl ?_
    refine ge_ldc (v := -1000001) a_X10_copy_15 ct_X10_66 ?_
    refine ge_cVI [.int (-1000001 : Int32)] (rest := []) a_X10_copy_17 ok_X10_finding lk_X10_83 ⟨Nat.le_of_ble_eq_true rfl, Nat.le_of_ble_eq_true rfl⟩ (rfl : gm_cls 43 = 9) vc_9 (by decide) rfl rfl (Nat.le_of_ble_eq_true rfl) (t_X10_finding (-1000001 : Int32)  h_1 _ hyp) (fun r_5 h_4 hyp => ?_)
    exact ge_iret rfl a_X10_copy_20 hyp
  · have hyp := gm_in hyp c_3
    refine ge_iload_n a_X10_copy_7 rfl 3 rfl ?_
    refine ge_cSI [.int a3] (rest := []) a_X10_copy_8 ok_X10_isSheet lk_X10_222 ⟨Nat.le_of_ble_eq_true rfl, Nat.le_of_ble_eq_true rfl⟩ rfl rfl (Nat.le_of_ble_eq_true rfl) (t_X10_isSheet a3  h_1 _ hyp) (fun r_7 h_6 hyp => ?_)
    refine ge_if_ne a_X10_copy_11 (fun c_8 => ?_) (fun c_8 => ?_)
    · have hyp := gm_in hyp c_8
      refine ge_aload_n a_X10_copy_21 rfl 0 rfl ?_
      refine ge_getR (q := 53) a_X10_copy_22 fd_X10_54 (rfl : gm_cls 43 = 9) rfl ?_
      refine ge_iload_n a_X10_copy_25 rfl 1 rfl ?_
      obtain ⟨b_9, hyp⟩ := hyp
      refine ge_iald (j := a1.toNatClampNeg) a_X10_copy_26 ga_53 b_9 rfl ?_
      refine ge_if_eq a_X10_copy_27 (fun c_10 => ?_) (fun c_10 => ?_)
      · have hyp := gm_ip hyp c_10
        refine ge_aload_n a_X10_copy_39 rfl 0 rfl ?_
        refine ge_ldc (v := -1000006) a_X10_copy_40 ct_X10_225 ?_
        refine ge_cVI [.int (-1000006 : Int32)] (rest := []) a_X10_copy_42 ok_X10_finding lk_X10_83 ⟨Nat.le_of_ble_eq_true rfl, Nat.le_of_ble_eq_true rfl⟩ (rfl : gm_cls 43 = 9) vc_9 (by decide) rfl rfl (Nat.le_of_ble_eq_true rfl) (t_X10_finding (-1000006 : Int32)  h_6 _ hyp) (fun r_12 h_11 hyp => ?_)
        exact ge_iret rfl a_X10_copy_45 hyp
      · have hyp := gm_in hyp c_10
        refine ge_aload_n a_X10_copy_30 rfl 0 rfl ?_
        refine ge_getR (q := 53) a_X10_copy_31 fd_X10_54 (rfl : gm_cls 43 = 9) rfl ?_
        refine ge_iload_n a_X10_copy_34 rfl 3 rfl ?_
        obtain ⟨b_13, hyp⟩ := hyp
        refine ge_iald (j := a3.toNatClampNeg) a_X10_copy_35 ga_53 b_13 rfl ?_
        refine ge_if_ne a_X10_copy_36 (fun c_14 => ?_) (fun c_14 => ?_)
        · have hyp := gm_in hyp c_14
          refine ge_aload_n a_X10_copy_46 rfl 0 rfl ?_
          refine ge_getR (q := 53) a_X10_copy_47 fd_X10_54 (rfl : gm_cls 43 = 9) rfl ?_
          refine ge_iload_n a_X10_copy_50 rfl 1 rfl ?_
          obtain ⟨b_15, hyp⟩ := hyp
          refine ge_iald (j := a1.toNatClampNeg) a_X10_copy_51 ga_53 b_15 rfl ?_
          refine ge_aload_n a_X10_copy_52 rfl 0 rfl ?_
          refine ge_getR (q := 53) a_X10_copy_53 fd_X10_54 (rfl : gm_cls 43 = 9) rfl ?_
          refine ge_iload_n a_X10_copy_56 rfl 3 rfl ?_
          obtain ⟨b_16, hyp⟩ := hyp
          refine ge_iald (j := a3.toNatClampNeg) a_X10_copy_57 ga_53 b_16 rfl ?_
          refine ge_icmp_eq a_X10_copy_58 (fun c_17 => ?_) (fun c_17 => ?_)
          · have hyp := gm_ip hyp c_17
            refine ge_iload_n a_X10_copy_69 rfl 2 rfl ?_
            refine ge_if_lt a_X10_copy_70 (fun c_18 => ?_) (fun c_18 => ?_)
            · have hyp := gm_ip hyp c_18
              refine ge_aload_n a_X10_copy_118 rfl 0 rfl ?_
              refine ge_ldc (v := -1000001) a_X10_copy_119 ct_X10_66 ?_
              refine ge_cVI [.int (-1000001 : Int32)] (rest := []) a_X10_copy_121 ok_X10_finding lk_X10_83 ⟨Nat.le_of_ble_eq_true rfl, Nat.le_of_ble_eq_true rfl⟩ (rfl : gm_cls 43 = 9) vc_9 (by decide) rfl rfl (Nat.le_of_ble_eq_true rfl) (t_X10_finding (-1000001 : Int32)  h_6 _ hyp) (fun r_20 h_19 hyp => ?_)
              exact ge_iret rfl a_X10_copy_124 hyp
            · have hyp := gm_in hyp c_18
              refine ge_iload a_X10_copy_73 4 rfl ?_
              refine ge_if_lt a_X10_copy_75 (fun c_21 => ?_) (fun c_21 => ?_)
              · have hyp := gm_ip hyp c_21
                refine ge_aload_n a_X10_copy_118 rfl 0 rfl ?_
                refine ge_ldc (v := -1000001) a_X10_copy_119 ct_X10_66 ?_
                refine ge_cVI [.int (-1000001 : Int32)] (rest := []) a_X10_copy_121 ok_X10_finding lk_X10_83 ⟨Nat.le_of_ble_eq_true rfl, Nat.le_of_ble_eq_true rfl⟩ (rfl : gm_cls 43 = 9) vc_9 (by decide) rfl rfl (Nat.le_of_ble_eq_true rfl) (t_X10_finding (-1000001 : Int32)  h_6 _ hyp) (fun r_23 h_22 hyp => ?_)
                exact ge_iret rfl a_X10_copy_124 hyp
              · have hyp := gm_in hyp c_21
                refine ge_iload a_X10_copy_78 5 rfl ?_
                refine ge_if_lt a_X10_copy_80 (fun c_24 => ?_) (fun c_24 => ?_)
                · have hyp := gm_ip hyp c_24
                  refine ge_aload_n a_X10_copy_118 rfl 0 rfl ?_
                  refine ge_ldc (v := -1000001) a_X10_copy_119 ct_X10_66 ?_
                  refine ge_cVI [.int (-1000001 : Int32)] (rest := []) a_X10_copy_121 ok_X10_finding lk_X10_83 ⟨Nat.le_of_ble_eq_true rfl, Nat.le_of_ble_eq_true rfl⟩ (rfl : gm_cls 43 = 9) vc_9 (by decide) rfl rfl (Nat.le_of_ble_eq_true rfl) (t_X10_finding (-1000001 : Int32)  h_6 _ hyp) (fun r_26 h_25 hyp => ?_)
                  exact ge_iret rfl a_X10_copy_124 hyp
                · have hyp := gm_in hyp c_24
                  refine ge_iload_n a_X10_copy_83 rfl 2 rfl ?_
                  refine ge_i2l a_X10_copy_84 ?_
                  refine ge_iload a_X10_copy_85 5 rfl ?_
                  refine ge_i2l a_X10_copy_87 ?_
                  refine ge_ladd a_X10_copy_88 ?_
                  refine ge_aload_n a_X10_copy_89 rfl 0 rfl ?_
                  refine ge_getR (q := 54) a_X10_copy_90 fd_X10_57 (rfl : gm_cls 43 = 9) rfl ?_
                  refine ge_iload_n a_X10_copy_93 rfl 1 rfl ?_
                  obtain ⟨b_27, hyp⟩ := hyp
                  refine ge_iald (j := a1.toNatClampNeg) a_X10_copy_94 ga_54 b_27 rfl ?_
                  refine ge_i2l a_X10_copy_95 ?_
                  refine ge_lcmp a_X10_copy_96 ?_
                  refine ge_if_gt a_X10_copy_97 (fun c_28 => ?_) (fun c_28 => ?_)
                  · have hyp := gm_ip hyp c_28
                    refine ge_aload_n a_X10_copy_118 rfl 0 rfl ?_
                    refine ge_ldc (v := -1000001) a_X10_copy_119 ct_X10_66 ?_
                    refine ge_cVI [.int (-1000001 : Int32)] (rest := []) a_X10_copy_121 ok_X10_finding lk_X10_83 ⟨Nat.le_of_ble_eq_true rfl, Nat.le_of_ble_eq_true rfl⟩ (rfl : gm_cls 43 = 9) vc_9 (by decide) rfl rfl (Nat.le_of_ble_eq_true rfl) (t_X10_finding (-1000001 : Int32)  h_6 _ hyp) (fun r_30 h_29 hyp => ?_)
                    exact ge_iret rfl a_X10_copy_124 hyp
                  · have hyp := gm_in hyp c_28
                    refine ge_iload a_X10_copy_100 4 rfl ?_
                    refine ge_i2l a_X10_copy_102 ?_
                    refine ge_iload a_X10_copy_103 5 rfl ?_
                    refine ge_i2l a_X10_copy_105 ?_
                    refine ge_ladd a_X10_copy_106 ?_
                    refine ge_aload_n a_X10_copy_107 rfl 0 rfl ?_
                    refine ge_getR (q := 54) a_X10_copy_108 fd_X10_57 (rfl : gm_cls 43 = 9) rfl ?_
                    refine ge_iload_n a_X10_copy_111 rfl 3 rfl ?_
                    obtain ⟨b_31, hyp⟩ := hyp
                    refine ge_iald (j := a3.toNatClampNeg) a_X10_copy_112 ga_54 b_31 rfl ?_
                    refine ge_i2l a_X10_copy_113 ?_
                    refine ge_lcmp a_X10_copy_114 ?_
                    refine ge_if_le a_X10_copy_115 (fun c_32 => ?_) (fun c_32 => ?_)
                    · have hyp := gm_ip hyp c_32
                      refine ge_iconst (v := 0) a_X10_copy_125 rfl ?_
                      refine ge_istore (lv' := [(6, .int (0 : Int32)), (0, .ref 43), (1, .int a1), (2, .int a2), (3, .int a3), (4, .int a4), (5, .int a5)]) a_X10_copy_126 (Nat.le_of_ble_eq_true rfl) rfl ?_
                      exact ge_sub [1, 2, 3, 4, 5, 6, 0] rfl (t_X10_copy_b128 a1 a2 a3 a4 a5    Q   gm_F (0 : Int32) h_6 hyp)
                    · have hyp := gm_in hyp c_32
                      refine ge_aload_n a_X10_copy_118 rfl 0 rfl ?_
                      refine ge_ldc (v := -1000001) a_X10_copy_119 ct_X10_66 ?_
                      refine ge_cVI [.int (-1000001 : Int32)] (rest := []) a_X10_copy_121 ok_X10_finding lk_X10_83 ⟨Nat.le_of_ble_eq_true rfl, Nat.le_of_ble_eq_true rfl⟩ (rfl : gm_cls 43 = 9) vc_9 (by decide) rfl rfl (Nat.le_of_ble_eq_true rfl) (t_X10_finding (-1000001 : Int32)  h_6 _ hyp) (fun r_44 h_43 hyp => ?_)
                      exact ge_iret rfl a_X10_copy_124 hyp
          · have hyp := gm_in hyp c_17
            refine ge_aload_n a_X10_copy_61 rfl 0 rfl ?_
            refine ge_ldcw (v := -1000003) a_X10_copy_62 ct_X10_345 ?_
            refine ge_cVI [.int (-1000003 : Int32)] (rest := []) a_X10_copy_65 ok_X10_finding lk_X10_83 ⟨Nat.le_of_ble_eq_true rfl, Nat.le_of_ble_eq_true rfl⟩ (rfl : gm_cls 43 = 9) vc_9 (by decide) rfl rfl (Nat.le_of_ble_eq_true rfl) (t_X10_finding (-1000003 : Int32)  h_6 _ hyp) (fun r_46 h_45 hyp => ?_)
            exact ge_iret rfl a_X10_copy_68 hyp
        · have hyp := gm_ip hyp c_14
          refine ge_aload_n a_X10_copy_39 rfl 0 rfl ?_
          refine ge_ldc (v := -1000006) a_X10_copy_40 ct_X10_225 ?_
          refine ge_cVI [.int (-1000006 : Int32)] (rest := []) a_X10_copy_42 ok_X10_finding lk_X10_83 ⟨Nat.le_of_ble_eq_true rfl, Nat.le_of_ble_eq_true rfl⟩ (rfl : gm_cls 43 = 9) vc_9 (by decide) rfl rfl (Nat.le_of_ble_eq_true rfl) (t_X10_finding (-1000006 : Int32)  h_6 _ hyp) (fun r_48 h_47 hyp => ?_)
          exact ge_iret rfl a_X10_copy_45 hyp
    · have hyp := gm_ip hyp c_8
      refine ge_aload_n a_X10_copy_14 rfl 0 rfl ?_
      refine ge_ldc (v := -1000001) a_X10_copy_15 ct_X10_66 ?_
      refine ge_cVI [.int (-1000001 : Int32)] (rest := []) a_X10_copy_17 ok_X10_finding lk_X10_83 ⟨Nat.le_of_ble_eq_true rfl, Nat.le_of_ble_eq_true rfl⟩ (rfl : gm_cls 43 = 9) vc_9 (by decide) rfl rfl (Nat.le_of_ble_eq_true rfl) (t_X10_finding (-1000001 : Int32)  h_6 _ hyp) (fun r_50 h_49 hyp => ?_)
      exact ge_iret rfl a_X10_copy_20 hyp

theorem a_X10_load_0 : At m_X10_load 0 (.iload_n 1) 1 1 := at_i (by decide +kernel) rfl
theorem a_X10_load_1 : At m_X10_load 1 (.invokestatic 222) 3 4 := at_i (by decide +kernel) rfl
theorem a_X10_load_4 : AtJ m_X10_load 4 (.ifCond .ne 10) (10) 14 7 := at_j (by decide +kernel) (by decide) rfl
theorem a_X10_load_7 : At m_X10_load 7 (.aload_n 0) 1 8 := at_i (by decide +kernel) rfl
theorem a_X10_load_8 : At m_X10_load 8 (.ldc 66) 2 10 := at_i (by decide +kernel) rfl
theorem a_X10_load_10 : At m_X10_load 10 (.invokevirtual 83) 3 13 := at_i (by decide +kernel) rfl
theorem a_X10_load_13 : At m_X10_load 13 (.ireturn) 1 14 := at_i (by decide +kernel) rfl
theorem a_X10_load_14 : At m_X10_load 14 (.aload_n 0) 1 15 := at_i (by decide +kernel) rfl
theorem a_X10_load_15 : At m_X10_load 15 (.getfield 54) 3 18 := at_i (by decide +kernel) rfl
theorem a_X10_load_18 : At m_X10_load 18 (.iload_n 1) 1 19 := at_i (by decide +kernel) rfl
theorem a_X10_load_19 : At m_X10_load 19 (.iaload) 1 20 := at_i (by decide +kernel) rfl
theorem a_X10_load_20 : AtJ m_X10_load 20 (.ifCond .ne 10) (10) 30 23 := at_j (by decide +kernel) (by decide) rfl
theorem a_X10_load_23 : At m_X10_load 23 (.aload_n 0) 1 24 := at_i (by decide +kernel) rfl
theorem a_X10_load_24 : At m_X10_load 24 (.ldc 225) 2 26 := at_i (by decide +kernel) rfl
theorem a_X10_load_26 : At m_X10_load 26 (.invokevirtual 83) 3 29 := at_i (by decide +kernel) rfl
theorem a_X10_load_29 : At m_X10_load 29 (.ireturn) 1 30 := at_i (by decide +kernel) rfl
theorem a_X10_load_30 : At m_X10_load 30 (.iconst 0) 1 31 := at_i (by decide +kernel) rfl
theorem a_X10_load_31 : At m_X10_load 31 (.istore_n 2) 1 32 := at_i (by decide +kernel) rfl
theorem a_X10_load_32 : At m_X10_load 32 (.iload_n 2) 1 33 := at_i (by decide +kernel) rfl
theorem a_X10_load_33 : At m_X10_load 33 (.aload_n 0) 1 34 := at_i (by decide +kernel) rfl
theorem a_X10_load_34 : At m_X10_load 34 (.getfield 57) 3 37 := at_i (by decide +kernel) rfl
theorem a_X10_load_37 : At m_X10_load 37 (.iload_n 1) 1 38 := at_i (by decide +kernel) rfl
theorem a_X10_load_38 : At m_X10_load 38 (.iaload) 1 39 := at_i (by decide +kernel) rfl
theorem a_X10_load_39 : AtJ m_X10_load 39 (.if_icmp .ge 58) (58) 97 42 := at_j (by decide +kernel) (by decide) rfl
theorem a_X10_load_42 : At m_X10_load 42 (.aload_n 0) 1 43 := at_i (by decide +kernel) rfl
theorem a_X10_load_43 : At m_X10_load 43 (.iload_n 2) 1 44 := at_i (by decide +kernel) rfl
theorem a_X10_load_44 : At m_X10_load 44 (.invokevirtual 103) 3 47 := at_i (by decide +kernel) rfl
theorem a_X10_load_47 : AtJ m_X10_load 47 (.ifCond .eq 50) (50) 97 50 := at_j (by decide +kernel) (by decide) rfl
theorem a_X10_load_50 : At m_X10_load 50 (.aload_n 0) 1 51 := at_i (by decide +kernel) rfl
theorem a_X10_load_51 : At m_X10_load 51 (.getfield 60) 3 54 := at_i (by decide +kernel) rfl
theorem a_X10_load_54 : At m_X10_load 54 (.bipush 40) 2 56 := at_i (by decide +kernel) rfl
theorem a_X10_load_56 : At m_X10_load 56 (.iload_n 1) 1 57 := at_i (by decide +kernel) rfl
theorem a_X10_load_57 : At m_X10_load 57 (.imul) 1 58 := at_i (by decide +kernel) rfl
theorem a_X10_load_58 : At m_X10_load 58 (.iload_n 2) 1 59 := at_i (by decide +kernel) rfl
theorem a_X10_load_59 : At m_X10_load 59 (.iadd) 1 60 := at_i (by decide +kernel) rfl
theorem a_X10_load_60 : At m_X10_load 60 (.iaload) 1 61 := at_i (by decide +kernel) rfl
theorem a_X10_load_61 : At m_X10_load 61 (.iconst 1) 1 62 := at_i (by decide +kernel) rfl
theorem a_X10_load_62 : At m_X10_load 62 (.bipush 20) 2 64 := at_i (by decide +kernel) rfl
theorem a_X10_load_64 : At m_X10_load 64 (.invokestatic 71) 3 67 := at_i (by decide +kernel) rfl
theorem a_X10_load_67 : AtJ m_X10_load 67 (.ifCond .eq 30) (30) 97 70 := at_j (by decide +kernel) (by decide) rfl
theorem a_X10_load_70 : At m_X10_load 70 (.aload_n 0) 1 71 := at_i (by decide +kernel) rfl
theorem a_X10_load_71 : At m_X10_load 71 (.getfield 9) 3 74 := at_i (by decide +kernel) rfl
theorem a_X10_load_74 : At m_X10_load 74 (.iload_n 2) 1 75 := at_i (by decide +kernel) rfl
theorem a_X10_load_75 : At m_X10_load 75 (.iconst 1) 1 76 := at_i (by decide +kernel) rfl
theorem a_X10_load_76 : At m_X10_load 76 (.invokestatic 75) 3 79 := at_i (by decide +kernel) rfl
theorem a_X10_load_79 : At m_X10_load 79 (.aload_n 0) 1 80 := at_i (by decide +kernel) rfl
theorem a_X10_load_80 : At m_X10_load 80 (.getfield 60) 3 83 := at_i (by decide +kernel) rfl
theorem a_X10_load_83 : At m_X10_load 83 (.bipush 40) 2 85 := at_i (by decide +kernel) rfl
theorem a_X10_load_85 : At m_X10_load 85 (.iload_n 1) 1 86 := at_i (by decide +kernel) rfl
theorem a_X10_load_86 : At m_X10_load 86 (.imul) 1 87 := at_i (by decide +kernel) rfl
theorem a_X10_load_87 : At m_X10_load 87 (.iload_n 2) 1 88 := at_i (by decide +kernel) rfl
theorem a_X10_load_88 : At m_X10_load 88 (.iadd) 1 89 := at_i (by decide +kernel) rfl
theorem a_X10_load_89 : At m_X10_load 89 (.iaload) 1 90 := at_i (by decide +kernel) rfl
theorem a_X10_load_90 : At m_X10_load 90 (.iastore) 1 91 := at_i (by decide +kernel) rfl
theorem a_X10_load_91 : At m_X10_load 91 (.iinc 2 1) 3 94 := at_i (by decide +kernel) rfl
theorem a_X10_load_94 : AtJ m_X10_load 94 (.goto (-62)) (-62) 32 97 := at_j (by decide +kernel) (by decide) rfl
theorem a_X10_load_97 : At m_X10_load 97 (.iload_n 2) 1 98 := at_i (by decide +kernel) rfl
theorem a_X10_load_98 : At m_X10_load 98 (.ireturn) 1 99 := at_i (by decide +kernel) rfl
def f_X10_load_b32 (a1 : Int32)  (Q : Int32 → Mem → Prop)  (K32 : Int32 → Mem → Prop) (v2 : Int32) (h : Mem) : Prop :=
  vp_in a1 4 ∧
  if h 54 a1.toNatClampNeg ≤ v2 then (
    Q v2 h)
  else (
    f_X10_isLine v2 h fun r_9 h_8 =>
    if r_9 = 0 then (
      Q v2 h_8)
    else (
      vp_in (((40 : Int32) * a1) + v2) 160 ∧
      f_X10_within (h_8 55 ((((40 : Int32) * a1) + v2).toNatClampNeg)) (1 : Int32) (20 : Int32) h_8 fun r_13 h_12 =>
      if r_13 = 0 then (
        Q v2 h_12)
      else (
        f_X10_at v2 (1 : Int32) h_12 fun r_16 h_15 =>
        vp_in (((40 : Int32) * a1) + v2) 160 ∧
        vp_in r_16 62 ∧
        ∀ h_19 : Mem, h_19 = gm_st h_15 44 r_16.toNatClampNeg (h_15 55 ((((40 : Int32) * a1) + v2).toNatClampNeg)) →
        ∀ v_20 : Int32, v_20 = v2 + (1 : Int32) →
        K32 v_20 h_19)))
set_option maxRecDepth 20000 in
theorem t_X10_load_b32 (a1 : Int32)    (Q : Int32 → Mem → Prop)   : ∀ (n : Nat) (v2 : Int32) (h : Mem), gm_it1 (f_X10_load_b32 a1  Q ) n v2 h → EV m_X10_load (GI Q) 32 [(0, .ref 43), (1, .int a1), (2, .int v2)] [] h := by
  refine ge_loop1 (P := fun v2 h => EV m_X10_load (GI Q) 32 [(0, .ref 43), (1, .int a1), (2, .int v2)] [] h) (fun K32 hK32 v2 h hyp => ?_)
  unfold f_X10_load_b32 at hyp
  refine ge_iload_n a_X10_load_32 rfl 2 rfl ?_
  refine ge_aload_n a_X10_load_33 rfl 0 rfl ?_
  refine ge_getR (q := 54) a_X10_load_34 fd_X10_57 (rfl : gm_cls 43 = 9) rfl ?_
  refine ge_iload_n a_X10_load_37 rfl 1 rfl ?_
  obtain ⟨b_6, hyp⟩ := hyp
  refine ge_iald (j := a1.toNatClampNeg) a_X10_load_38 ga_54 b_6 rfl ?_
  refine ge_icmp_ge a_X10_load_39 (fun c_7 => ?_) (fun c_7 => ?_)
  · have hyp := gm_ip hyp c_7
    refine ge_iload_n a_X10_load_97 rfl 2 rfl ?_
    exact ge_iret rfl a_X10_load_98 hyp
  · have hyp := gm_in hyp c_7
    refine ge_aload_n a_X10_load_42 rfl 0 rfl ?_
    refine ge_iload_n a_X10_load_43 rfl 2 rfl ?_
    refine ge_cVI [.int v2] (rest := []) a_X10_load_44 ok_X10_isLine lk_X10_103 ⟨Nat.le_of_ble_eq_true rfl, Nat.le_of_ble_eq_true rfl⟩ (rfl : gm_cls 43 = 9) vc_9 (by decide) rfl rfl (Nat.le_of_ble_eq_true rfl) (t_X10_isLine v2  h _ hyp) (fun r_9 h_8 hyp => ?_)
    refine ge_if_eq a_X10_load_47 (fun c_10 => ?_) (fun c_10 => ?_)
    · have hyp := gm_ip hyp c_10
      refine ge_iload_n a_X10_load_97 rfl 2 rfl ?_
      exact ge_iret rfl a_X10_load_98 hyp
    · have hyp := gm_in hyp c_10
      refine ge_aload_n a_X10_load_50 rfl 0 rfl ?_
      refine ge_getR (q := 55) a_X10_load_51 fd_X10_60 (rfl : gm_cls 43 = 9) rfl ?_
      refine ge_bipush (v := 40) a_X10_load_54 rfl ?_
      refine ge_iload_n a_X10_load_56 rfl 1 rfl ?_
      refine ge_imul a_X10_load_57 ?_
      refine ge_iload_n a_X10_load_58 rfl 2 rfl ?_
      refine ge_iadd a_X10_load_59 ?_
      obtain ⟨b_11, hyp⟩ := hyp
      refine ge_iald (j := (((40 : Int32) * a1) + v2).toNatClampNeg) a_X10_load_60 ga_55 b_11 rfl ?_
      refine ge_iconst (v := 1) a_X10_load_61 rfl ?_
      refine ge_bipush (v := 20) a_X10_load_62 rfl ?_
      refine ge_cSI [.int (h_8 55 ((((40 : Int32) * a1) + v2).toNatClampNeg)), .int (1 : Int32), .int (20 : Int32)] (rest := []) a_X10_load_64 ok_X10_within lk_X10_71 ⟨Nat.le_of_ble_eq_true rfl, Nat.le_of_ble_eq_true rfl⟩ rfl rfl (Nat.le_of_ble_eq_true rfl) (t_X10_within (h_8 55 ((((40 : Int32) * a1) + v2).toNatClampNeg)) (1 : Int32) (20 : Int32)  h_8 _ hyp) (fun r_13 h_12 hyp => ?_)
      refine ge_if_eq a_X10_load_67 (fun c_14 => ?_) (fun c_14 => ?_)
      · have hyp := gm_ip hyp c_14
        refine ge_iload_n a_X10_load_97 rfl 2 rfl ?_
        exact ge_iret rfl a_X10_load_98 hyp
      · have hyp := gm_in hyp c_14
        refine ge_aload_n a_X10_load_70 rfl 0 rfl ?_
        refine ge_getR (q := 44) a_X10_load_71 fd_X10_9 (rfl : gm_cls 43 = 9) rfl ?_
        refine ge_iload_n a_X10_load_74 rfl 2 rfl ?_
        refine ge_iconst (v := 1) a_X10_load_75 rfl ?_
        refine ge_cSI [.int v2, .int (1 : Int32)] (rest := [.ref 44]) a_X10_load_76 ok_X10_at lk_X10_75 ⟨Nat.le_of_ble_eq_true rfl, Nat.le_of_ble_eq_true rfl⟩ rfl rfl (Nat.le_of_ble_eq_true rfl) (t_X10_at v2 (1 : Int32)  h_12 _ hyp) (fun r_16 h_15 hyp => ?_)
        refine ge_aload_n a_X10_load_79 rfl 0 rfl ?_
        refine ge_getR (q := 55) a_X10_load_80 fd_X10_60 (rfl : gm_cls 43 = 9) rfl ?_
        refine ge_bipush (v := 40) a_X10_load_83 rfl ?_
        refine ge_iload_n a_X10_load_85 rfl 1 rfl ?_
        refine ge_imul a_X10_load_86 ?_
        refine ge_iload_n a_X10_load_87 rfl 2 rfl ?_
        refine ge_iadd a_X10_load_88 ?_
        obtain ⟨b_17, hyp⟩ := hyp
        refine ge_iald (j := (((40 : Int32) * a1) + v2).toNatClampNeg) a_X10_load_89 ga_55 b_17 rfl ?_
        obtain ⟨b_18, hyp⟩ := hyp
        refine ge_iast (j := r_16.toNatClampNeg) a_X10_load_90 ga_44 b_18 rfl ?_
        refine ge_nm (fun h_19 eh_19 => ?_)
        have hyp := hyp h_19 eh_19
        obtain ⟨v_20, ev_20⟩ : ∃ y : Int32, y = v2 + (1 : Int32) := ⟨_, rfl⟩
        have hyp := hyp v_20 ev_20
        refine ge_iinc (v := v_20) (lv' := [(2, .int v_20), (0, .ref 43), (1, .int a1)]) a_X10_load_91 2 rfl ev_20.symm (Nat.le_of_ble_eq_true rfl) rfl ?_
        refine ge_goto a_X10_load_94 ?_
        exact ge_sub [1, 2, 0] rfl (hK32 v_20 h_19 hyp)
def f_X10_load (a1 : Int32) (h : Mem) (Q : Int32 → Mem → Prop) : Prop :=
  f_X10_isSheet a1 h fun r_2 h_1 =>
  if r_2 = 0 then (
    f_X10_finding (-1000001 : Int32) h_1 fun r_24 h_23 =>
    Q r_24 h_23)
  else (
    vp_in a1 4 ∧
    if h_1 53 a1.toNatClampNeg = 0 then (
      f_X10_finding (-1000006 : Int32) h_1 fun r_22 h_21 =>
      Q r_22 h_21)
    else (
      gm_it1 (f_X10_load_b32 a1  Q ) gm_F (0 : Int32) h_1))
set_option maxRecDepth 20000 in
theorem t_X10_load (a1 : Int32)  (h : Mem) (Q : Int32 → Mem → Prop) (hyp : f_X10_load a1 h Q) : Cn m_X10_load [.ref 43, .int a1] h (GI Q) := by
  refine ge_entry (lv := [(0, .ref 43), (1, .int a1)]) pn_X10 (Nat.le_of_ble_eq_true rfl) rfl ?_
  unfold f_X10_load at hyp
  refine ge_iload_n a_X10_load_0 rfl 1 rfl ?_
  refine ge_cSI [.int a1] (rest := []) a_X10_load_1 ok_X10_isSheet lk_X10_222 ⟨Nat.le_of_ble_eq_true rfl, Nat.le_of_ble_eq_true rfl⟩ rfl rfl (Nat.le_of_ble_eq_true rfl) (t_X10_isSheet a1  h _ hyp) (fun r_2 h_1 hyp => ?_)
  refine ge_if_ne a_X10_load_4 (fun c_3 => ?_) (fun c_3 => ?_)
  · have hyp := gm_in hyp c_3
    refine ge_aload_n a_X10_load_14 rfl 0 rfl ?_
    refine ge_getR (q := 53) a_X10_load_15 fd_X10_54 (rfl : gm_cls 43 = 9) rfl ?_
    refine ge_iload_n a_X10_load_18 rfl 1 rfl ?_
    obtain ⟨b_4, hyp⟩ := hyp
    refine ge_iald (j := a1.toNatClampNeg) a_X10_load_19 ga_53 b_4 rfl ?_
    refine ge_if_ne a_X10_load_20 (fun c_5 => ?_) (fun c_5 => ?_)
    · have hyp := gm_in hyp c_5
      refine ge_iconst (v := 0) a_X10_load_30 rfl ?_
      refine ge_istore_n (lv' := [(2, .int (0 : Int32)), (0, .ref 43), (1, .int a1)]) a_X10_load_31 rfl (Nat.le_of_ble_eq_true rfl) rfl ?_
      exact ge_sub [1, 2, 0] rfl (t_X10_load_b32 a1    Q   gm_F (0 : Int32) h_1 hyp)
    · have hyp := gm_ip hyp c_5
      refine ge_aload_n a_X10_load_23 rfl 0 rfl ?_
      refine ge_ldc (v := -1000006) a_X10_load_24 ct_X10_225 ?_
      refine ge_cVI [.int (-1000006 : Int32)] (rest := []) a_X10_load_26 ok_X10_finding lk_X10_83 ⟨Nat.le_of_ble_eq_true rfl, Nat.le_of_ble_eq_true rfl⟩ (rfl : gm_cls 43 = 9) vc_9 (by decide) rfl rfl (Nat.le_of_ble_eq_true rfl) (t_X10_finding (-1000006 : Int32)  h_1 _ hyp) (fun r_22 h_21 hyp => ?_)
      exact ge_iret rfl a_X10_load_29 hyp
  · have hyp := gm_ip hyp c_3
    refine ge_aload_n a_X10_load_7 rfl 0 rfl ?_
    refine ge_ldc (v := -1000001) a_X10_load_8 ct_X10_66 ?_
    refine ge_cVI [.int (-1000001 : Int32)] (rest := []) a_X10_load_10 ok_X10_finding lk_X10_83 ⟨Nat.le_of_ble_eq_true rfl, Nat.le_of_ble_eq_true rfl⟩ (rfl : gm_cls 43 = 9) vc_9 (by decide) rfl rfl (Nat.le_of_ble_eq_true rfl) (t_X10_finding (-1000001 : Int32)  h_1 _ hyp) (fun r_24 h_23 hyp => ?_)
    exact ge_iret rfl a_X10_load_13 hyp

theorem a_X10_judge_0 : At m_X10_judge 0 (.iload_n 1) 1 1 := at_i (by decide +kernel) rfl
theorem a_X10_judge_1 : At m_X10_judge 1 (.invokestatic 222) 3 4 := at_i (by decide +kernel) rfl
theorem a_X10_judge_4 : AtJ m_X10_judge 4 (.ifCond .ne 10) (10) 14 7 := at_j (by decide +kernel) (by decide) rfl
theorem a_X10_judge_7 : At m_X10_judge 7 (.aload_n 0) 1 8 := at_i (by decide +kernel) rfl
theorem a_X10_judge_8 : At m_X10_judge 8 (.ldc 66) 2 10 := at_i (by decide +kernel) rfl
theorem a_X10_judge_10 : At m_X10_judge 10 (.invokevirtual 83) 3 13 := at_i (by decide +kernel) rfl
theorem a_X10_judge_13 : At m_X10_judge 13 (.ireturn) 1 14 := at_i (by decide +kernel) rfl
theorem a_X10_judge_14 : At m_X10_judge 14 (.aload_n 0) 1 15 := at_i (by decide +kernel) rfl
theorem a_X10_judge_15 : At m_X10_judge 15 (.getfield 54) 3 18 := at_i (by decide +kernel) rfl
theorem a_X10_judge_18 : At m_X10_judge 18 (.iload_n 1) 1 19 := at_i (by decide +kernel) rfl
theorem a_X10_judge_19 : At m_X10_judge 19 (.iaload) 1 20 := at_i (by decide +kernel) rfl
theorem a_X10_judge_20 : AtJ m_X10_judge 20 (.ifCond .ne 10) (10) 30 23 := at_j (by decide +kernel) (by decide) rfl
theorem a_X10_judge_23 : At m_X10_judge 23 (.aload_n 0) 1 24 := at_i (by decide +kernel) rfl
theorem a_X10_judge_24 : At m_X10_judge 24 (.ldc 225) 2 26 := at_i (by decide +kernel) rfl
theorem a_X10_judge_26 : At m_X10_judge 26 (.invokevirtual 83) 3 29 := at_i (by decide +kernel) rfl
theorem a_X10_judge_29 : At m_X10_judge 29 (.ireturn) 1 30 := at_i (by decide +kernel) rfl
theorem a_X10_judge_30 : At m_X10_judge 30 (.aload_n 0) 1 31 := at_i (by decide +kernel) rfl
theorem a_X10_judge_31 : At m_X10_judge 31 (.getfield 9) 3 34 := at_i (by decide +kernel) rfl
theorem a_X10_judge_34 : At m_X10_judge 34 (.aload_n 0) 1 35 := at_i (by decide +kernel) rfl
theorem a_X10_judge_35 : At m_X10_judge 35 (.getfield 16) 3 38 := at_i (by decide +kernel) rfl
theorem a_X10_judge_38 : At m_X10_judge 38 (.invokestatic 67) 3 41 := at_i (by decide +kernel) rfl
theorem a_X10_judge_41 : At m_X10_judge 41 (.iconst 0) 1 42 := at_i (by decide +kernel) rfl
theorem a_X10_judge_42 : At m_X10_judge 42 (.istore_n 2) 1 43 := at_i (by decide +kernel) rfl
theorem a_X10_judge_43 : At m_X10_judge 43 (.iconst 1) 1 44 := at_i (by decide +kernel) rfl
theorem a_X10_judge_44 : At m_X10_judge 44 (.istore_n 3) 1 45 := at_i (by decide +kernel) rfl
theorem a_X10_judge_45 : At m_X10_judge 45 (.iload_n 2) 1 46 := at_i (by decide +kernel) rfl
theorem a_X10_judge_46 : At m_X10_judge 46 (.aload_n 0) 1 47 := at_i (by decide +kernel) rfl
theorem a_X10_judge_47 : At m_X10_judge 47 (.getfield 57) 3 50 := at_i (by decide +kernel) rfl
theorem a_X10_judge_50 : At m_X10_judge 50 (.iload_n 1) 1 51 := at_i (by decide +kernel) rfl
theorem a_X10_judge_51 : At m_X10_judge 51 (.iaload) 1 52 := at_i (by decide +kernel) rfl
theorem a_X10_judge_52 : AtJ m_X10_judge 52 (.if_icmp .ge 62) (62) 114 55 := at_j (by decide +kernel) (by decide) rfl
theorem a_X10_judge_55 : At m_X10_judge 55 (.iload_n 3) 1 56 := at_i (by decide +kernel) rfl
theorem a_X10_judge_56 : AtJ m_X10_judge 56 (.ifCond .eq 58) (58) 114 59 := at_j (by decide +kernel) (by decide) rfl
theorem a_X10_judge_59 : At m_X10_judge 59 (.aload_n 0) 1 60 := at_i (by decide +kernel) rfl
theorem a_X10_judge_60 : At m_X10_judge 60 (.invokevirtual 141) 3 63 := at_i (by decide +kernel) rfl
theorem a_X10_judge_63 : AtJ m_X10_judge 63 (.ifCond .le 34) (34) 97 66 := at_j (by decide +kernel) (by decide) rfl
theorem a_X10_judge_66 : At m_X10_judge 66 (.aload_n 0) 1 67 := at_i (by decide +kernel) rfl
theorem a_X10_judge_67 : At m_X10_judge 67 (.invokevirtual 138) 3 70 := at_i (by decide +kernel) rfl
theorem a_X10_judge_70 : AtJ m_X10_judge 70 (.ifCond .le 27) (27) 97 73 := at_j (by decide +kernel) (by decide) rfl
theorem a_X10_judge_73 : At m_X10_judge 73 (.aload_n 0) 1 74 := at_i (by decide +kernel) rfl
theorem a_X10_judge_74 : At m_X10_judge 74 (.getfield 9) 3 77 := at_i (by decide +kernel) rfl
theorem a_X10_judge_77 : At m_X10_judge 77 (.iconst 1) 1 78 := at_i (by decide +kernel) rfl
theorem a_X10_judge_78 : At m_X10_judge 78 (.iaload) 1 79 := at_i (by decide +kernel) rfl
theorem a_X10_judge_79 : At m_X10_judge 79 (.aload_n 0) 1 80 := at_i (by decide +kernel) rfl
theorem a_X10_judge_80 : At m_X10_judge 80 (.getfield 60) 3 83 := at_i (by decide +kernel) rfl
theorem a_X10_judge_83 : At m_X10_judge 83 (.bipush 40) 2 85 := at_i (by decide +kernel) rfl
theorem a_X10_judge_85 : At m_X10_judge 85 (.iload_n 1) 1 86 := at_i (by decide +kernel) rfl
theorem a_X10_judge_86 : At m_X10_judge 86 (.imul) 1 87 := at_i (by decide +kernel) rfl
theorem a_X10_judge_87 : At m_X10_judge 87 (.iload_n 2) 1 88 := at_i (by decide +kernel) rfl
theorem a_X10_judge_88 : At m_X10_judge 88 (.iadd) 1 89 := at_i (by decide +kernel) rfl
theorem a_X10_judge_89 : At m_X10_judge 89 (.iaload) 1 90 := at_i (by decide +kernel) rfl
theorem a_X10_judge_90 : AtJ m_X10_judge 90 (.if_icmp .ne 7) (7) 97 93 := at_j (by decide +kernel) (by decide) rfl
theorem a_X10_judge_93 : At m_X10_judge 93 (.iconst 1) 1 94 := at_i (by decide +kernel) rfl
theorem a_X10_judge_94 : AtJ m_X10_judge 94 (.goto 4) (4) 98 97 := at_j (by decide +kernel) (by decide) rfl
theorem a_X10_judge_97 : At m_X10_judge 97 (.iconst 0) 1 98 := at_i (by decide +kernel) rfl
theorem a_X10_judge_98 : At m_X10_judge 98 (.istore_n 3) 1 99 := at_i (by decide +kernel) rfl
theorem a_X10_judge_99 : At m_X10_judge 99 (.iload_n 2) 1 100 := at_i (by decide +kernel) rfl
theorem a_X10_judge_100 : At m_X10_judge 100 (.iload_n 3) 1 101 := at_i (by decide +kernel) rfl
theorem a_X10_judge_101 : AtJ m_X10_judge 101 (.ifCond .eq 7) (7) 108 104 := at_j (by decide +kernel) (by decide) rfl
theorem a_X10_judge_104 : At m_X10_judge 104 (.iconst 1) 1 105 := at_i (by decide +kernel) rfl
theorem a_X10_judge_105 : AtJ m_X10_judge 105 (.goto 4) (4) 109 108 := at_j (by decide +kernel) (by decide) rfl
theorem a_X10_judge_108 : At m_X10_judge 108 (.iconst 0) 1 109 := at_i (by decide +kernel) rfl
theorem a_X10_judge_109 : At m_X10_judge 109 (.iadd) 1 110 := at_i (by decide +kernel) rfl
theorem a_X10_judge_110 : At m_X10_judge 110 (.istore_n 2) 1 111 := at_i (by decide +kernel) rfl
theorem a_X10_judge_111 : AtJ m_X10_judge 111 (.goto (-66)) (-66) 45 114 := at_j (by decide +kernel) (by decide) rfl
theorem a_X10_judge_114 : At m_X10_judge 114 (.aload_n 0) 1 115 := at_i (by decide +kernel) rfl
theorem a_X10_judge_115 : At m_X10_judge 115 (.iload_n 3) 1 116 := at_i (by decide +kernel) rfl
theorem a_X10_judge_116 : AtJ m_X10_judge 116 (.ifCond .eq 7) (7) 123 119 := at_j (by decide +kernel) (by decide) rfl
theorem a_X10_judge_119 : At m_X10_judge 119 (.iconst 0) 1 120 := at_i (by decide +kernel) rfl
theorem a_X10_judge_120 : AtJ m_X10_judge 120 (.goto 6) (6) 126 123 := at_j (by decide +kernel) (by decide) rfl
theorem a_X10_judge_123 : At m_X10_judge 123 (.iconst 1) 1 124 := at_i (by decide +kernel) rfl
theorem a_X10_judge_124 : At m_X10_judge 124 (.iload_n 2) 1 125 := at_i (by decide +kernel) rfl
theorem a_X10_judge_125 : At m_X10_judge 125 (.iadd) 1 126 := at_i (by decide +kernel) rfl
theorem a_X10_judge_126 : At m_X10_judge 126 (.invokevirtual 149) 3 129 := at_i (by decide +kernel) rfl
theorem a_X10_judge_129 : At m_X10_judge 129 (.ireturn) 1 130 := at_i (by decide +kernel) rfl
def f_X10_judge_b114 (a1 : Int32)  (Q : Int32 → Mem → Prop)  (v2 : Int32) (v3 : Int32) (h : Mem) : Prop :=
  if v3 = 0 then (
    f_X10_putBack ((1 : Int32) + v2) h fun r_11 h_10 =>
    Q r_11 h_10)
  else (
    f_X10_putBack (0 : Int32) h fun r_13 h_12 =>
    Q r_13 h_12)
set_option maxRecDepth 20000 in
theorem t_X10_judge_b114 (a1 : Int32)    (Q : Int32 → Mem → Prop)   (v2 : Int32) (v3 : Int32) (h : Mem) (hyp : f_X10_judge_b114 a1  Q  v2 v3 h) : EV m_X10_judge (GI Q) 114 [(0, .ref 43), (2, .int v2), (3, .int v3)] [] h := by
  unfold f_X10_judge_b114 at hyp
  refine ge_aload_n a_X10_judge_114 rfl 0 rfl ?_
  refine ge_iload_n a_X10_judge_115 rfl 2 rfl ?_
  refine ge_if_eq a_X10_judge_116 (fun c_9 => ?_) (fun c_9 => ?_)
  · have hyp := gm_ip hyp c_9
    refine ge_iconst (v := 1) a_X10_judge_123 rfl ?_
    refine ge_iload_n a_X10_judge_124 rfl 1 rfl ?_
    refine ge_iadd a_X10_judge_125 ?_
    refine ge_cVI [.int ((1 : Int32) + v2)] (rest := []) a_X10_judge_126 ok_X10_putBack lk_X10_149 ⟨Nat.le_of_ble_eq_true rfl, Nat.le_of_ble_eq_true rfl⟩ (rfl : gm_cls 43 = 9) vc_9 (by decide) rfl rfl (Nat.le_of_ble_eq_true rfl) (t_X10_putBack ((1 : Int32) + v2)  h _ hyp) (fun r_11 h_10 hyp => ?_)
    exact ge_iret rfl a_X10_judge_129 hyp
  · have hyp := gm_in hyp c_9
    refine ge_iconst (v := 0) a_X10_judge_119 rfl ?_
    refine ge_goto a_X10_judge_120 ?_
    refine ge_cVI [.int (0 : Int32)] (rest := []) a_X10_judge_126 ok_X10_putBack lk_X10_149 ⟨Nat.le_of_ble_eq_true rfl, Nat.le_of_ble_eq_true rfl⟩ (rfl : gm_cls 43 = 9) vc_9 (by decide) rfl rfl (Nat.le_of_ble_eq_true rfl) (t_X10_putBack (0 : Int32)  h _ hyp) (fun r_13 h_12 hyp => ?_)
    exact ge_iret rfl a_X10_judge_129 hyp
def f_X10_judge_b98 (a1 : Int32)  (Q : Int32 → Mem → Prop) (K45 : Int32 → Int32 → Mem → Prop) (v2 : Int32) (s0 : Int32) (h : Mem) : Prop :=
  if s0 = 0 then (
    ∀ v_19 : Int32, v_19 = v2 + (0 : Int32) →
    K45 v_19 s0 h)
  else (
    ∀ v_20 : Int32, v_20 = v2 + (1 : Int32) →
    K45 v_20 s0 h)
set_option maxRecDepth 20000 in
theorem t_X10_judge_b98 (a1 : Int32)    (Q : Int32 → Mem → Prop) (K45 : Int32 → Int32 → Mem → Prop) (hK45 : ∀ (v2 : Int32) (v3 : Int32) h, K45 v2 v3 h → EV m_X10_judge (GI Q) 45 [(0, .ref 43), (1, .int a1), (2, .int v2), (3, .int v3)] [] h) (v2 : Int32) (s0 : Int32) (h : Mem) (hyp : f_X10_judge_b98 a1  Q K45 v2 s0 h) : EV m_X10_judge (GI Q) 98 [(0, .ref 43), (1, .int a1), (2, .int v2)] [.int s0] h := by
  unfold f_X10_judge_b98 at hyp
  refine ge_istore_n (lv' := [(3, .int s0), (0, .ref 43), (1, .int a1), (2, .int v2)]) a_X10_judge_98 rfl (Nat.le_of_ble_eq_true rfl) rfl ?_
  refine ge_iload_n a_X10_judge_99 rfl 3 rfl ?_
  refine ge_iload_n a_X10_judge_100 rfl 0 rfl ?_
  refine ge_if_eq a_X10_judge_101 (fun c_18 => ?_) (fun c_18 => ?_)
  · have hyp := gm_ip hyp c_18
    refine ge_iconst (v := 0) a_X10_judge_108 rfl ?_
    refine ge_iadd a_X10_judge_109 ?_
    refine ge_topi (fun v_19 ev_19 => ?_)
    have hyp := hyp v_19 ev_19
    refine ge_istore_n (lv' := [(2, .int v_19), (3, .int s0), (0, .ref 43), (1, .int a1)]) a_X10_judge_110 rfl (Nat.le_of_ble_eq_true rfl) rfl ?_
    refine ge_goto a_X10_judge_111 ?_
    exact ge_sub [2, 3, 0, 1] rfl (hK45 v_19 s0 h hyp)
  · have hyp := gm_in hyp c_18
    refine ge_iconst (v := 1) a_X10_judge_104 rfl ?_
    refine ge_goto a_X10_judge_105 ?_
    refine ge_iadd a_X10_judge_109 ?_
    refine ge_topi (fun v_20 ev_20 => ?_)
    have hyp := hyp v_20 ev_20
    refine ge_istore_n (lv' := [(2, .int v_20), (3, .int s0), (0, .ref 43), (1, .int a1)]) a_X10_judge_110 rfl (Nat.le_of_ble_eq_true rfl) rfl ?_
    refine ge_goto a_X10_judge_111 ?_
    exact ge_sub [2, 3, 0, 1] rfl (hK45 v_20 s0 h hyp)
def f_X10_judge_b97 (a1 : Int32)  (Q : Int32 → Mem → Prop) (K45 : Int32 → Int32 → Mem → Prop) (v2 : Int32) (h : Mem) : Prop :=
  f_X10_judge_b98 a1  Q K45 v2 (0 : Int32) h
set_option maxRecDepth 20000 in
theorem t_X10_judge_b97 (a1 : Int32)    (Q : Int32 → Mem → Prop) (K45 : Int32 → Int32 → Mem → Prop) (hK45 : ∀ (v2 : Int32) (v3 : Int32) h, K45 v2 v3 h → EV m_X10_judge (GI Q) 45 [(0, .ref 43), (1, .int a1), (2, .int v2), (3, .int v3)] [] h) (v2 : Int32) (h : Mem) (hyp : f_X10_judge_b97 a1  Q K45 v2 h) : EV m_X10_judge (GI Q) 97 [(0, .ref 43), (1, .int a1), (2, .int v2)] [] h := by
  unfold f_X10_judge_b97 at hyp
  refine ge_iconst (v := 0) a_X10_judge_97 rfl ?_
  exact ge_sub [0, 1, 2] rfl (t_X10_judge_b98 a1    Q K45 hK45 v2 (0 : Int32) h hyp)
def f_X10_judge_b45 (a1 : Int32)  (Q : Int32 → Mem → Prop)  (K45 : Int32 → Int32 → Mem → Prop) (v2 : Int32) (v3 : Int32) (h : Mem) : Prop :=
  vp_in a1 4 ∧
  if h 54 a1.toNatClampNeg ≤ v2 then (
    f_X10_judge_b114 a1  Q  v2 v3 h)
  else (
    if v3 = 0 then (
      f_X10_judge_b114 a1  Q  v2 v3 h)
    else (
      f_X10_left  h fun r_16 h_15 =>
      if r_16 ≤ 0 then (
        f_X10_judge_b97 a1  Q K45 v2 h_15)
      else (
        f_X10_reads  h_15 fun r_22 h_21 =>
        if r_22 ≤ 0 then (
          f_X10_judge_b97 a1  Q K45 v2 h_21)
        else (
          vp_in (((40 : Int32) * a1) + v2) 160 ∧
          if h_21 44 1 = h_21 55 ((((40 : Int32) * a1) + v2).toNatClampNeg) then (
            f_X10_judge_b98 a1  Q K45 v2 (1 : Int32) h_21)
          else (
            f_X10_judge_b97 a1  Q K45 v2 h_21)))))
set_option maxRecDepth 20000 in
theorem t_X10_judge_b45 (a1 : Int32)    (Q : Int32 → Mem → Prop)   : ∀ (n : Nat) (v2 : Int32) (v3 : Int32) (h : Mem), gm_it2 (f_X10_judge_b45 a1  Q ) n v2 v3 h → EV m_X10_judge (GI Q) 45 [(0, .ref 43), (1, .int a1), (2, .int v2), (3, .int v3)] [] h := by
  refine ge_loop2 (P := fun v2 v3 h => EV m_X10_judge (GI Q) 45 [(0, .ref 43), (1, .int a1), (2, .int v2), (3, .int v3)] [] h) (fun K45 hK45 v2 v3 h hyp => ?_)
  unfold f_X10_judge_b45 at hyp
  refine ge_iload_n a_X10_judge_45 rfl 2 rfl ?_
  refine ge_aload_n a_X10_judge_46 rfl 0 rfl ?_
  refine ge_getR (q := 54) a_X10_judge_47 fd_X10_57 (rfl : gm_cls 43 = 9) rfl ?_
  refine ge_iload_n a_X10_judge_50 rfl 1 rfl ?_
  obtain ⟨b_7, hyp⟩ := hyp
  refine ge_iald (j := a1.toNatClampNeg) a_X10_judge_51 ga_54 b_7 rfl ?_
  refine ge_icmp_ge a_X10_judge_52 (fun c_8 => ?_) (fun c_8 => ?_)
  · have hyp := gm_ip hyp c_8
    exact ge_sub [0, 2, 3] rfl (t_X10_judge_b114 a1    Q   v2 v3 h hyp)
  · have hyp := gm_in hyp c_8
    refine ge_iload_n a_X10_judge_55 rfl 3 rfl ?_
    refine ge_if_eq a_X10_judge_56 (fun c_14 => ?_) (fun c_14 => ?_)
    · have hyp := gm_ip hyp c_14
      exact ge_sub [0, 2, 3] rfl (t_X10_judge_b114 a1    Q   v2 v3 h hyp)
    · have hyp := gm_in hyp c_14
      refine ge_aload_n a_X10_judge_59 rfl 0 rfl ?_
      refine ge_cVI [] (rest := []) a_X10_judge_60 ok_X10_left lk_X10_141 ⟨Nat.le_of_ble_eq_true rfl, Nat.le_of_ble_eq_true rfl⟩ (rfl : gm_cls 43 = 9) vc_9 (by decide) rfl rfl (Nat.le_of_ble_eq_true rfl) (t_X10_left   h _ hyp) (fun r_16 h_15 hyp => ?_)
      refine ge_if_le a_X10_judge_63 (fun c_17 => ?_) (fun c_17 => ?_)
      · have hyp := gm_ip hyp c_17
        exact ge_sub [0, 1, 2] rfl (t_X10_judge_b97 a1    Q K45 hK45 v2 h_15 hyp)
      · have hyp := gm_in hyp c_17
        refine ge_aload_n a_X10_judge_66 rfl 0 rfl ?_
        refine ge_cVI [] (rest := []) a_X10_judge_67 ok_X10_reads lk_X10_138 ⟨Nat.le_of_ble_eq_true rfl, Nat.le_of_ble_eq_true rfl⟩ (rfl : gm_cls 43 = 9) vc_9 (by decide) rfl rfl (Nat.le_of_ble_eq_true rfl) (t_X10_reads   h_15 _ hyp) (fun r_22 h_21 hyp => ?_)
        refine ge_if_le a_X10_judge_70 (fun c_23 => ?_) (fun c_23 => ?_)
        · have hyp := gm_ip hyp c_23
          exact ge_sub [0, 1, 2] rfl (t_X10_judge_b97 a1    Q K45 hK45 v2 h_21 hyp)
        · have hyp := gm_in hyp c_23
          refine ge_aload_n a_X10_judge_73 rfl 0 rfl ?_
          refine ge_getR (q := 44) a_X10_judge_74 fd_X10_9 (rfl : gm_cls 43 = 9) rfl ?_
          refine ge_iconst (v := 1) a_X10_judge_77 rfl ?_
          refine ge_iald (j := 1) a_X10_judge_78 ga_44 li_1_62.1 li_1_62.2 ?_
          refine ge_aload_n a_X10_judge_79 rfl 0 rfl ?_
          refine ge_getR (q := 55) a_X10_judge_80 fd_X10_60 (rfl : gm_cls 43 = 9) rfl ?_
          refine ge_bipush (v := 40) a_X10_judge_83 rfl ?_
          refine ge_iload_n a_X10_judge_85 rfl 1 rfl ?_
          refine ge_imul a_X10_judge_86 ?_
          refine ge_iload_n a_X10_judge_87 rfl 2 rfl ?_
          refine ge_iadd a_X10_judge_88 ?_
          obtain ⟨b_24, hyp⟩ := hyp
          refine ge_iald (j := (((40 : Int32) * a1) + v2).toNatClampNeg) a_X10_judge_89 ga_55 b_24 rfl ?_
          refine ge_icmp_ne a_X10_judge_90 (fun c_25 => ?_) (fun c_25 => ?_)
          · have hyp := gm_in hyp c_25
            exact ge_sub [0, 1, 2] rfl (t_X10_judge_b97 a1    Q K45 hK45 v2 h_21 hyp)
          · have hyp := gm_ip hyp c_25
            refine ge_iconst (v := 1) a_X10_judge_93 rfl ?_
            refine ge_goto a_X10_judge_94 ?_
            exact ge_sub [0, 1, 2] rfl (t_X10_judge_b98 a1    Q K45 hK45 v2 (1 : Int32) h_21 hyp)
def f_X10_judge (a1 : Int32) (h : Mem) (Q : Int32 → Mem → Prop) : Prop :=
  f_X10_isSheet a1 h fun r_2 h_1 =>
  if r_2 = 0 then (
    f_X10_finding (-1000001 : Int32) h_1 fun r_29 h_28 =>
    Q r_29 h_28)
  else (
    vp_in a1 4 ∧
    if h_1 53 a1.toNatClampNeg = 0 then (
      f_X10_finding (-1000006 : Int32) h_1 fun r_27 h_26 =>
      Q r_27 h_26)
    else (
      f_X10_copyRow 44 62 46 62 h_1 fun h_6 =>
      gm_it2 (f_X10_judge_b45 a1  Q ) gm_F (0 : Int32) (1 : Int32) h_6))
set_option maxRecDepth 20000 in
theorem t_X10_judge (a1 : Int32)  (h : Mem) (Q : Int32 → Mem → Prop) (hyp : f_X10_judge a1 h Q) : Cn m_X10_judge [.ref 43, .int a1] h (GI Q) := by
  refine ge_entry (lv := [(0, .ref 43), (1, .int a1)]) pn_X10 (Nat.le_of_ble_eq_true rfl) rfl ?_
  unfold f_X10_judge at hyp
  refine ge_iload_n a_X10_judge_0 rfl 1 rfl ?_
  refine ge_cSI [.int a1] (rest := []) a_X10_judge_1 ok_X10_isSheet lk_X10_222 ⟨Nat.le_of_ble_eq_true rfl, Nat.le_of_ble_eq_true rfl⟩ rfl rfl (Nat.le_of_ble_eq_true rfl) (t_X10_isSheet a1  h _ hyp) (fun r_2 h_1 hyp => ?_)
  refine ge_if_ne a_X10_judge_4 (fun c_3 => ?_) (fun c_3 => ?_)
  · have hyp := gm_in hyp c_3
    refine ge_aload_n a_X10_judge_14 rfl 0 rfl ?_
    refine ge_getR (q := 53) a_X10_judge_15 fd_X10_54 (rfl : gm_cls 43 = 9) rfl ?_
    refine ge_iload_n a_X10_judge_18 rfl 1 rfl ?_
    obtain ⟨b_4, hyp⟩ := hyp
    refine ge_iald (j := a1.toNatClampNeg) a_X10_judge_19 ga_53 b_4 rfl ?_
    refine ge_if_ne a_X10_judge_20 (fun c_5 => ?_) (fun c_5 => ?_)
    · have hyp := gm_in hyp c_5
      refine ge_aload_n a_X10_judge_30 rfl 0 rfl ?_
      refine ge_getR (q := 44) a_X10_judge_31 fd_X10_9 (rfl : gm_cls 43 = 9) rfl ?_
      refine ge_aload_n a_X10_judge_34 rfl 0 rfl ?_
      refine ge_getR (q := 46) a_X10_judge_35 fd_X10_16 (rfl : gm_cls 43 = 9) rfl ?_
      refine ge_cSV [.ref 44, .ref 46] (rest := []) a_X10_judge_38 ok_X10_copyRow lk_X10_67 ⟨Nat.le_of_ble_eq_true rfl, Nat.le_of_ble_eq_true rfl⟩ rfl rfl (Nat.le_of_ble_eq_true rfl) (t_X10_copyRow 44 62 46 62 ga_44 ga_46 h_1 _ hyp) (fun h_6 hyp => ?_)
      refine ge_iconst (v := 0) a_X10_judge_41 rfl ?_
      refine ge_istore_n (lv' := [(2, .int (0 : Int32)), (0, .ref 43), (1, .int a1)]) a_X10_judge_42 rfl (Nat.le_of_ble_eq_true rfl) rfl ?_
      refine ge_iconst (v := 1) a_X10_judge_43 rfl ?_
      refine ge_istore_n (lv' := [(3, .int (1 : Int32)), (2, .int (0 : Int32)), (0, .ref 43), (1, .int a1)]) a_X10_judge_44 rfl (Nat.le_of_ble_eq_true rfl) rfl ?_
      exact ge_sub [2, 3, 1, 0] rfl (t_X10_judge_b45 a1    Q   gm_F (0 : Int32) (1 : Int32) h_6 hyp)
    · have hyp := gm_ip hyp c_5
      refine ge_aload_n a_X10_judge_23 rfl 0 rfl ?_
      refine ge_ldc (v := -1000006) a_X10_judge_24 ct_X10_225 ?_
      refine ge_cVI [.int (-1000006 : Int32)] (rest := []) a_X10_judge_26 ok_X10_finding lk_X10_83 ⟨Nat.le_of_ble_eq_true rfl, Nat.le_of_ble_eq_true rfl⟩ (rfl : gm_cls 43 = 9) vc_9 (by decide) rfl rfl (Nat.le_of_ble_eq_true rfl) (t_X10_finding (-1000006 : Int32)  h_1 _ hyp) (fun r_27 h_26 hyp => ?_)
      exact ge_iret rfl a_X10_judge_29 hyp
  · have hyp := gm_ip hyp c_3
    refine ge_aload_n a_X10_judge_7 rfl 0 rfl ?_
    refine ge_ldc (v := -1000001) a_X10_judge_8 ct_X10_66 ?_
    refine ge_cVI [.int (-1000001 : Int32)] (rest := []) a_X10_judge_10 ok_X10_finding lk_X10_83 ⟨Nat.le_of_ble_eq_true rfl, Nat.le_of_ble_eq_true rfl⟩ (rfl : gm_cls 43 = 9) vc_9 (by decide) rfl rfl (Nat.le_of_ble_eq_true rfl) (t_X10_finding (-1000001 : Int32)  h_1 _ hyp) (fun r_29 h_28 hyp => ?_)
    exact ge_iret rfl a_X10_judge_13 hyp

theorem a_X10_image_0 : At m_X10_image 0 (.aload_n 0) 1 1 := at_i (by decide +kernel) rfl
theorem a_X10_image_1 : At m_X10_image 1 (.getfield 9) 3 4 := at_i (by decide +kernel) rfl
theorem a_X10_image_4 : At m_X10_image 4 (.aload_n 0) 1 5 := at_i (by decide +kernel) rfl
theorem a_X10_image_5 : At m_X10_image 5 (.getfield 13) 3 8 := at_i (by decide +kernel) rfl
theorem a_X10_image_8 : At m_X10_image 8 (.invokestatic 67) 3 11 := at_i (by decide +kernel) rfl
theorem a_X10_image_11 : At m_X10_image 11 (.aload_n 0) 1 12 := at_i (by decide +kernel) rfl
theorem a_X10_image_12 : At m_X10_image 12 (.iconst 1) 1 13 := at_i (by decide +kernel) rfl
theorem a_X10_image_13 : At m_X10_image 13 (.putfield 350) 3 16 := at_i (by decide +kernel) rfl
theorem a_X10_image_16 : At m_X10_image 16 (.iconst 1) 1 17 := at_i (by decide +kernel) rfl
theorem a_X10_image_17 : At m_X10_image 17 (.ireturn) 1 18 := at_i (by decide +kernel) rfl
def f_X10_image  (h : Mem) (Q : Int32 → Mem → Prop) : Prop :=
  f_X10_copyRow 44 62 45 62 h fun h_1 =>
  ∀ h_2 : Mem, h_2 = gm_st h_1 43 3 (1 : Int32) →
  Q (1 : Int32) h_2
set_option maxRecDepth 20000 in
theorem t_X10_image   (h : Mem) (Q : Int32 → Mem → Prop) (hyp : f_X10_image  h Q) : Cn m_X10_image [.ref 43] h (GI Q) := by
  refine ge_entry (lv := [(0, .ref 43)]) pn_X10 (Nat.le_of_ble_eq_true rfl) rfl ?_
  unfold f_X10_image at hyp
  refine ge_aload_n a_X10_image_0 rfl 0 rfl ?_
  refine ge_getR (q := 44) a_X10_image_1 fd_X10_9 (rfl : gm_cls 43 = 9) rfl ?_
  refine ge_aload_n a_X10_image_4 rfl 0 rfl ?_
  refine ge_getR (q := 45) a_X10_image_5 fd_X10_13 (rfl : gm_cls 43 = 9) rfl ?_
  refine ge_cSV [.ref 44, .ref 45] (rest := []) a_X10_image_8 ok_X10_copyRow lk_X10_67 ⟨Nat.le_of_ble_eq_true rfl, Nat.le_of_ble_eq_true rfl⟩ rfl rfl (Nat.le_of_ble_eq_true rfl) (t_X10_copyRow 44 62 45 62 ga_44 ga_45 h _ hyp) (fun h_1 hyp => ?_)
  refine ge_aload_n a_X10_image_11 rfl 0 rfl ?_
  refine ge_iconst (v := 1) a_X10_image_12 rfl ?_
  refine ge_putZ a_X10_image_13 pd_X10_350 (rfl : gm_cls 43 = 9) gm_b1 ?_
  refine ge_nm (fun h_2 eh_2 => ?_)
  have hyp := hyp h_2 eh_2
  refine ge_iconst (v := 1) a_X10_image_16 rfl ?_
  exact ge_iret rfl a_X10_image_17 hyp

theorem a_X10_undo_0 : At m_X10_undo 0 (.aload_n 0) 1 1 := at_i (by decide +kernel) rfl
theorem a_X10_undo_1 : At m_X10_undo 1 (.getfield 350) 3 4 := at_i (by decide +kernel) rfl
theorem a_X10_undo_4 : AtJ m_X10_undo 4 (.ifCond .ne 10) (10) 14 7 := at_j (by decide +kernel) (by decide) rfl
theorem a_X10_undo_7 : At m_X10_undo 7 (.aload_n 0) 1 8 := at_i (by decide +kernel) rfl
theorem a_X10_undo_8 : At m_X10_undo 8 (.ldc 184) 2 10 := at_i (by decide +kernel) rfl
theorem a_X10_undo_10 : At m_X10_undo 10 (.invokevirtual 83) 3 13 := at_i (by decide +kernel) rfl
theorem a_X10_undo_13 : At m_X10_undo 13 (.ireturn) 1 14 := at_i (by decide +kernel) rfl
theorem a_X10_undo_14 : At m_X10_undo 14 (.aload_n 0) 1 15 := at_i (by decide +kernel) rfl
theorem a_X10_undo_15 : At m_X10_undo 15 (.getfield 13) 3 18 := at_i (by decide +kernel) rfl
theorem a_X10_undo_18 : At m_X10_undo 18 (.aload_n 0) 1 19 := at_i (by decide +kernel) rfl
theorem a_X10_undo_19 : At m_X10_undo 19 (.getfield 9) 3 22 := at_i (by decide +kernel) rfl
theorem a_X10_undo_22 : At m_X10_undo 22 (.invokestatic 67) 3 25 := at_i (by decide +kernel) rfl
theorem a_X10_undo_25 : At m_X10_undo 25 (.aload_n 0) 1 26 := at_i (by decide +kernel) rfl
theorem a_X10_undo_26 : At m_X10_undo 26 (.getfield 9) 3 29 := at_i (by decide +kernel) rfl
theorem a_X10_undo_29 : At m_X10_undo 29 (.iconst 1) 1 30 := at_i (by decide +kernel) rfl
theorem a_X10_undo_30 : At m_X10_undo 30 (.iaload) 1 31 := at_i (by decide +kernel) rfl
theorem a_X10_undo_31 : At m_X10_undo 31 (.ireturn) 1 32 := at_i (by decide +kernel) rfl
def f_X10_undo  (h : Mem) (Q : Int32 → Mem → Prop) : Prop :=
  if h 43 3 = 0 then (
    f_X10_finding (-1000004 : Int32) h fun r_4 h_3 =>
    Q r_4 h_3)
  else (
    f_X10_copyRow 45 62 44 62 h fun h_2 =>
    Q (h_2 44 1) h_2)
set_option maxRecDepth 20000 in
theorem t_X10_undo   (h : Mem) (Q : Int32 → Mem → Prop) (hyp : f_X10_undo  h Q) : Cn m_X10_undo [.ref 43] h (GI Q) := by
  refine ge_entry (lv := [(0, .ref 43)]) pn_X10 (Nat.le_of_ble_eq_true rfl) rfl ?_
  unfold f_X10_undo at hyp
  refine ge_aload_n a_X10_undo_0 rfl 0 rfl ?_
  refine ge_getI a_X10_undo_1 fd_X10_350 (rfl : gm_cls 43 = 9) ?_
  refine ge_if_ne a_X10_undo_4 (fun c_1 => ?_) (fun c_1 => ?_)
  · have hyp := gm_in hyp c_1
    refine ge_aload_n a_X10_undo_14 rfl 0 rfl ?_
    refine ge_getR (q := 45) a_X10_undo_15 fd_X10_13 (rfl : gm_cls 43 = 9) rfl ?_
    refine ge_aload_n a_X10_undo_18 rfl 0 rfl ?_
    refine ge_getR (q := 44) a_X10_undo_19 fd_X10_9 (rfl : gm_cls 43 = 9) rfl ?_
    refine ge_cSV [.ref 45, .ref 44] (rest := []) a_X10_undo_22 ok_X10_copyRow lk_X10_67 ⟨Nat.le_of_ble_eq_true rfl, Nat.le_of_ble_eq_true rfl⟩ rfl rfl (Nat.le_of_ble_eq_true rfl) (t_X10_copyRow 45 62 44 62 ga_45 ga_44 h _ hyp) (fun h_2 hyp => ?_)
    refine ge_aload_n a_X10_undo_25 rfl 0 rfl ?_
    refine ge_getR (q := 44) a_X10_undo_26 fd_X10_9 (rfl : gm_cls 43 = 9) rfl ?_
    refine ge_iconst (v := 1) a_X10_undo_29 rfl ?_
    refine ge_iald (j := 1) a_X10_undo_30 ga_44 li_1_62.1 li_1_62.2 ?_
    exact ge_iret rfl a_X10_undo_31 hyp
  · have hyp := gm_ip hyp c_1
    refine ge_aload_n a_X10_undo_7 rfl 0 rfl ?_
    refine ge_ldc (v := -1000004) a_X10_undo_8 ct_X10_184 ?_
    refine ge_cVI [.int (-1000004 : Int32)] (rest := []) a_X10_undo_10 ok_X10_finding lk_X10_83 ⟨Nat.le_of_ble_eq_true rfl, Nat.le_of_ble_eq_true rfl⟩ (rfl : gm_cls 43 = 9) vc_9 (by decide) rfl rfl (Nat.le_of_ble_eq_true rfl) (t_X10_finding (-1000004 : Int32)  h _ hyp) (fun r_4 h_3 hyp => ?_)
    exact ge_iret rfl a_X10_undo_13 hyp

theorem a_X10_tear_0 : At m_X10_tear 0 (.aload_n 0) 1 1 := at_i (by decide +kernel) rfl
theorem a_X10_tear_1 : At m_X10_tear 1 (.getfield 350) 3 4 := at_i (by decide +kernel) rfl
theorem a_X10_tear_4 : AtJ m_X10_tear 4 (.ifCond .eq 7) (7) 11 7 := at_j (by decide +kernel) (by decide) rfl
theorem a_X10_tear_7 : At m_X10_tear 7 (.iconst 1) 1 8 := at_i (by decide +kernel) rfl
theorem a_X10_tear_8 : AtJ m_X10_tear 8 (.goto 4) (4) 12 11 := at_j (by decide +kernel) (by decide) rfl
theorem a_X10_tear_11 : At m_X10_tear 11 (.iconst 0) 1 12 := at_i (by decide +kernel) rfl
theorem a_X10_tear_12 : At m_X10_tear 12 (.istore_n 1) 1 13 := at_i (by decide +kernel) rfl
theorem a_X10_tear_13 : At m_X10_tear 13 (.aload_n 0) 1 14 := at_i (by decide +kernel) rfl
theorem a_X10_tear_14 : At m_X10_tear 14 (.iconst 0) 1 15 := at_i (by decide +kernel) rfl
theorem a_X10_tear_15 : At m_X10_tear 15 (.putfield 350) 3 18 := at_i (by decide +kernel) rfl
theorem a_X10_tear_18 : At m_X10_tear 18 (.iload_n 1) 1 19 := at_i (by decide +kernel) rfl
theorem a_X10_tear_19 : At m_X10_tear 19 (.ireturn) 1 20 := at_i (by decide +kernel) rfl
def f_X10_tear  (h : Mem) (Q : Int32 → Mem → Prop) : Prop :=
  if h 43 3 = 0 then (
    ∀ h_2 : Mem, h_2 = gm_st h 43 3 (0 : Int32) →
    Q (0 : Int32) h_2)
  else (
    ∀ h_3 : Mem, h_3 = gm_st h 43 3 (0 : Int32) →
    Q (1 : Int32) h_3)
set_option maxRecDepth 20000 in
theorem t_X10_tear   (h : Mem) (Q : Int32 → Mem → Prop) (hyp : f_X10_tear  h Q) : Cn m_X10_tear [.ref 43] h (GI Q) := by
  refine ge_entry (lv := [(0, .ref 43)]) pn_X10 (Nat.le_of_ble_eq_true rfl) rfl ?_
  unfold f_X10_tear at hyp
  refine ge_aload_n a_X10_tear_0 rfl 0 rfl ?_
  refine ge_getI a_X10_tear_1 fd_X10_350 (rfl : gm_cls 43 = 9) ?_
  refine ge_if_eq a_X10_tear_4 (fun c_1 => ?_) (fun c_1 => ?_)
  · have hyp := gm_ip hyp c_1
    refine ge_iconst (v := 0) a_X10_tear_11 rfl ?_
    refine ge_istore_n (lv' := [(1, .int (0 : Int32)), (0, .ref 43)]) a_X10_tear_12 rfl (Nat.le_of_ble_eq_true rfl) rfl ?_
    refine ge_aload_n a_X10_tear_13 rfl 1 rfl ?_
    refine ge_iconst (v := 0) a_X10_tear_14 rfl ?_
    refine ge_putZ a_X10_tear_15 pd_X10_350 (rfl : gm_cls 43 = 9) gm_b0 ?_
    refine ge_nm (fun h_2 eh_2 => ?_)
    have hyp := hyp h_2 eh_2
    refine ge_iload_n a_X10_tear_18 rfl 0 rfl ?_
    exact ge_iret rfl a_X10_tear_19 hyp
  · have hyp := gm_in hyp c_1
    refine ge_iconst (v := 1) a_X10_tear_7 rfl ?_
    refine ge_goto a_X10_tear_8 ?_
    refine ge_istore_n (lv' := [(1, .int (1 : Int32)), (0, .ref 43)]) a_X10_tear_12 rfl (Nat.le_of_ble_eq_true rfl) rfl ?_
    refine ge_aload_n a_X10_tear_13 rfl 1 rfl ?_
    refine ge_iconst (v := 0) a_X10_tear_14 rfl ?_
    refine ge_putZ a_X10_tear_15 pd_X10_350 (rfl : gm_cls 43 = 9) gm_b0 ?_
    refine ge_nm (fun h_3 eh_3 => ?_)
    have hyp := hyp h_3 eh_3
    refine ge_iload_n a_X10_tear_18 rfl 0 rfl ?_
    exact ge_iret rfl a_X10_tear_19 hyp

theorem a_X10_count_0 : At m_X10_count 0 (.iconst 0) 1 1 := at_i (by decide +kernel) rfl
theorem a_X10_count_1 : At m_X10_count 1 (.istore_n 2) 1 2 := at_i (by decide +kernel) rfl
theorem a_X10_count_2 : At m_X10_count 2 (.iload_n 1) 1 3 := at_i (by decide +kernel) rfl
theorem a_X10_count_3 : decode cX10_count 3 = .ok (.tableswitch 145 0 7 #[45, 52, 59, 66, 66, 97, 102, 109], 45) := by decide +kernel
theorem a_X10_count_48 : At m_X10_count 48 (.aload_n 0) 1 49 := at_i (by decide +kernel) rfl
theorem a_X10_count_49 : At m_X10_count 49 (.getfield 9) 3 52 := at_i (by decide +kernel) rfl
theorem a_X10_count_52 : At m_X10_count 52 (.iconst 1) 1 53 := at_i (by decide +kernel) rfl
theorem a_X10_count_53 : At m_X10_count 53 (.iaload) 1 54 := at_i (by decide +kernel) rfl
theorem a_X10_count_54 : At m_X10_count 54 (.ireturn) 1 55 := at_i (by decide +kernel) rfl
theorem a_X10_count_55 : At m_X10_count 55 (.aload_n 0) 1 56 := at_i (by decide +kernel) rfl
theorem a_X10_count_56 : At m_X10_count 56 (.getfield 9) 3 59 := at_i (by decide +kernel) rfl
theorem a_X10_count_59 : At m_X10_count 59 (.iconst 4) 1 60 := at_i (by decide +kernel) rfl
theorem a_X10_count_60 : At m_X10_count 60 (.iaload) 1 61 := at_i (by decide +kernel) rfl
theorem a_X10_count_61 : At m_X10_count 61 (.ireturn) 1 62 := at_i (by decide +kernel) rfl
theorem a_X10_count_62 : At m_X10_count 62 (.aload_n 0) 1 63 := at_i (by decide +kernel) rfl
theorem a_X10_count_63 : At m_X10_count 63 (.getfield 9) 3 66 := at_i (by decide +kernel) rfl
theorem a_X10_count_66 : At m_X10_count 66 (.iconst 0) 1 67 := at_i (by decide +kernel) rfl
theorem a_X10_count_67 : At m_X10_count 67 (.iaload) 1 68 := at_i (by decide +kernel) rfl
theorem a_X10_count_68 : At m_X10_count 68 (.ireturn) 1 69 := at_i (by decide +kernel) rfl
theorem a_X10_count_69 : At m_X10_count 69 (.iconst 0) 1 70 := at_i (by decide +kernel) rfl
theorem a_X10_count_70 : At m_X10_count 70 (.istore_n 3) 1 71 := at_i (by decide +kernel) rfl
theorem a_X10_count_71 : At m_X10_count 71 (.iload_n 3) 1 72 := at_i (by decide +kernel) rfl
theorem a_X10_count_72 : At m_X10_count 72 (.aload_n 0) 1 73 := at_i (by decide +kernel) rfl
theorem a_X10_count_73 : At m_X10_count 73 (.getfield 9) 3 76 := at_i (by decide +kernel) rfl
theorem a_X10_count_76 : At m_X10_count 76 (.iconst 4) 1 77 := at_i (by decide +kernel) rfl
theorem a_X10_count_77 : At m_X10_count 77 (.iaload) 1 78 := at_i (by decide +kernel) rfl
theorem a_X10_count_78 : AtJ m_X10_count 78 (.if_icmp .ge 20) (20) 98 81 := at_j (by decide +kernel) (by decide) rfl
theorem a_X10_count_81 : At m_X10_count 81 (.iload_n 2) 1 82 := at_i (by decide +kernel) rfl
theorem a_X10_count_82 : At m_X10_count 82 (.aload_n 0) 1 83 := at_i (by decide +kernel) rfl
theorem a_X10_count_83 : At m_X10_count 83 (.iload_n 3) 1 84 := at_i (by decide +kernel) rfl
theorem a_X10_count_84 : At m_X10_count 84 (.iload_n 1) 1 85 := at_i (by decide +kernel) rfl
theorem a_X10_count_85 : At m_X10_count 85 (.iconst 2) 1 86 := at_i (by decide +kernel) rfl
theorem a_X10_count_86 : At m_X10_count 86 (.isub) 1 87 := at_i (by decide +kernel) rfl
theorem a_X10_count_87 : At m_X10_count 87 (.invokevirtual 95) 3 90 := at_i (by decide +kernel) rfl
theorem a_X10_count_90 : At m_X10_count 90 (.iadd) 1 91 := at_i (by decide +kernel) rfl
theorem a_X10_count_91 : At m_X10_count 91 (.istore_n 2) 1 92 := at_i (by decide +kernel) rfl
theorem a_X10_count_92 : At m_X10_count 92 (.iinc 3 1) 3 95 := at_i (by decide +kernel) rfl
theorem a_X10_count_95 : AtJ m_X10_count 95 (.goto (-24)) (-24) 71 98 := at_j (by decide +kernel) (by decide) rfl
theorem a_X10_count_98 : At m_X10_count 98 (.iload_n 2) 1 99 := at_i (by decide +kernel) rfl
theorem a_X10_count_99 : At m_X10_count 99 (.ireturn) 1 100 := at_i (by decide +kernel) rfl
theorem a_X10_count_100 : At m_X10_count 100 (.aload_n 0) 1 101 := at_i (by decide +kernel) rfl
theorem a_X10_count_101 : At m_X10_count 101 (.getfield 240) 3 104 := at_i (by decide +kernel) rfl
theorem a_X10_count_104 : At m_X10_count 104 (.ireturn) 1 105 := at_i (by decide +kernel) rfl
theorem a_X10_count_105 : At m_X10_count 105 (.aload_n 0) 1 106 := at_i (by decide +kernel) rfl
theorem a_X10_count_106 : At m_X10_count 106 (.getfield 9) 3 109 := at_i (by decide +kernel) rfl
theorem a_X10_count_109 : At m_X10_count 109 (.iconst 5) 1 110 := at_i (by decide +kernel) rfl
theorem a_X10_count_110 : At m_X10_count 110 (.iaload) 1 111 := at_i (by decide +kernel) rfl
theorem a_X10_count_111 : At m_X10_count 111 (.ireturn) 1 112 := at_i (by decide +kernel) rfl
theorem a_X10_count_112 : At m_X10_count 112 (.iconst 0) 1 113 := at_i (by decide +kernel) rfl
theorem a_X10_count_113 : At m_X10_count 113 (.istore_n 3) 1 114 := at_i (by decide +kernel) rfl
theorem a_X10_count_114 : At m_X10_count 114 (.iload_n 3) 1 115 := at_i (by decide +kernel) rfl
theorem a_X10_count_115 : At m_X10_count 115 (.bipush 10) 2 117 := at_i (by decide +kernel) rfl
theorem a_X10_count_117 : AtJ m_X10_count 117 (.if_icmp .ge 29) (29) 146 120 := at_j (by decide +kernel) (by decide) rfl
theorem a_X10_count_120 : At m_X10_count 120 (.iload_n 2) 1 121 := at_i (by decide +kernel) rfl
theorem a_X10_count_121 : At m_X10_count 121 (.aload_n 0) 1 122 := at_i (by decide +kernel) rfl
theorem a_X10_count_122 : At m_X10_count 122 (.getfield 9) 3 125 := at_i (by decide +kernel) rfl
theorem a_X10_count_125 : At m_X10_count 125 (.bipush 16) 2 127 := at_i (by decide +kernel) rfl
theorem a_X10_count_127 : At m_X10_count 127 (.iload_n 3) 1 128 := at_i (by decide +kernel) rfl
theorem a_X10_count_128 : At m_X10_count 128 (.iadd) 1 129 := at_i (by decide +kernel) rfl
theorem a_X10_count_129 : At m_X10_count 129 (.iaload) 1 130 := at_i (by decide +kernel) rfl
theorem a_X10_count_130 : AtJ m_X10_count 130 (.ifCond .ge 7) (7) 137 133 := at_j (by decide +kernel) (by decide) rfl
theorem a_X10_count_133 : At m_X10_count 133 (.iconst 0) 1 134 := at_i (by decide +kernel) rfl
theorem a_X10_count_134 : AtJ m_X10_count 134 (.goto 4) (4) 138 137 := at_j (by decide +kernel) (by decide) rfl
theorem a_X10_count_137 : At m_X10_count 137 (.iconst 1) 1 138 := at_i (by decide +kernel) rfl
theorem a_X10_count_138 : At m_X10_count 138 (.iadd) 1 139 := at_i (by decide +kernel) rfl
theorem a_X10_count_139 : At m_X10_count 139 (.istore_n 2) 1 140 := at_i (by decide +kernel) rfl
theorem a_X10_count_140 : At m_X10_count 140 (.iinc 3 1) 3 143 := at_i (by decide +kernel) rfl
theorem a_X10_count_143 : AtJ m_X10_count 143 (.goto (-29)) (-29) 114 146 := at_j (by decide +kernel) (by decide) rfl
theorem a_X10_count_146 : At m_X10_count 146 (.iload_n 2) 1 147 := at_i (by decide +kernel) rfl
theorem a_X10_count_147 : At m_X10_count 147 (.ireturn) 1 148 := at_i (by decide +kernel) rfl
theorem a_X10_count_148 : At m_X10_count 148 (.aload_n 0) 1 149 := at_i (by decide +kernel) rfl
theorem a_X10_count_149 : At m_X10_count 149 (.ldc 66) 2 151 := at_i (by decide +kernel) rfl
theorem a_X10_count_151 : At m_X10_count 151 (.invokevirtual 83) 3 154 := at_i (by decide +kernel) rfl
theorem a_X10_count_154 : At m_X10_count 154 (.ireturn) 1 155 := at_i (by decide +kernel) rfl
def f_X10_count_b71 (a1 : Int32)  (Q : Int32 → Mem → Prop)  (K71 : Int32 → Int32 → Mem → Prop) (v2 : Int32) (v3 : Int32) (h : Mem) : Prop :=
  if h 44 4 ≤ v3 then (
    Q v2 h)
  else (
    f_X10_lineIs v3 (a1 - (2 : Int32)) h fun r_7 h_6 =>
    ∀ v_8 : Int32, v_8 = v2 + r_7 →
    ∀ v_9 : Int32, v_9 = v3 + (1 : Int32) →
    K71 v_8 v_9 h_6)
set_option maxRecDepth 20000 in
theorem t_X10_count_b71 (a1 : Int32)    (Q : Int32 → Mem → Prop)   : ∀ (n : Nat) (v2 : Int32) (v3 : Int32) (h : Mem), gm_it2 (f_X10_count_b71 a1  Q ) n v2 v3 h → EV m_X10_count (GI Q) 71 [(0, .ref 43), (1, .int a1), (2, .int v2), (3, .int v3)] [] h := by
  refine ge_loop2 (P := fun v2 v3 h => EV m_X10_count (GI Q) 71 [(0, .ref 43), (1, .int a1), (2, .int v2), (3, .int v3)] [] h) (fun K71 hK71 v2 v3 h hyp => ?_)
  unfold f_X10_count_b71 at hyp
  refine ge_iload_n a_X10_count_71 rfl 3 rfl ?_
  refine ge_aload_n a_X10_count_72 rfl 0 rfl ?_
  refine ge_getR (q := 44) a_X10_count_73 fd_X10_9 (rfl : gm_cls 43 = 9) rfl ?_
  refine ge_iconst (v := 4) a_X10_count_76 rfl ?_
  refine ge_iald (j := 4) a_X10_count_77 ga_44 li_4_62.1 li_4_62.2 ?_
  refine ge_icmp_ge a_X10_count_78 (fun c_5 => ?_) (fun c_5 => ?_)
  · have hyp := gm_ip hyp c_5
    refine ge_iload_n a_X10_count_98 rfl 2 rfl ?_
    exact ge_iret rfl a_X10_count_99 hyp
  · have hyp := gm_in hyp c_5
    refine ge_iload_n a_X10_count_81 rfl 2 rfl ?_
    refine ge_aload_n a_X10_count_82 rfl 0 rfl ?_
    refine ge_iload_n a_X10_count_83 rfl 3 rfl ?_
    refine ge_iload_n a_X10_count_84 rfl 1 rfl ?_
    refine ge_iconst (v := 2) a_X10_count_85 rfl ?_
    refine ge_isub a_X10_count_86 ?_
    refine ge_cVI [.int v3, .int (a1 - (2 : Int32))] (rest := [.int v2]) a_X10_count_87 ok_X10_lineIs lk_X10_95 ⟨Nat.le_of_ble_eq_true rfl, Nat.le_of_ble_eq_true rfl⟩ (rfl : gm_cls 43 = 9) vc_9 (by decide) rfl rfl (Nat.le_of_ble_eq_true rfl) (t_X10_lineIs v3 (a1 - (2 : Int32))  h _ hyp) (fun r_7 h_6 hyp => ?_)
    refine ge_iadd a_X10_count_90 ?_
    refine ge_topi (fun v_8 ev_8 => ?_)
    have hyp := hyp v_8 ev_8
    refine ge_istore_n (lv' := [(2, .int v_8), (0, .ref 43), (1, .int a1), (3, .int v3)]) a_X10_count_91 rfl (Nat.le_of_ble_eq_true rfl) rfl ?_
    obtain ⟨v_9, ev_9⟩ : ∃ y : Int32, y = v3 + (1 : Int32) := ⟨_, rfl⟩
    have hyp := hyp v_9 ev_9
    refine ge_iinc (v := v_9) (lv' := [(3, .int v_9), (2, .int v_8), (0, .ref 43), (1, .int a1)]) a_X10_count_92 3 rfl ev_9.symm (Nat.le_of_ble_eq_true rfl) rfl ?_
    refine ge_goto a_X10_count_95 ?_
    exact ge_sub [2, 3, 1, 0] rfl (hK71 v_8 v_9 h_6 hyp)
def f_X10_count_b114 (a1 : Int32)  (Q : Int32 → Mem → Prop)  (K114 : Int32 → Int32 → Mem → Prop) (v2 : Int32) (v3 : Int32) (h : Mem) : Prop :=
  if (10 : Int32) ≤ v3 then (
    Q v2 h)
  else (
    vp_in ((16 : Int32) + v3) 62 ∧
    if 0 ≤ h 44 (((16 : Int32) + v3).toNatClampNeg) then (
      ∀ v_17 : Int32, v_17 = v2 + (1 : Int32) →
      ∀ v_18 : Int32, v_18 = v3 + (1 : Int32) →
      K114 v_17 v_18 h)
    else (
      ∀ v_19 : Int32, v_19 = v2 + (0 : Int32) →
      ∀ v_20 : Int32, v_20 = v3 + (1 : Int32) →
      K114 v_19 v_20 h))
set_option maxRecDepth 20000 in
theorem t_X10_count_b114 (a1 : Int32)    (Q : Int32 → Mem → Prop)   : ∀ (n : Nat) (v2 : Int32) (v3 : Int32) (h : Mem), gm_it2 (f_X10_count_b114 a1  Q ) n v2 v3 h → EV m_X10_count (GI Q) 114 [(0, .ref 43), (2, .int v2), (3, .int v3)] [] h := by
  refine ge_loop2 (P := fun v2 v3 h => EV m_X10_count (GI Q) 114 [(0, .ref 43), (2, .int v2), (3, .int v3)] [] h) (fun K114 hK114 v2 v3 h hyp => ?_)
  unfold f_X10_count_b114 at hyp
  refine ge_iload_n a_X10_count_114 rfl 2 rfl ?_
  refine ge_bipush (v := 10) a_X10_count_115 rfl ?_
  refine ge_icmp_ge a_X10_count_117 (fun c_14 => ?_) (fun c_14 => ?_)
  · have hyp := gm_ip hyp c_14
    refine ge_iload_n a_X10_count_146 rfl 1 rfl ?_
    exact ge_iret rfl a_X10_count_147 hyp
  · have hyp := gm_in hyp c_14
    refine ge_iload_n a_X10_count_120 rfl 1 rfl ?_
    refine ge_aload_n a_X10_count_121 rfl 0 rfl ?_
    refine ge_getR (q := 44) a_X10_count_122 fd_X10_9 (rfl : gm_cls 43 = 9) rfl ?_
    refine ge_bipush (v := 16) a_X10_count_125 rfl ?_
    refine ge_iload_n a_X10_count_127 rfl 2 rfl ?_
    refine ge_iadd a_X10_count_128 ?_
    obtain ⟨b_15, hyp⟩ := hyp
    refine ge_iald (j := ((16 : Int32) + v3).toNatClampNeg) a_X10_count_129 ga_44 b_15 rfl ?_
    refine ge_if_ge a_X10_count_130 (fun c_16 => ?_) (fun c_16 => ?_)
    · have hyp := gm_ip hyp c_16
      refine ge_iconst (v := 1) a_X10_count_137 rfl ?_
      refine ge_iadd a_X10_count_138 ?_
      refine ge_topi (fun v_17 ev_17 => ?_)
      have hyp := hyp v_17 ev_17
      refine ge_istore_n (lv' := [(2, .int v_17), (0, .ref 43), (3, .int v3)]) a_X10_count_139 rfl (Nat.le_of_ble_eq_true rfl) rfl ?_
      obtain ⟨v_18, ev_18⟩ : ∃ y : Int32, y = v3 + (1 : Int32) := ⟨_, rfl⟩
      have hyp := hyp v_18 ev_18
      refine ge_iinc (v := v_18) (lv' := [(3, .int v_18), (2, .int v_17), (0, .ref 43)]) a_X10_count_140 2 rfl ev_18.symm (Nat.le_of_ble_eq_true rfl) rfl ?_
      refine ge_goto a_X10_count_143 ?_
      exact ge_sub [2, 1, 0] rfl (hK114 v_17 v_18 h hyp)
    · have hyp := gm_in hyp c_16
      refine ge_iconst (v := 0) a_X10_count_133 rfl ?_
      refine ge_goto a_X10_count_134 ?_
      refine ge_iadd a_X10_count_138 ?_
      refine ge_topi (fun v_19 ev_19 => ?_)
      have hyp := hyp v_19 ev_19
      refine ge_istore_n (lv' := [(2, .int v_19), (0, .ref 43), (3, .int v3)]) a_X10_count_139 rfl (Nat.le_of_ble_eq_true rfl) rfl ?_
      obtain ⟨v_20, ev_20⟩ : ∃ y : Int32, y = v3 + (1 : Int32) := ⟨_, rfl⟩
      have hyp := hyp v_20 ev_20
      refine ge_iinc (v := v_20) (lv' := [(3, .int v_20), (2, .int v_19), (0, .ref 43)]) a_X10_count_140 2 rfl ev_20.symm (Nat.le_of_ble_eq_true rfl) rfl ?_
      refine ge_goto a_X10_count_143 ?_
      exact ge_sub [2, 1, 0] rfl (hK114 v_19 v_20 h hyp)
def f_X10_count (a1 : Int32) (h : Mem) (Q : Int32 → Mem → Prop) : Prop :=
  if a1 = 0 then (
    Q (h 44 1) h)
  else (
  if a1 = 1 then (
    Q (h 44 4) h)
  else (
  if a1 = 2 then (
    Q (h 44 0) h)
  else (
  if a1 = 3 then (
    gm_it2 (f_X10_count_b71 a1  Q ) gm_F (0 : Int32) (0 : Int32) h)
  else (
  if a1 = 4 then (
    gm_it2 (f_X10_count_b71 a1  Q ) gm_F (0 : Int32) (0 : Int32) h)
  else (
  if a1 = 5 then (
    Q (h 43 14) h)
  else (
  if a1 = 6 then (
    Q (h 44 5) h)
  else (
  if a1 = 7 then (
    gm_it2 (f_X10_count_b114 a1  Q ) gm_F (0 : Int32) (0 : Int32) h)
  else (
    f_X10_finding (-1000001 : Int32) h fun r_22 h_21 =>
    Q r_22 h_21))))))))
set_option maxRecDepth 20000 in
theorem t_X10_count (a1 : Int32)  (h : Mem) (Q : Int32 → Mem → Prop) (hyp : f_X10_count a1 h Q) : Cn m_X10_count [.ref 43, .int a1] h (GI Q) := by
  refine ge_entry (lv := [(0, .ref 43), (1, .int a1)]) pn_X10 (Nat.le_of_ble_eq_true rfl) rfl ?_
  unfold f_X10_count at hyp
  refine ge_iconst (v := 0) a_X10_count_0 rfl ?_
  refine ge_istore_n (lv' := [(2, .int (0 : Int32)), (0, .ref 43), (1, .int a1)]) a_X10_count_1 rfl (Nat.le_of_ble_eq_true rfl) rfl ?_
  refine ge_iload_n a_X10_count_2 rfl 2 rfl ?_
  refine ge_sw (dt := 148) [(0, 48), (1, 55), (2, 62), (3, 69), (4, 69), (5, 100), (6, 105), (7, 112)] a_X10_count_3 (by decide +kernel) (by decide) ?_
  refine ge_ite (fun c_1 => ?_) (fun c_1 => ?_)
  · have hyp := gm_ip hyp c_1
    refine ge_aload_n a_X10_count_48 rfl 1 rfl ?_
    refine ge_getR (q := 44) a_X10_count_49 fd_X10_9 (rfl : gm_cls 43 = 9) rfl ?_
    refine ge_iconst (v := 1) a_X10_count_52 rfl ?_
    refine ge_iald (j := 1) a_X10_count_53 ga_44 li_1_62.1 li_1_62.2 ?_
    exact ge_iret rfl a_X10_count_54 hyp
  have hyp := gm_in hyp c_1
  refine ge_ite (fun c_2 => ?_) (fun c_2 => ?_)
  · have hyp := gm_ip hyp c_2
    refine ge_aload_n a_X10_count_55 rfl 1 rfl ?_
    refine ge_getR (q := 44) a_X10_count_56 fd_X10_9 (rfl : gm_cls 43 = 9) rfl ?_
    refine ge_iconst (v := 4) a_X10_count_59 rfl ?_
    refine ge_iald (j := 4) a_X10_count_60 ga_44 li_4_62.1 li_4_62.2 ?_
    exact ge_iret rfl a_X10_count_61 hyp
  have hyp := gm_in hyp c_2
  refine ge_ite (fun c_3 => ?_) (fun c_3 => ?_)
  · have hyp := gm_ip hyp c_3
    refine ge_aload_n a_X10_count_62 rfl 1 rfl ?_
    refine ge_getR (q := 44) a_X10_count_63 fd_X10_9 (rfl : gm_cls 43 = 9) rfl ?_
    refine ge_iconst (v := 0) a_X10_count_66 rfl ?_
    refine ge_iald (j := 0) a_X10_count_67 ga_44 li_0_62.1 li_0_62.2 ?_
    exact ge_iret rfl a_X10_count_68 hyp
  have hyp := gm_in hyp c_3
  refine ge_ite (fun c_4 => ?_) (fun c_4 => ?_)
  · have hyp := gm_ip hyp c_4
    refine ge_iconst (v := 0) a_X10_count_69 rfl ?_
    refine ge_istore_n (lv' := [(3, .int (0 : Int32)), (2, .int (0 : Int32)), (0, .ref 43), (1, .int a1)]) a_X10_count_70 rfl (Nat.le_of_ble_eq_true rfl) rfl ?_
    exact ge_sub [2, 3, 1, 0] rfl (t_X10_count_b71 a1    Q   gm_F (0 : Int32) (0 : Int32) h hyp)
  have hyp := gm_in hyp c_4
  refine ge_ite (fun c_10 => ?_) (fun c_10 => ?_)
  · have hyp := gm_ip hyp c_10
    refine ge_iconst (v := 0) a_X10_count_69 rfl ?_
    refine ge_istore_n (lv' := [(3, .int (0 : Int32)), (2, .int (0 : Int32)), (0, .ref 43), (1, .int a1)]) a_X10_count_70 rfl (Nat.le_of_ble_eq_true rfl) rfl ?_
    exact ge_sub [2, 3, 1, 0] rfl (t_X10_count_b71 a1    Q   gm_F (0 : Int32) (0 : Int32) h hyp)
  have hyp := gm_in hyp c_10
  refine ge_ite (fun c_11 => ?_) (fun c_11 => ?_)
  · have hyp := gm_ip hyp c_11
    refine ge_aload_n a_X10_count_100 rfl 1 rfl ?_
    refine ge_getI a_X10_count_101 fd_X10_240 (rfl : gm_cls 43 = 9) ?_
    exact ge_iret rfl a_X10_count_104 hyp
  have hyp := gm_in hyp c_11
  refine ge_ite (fun c_12 => ?_) (fun c_12 => ?_)
  · have hyp := gm_ip hyp c_12
    refine ge_aload_n a_X10_count_105 rfl 1 rfl ?_
    refine ge_getR (q := 44) a_X10_count_106 fd_X10_9 (rfl : gm_cls 43 = 9) rfl ?_
    refine ge_iconst (v := 5) a_X10_count_109 rfl ?_
    refine ge_iald (j := 5) a_X10_count_110 ga_44 li_5_62.1 li_5_62.2 ?_
    exact ge_iret rfl a_X10_count_111 hyp
  have hyp := gm_in hyp c_12
  refine ge_ite (fun c_13 => ?_) (fun c_13 => ?_)
  · have hyp := gm_ip hyp c_13
    refine ge_iconst (v := 0) a_X10_count_112 rfl ?_
    refine ge_istore_n (lv' := [(3, .int (0 : Int32)), (2, .int (0 : Int32)), (0, .ref 43), (1, .int a1)]) a_X10_count_113 rfl (Nat.le_of_ble_eq_true rfl) rfl ?_
    exact ge_sub [2, 1, 0] rfl (t_X10_count_b114 a1    Q   gm_F (0 : Int32) (0 : Int32) h hyp)
  have hyp := gm_in hyp c_13
  show EV _ _ 148 _ _ _
  refine ge_aload_n a_X10_count_148 rfl 1 rfl ?_
  refine ge_ldc (v := -1000001) a_X10_count_149 ct_X10_66 ?_
  refine ge_cVI [.int (-1000001 : Int32)] (rest := []) a_X10_count_151 ok_X10_finding lk_X10_83 ⟨Nat.le_of_ble_eq_true rfl, Nat.le_of_ble_eq_true rfl⟩ (rfl : gm_cls 43 = 9) vc_9 (by decide) rfl rfl (Nat.le_of_ble_eq_true rfl) (t_X10_finding (-1000001 : Int32)  h _ hyp) (fun r_22 h_21 hyp => ?_)
  exact ge_iret rfl a_X10_count_154 hyp

theorem a_X10_status_0 : At m_X10_status 0 (.iload_n 1) 1 1 := at_i (by decide +kernel) rfl
theorem a_X10_status_1 : At m_X10_status 1 (.iconst (-1)) 1 2 := at_i (by decide +kernel) rfl
theorem a_X10_status_2 : At m_X10_status 2 (.bipush 6) 2 4 := at_i (by decide +kernel) rfl
theorem a_X10_status_4 : At m_X10_status 4 (.invokestatic 71) 3 7 := at_i (by decide +kernel) rfl
theorem a_X10_status_7 : AtJ m_X10_status 7 (.ifCond .eq 14) (14) 21 10 := at_j (by decide +kernel) (by decide) rfl
theorem a_X10_status_10 : At m_X10_status 10 (.aload_n 0) 1 11 := at_i (by decide +kernel) rfl
theorem a_X10_status_11 : At m_X10_status 11 (.getfield 19) 3 14 := at_i (by decide +kernel) rfl
theorem a_X10_status_14 : At m_X10_status 14 (.iload_n 1) 1 15 := at_i (by decide +kernel) rfl
theorem a_X10_status_15 : At m_X10_status 15 (.iconst 1) 1 16 := at_i (by decide +kernel) rfl
theorem a_X10_status_16 : At m_X10_status 16 (.iadd) 1 17 := at_i (by decide +kernel) rfl
theorem a_X10_status_17 : At m_X10_status 17 (.iaload) 1 18 := at_i (by decide +kernel) rfl
theorem a_X10_status_18 : AtJ m_X10_status 18 (.goto 9) (9) 27 21 := at_j (by decide +kernel) (by decide) rfl
theorem a_X10_status_21 : At m_X10_status 21 (.aload_n 0) 1 22 := at_i (by decide +kernel) rfl
theorem a_X10_status_22 : At m_X10_status 22 (.ldc 66) 2 24 := at_i (by decide +kernel) rfl
theorem a_X10_status_24 : At m_X10_status 24 (.invokevirtual 83) 3 27 := at_i (by decide +kernel) rfl
theorem a_X10_status_27 : At m_X10_status 27 (.ireturn) 1 28 := at_i (by decide +kernel) rfl
def f_X10_status (a1 : Int32) (h : Mem) (Q : Int32 → Mem → Prop) : Prop :=
  f_X10_within a1 (-1 : Int32) (6 : Int32) h fun r_2 h_1 =>
  if r_2 = 0 then (
    f_X10_finding (-1000001 : Int32) h_1 fun r_5 h_4 =>
    Q r_5 h_4)
  else (
    vp_in (a1 + (1 : Int32)) 8 ∧
    Q (h_1 47 ((a1 + (1 : Int32)).toNatClampNeg)) h_1)
set_option maxRecDepth 20000 in
theorem t_X10_status (a1 : Int32)  (h : Mem) (Q : Int32 → Mem → Prop) (hyp : f_X10_status a1 h Q) : Cn m_X10_status [.ref 43, .int a1] h (GI Q) := by
  refine ge_entry (lv := [(0, .ref 43), (1, .int a1)]) pn_X10 (Nat.le_of_ble_eq_true rfl) rfl ?_
  unfold f_X10_status at hyp
  refine ge_iload_n a_X10_status_0 rfl 1 rfl ?_
  refine ge_iconst (v := -1) a_X10_status_1 rfl ?_
  refine ge_bipush (v := 6) a_X10_status_2 rfl ?_
  refine ge_cSI [.int a1, .int (-1 : Int32), .int (6 : Int32)] (rest := []) a_X10_status_4 ok_X10_within lk_X10_71 ⟨Nat.le_of_ble_eq_true rfl, Nat.le_of_ble_eq_true rfl⟩ rfl rfl (Nat.le_of_ble_eq_true rfl) (t_X10_within a1 (-1 : Int32) (6 : Int32)  h _ hyp) (fun r_2 h_1 hyp => ?_)
  refine ge_if_eq a_X10_status_7 (fun c_3 => ?_) (fun c_3 => ?_)
  · have hyp := gm_ip hyp c_3
    refine ge_aload_n a_X10_status_21 rfl 0 rfl ?_
    refine ge_ldc (v := -1000001) a_X10_status_22 ct_X10_66 ?_
    refine ge_cVI [.int (-1000001 : Int32)] (rest := []) a_X10_status_24 ok_X10_finding lk_X10_83 ⟨Nat.le_of_ble_eq_true rfl, Nat.le_of_ble_eq_true rfl⟩ (rfl : gm_cls 43 = 9) vc_9 (by decide) rfl rfl (Nat.le_of_ble_eq_true rfl) (t_X10_finding (-1000001 : Int32)  h_1 _ hyp) (fun r_5 h_4 hyp => ?_)
    exact ge_iret rfl a_X10_status_27 hyp
  · have hyp := gm_in hyp c_3
    refine ge_aload_n a_X10_status_10 rfl 0 rfl ?_
    refine ge_getR (q := 47) a_X10_status_11 fd_X10_19 (rfl : gm_cls 43 = 9) rfl ?_
    refine ge_iload_n a_X10_status_14 rfl 1 rfl ?_
    refine ge_iconst (v := 1) a_X10_status_15 rfl ?_
    refine ge_iadd a_X10_status_16 ?_
    obtain ⟨b_6, hyp⟩ := hyp
    refine ge_iald (j := (a1 + (1 : Int32)).toNatClampNeg) a_X10_status_17 ga_47 b_6 rfl ?_
    refine ge_goto a_X10_status_18 ?_
    exact ge_iret rfl a_X10_status_27 hyp
