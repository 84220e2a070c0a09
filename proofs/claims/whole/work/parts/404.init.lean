theorem ae_topi {M : Mt} {n' : Nat} {Q : Mem → Prop} {cs ss pc n : Nat} {lv : List (Nat × Value)} {st : List Value} {h : Mem} {x : Int32} (k : ∀ y, y = x → AV M n' Q cs ss pc lv (.int y :: st) n h) : AV M n' Q cs ss pc lv (.int x :: st) n h := k _ rfl
theorem gm_kb : ∀ k, k < 57 → (gm_cls k = 5 → k + 6 ≤ 57) ∧ (gm_cls k = 4 → k + 2 ≤ 57) ∧ (gm_cls k = 0 → k + 1 ≤ 57) := by decide
theorem kb5 {k : Nat} (h : gm_cls k = 5) : k + 6 ≤ 57 := (gm_kb k (gm_lt (by rw [h]; decide))).1 h
theorem kb4 {k : Nat} (h : gm_cls k = 4) : k + 2 ≤ 57 := (gm_kb k (gm_lt (by rw [h]; decide))).2.1 h
theorem kb0 {k : Nat} (h : gm_cls k = 0) : k + 1 ≤ 57 := (gm_kb k (gm_lt (by rw [h]; decide))).2.2 h
set_option maxRecDepth 20000 in
theorem tA_fill_b5 (b0 : Nat) (n0 : Nat) (a1 : Int32) (v_1 : Int32) (hb0 : gm_arr b0 n0) (nn : Nat) (hkn : b0 < nn) (hn : nn ≤ 57)  (Q : Mem → Prop)   : ∀ (n : Nat) (v2 : Int32) (h : Mem), gm_it1 (f_J7_fill_53178_b5 b0 n0 a1 v_1 Q ) n v2 h → AV m_J7_fill_53178 nn Q 0 0 5 [(0, .ref b0), (1, .int a1), (2, .int v2), (3, .int v_1)] [] nn h := by
  refine ge_loop1 (P := fun v2 h => AV m_J7_fill_53178 nn Q 0 0 5 [(0, .ref b0), (1, .int a1), (2, .int v2), (3, .int v_1)] [] nn h) (fun K5 hK5 v2 h hyp => ?_)
  unfold f_J7_fill_53178_b5 at hyp
  refine ae_iload_n a_J7_fill_53178_5 rfl 2 rfl ?_
  refine ae_iload_n a_J7_fill_53178_6 rfl 3 rfl ?_
  refine ae_ge a_J7_fill_53178_7 (fun c_2 => ?_) (fun c_2 => ?_)
  · have hyp := gm_ip hyp c_2
    exact ae_vret rfl a_J7_fill_53178_20 rfl rfl rfl hyp
  · have hyp := gm_in hyp c_2
    refine ae_aload_n a_J7_fill_53178_10 rfl 0 rfl ?_
    refine ae_iload_n a_J7_fill_53178_11 rfl 2 rfl ?_
    refine ae_iload_n a_J7_fill_53178_12 rfl 1 rfl ?_
    obtain ⟨b_3, hyp⟩ := hyp
    refine ae_iast (j := v2.toNatClampNeg) a_J7_fill_53178_13 hb0 hkn hn b_3 rfl ?_
    refine ae_nm (fun h_4 eh_4 => ?_)
    have hyp := hyp h_4 eh_4
    obtain ⟨v_5, ev_5⟩ : ∃ y : Int32, y = v2 + (1 : Int32) := ⟨_, rfl⟩
    have hyp := hyp v_5 ev_5
    refine ae_iinc (v := v_5) (lv' := [(2, .int v_5), (0, .ref b0), (1, .int a1), (3, .int v_1)]) a_J7_fill_53178_14 2 rfl ev_5.symm (Nat.le_of_ble_eq_true rfl) rfl ?_
    refine ae_goto a_J7_fill_53178_17 ?_
    exact ae_sub [1, 2, 0, 3] rfl (hK5 v_5 h_4 hyp)
set_option maxRecDepth 20000 in
theorem tA_fill (b0 : Nat) (n0 : Nat) (a1 : Int32) (hb0 : gm_arr b0 n0) (nn : Nat) (hkn : b0 < nn) (hn : nn ≤ 57) (h : Mem) (Q : Mem → Prop) (hyp : f_J7_fill_53178 b0 n0 a1 h Q) : CnA m_J7_fill_53178 [.ref b0, .int a1] nn nn h Q := by
  refine ae_entry (lv := [(0, .ref b0), (1, .int a1)]) pn_J7 (Nat.le_of_ble_eq_true rfl) rfl ?_
  unfold f_J7_fill_53178 at hyp
  refine ae_iconst (v := 0) a_J7_fill_53178_0 rfl ?_
  refine ae_istore_n (lv' := [(2, .int (0 : Int32)), (0, .ref b0), (1, .int a1)]) a_J7_fill_53178_1 rfl (Nat.le_of_ble_eq_true rfl) rfl ?_
  refine ae_aload_n a_J7_fill_53178_2 rfl 1 rfl ?_
  refine ae_alen (v := nI n0) a_J7_fill_53178_3 hb0 hkn rfl ?_
  refine ae_topi (fun v_1 ev_1 => ?_)
  have hyp := hyp v_1 ev_1
  refine ae_istore_n (lv' := [(3, .int v_1), (2, .int (0 : Int32)), (0, .ref b0), (1, .int a1)]) a_J7_fill_53178_4 rfl (Nat.le_of_ble_eq_true rfl) rfl ?_
  exact ae_sub [2, 3, 1, 0] rfl (tA_fill_b5 b0 n0 a1 v_1 hb0 nn hkn hn Q   gm_F (0 : Int32) h hyp)

theorem lo_X1_3 : Cond.methodLink RX1 3 objectInit ∈ gm_ws := gm_mem 165 (by decide +kernel) rfl
theorem lo_X3_3 : Cond.methodLink RX3 3 objectInit ∈ gm_ws := gm_mem 273 (by decide +kernel) rfl
theorem lo_X5_3 : Cond.methodLink RX5 3 objectInit ∈ gm_ws := gm_mem 299 (by decide +kernel) rfl
theorem pf_X5_9 : PfOk RX5 9 4 0 (.array .int) := ⟨RX5, TX5, 3, tyX5, rfl, by decide, gm_mem 300 (by decide +kernel) rfl, inX5, rfl, rfl, by decide, tyX5_ok, nmX5, rfl, rfl, by decide +kernel, fun _ => ⟨rfl, rfl⟩⟩
theorem lo_X7_3 : Cond.methodLink RX7 3 objectInit ∈ gm_ws := gm_mem 257 (by decide +kernel) rfl
theorem pf_X7_9 : PfOk RX7 9 6 0 (.array .int) := ⟨RX7, TX7, 2, tyX7, rfl, by decide, gm_mem 258 (by decide +kernel) rfl, inX7, rfl, rfl, by decide, tyX7_ok, nmX7, rfl, rfl, by decide +kernel, fun _ => ⟨rfl, rfl⟩⟩
theorem lo_X8_3 : Cond.methodLink RX8 3 objectInit ∈ gm_ws := gm_mem 241 (by decide +kernel) rfl
theorem pf_X8_9 : PfOk RX8 9 7 0 (.array .int) := ⟨RX8, TX8, 3, tyX8, rfl, by decide, gm_mem 242 (by decide +kernel) rfl, inX8, rfl, rfl, by decide, tyX8_ok, nmX8, rfl, rfl, by decide +kernel, fun _ => ⟨rfl, rfl⟩⟩
theorem pf_X8_15 : PfOk RX8 15 7 1 (.array .int) := ⟨RX8, TX8, 3, tyX8, rfl, by decide, gm_mem 243 (by decide +kernel) rfl, inX8, rfl, rfl, by decide, tyX8_ok, nmX8, rfl, rfl, by decide +kernel, fun _ => ⟨rfl, rfl⟩⟩
theorem pf_X8_18 : PfOk RX8 18 7 2 (.array .int) := ⟨RX8, TX8, 3, tyX8, rfl, by decide, gm_mem 244 (by decide +kernel) rfl, inX8, rfl, rfl, by decide, tyX8_ok, nmX8, rfl, rfl, by decide +kernel, fun _ => ⟨rfl, rfl⟩⟩
theorem lo_X2_1 : Cond.methodLink RX2 1 objectInit ∈ gm_ws := gm_mem 199 (by decide +kernel) rfl
theorem nw_X2_7 : NwOk RX2 7 0 6 := ⟨RX1, TX1, tyX1, rfl, inX1, tyX1_ok, gm_mem 200 (by decide +kernel) rfl, gm_mem 161 (by decide +kernel) rfl, gm_mem 71 (by decide +kernel) rfl, rfl, by decide, by decide⟩
theorem lc_X2_9 : Cond.methodLinkNest RX2 9 yX1_init "GlassWords" ∈ lw_tbl := gm_memN 201 (by decide +kernel)
theorem pf_X2_10 : PfOk RX2 10 1 0 (.object "GlassWords$Paces") := ⟨RX2, TX2, 2, tyX2, rfl, by decide, gm_mem 202 (by decide +kernel) rfl, inX2, rfl, rfl, by decide, tyX2_ok, nmX2, rfl, rfl, by decide +kernel, fun _ => ⟨rfl, rfl⟩⟩
theorem pf_X2_16 : PfOk RX2 16 1 1 (.object "GlassWords$Paces") := ⟨RX2, TX2, 2, tyX2, rfl, by decide, gm_mem 203 (by decide +kernel) rfl, inX2, rfl, rfl, by decide, tyX2_ok, nmX2, rfl, rfl, by decide +kernel, fun _ => ⟨rfl, rfl⟩⟩
theorem lo_X4_3 : Cond.methodLink RX4 3 objectInit ∈ gm_ws := gm_mem 214 (by decide +kernel) rfl
theorem nw_X4_9 : NwOk RX4 9 0 6 := ⟨RX1, TX1, tyX1, rfl, inX1, tyX1_ok, gm_mem 215 (by decide +kernel) rfl, gm_mem 161 (by decide +kernel) rfl, gm_mem 71 (by decide +kernel) rfl, rfl, by decide, by decide⟩
theorem lc_X4_11 : Cond.methodLinkNest RX4 11 yX1_init "GlassWords" ∈ lw_tbl := gm_memN 216 (by decide +kernel)
theorem pf_X4_12 : PfOk RX4 12 3 0 (.object "GlassWords$Paces") := ⟨RX4, TX4, 5, tyX4, rfl, by decide, gm_mem 217 (by decide +kernel) rfl, inX4, rfl, rfl, by decide, tyX4_ok, nmX4, rfl, rfl, by decide +kernel, fun _ => ⟨rfl, rfl⟩⟩
theorem pf_X4_18 : PfOk RX4 18 3 1 (.array .int) := ⟨RX4, TX4, 5, tyX4, rfl, by decide, gm_mem 218 (by decide +kernel) rfl, inX4, rfl, rfl, by decide, tyX4_ok, nmX4, rfl, rfl, by decide +kernel, fun _ => ⟨rfl, rfl⟩⟩
theorem lo_X6_3 : Cond.methodLink RX6 3 objectInit ∈ gm_ws := gm_mem 99 (by decide +kernel) rfl
theorem pf_X6_9 : PfOk RX6 9 5 0 (.array .int) := ⟨RX6, TX6, 11, tyX6, rfl, by decide, gm_mem 108 (by decide +kernel) rfl, inX6, rfl, rfl, by decide, tyX6_ok, nmX6, rfl, rfl, by decide +kernel, fun _ => ⟨rfl, rfl⟩⟩
theorem pf_X6_15 : PfOk RX6 15 5 1 (.array .int) := ⟨RX6, TX6, 11, tyX6, rfl, by decide, gm_mem 111 (by decide +kernel) rfl, inX6, rfl, rfl, by decide, tyX6_ok, nmX6, rfl, rfl, by decide +kernel, fun _ => ⟨rfl, rfl⟩⟩
theorem pf_X6_18 : PfOk RX6 18 5 2 (.array .int) := ⟨RX6, TX6, 11, tyX6, rfl, by decide, gm_mem 113 (by decide +kernel) rfl, inX6, rfl, rfl, by decide, tyX6_ok, nmX6, rfl, rfl, by decide +kernel, fun _ => ⟨rfl, rfl⟩⟩
theorem pf_X6_21 : PfOk RX6 21 5 3 (.array .int) := ⟨RX6, TX6, 11, tyX6, rfl, by decide, gm_mem 115 (by decide +kernel) rfl, inX6, rfl, rfl, by decide, tyX6_ok, nmX6, rfl, rfl, by decide +kernel, fun _ => ⟨rfl, rfl⟩⟩
theorem pf_X6_24 : PfOk RX6 24 5 4 (.array .int) := ⟨RX6, TX6, 11, tyX6, rfl, by decide, gm_mem 120 (by decide +kernel) rfl, inX6, rfl, rfl, by decide, tyX6_ok, nmX6, rfl, rfl, by decide +kernel, fun _ => ⟨rfl, rfl⟩⟩
theorem lg_X6_31 : Cond.fieldLinkNest RX6 31 "GlassWords" "FIRST_RULE" "[I" "GlassWords" ∈ lw_tbl := gm_memN 100 (by decide +kernel)
theorem fdi_X6_21 : FdOk RX6 21 5 3 1 := ⟨RX6, TX6, 11, rfl, by decide, gm_mem 115 (by decide +kernel) rfl, inX6, rfl, rfl, by decide⟩
theorem la_X6_34 : Cond.methodLink RX6 34 arraycopyName ∈ gm_ws := gm_mem 102 (by decide +kernel) rfl
theorem fdi_X6_24 : FdOk RX6 24 5 4 1 := ⟨RX6, TX6, 11, rfl, by decide, gm_mem 120 (by decide +kernel) rfl, inX6, rfl, rfl, by decide⟩
theorem lf_X6_40 : Cond.methodLink RX6 40 yJ7_fill_53178 ∈ gm_ws := gm_mem 105 (by decide +kernel) rfl
theorem lo_X9_1 : Cond.methodLink RX9 1 objectInit ∈ gm_ws := gm_mem 91 (by decide +kernel) rfl
theorem nw_X9_7 : NwOk RX9 7 5 11 := ⟨RX6, TX6, tyX6, rfl, inX6, tyX6_ok, gm_mem 94 (by decide +kernel) rfl, gm_mem 95 (by decide +kernel) rfl, gm_mem 68 (by decide +kernel) rfl, rfl, by decide, by decide⟩
theorem lc_X9_9 : Cond.methodLink RX9 9 yX6_init ∈ gm_ws := gm_mem 96 (by decide +kernel) rfl
theorem pf_X9_10 : PfOk RX9 10 8 0 (.object "GlassWords$Studio") := ⟨RX9, TX9, 12, tyX9, rfl, by decide, gm_mem 317 (by decide +kernel) rfl, inX9, rfl, rfl, by decide, tyX9_ok, nmX9, rfl, rfl, by decide +kernel, fun _ => ⟨rfl, rfl⟩⟩
theorem pf_X9_16 : PfOk RX9 16 8 1 (.object "GlassWords$Studio") := ⟨RX9, TX9, 12, tyX9, rfl, by decide, gm_mem 318 (by decide +kernel) rfl, inX9, rfl, rfl, by decide, tyX9_ok, nmX9, rfl, rfl, by decide +kernel, fun _ => ⟨rfl, rfl⟩⟩
theorem pf_X9_19 : PfOk RX9 19 8 2 (.object "GlassWords$Studio") := ⟨RX9, TX9, 12, tyX9, rfl, by decide, gm_mem 319 (by decide +kernel) rfl, inX9, rfl, rfl, by decide, tyX9_ok, nmX9, rfl, rfl, by decide +kernel, fun _ => ⟨rfl, rfl⟩⟩
theorem nw_X9_22 : NwOk RX9 22 0 6 := ⟨RX1, TX1, tyX1, rfl, inX1, tyX1_ok, gm_mem 160 (by decide +kernel) rfl, gm_mem 161 (by decide +kernel) rfl, gm_mem 71 (by decide +kernel) rfl, rfl, by decide, by decide⟩
theorem lc_X9_24 : Cond.methodLinkNest RX9 24 yX1_init "GlassWords" ∈ lw_tbl := gm_memN 162 (by decide +kernel)
theorem pf_X9_25 : PfOk RX9 25 8 3 (.object "GlassWords$Paces") := ⟨RX9, TX9, 12, tyX9, rfl, by decide, gm_mem 320 (by decide +kernel) rfl, inX9, rfl, rfl, by decide, tyX9_ok, nmX9, rfl, rfl, by decide +kernel, fun _ => ⟨rfl, rfl⟩⟩
theorem nw_X9_29 : NwOk RX9 29 1 2 := ⟨RX2, TX2, tyX2, rfl, inX2, tyX2_ok, gm_mem 194 (by decide +kernel) rfl, gm_mem 195 (by decide +kernel) rfl, gm_mem 72 (by decide +kernel) rfl, rfl, by decide, by decide⟩
theorem lc_X9_31 : Cond.methodLinkNest RX9 31 yX2_init "GlassWords" ∈ lw_tbl := gm_memN 196 (by decide +kernel)
theorem pf_X9_32 : PfOk RX9 32 8 4 (.object "GlassWords$Rounds") := ⟨RX9, TX9, 12, tyX9, rfl, by decide, gm_mem 321 (by decide +kernel) rfl, inX9, rfl, rfl, by decide, tyX9_ok, nmX9, rfl, rfl, by decide +kernel, fun _ => ⟨rfl, rfl⟩⟩
theorem nw_X9_36 : NwOk RX9 36 3 5 := ⟨RX4, TX4, tyX4, rfl, inX4, tyX4_ok, gm_mem 209 (by decide +kernel) rfl, gm_mem 210 (by decide +kernel) rfl, gm_mem 73 (by decide +kernel) rfl, rfl, by decide, by decide⟩
theorem lc_X9_38 : Cond.methodLinkNest RX9 38 yX4_init "GlassWords" ∈ lw_tbl := gm_memN 211 (by decide +kernel)
theorem pf_X9_39 : PfOk RX9 39 8 5 (.object "GlassWords$Searches") := ⟨RX9, TX9, 12, tyX9, rfl, by decide, gm_mem 322 (by decide +kernel) rfl, inX9, rfl, rfl, by decide, tyX9_ok, nmX9, rfl, rfl, by decide +kernel, fun _ => ⟨rfl, rfl⟩⟩
theorem nw_X9_43 : NwOk RX9 43 7 3 := ⟨RX8, TX8, tyX8, rfl, inX8, tyX8_ok, gm_mem 236 (by decide +kernel) rfl, gm_mem 237 (by decide +kernel) rfl, gm_mem 74 (by decide +kernel) rfl, rfl, by decide, by decide⟩
theorem lc_X9_45 : Cond.methodLinkNest RX9 45 yX8_init "GlassWords" ∈ lw_tbl := gm_memN 238 (by decide +kernel)
theorem pf_X9_46 : PfOk RX9 46 8 6 (.object "GlassWords$Ways") := ⟨RX9, TX9, 12, tyX9, rfl, by decide, gm_mem 323 (by decide +kernel) rfl, inX9, rfl, rfl, by decide, tyX9_ok, nmX9, rfl, rfl, by decide +kernel, fun _ => ⟨rfl, rfl⟩⟩
theorem nw_X9_50 : NwOk RX9 50 6 2 := ⟨RX7, TX7, tyX7, rfl, inX7, tyX7_ok, gm_mem 252 (by decide +kernel) rfl, gm_mem 253 (by decide +kernel) rfl, gm_mem 75 (by decide +kernel) rfl, rfl, by decide, by decide⟩
theorem lc_X9_52 : Cond.methodLinkNest RX9 52 yX7_init "GlassWords" ∈ lw_tbl := gm_memN 254 (by decide +kernel)
theorem pf_X9_53 : PfOk RX9 53 8 7 (.object "GlassWords$Tape") := ⟨RX9, TX9, 12, tyX9, rfl, by decide, gm_mem 324 (by decide +kernel) rfl, inX9, rfl, rfl, by decide, tyX9_ok, nmX9, rfl, rfl, by decide +kernel, fun _ => ⟨rfl, rfl⟩⟩
theorem nw_X9_57 : NwOk RX9 57 2 6 := ⟨RX3, TX3, tyX3, rfl, inX3, tyX3_ok, gm_mem 268 (by decide +kernel) rfl, gm_mem 269 (by decide +kernel) rfl, gm_mem 76 (by decide +kernel) rfl, rfl, by decide, by decide⟩
theorem lc_X9_59 : Cond.methodLinkNest RX9 59 yX3_init "GlassWords" ∈ lw_tbl := gm_memN 270 (by decide +kernel)
theorem pf_X9_60 : PfOk RX9 60 8 8 (.object "GlassWords$Script") := ⟨RX9, TX9, 12, tyX9, rfl, by decide, gm_mem 325 (by decide +kernel) rfl, inX9, rfl, rfl, by decide, tyX9_ok, nmX9, rfl, rfl, by decide +kernel, fun _ => ⟨rfl, rfl⟩⟩
theorem cl_X9_64 : Cond.classLink RX9 64 "GlassWords$Sheet" ∈ gm_ws := gm_mem 293 (by decide +kernel) rfl
theorem pf_X9_66 : PfOk RX9 66 8 9 (.array (.object "GlassWords$Sheet")) := ⟨RX9, TX9, 12, tyX9, rfl, by decide, gm_mem 326 (by decide +kernel) rfl, inX9, rfl, rfl, by decide, tyX9_ok, nmX9, rfl, rfl, by decide +kernel, fun _ => ⟨rfl, rfl⟩⟩
theorem pf_X9_70 : PfOk RX9 70 8 10 (.array .int) := ⟨RX9, TX9, 12, tyX9, rfl, by decide, gm_mem 327 (by decide +kernel) rfl, inX9, rfl, rfl, by decide, tyX9_ok, nmX9, rfl, rfl, by decide +kernel, fun _ => ⟨rfl, rfl⟩⟩
theorem fdi_X9_66 : FdOk RX9 66 8 9 1 := ⟨RX9, TX9, 12, rfl, by decide, gm_mem 326 (by decide +kernel) rfl, inX9, rfl, rfl, by decide⟩
theorem nw_X9_64 : NwOk RX9 64 4 3 := ⟨RX5, TX5, tyX5, rfl, inX5, tyX5_ok, gm_mem 293 (by decide +kernel) rfl, gm_mem 295 (by decide +kernel) rfl, gm_mem 77 (by decide +kernel) rfl, rfl, by decide, by decide⟩
theorem lc_X9_74 : Cond.methodLinkNest RX9 74 yX5_init "GlassWords" ∈ lw_tbl := gm_memN 296 (by decide +kernel)
theorem lj_0_4 : vp_in 0 4 ∧ (0 : Int32).toNatClampNeg = 0 := ⟨vp_in_iff.mpr (by decide), by decide⟩
theorem lj_1_4 : vp_in 1 4 ∧ (1 : Int32).toNatClampNeg = 1 := ⟨vp_in_iff.mpr (by decide), by decide⟩
theorem lj_2_4 : vp_in 2 4 ∧ (2 : Int32).toNatClampNeg = 2 := ⟨vp_in_iff.mpr (by decide), by decide⟩
theorem lj_3_4 : vp_in 3 4 ∧ (3 : Int32).toNatClampNeg = 3 := ⟨vp_in_iff.mpr (by decide), by decide⟩
theorem lo_X10_1 : Cond.methodLink RX10 1 objectInit ∈ gm_ws := gm_mem 982 (by decide +kernel) rfl
theorem pf_X10_9 : PfOk RX10 9 9 0 (.array .int) := ⟨RX10, TX10, 28, tyX10, rfl, by decide, gm_mem 992 (by decide +kernel) rfl, inX10, rfl, rfl, by decide, tyX10_ok, nmX10, rfl, rfl, by decide +kernel, fun _ => ⟨rfl, rfl⟩⟩
theorem pf_X10_13 : PfOk RX10 13 9 1 (.array .int) := ⟨RX10, TX10, 28, tyX10, rfl, by decide, gm_mem 993 (by decide +kernel) rfl, inX10, rfl, rfl, by decide, tyX10_ok, nmX10, rfl, rfl, by decide +kernel, fun _ => ⟨rfl, rfl⟩⟩
theorem pf_X10_16 : PfOk RX10 16 9 2 (.array .int) := ⟨RX10, TX10, 28, tyX10, rfl, by decide, gm_mem 994 (by decide +kernel) rfl, inX10, rfl, rfl, by decide, tyX10_ok, nmX10, rfl, rfl, by decide +kernel, fun _ => ⟨rfl, rfl⟩⟩
theorem pf_X10_19 : PfOk RX10 19 9 4 (.array .int) := ⟨RX10, TX10, 28, tyX10, rfl, by decide, gm_mem 996 (by decide +kernel) rfl, inX10, rfl, rfl, by decide, tyX10_ok, nmX10, rfl, rfl, by decide +kernel, fun _ => ⟨rfl, rfl⟩⟩
theorem pf_X10_22 : PfOk RX10 22 9 5 (.array .int) := ⟨RX10, TX10, 28, tyX10, rfl, by decide, gm_mem 997 (by decide +kernel) rfl, inX10, rfl, rfl, by decide, tyX10_ok, nmX10, rfl, rfl, by decide +kernel, fun _ => ⟨rfl, rfl⟩⟩
theorem pf_X10_25 : PfOk RX10 25 9 10 (.array .int) := ⟨RX10, TX10, 28, tyX10, rfl, by decide, gm_mem 1002 (by decide +kernel) rfl, inX10, rfl, rfl, by decide, tyX10_ok, nmX10, rfl, rfl, by decide +kernel, fun _ => ⟨rfl, rfl⟩⟩
theorem pf_X10_28 : PfOk RX10 28 9 13 (.array .int) := ⟨RX10, TX10, 28, tyX10, rfl, by decide, gm_mem 1005 (by decide +kernel) rfl, inX10, rfl, rfl, by decide, tyX10_ok, nmX10, rfl, rfl, by decide +kernel, fun _ => ⟨rfl, rfl⟩⟩
theorem cl_X10_31 : Cond.classLink RX10 31 "java/lang/String" ∈ gm_ws := gm_mem 983 (by decide +kernel) rfl
theorem sli_X10_33 : (RX10, 33, "line", 0) ∈ gm_ldc := List.mem_of_getElem? (i := 17) rfl
theorem lj_0_7 : vp_in 0 7 ∧ (0 : Int32).toNatClampNeg = 0 := ⟨vp_in_iff.mpr (by decide), by decide⟩
theorem sli_X10_35 : (RX10, 35, "level", 1) ∈ gm_ldc := List.mem_of_getElem? (i := 18) rfl
theorem lj_1_7 : vp_in 1 7 ∧ (1 : Int32).toNatClampNeg = 1 := ⟨vp_in_iff.mpr (by decide), by decide⟩
theorem sli_X10_37 : (RX10, 37, "sinking", 2) ∈ gm_ldc := List.mem_of_getElem? (i := 19) rfl
theorem lj_2_7 : vp_in 2 7 ∧ (2 : Int32).toNatClampNeg = 2 := ⟨vp_in_iff.mpr (by decide), by decide⟩
theorem sli_X10_39 : (RX10, 39, "rising", 3) ∈ gm_ldc := List.mem_of_getElem? (i := 20) rfl
theorem lj_3_7 : vp_in 3 7 ∧ (3 : Int32).toNatClampNeg = 3 := ⟨vp_in_iff.mpr (by decide), by decide⟩
theorem sli_X10_41 : (RX10, 41, "stopped", 4) ∈ gm_ldc := List.mem_of_getElem? (i := 21) rfl
theorem lj_4_7 : vp_in 4 7 ∧ (4 : Int32).toNatClampNeg = 4 := ⟨vp_in_iff.mpr (by decide), by decide⟩
theorem sli_X10_43 : (RX10, 43, "off", 5) ∈ gm_ldc := List.mem_of_getElem? (i := 22) rfl
theorem lj_5_7 : vp_in 5 7 ∧ (5 : Int32).toNatClampNeg = 5 := ⟨vp_in_iff.mpr (by decide), by decide⟩
theorem sli_X10_45 : (RX10, 45, "blank", 6) ∈ gm_ldc := List.mem_of_getElem? (i := 23) rfl
theorem lj_6_7 : vp_in 6 7 ∧ (6 : Int32).toNatClampNeg = 6 := ⟨vp_in_iff.mpr (by decide), by decide⟩
theorem pf_X10_47 : PfOk RX10 47 9 20 (.array (.object "java/lang/String")) := ⟨RX10, TX10, 28, tyX10, rfl, by decide, gm_mem 1012 (by decide +kernel) rfl, inX10, rfl, rfl, by decide, tyX10_ok, nmX10, rfl, rfl, by decide +kernel, fun _ => ⟨rfl, rfl⟩⟩
theorem pf_X10_51 : PfOk RX10 51 9 21 (.array .int) := ⟨RX10, TX10, 28, tyX10, rfl, by decide, gm_mem 1013 (by decide +kernel) rfl, inX10, rfl, rfl, by decide, tyX10_ok, nmX10, rfl, rfl, by decide +kernel, fun _ => ⟨rfl, rfl⟩⟩
theorem pf_X10_54 : PfOk RX10 54 9 24 (.array .int) := ⟨RX10, TX10, 28, tyX10, rfl, by decide, gm_mem 1016 (by decide +kernel) rfl, inX10, rfl, rfl, by decide, tyX10_ok, nmX10, rfl, rfl, by decide +kernel, fun _ => ⟨rfl, rfl⟩⟩
theorem pf_X10_57 : PfOk RX10 57 9 25 (.array .int) := ⟨RX10, TX10, 28, tyX10, rfl, by decide, gm_mem 1017 (by decide +kernel) rfl, inX10, rfl, rfl, by decide, tyX10_ok, nmX10, rfl, rfl, by decide +kernel, fun _ => ⟨rfl, rfl⟩⟩
theorem pf_X10_60 : PfOk RX10 60 9 26 (.array .int) := ⟨RX10, TX10, 28, tyX10, rfl, by decide, gm_mem 1018 (by decide +kernel) rfl, inX10, rfl, rfl, by decide, tyX10_ok, nmX10, rfl, rfl, by decide +kernel, fun _ => ⟨rfl, rfl⟩⟩
theorem pf_X10_63 : PfOk RX10 63 9 27 (.array .int) := ⟨RX10, TX10, 28, tyX10, rfl, by decide, gm_mem 1019 (by decide +kernel) rfl, inX10, rfl, rfl, by decide, tyX10_ok, nmX10, rfl, rfl, by decide +kernel, fun _ => ⟨rfl, rfl⟩⟩
theorem fdi_X10_9 : FdOk RX10 9 9 0 1 := ⟨RX10, TX10, 28, rfl, by decide, gm_mem 992 (by decide +kernel) rfl, inX10, rfl, rfl, by decide⟩
theorem lj_5_62 : vp_in 5 62 ∧ (5 : Int32).toNatClampNeg = 5 := ⟨vp_in_iff.mpr (by decide), by decide⟩
theorem lj_6_62 : vp_in 6 62 ∧ (6 : Int32).toNatClampNeg = 6 := ⟨vp_in_iff.mpr (by decide), by decide⟩
theorem lj_7_62 : vp_in 7 62 ∧ (7 : Int32).toNatClampNeg = 7 := ⟨vp_in_iff.mpr (by decide), by decide⟩
theorem lj_8_62 : vp_in 8 62 ∧ (8 : Int32).toNatClampNeg = 8 := ⟨vp_in_iff.mpr (by decide), by decide⟩
theorem lj_9_62 : vp_in 9 62 ∧ (9 : Int32).toNatClampNeg = 9 := ⟨vp_in_iff.mpr (by decide), by decide⟩
theorem lj_12_62 : vp_in 12 62 ∧ (12 : Int32).toNatClampNeg = 12 := ⟨vp_in_iff.mpr (by decide), by decide⟩
theorem lj_13_62 : vp_in 13 62 ∧ (13 : Int32).toNatClampNeg = 13 := ⟨vp_in_iff.mpr (by decide), by decide⟩
theorem lj_15_62 : vp_in 15 62 ∧ (15 : Int32).toNatClampNeg = 15 := ⟨vp_in_iff.mpr (by decide), by decide⟩
theorem lj_16_62 : vp_in 16 62 ∧ (16 : Int32).toNatClampNeg = 16 := ⟨vp_in_iff.mpr (by decide), by decide⟩
theorem lj_17_62 : vp_in 17 62 ∧ (17 : Int32).toNatClampNeg = 17 := ⟨vp_in_iff.mpr (by decide), by decide⟩
theorem lj_18_62 : vp_in 18 62 ∧ (18 : Int32).toNatClampNeg = 18 := ⟨vp_in_iff.mpr (by decide), by decide⟩
theorem lj_19_62 : vp_in 19 62 ∧ (19 : Int32).toNatClampNeg = 19 := ⟨vp_in_iff.mpr (by decide), by decide⟩
theorem lj_20_62 : vp_in 20 62 ∧ (20 : Int32).toNatClampNeg = 20 := ⟨vp_in_iff.mpr (by decide), by decide⟩
theorem lj_21_62 : vp_in 21 62 ∧ (21 : Int32).toNatClampNeg = 21 := ⟨vp_in_iff.mpr (by decide), by decide⟩
theorem lj_22_62 : vp_in 22 62 ∧ (22 : Int32).toNatClampNeg = 22 := ⟨vp_in_iff.mpr (by decide), by decide⟩
theorem lj_23_62 : vp_in 23 62 ∧ (23 : Int32).toNatClampNeg = 23 := ⟨vp_in_iff.mpr (by decide), by decide⟩
theorem lj_24_62 : vp_in 24 62 ∧ (24 : Int32).toNatClampNeg = 24 := ⟨vp_in_iff.mpr (by decide), by decide⟩
theorem lj_25_62 : vp_in 25 62 ∧ (25 : Int32).toNatClampNeg = 25 := ⟨vp_in_iff.mpr (by decide), by decide⟩
def m_X1_init : Mt := (yX1_init, cX1_init, 1, none, { frames := 1, cells := 0, slots := 0, locals := 20 })
theorem ok_X1_init : NOk1 m_X1_init 0 := ⟨gm_mem 164 (by decide +kernel) rfl, gm_mem 71 (by decide +kernel) rfl, by decide +kernel⟩
theorem in_X1_init : Cond.instanceMethod yX1_init ∈ gm_ws := gm_mem 163 (by decide +kernel) rfl
theorem a_X1_init_0 : At m_X1_init 0 (.aload_n 0) 1 1 := at_i (by decide +kernel) rfl
theorem a_X1_init_1 : At m_X1_init 1 (.invokespecial 3) 3 4 := at_i (by decide +kernel) rfl
theorem a_X1_init_4 : At m_X1_init 4 (.return_) 1 5 := at_i (by decide +kernel) rfl
def f_X1_init (k0 : Nat) (h : Mem) (Q : Mem → Prop) : Prop :=
  Q h
set_option maxRecDepth 20000 in
theorem t_X1_init (k0 : Nat) (hk0 : gm_cls k0 = 0) (h : Mem) (Q : Mem → Prop) (hyp : f_X1_init k0 h Q) : CnA m_X1_init [.ref k0] (k0 + 1) (k0 + 1) h Q := by
  have hn57 : k0 + 1 ≤ 57 := kb0 hk0
  refine ae_entry (lv := [(0, .ref k0)]) pn_X1 (Nat.le_of_ble_eq_true rfl) rfl ?_
  unfold f_X1_init at hyp
  refine ae_aload_n a_X1_init_0 rfl 0 rfl ?_
  refine ae_obj a_X1_init_1 lo_X1_3 (Nat.le_of_ble_eq_true rfl) (Nat.le_of_ble_eq_true rfl) ?_
  exact ae_vret rfl a_X1_init_4 rfl rfl rfl hyp
def m_X3_init : Mt := (yX3_init, cX3_init, 1, none, { frames := 1, cells := 0, slots := 0, locals := 20 })
theorem ok_X3_init : NOk1 m_X3_init 0 := ⟨gm_mem 272 (by decide +kernel) rfl, gm_mem 76 (by decide +kernel) rfl, by decide +kernel⟩
theorem in_X3_init : Cond.instanceMethod yX3_init ∈ gm_ws := gm_mem 271 (by decide +kernel) rfl
theorem a_X3_init_0 : At m_X3_init 0 (.aload_n 0) 1 1 := at_i (by decide +kernel) rfl
theorem a_X3_init_1 : At m_X3_init 1 (.invokespecial 3) 3 4 := at_i (by decide +kernel) rfl
theorem a_X3_init_4 : At m_X3_init 4 (.return_) 1 5 := at_i (by decide +kernel) rfl
def f_X3_init (h : Mem) (Q : Mem → Prop) : Prop :=
  Q h
set_option maxRecDepth 20000 in
theorem t_X3_init (h : Mem) (Q : Mem → Prop) (hyp : f_X3_init h Q) : CnA m_X3_init [.ref 32] 33 33 h Q := by
  refine ae_entry (lv := [(0, .ref 32)]) pn_X3 (Nat.le_of_ble_eq_true rfl) rfl ?_
  unfold f_X3_init at hyp
  refine ae_aload_n a_X3_init_0 rfl 0 rfl ?_
  refine ae_obj a_X3_init_1 lo_X3_3 (Nat.le_of_ble_eq_true rfl) (Nat.le_of_ble_eq_true rfl) ?_
  exact ae_vret rfl a_X3_init_4 rfl rfl rfl hyp
def m_X5_init : Mt := (yX5_init, cX5_init, 1, none, { frames := 1, cells := 1, slots := 40, locals := 20 })
theorem ok_X5_init : NOk1 m_X5_init 0 := ⟨gm_mem 298 (by decide +kernel) rfl, gm_mem 77 (by decide +kernel) rfl, by decide +kernel⟩
theorem in_X5_init : Cond.instanceMethod yX5_init ∈ gm_ws := gm_mem 297 (by decide +kernel) rfl
theorem a_X5_init_0 : At m_X5_init 0 (.aload_n 0) 1 1 := at_i (by decide +kernel) rfl
theorem a_X5_init_1 : At m_X5_init 1 (.invokespecial 3) 3 4 := at_i (by decide +kernel) rfl
theorem a_X5_init_4 : At m_X5_init 4 (.aload_n 0) 1 5 := at_i (by decide +kernel) rfl
theorem a_X5_init_5 : At m_X5_init 5 (.bipush 40) 2 7 := at_i (by decide +kernel) rfl
theorem a_X5_init_7 : At m_X5_init 7 (.newarray .int) 2 9 := at_i (by decide +kernel) rfl
theorem a_X5_init_9 : At m_X5_init 9 (.putfield 9) 3 12 := at_i (by decide +kernel) rfl
theorem a_X5_init_12 : At m_X5_init 12 (.return_) 1 13 := at_i (by decide +kernel) rfl
def f_X5_init (k0 : Nat) (h : Mem) (Q : Mem → Prop) : Prop :=
  ∀ h_1 : Mem, h_1 = gm_new h (k0 + 1) →
  ∀ h_2 : Mem, h_2 = gm_st h_1 k0 0 1 →
  Q h_2
set_option maxRecDepth 20000 in
theorem t_X5_init (k0 : Nat) (hk0 : gm_cls k0 = 4) (h : Mem) (Q : Mem → Prop) (hyp : f_X5_init k0 h Q) : CnA m_X5_init [.ref k0] (k0 + 1) (k0 + 2) h Q := by
  have hn57 : k0 + 2 ≤ 57 := kb4 hk0
  refine ae_entry (lv := [(0, .ref k0)]) pn_X5 (Nat.le_of_ble_eq_true rfl) rfl ?_
  unfold f_X5_init at hyp
  refine ae_aload_n a_X5_init_0 rfl 0 rfl ?_
  refine ae_obj a_X5_init_1 lo_X5_3 (Nat.le_of_ble_eq_true rfl) (Nat.le_of_ble_eq_true rfl) ?_
  refine ae_aload_n a_X5_init_4 rfl 0 rfl ?_
  refine ae_bipush (v := 40) a_X5_init_5 rfl ?_
  refine ae_newa (w := 40) a_X5_init_7 (ka4_0 hk0) (by decide) (by decide) (by decide) (by omega) (Nat.le_of_ble_eq_true rfl) (Nat.le_of_ble_eq_true rfl) ?_
  refine ae_nm (fun h_1 eh_1 => ?_)
  have hyp := hyp h_1 eh_1
  show AV _ _ _ 1 40 9 _ (.ref (k0 + 1) :: _) (k0 + 2) _
  refine ae_putF (q := k0 + 1) a_X5_init_9 pf_X5_9 hk0 (by omega) (by omega) rfl (kr4_0 hk0) ?_
  refine ae_nm (fun h_2 eh_2 => ?_)
  have hyp := hyp h_2 eh_2
  exact ae_vret rfl a_X5_init_12 rfl rfl rfl hyp
def m_X7_init : Mt := (yX7_init, cX7_init, 1, none, { frames := 1, cells := 1, slots := 120, locals := 20 })
theorem ok_X7_init : NOk1 m_X7_init 0 := ⟨gm_mem 256 (by decide +kernel) rfl, gm_mem 75 (by decide +kernel) rfl, by decide +kernel⟩
theorem in_X7_init : Cond.instanceMethod yX7_init ∈ gm_ws := gm_mem 255 (by decide +kernel) rfl
theorem a_X7_init_0 : At m_X7_init 0 (.aload_n 0) 1 1 := at_i (by decide +kernel) rfl
theorem a_X7_init_1 : At m_X7_init 1 (.invokespecial 3) 3 4 := at_i (by decide +kernel) rfl
theorem a_X7_init_4 : At m_X7_init 4 (.aload_n 0) 1 5 := at_i (by decide +kernel) rfl
theorem a_X7_init_5 : At m_X7_init 5 (.bipush 120) 2 7 := at_i (by decide +kernel) rfl
theorem a_X7_init_7 : At m_X7_init 7 (.newarray .int) 2 9 := at_i (by decide +kernel) rfl
theorem a_X7_init_9 : At m_X7_init 9 (.putfield 9) 3 12 := at_i (by decide +kernel) rfl
theorem a_X7_init_12 : At m_X7_init 12 (.return_) 1 13 := at_i (by decide +kernel) rfl
def f_X7_init (h : Mem) (Q : Mem → Prop) : Prop :=
  ∀ h_1 : Mem, h_1 = gm_new h 31 →
  ∀ h_2 : Mem, h_2 = gm_st h_1 30 0 1 →
  Q h_2
set_option maxRecDepth 20000 in
theorem t_X7_init (h : Mem) (Q : Mem → Prop) (hyp : f_X7_init h Q) : CnA m_X7_init [.ref 30] 31 32 h Q := by
  refine ae_entry (lv := [(0, .ref 30)]) pn_X7 (Nat.le_of_ble_eq_true rfl) rfl ?_
  unfold f_X7_init at hyp
  refine ae_aload_n a_X7_init_0 rfl 0 rfl ?_
  refine ae_obj a_X7_init_1 lo_X7_3 (Nat.le_of_ble_eq_true rfl) (Nat.le_of_ble_eq_true rfl) ?_
  refine ae_aload_n a_X7_init_4 rfl 0 rfl ?_
  refine ae_bipush (v := 120) a_X7_init_5 rfl ?_
  refine ae_newa (w := 120) a_X7_init_7 ga_31 (by decide) (by decide) (by decide) (by decide) (Nat.le_of_ble_eq_true rfl) (Nat.le_of_ble_eq_true rfl) ?_
  refine ae_nm (fun h_1 eh_1 => ?_)
  have hyp := hyp h_1 eh_1
  show AV _ _ _ 1 120 9 _ (.ref 31 :: _) 32 _
  refine ae_putF (q := 31) a_X7_init_9 pf_X7_9 (rfl : gm_cls 30 = 6) (by decide) (by decide) rfl rfl ?_
  refine ae_nm (fun h_2 eh_2 => ?_)
  have hyp := hyp h_2 eh_2
  exact ae_vret rfl a_X7_init_12 rfl rfl rfl hyp
def m_X8_init : Mt := (yX8_init, cX8_init, 1, none, { frames := 1, cells := 3, slots := 38, locals := 20 })
theorem ok_X8_init : NOk1 m_X8_init 0 := ⟨gm_mem 240 (by decide +kernel) rfl, gm_mem 74 (by decide +kernel) rfl, by decide +kernel⟩
theorem in_X8_init : Cond.instanceMethod yX8_init ∈ gm_ws := gm_mem 239 (by decide +kernel) rfl
theorem a_X8_init_0 : At m_X8_init 0 (.aload_n 0) 1 1 := at_i (by decide +kernel) rfl
theorem a_X8_init_1 : At m_X8_init 1 (.invokespecial 3) 3 4 := at_i (by decide +kernel) rfl
theorem a_X8_init_4 : At m_X8_init 4 (.aload_n 0) 1 5 := at_i (by decide +kernel) rfl
theorem a_X8_init_5 : At m_X8_init 5 (.bipush 12) 2 7 := at_i (by decide +kernel) rfl
theorem a_X8_init_7 : At m_X8_init 7 (.newarray .int) 2 9 := at_i (by decide +kernel) rfl
theorem a_X8_init_9 : At m_X8_init 9 (.putfield 9) 3 12 := at_i (by decide +kernel) rfl
theorem a_X8_init_12 : At m_X8_init 12 (.aload_n 0) 1 13 := at_i (by decide +kernel) rfl
theorem a_X8_init_13 : At m_X8_init 13 (.bipush 13) 2 15 := at_i (by decide +kernel) rfl
theorem a_X8_init_15 : At m_X8_init 15 (.newarray .int) 2 17 := at_i (by decide +kernel) rfl
theorem a_X8_init_17 : At m_X8_init 17 (.putfield 15) 3 20 := at_i (by decide +kernel) rfl
theorem a_X8_init_20 : At m_X8_init 20 (.aload_n 0) 1 21 := at_i (by decide +kernel) rfl
theorem a_X8_init_21 : At m_X8_init 21 (.bipush 13) 2 23 := at_i (by decide +kernel) rfl
theorem a_X8_init_23 : At m_X8_init 23 (.newarray .int) 2 25 := at_i (by decide +kernel) rfl
theorem a_X8_init_25 : At m_X8_init 25 (.putfield 18) 3 28 := at_i (by decide +kernel) rfl
theorem a_X8_init_28 : At m_X8_init 28 (.return_) 1 29 := at_i (by decide +kernel) rfl
def f_X8_init (h : Mem) (Q : Mem → Prop) : Prop :=
  ∀ h_1 : Mem, h_1 = gm_new h 27 →
  ∀ h_2 : Mem, h_2 = gm_st h_1 26 0 1 →
  ∀ h_3 : Mem, h_3 = gm_new h_2 28 →
  ∀ h_4 : Mem, h_4 = gm_st h_3 26 1 1 →
  ∀ h_5 : Mem, h_5 = gm_new h_4 29 →
  ∀ h_6 : Mem, h_6 = gm_st h_5 26 2 1 →
  Q h_6
set_option maxRecDepth 20000 in
theorem t_X8_init (h : Mem) (Q : Mem → Prop) (hyp : f_X8_init h Q) : CnA m_X8_init [.ref 26] 27 30 h Q := by
  refine ae_entry (lv := [(0, .ref 26)]) pn_X8 (Nat.le_of_ble_eq_true rfl) rfl ?_
  unfold f_X8_init at hyp
  refine ae_aload_n a_X8_init_0 rfl 0 rfl ?_
  refine ae_obj a_X8_init_1 lo_X8_3 (Nat.le_of_ble_eq_true rfl) (Nat.le_of_ble_eq_true rfl) ?_
  refine ae_aload_n a_X8_init_4 rfl 0 rfl ?_
  refine ae_bipush (v := 12) a_X8_init_5 rfl ?_
  refine ae_newa (w := 12) a_X8_init_7 ga_27 (by decide) (by decide) (by decide) (by decide) (Nat.le_of_ble_eq_true rfl) (Nat.le_of_ble_eq_true rfl) ?_
  refine ae_nm (fun h_1 eh_1 => ?_)
  have hyp := hyp h_1 eh_1
  show AV _ _ _ 1 12 9 _ (.ref 27 :: _) 28 _
  refine ae_putF (q := 27) a_X8_init_9 pf_X8_9 (rfl : gm_cls 26 = 7) (by decide) (by decide) rfl rfl ?_
  refine ae_nm (fun h_2 eh_2 => ?_)
  have hyp := hyp h_2 eh_2
  refine ae_aload_n a_X8_init_12 rfl 0 rfl ?_
  refine ae_bipush (v := 13) a_X8_init_13 rfl ?_
  refine ae_newa (w := 13) a_X8_init_15 ga_28 (by decide) (by decide) (by decide) (by decide) (Nat.le_of_ble_eq_true rfl) (Nat.le_of_ble_eq_true rfl) ?_
  refine ae_nm (fun h_3 eh_3 => ?_)
  have hyp := hyp h_3 eh_3
  show AV _ _ _ 2 25 17 _ (.ref 28 :: _) 29 _
  refine ae_putF (q := 28) a_X8_init_17 pf_X8_15 (rfl : gm_cls 26 = 7) (by decide) (by decide) rfl rfl ?_
  refine ae_nm (fun h_4 eh_4 => ?_)
  have hyp := hyp h_4 eh_4
  refine ae_aload_n a_X8_init_20 rfl 0 rfl ?_
  refine ae_bipush (v := 13) a_X8_init_21 rfl ?_
  refine ae_newa (w := 13) a_X8_init_23 ga_29 (by decide) (by decide) (by decide) (by decide) (Nat.le_of_ble_eq_true rfl) (Nat.le_of_ble_eq_true rfl) ?_
  refine ae_nm (fun h_5 eh_5 => ?_)
  have hyp := hyp h_5 eh_5
  show AV _ _ _ 3 38 25 _ (.ref 29 :: _) 30 _
  refine ae_putF (q := 29) a_X8_init_25 pf_X8_18 (rfl : gm_cls 26 = 7) (by decide) (by decide) rfl rfl ?_
  refine ae_nm (fun h_6 eh_6 => ?_)
  have hyp := hyp h_6 eh_6
  exact ae_vret rfl a_X8_init_28 rfl rfl rfl hyp
def m_X2_init : Mt := (yX2_init, cX2_init, 1, none, { frames := 2, cells := 2, slots := 12, locals := 40 })
theorem ok_X2_init : NOk1 m_X2_init 0 := ⟨gm_mem 198 (by decide +kernel) rfl, gm_mem 72 (by decide +kernel) rfl, by decide +kernel⟩
theorem in_X2_init : Cond.instanceMethod yX2_init ∈ gm_ws := gm_mem 197 (by decide +kernel) rfl
theorem a_X2_init_0 : At m_X2_init 0 (.aload_n 0) 1 1 := at_i (by decide +kernel) rfl
theorem a_X2_init_1 : At m_X2_init 1 (.invokespecial 1) 3 4 := at_i (by decide +kernel) rfl
theorem a_X2_init_4 : At m_X2_init 4 (.aload_n 0) 1 5 := at_i (by decide +kernel) rfl
theorem a_X2_init_5 : At m_X2_init 5 (.new 7) 3 8 := at_i (by decide +kernel) rfl
theorem a_X2_init_8 : At m_X2_init 8 (.dup) 1 9 := at_i (by decide +kernel) rfl
theorem a_X2_init_9 : At m_X2_init 9 (.invokespecial 9) 3 12 := at_i (by decide +kernel) rfl
theorem a_X2_init_12 : At m_X2_init 12 (.putfield 10) 3 15 := at_i (by decide +kernel) rfl
theorem a_X2_init_15 : At m_X2_init 15 (.aload_n 0) 1 16 := at_i (by decide +kernel) rfl
theorem a_X2_init_16 : At m_X2_init 16 (.new 7) 3 19 := at_i (by decide +kernel) rfl
theorem a_X2_init_19 : At m_X2_init 19 (.dup) 1 20 := at_i (by decide +kernel) rfl
theorem a_X2_init_20 : At m_X2_init 20 (.invokespecial 9) 3 23 := at_i (by decide +kernel) rfl
theorem a_X2_init_23 : At m_X2_init 23 (.putfield 16) 3 26 := at_i (by decide +kernel) rfl
theorem a_X2_init_26 : At m_X2_init 26 (.return_) 1 27 := at_i (by decide +kernel) rfl
def f_X2_init (h : Mem) (Q : Mem → Prop) : Prop :=
  ∀ h_1 : Mem, h_1 = gm_new h 21 →
  f_X1_init 21 h_1 fun h_2 =>
  ∀ h_3 : Mem, h_3 = gm_st h_2 20 0 1 →
  ∀ h_4 : Mem, h_4 = gm_new h_3 22 →
  f_X1_init 22 h_4 fun h_5 =>
  ∀ h_6 : Mem, h_6 = gm_st h_5 20 1 1 →
  Q h_6
set_option maxRecDepth 20000 in
theorem t_X2_init (h : Mem) (Q : Mem → Prop) (hyp : f_X2_init h Q) : CnA m_X2_init [.ref 20] 21 23 h Q := by
  refine ae_entry (lv := [(0, .ref 20)]) pn_X2 (Nat.le_of_ble_eq_true rfl) rfl ?_
  unfold f_X2_init at hyp
  refine ae_aload_n a_X2_init_0 rfl 0 rfl ?_
  refine ae_obj a_X2_init_1 lo_X2_1 (Nat.le_of_ble_eq_true rfl) (Nat.le_of_ble_eq_true rfl) ?_
  refine ae_aload_n a_X2_init_4 rfl 0 rfl ?_
  refine ae_new a_X2_init_5 nw_X2_7 (rfl : gm_cls 21 = 0) (by decide) (Nat.le_of_ble_eq_true rfl) (Nat.le_of_ble_eq_true rfl) ?_
  refine ae_nm (fun h_1 eh_1 => ?_)
  have hyp := hyp h_1 eh_1
  show AV _ _ _ 1 6 8 _ _ 22 _
  refine ae_dup a_X2_init_8 rfl ?_
  refine ae_cN (n1 := 22) a_X2_init_9 ok_X1_init rfl in_X1_init lc_X2_9 ⟨Nat.le_of_ble_eq_true rfl, Nat.le_of_ble_eq_true rfl⟩ rfl (Nat.le_of_ble_eq_true rfl) (Nat.le_of_ble_eq_true rfl) (Nat.le_of_ble_eq_true rfl) (t_X1_init 21 (rfl : gm_cls 21 = 0) h_1 _ hyp) (fun h_2 hyp => ?_)
  show AV _ _ _ 1 6 12 _ _ 22 _
  refine ae_putF (q := 21) a_X2_init_12 pf_X2_10 (rfl : gm_cls 20 = 1) (by decide) (by decide) rfl rfl ?_
  refine ae_nm (fun h_3 eh_3 => ?_)
  have hyp := hyp h_3 eh_3
  refine ae_aload_n a_X2_init_15 rfl 0 rfl ?_
  refine ae_new a_X2_init_16 nw_X2_7 (rfl : gm_cls 22 = 0) (by decide) (Nat.le_of_ble_eq_true rfl) (Nat.le_of_ble_eq_true rfl) ?_
  refine ae_nm (fun h_4 eh_4 => ?_)
  have hyp := hyp h_4 eh_4
  show AV _ _ _ 2 12 19 _ _ 23 _
  refine ae_dup a_X2_init_19 rfl ?_
  refine ae_cN (n1 := 23) a_X2_init_20 ok_X1_init rfl in_X1_init lc_X2_9 ⟨Nat.le_of_ble_eq_true rfl, Nat.le_of_ble_eq_true rfl⟩ rfl (Nat.le_of_ble_eq_true rfl) (Nat.le_of_ble_eq_true rfl) (Nat.le_of_ble_eq_true rfl) (t_X1_init 22 (rfl : gm_cls 22 = 0) h_4 _ hyp) (fun h_5 hyp => ?_)
  show AV _ _ _ 2 12 23 _ _ 23 _
  refine ae_putF (q := 22) a_X2_init_23 pf_X2_16 (rfl : gm_cls 20 = 1) (by decide) (by decide) rfl rfl ?_
  refine ae_nm (fun h_6 eh_6 => ?_)
  have hyp := hyp h_6 eh_6
  exact ae_vret rfl a_X2_init_26 rfl rfl rfl hyp
def m_X4_init : Mt := (yX4_init, cX4_init, 1, none, { frames := 2, cells := 2, slots := 18, locals := 40 })
theorem ok_X4_init : NOk1 m_X4_init 0 := ⟨gm_mem 213 (by decide +kernel) rfl, gm_mem 73 (by decide +kernel) rfl, by decide +kernel⟩
theorem in_X4_init : Cond.instanceMethod yX4_init ∈ gm_ws := gm_mem 212 (by decide +kernel) rfl
theorem a_X4_init_0 : At m_X4_init 0 (.aload_n 0) 1 1 := at_i (by decide +kernel) rfl
theorem a_X4_init_1 : At m_X4_init 1 (.invokespecial 3) 3 4 := at_i (by decide +kernel) rfl
theorem a_X4_init_4 : At m_X4_init 4 (.aload_n 0) 1 5 := at_i (by decide +kernel) rfl
theorem a_X4_init_5 : At m_X4_init 5 (.new 9) 3 8 := at_i (by decide +kernel) rfl
theorem a_X4_init_8 : At m_X4_init 8 (.dup) 1 9 := at_i (by decide +kernel) rfl
theorem a_X4_init_9 : At m_X4_init 9 (.invokespecial 11) 3 12 := at_i (by decide +kernel) rfl
theorem a_X4_init_12 : At m_X4_init 12 (.putfield 12) 3 15 := at_i (by decide +kernel) rfl
theorem a_X4_init_15 : At m_X4_init 15 (.aload_n 0) 1 16 := at_i (by decide +kernel) rfl
theorem a_X4_init_16 : At m_X4_init 16 (.bipush 12) 2 18 := at_i (by decide +kernel) rfl
theorem a_X4_init_18 : At m_X4_init 18 (.newarray .int) 2 20 := at_i (by decide +kernel) rfl
theorem a_X4_init_20 : At m_X4_init 20 (.putfield 18) 3 23 := at_i (by decide +kernel) rfl
theorem a_X4_init_23 : At m_X4_init 23 (.return_) 1 24 := at_i (by decide +kernel) rfl
def f_X4_init (h : Mem) (Q : Mem → Prop) : Prop :=
  ∀ h_1 : Mem, h_1 = gm_new h 24 →
  f_X1_init 24 h_1 fun h_2 =>
  ∀ h_3 : Mem, h_3 = gm_st h_2 23 0 1 →
  ∀ h_4 : Mem, h_4 = gm_new h_3 25 →
  ∀ h_5 : Mem, h_5 = gm_st h_4 23 1 1 →
  Q h_5
set_option maxRecDepth 20000 in
theorem t_X4_init (h : Mem) (Q : Mem → Prop) (hyp : f_X4_init h Q) : CnA m_X4_init [.ref 23] 24 26 h Q := by
  refine ae_entry (lv := [(0, .ref 23)]) pn_X4 (Nat.le_of_ble_eq_true rfl) rfl ?_
  unfold f_X4_init at hyp
  refine ae_aload_n a_X4_init_0 rfl 0 rfl ?_
  refine ae_obj a_X4_init_1 lo_X4_3 (Nat.le_of_ble_eq_true rfl) (Nat.le_of_ble_eq_true rfl) ?_
  refine ae_aload_n a_X4_init_4 rfl 0 rfl ?_
  refine ae_new a_X4_init_5 nw_X4_9 (rfl : gm_cls 24 = 0) (by decide) (Nat.le_of_ble_eq_true rfl) (Nat.le_of_ble_eq_true rfl) ?_
  refine ae_nm (fun h_1 eh_1 => ?_)
  have hyp := hyp h_1 eh_1
  show AV _ _ _ 1 6 8 _ _ 25 _
  refine ae_dup a_X4_init_8 rfl ?_
  refine ae_cN (n1 := 25) a_X4_init_9 ok_X1_init rfl in_X1_init lc_X4_11 ⟨Nat.le_of_ble_eq_true rfl, Nat.le_of_ble_eq_true rfl⟩ rfl (Nat.le_of_ble_eq_true rfl) (Nat.le_of_ble_eq_true rfl) (Nat.le_of_ble_eq_true rfl) (t_X1_init 24 (rfl : gm_cls 24 = 0) h_1 _ hyp) (fun h_2 hyp => ?_)
  show AV _ _ _ 1 6 12 _ _ 25 _
  refine ae_putF (q := 24) a_X4_init_12 pf_X4_12 (rfl : gm_cls 23 = 3) (by decide) (by decide) rfl rfl ?_
  refine ae_nm (fun h_3 eh_3 => ?_)
  have hyp := hyp h_3 eh_3
  refine ae_aload_n a_X4_init_15 rfl 0 rfl ?_
  refine ae_bipush (v := 12) a_X4_init_16 rfl ?_
  refine ae_newa (w := 12) a_X4_init_18 ga_25 (by decide) (by decide) (by decide) (by decide) (Nat.le_of_ble_eq_true rfl) (Nat.le_of_ble_eq_true rfl) ?_
  refine ae_nm (fun h_4 eh_4 => ?_)
  have hyp := hyp h_4 eh_4
  show AV _ _ _ 2 18 20 _ (.ref 25 :: _) 26 _
  refine ae_putF (q := 25) a_X4_init_20 pf_X4_18 (rfl : gm_cls 23 = 3) (by decide) (by decide) rfl rfl ?_
  refine ae_nm (fun h_5 eh_5 => ?_)
  have hyp := hyp h_5 eh_5
  exact ae_vret rfl a_X4_init_23 rfl rfl rfl hyp
def m_X6_init : Mt := (yX6_init, cX6_init, 1, none, { frames := 1, cells := 5, slots := 56, locals := 60 })
theorem ok_X6_init : NOk1 m_X6_init 0 := ⟨gm_mem 98 (by decide +kernel) rfl, gm_mem 68 (by decide +kernel) rfl, by decide +kernel⟩
theorem in_X6_init : Cond.instanceMethod yX6_init ∈ gm_ws := gm_mem 97 (by decide +kernel) rfl
theorem a_X6_init_0 : At m_X6_init 0 (.aload_n 0) 1 1 := at_i (by decide +kernel) rfl
theorem a_X6_init_1 : At m_X6_init 1 (.invokespecial 3) 3 4 := at_i (by decide +kernel) rfl
theorem a_X6_init_4 : At m_X6_init 4 (.aload_n 0) 1 5 := at_i (by decide +kernel) rfl
theorem a_X6_init_5 : At m_X6_init 5 (.bipush 12) 2 7 := at_i (by decide +kernel) rfl
theorem a_X6_init_7 : At m_X6_init 7 (.newarray .int) 2 9 := at_i (by decide +kernel) rfl
theorem a_X6_init_9 : At m_X6_init 9 (.putfield 9) 3 12 := at_i (by decide +kernel) rfl
theorem a_X6_init_12 : At m_X6_init 12 (.aload_n 0) 1 13 := at_i (by decide +kernel) rfl
theorem a_X6_init_13 : At m_X6_init 13 (.bipush 12) 2 15 := at_i (by decide +kernel) rfl
theorem a_X6_init_15 : At m_X6_init 15 (.newarray .int) 2 17 := at_i (by decide +kernel) rfl
theorem a_X6_init_17 : At m_X6_init 17 (.putfield 15) 3 20 := at_i (by decide +kernel) rfl
theorem a_X6_init_20 : At m_X6_init 20 (.aload_n 0) 1 21 := at_i (by decide +kernel) rfl
theorem a_X6_init_21 : At m_X6_init 21 (.bipush 12) 2 23 := at_i (by decide +kernel) rfl
theorem a_X6_init_23 : At m_X6_init 23 (.newarray .int) 2 25 := at_i (by decide +kernel) rfl
theorem a_X6_init_25 : At m_X6_init 25 (.putfield 18) 3 28 := at_i (by decide +kernel) rfl
theorem a_X6_init_28 : At m_X6_init 28 (.aload_n 0) 1 29 := at_i (by decide +kernel) rfl
theorem a_X6_init_29 : At m_X6_init 29 (.bipush 10) 2 31 := at_i (by decide +kernel) rfl
theorem a_X6_init_31 : At m_X6_init 31 (.newarray .int) 2 33 := at_i (by decide +kernel) rfl
theorem a_X6_init_33 : At m_X6_init 33 (.putfield 21) 3 36 := at_i (by decide +kernel) rfl
theorem a_X6_init_36 : At m_X6_init 36 (.aload_n 0) 1 37 := at_i (by decide +kernel) rfl
theorem a_X6_init_37 : At m_X6_init 37 (.bipush 10) 2 39 := at_i (by decide +kernel) rfl
theorem a_X6_init_39 : At m_X6_init 39 (.newarray .int) 2 41 := at_i (by decide +kernel) rfl
theorem a_X6_init_41 : At m_X6_init 41 (.putfield 24) 3 44 := at_i (by decide +kernel) rfl
theorem a_X6_init_44 : At m_X6_init 44 (.aload_n 0) 1 45 := at_i (by decide +kernel) rfl
theorem a_X6_init_45 : At m_X6_init 45 (.iconst 1) 1 46 := at_i (by decide +kernel) rfl
theorem a_X6_init_46 : At m_X6_init 46 (.putfield 27) 3 49 := at_i (by decide +kernel) rfl
theorem a_X6_init_49 : At m_X6_init 49 (.getstatic 31) 3 52 := at_i (by decide +kernel) rfl
theorem a_X6_init_52 : At m_X6_init 52 (.iconst 0) 1 53 := at_i (by decide +kernel) rfl
theorem a_X6_init_53 : At m_X6_init 53 (.aload_n 0) 1 54 := at_i (by decide +kernel) rfl
theorem a_X6_init_54 : At m_X6_init 54 (.getfield 21) 3 57 := at_i (by decide +kernel) rfl
theorem a_X6_init_57 : At m_X6_init 57 (.iconst 0) 1 58 := at_i (by decide +kernel) rfl
theorem a_X6_init_58 : At m_X6_init 58 (.bipush 10) 2 60 := at_i (by decide +kernel) rfl
theorem a_X6_init_60 : At m_X6_init 60 (.invokestatic 34) 3 63 := at_i (by decide +kernel) rfl
theorem a_X6_init_63 : At m_X6_init 63 (.aload_n 0) 1 64 := at_i (by decide +kernel) rfl
theorem a_X6_init_64 : At m_X6_init 64 (.getfield 24) 3 67 := at_i (by decide +kernel) rfl
theorem a_X6_init_67 : At m_X6_init 67 (.iconst (-1)) 1 68 := at_i (by decide +kernel) rfl
theorem a_X6_init_68 : At m_X6_init 68 (.invokestatic 40) 3 71 := at_i (by decide +kernel) rfl
theorem a_X6_init_71 : At m_X6_init 71 (.return_) 1 72 := at_i (by decide +kernel) rfl
def f_X6_init (k0 : Nat) (h : Mem) (Q : Mem → Prop) : Prop :=
  ∀ h_1 : Mem, h_1 = gm_new h (k0 + 1) →
  ∀ h_2 : Mem, h_2 = gm_st h_1 k0 0 1 →
  ∀ h_3 : Mem, h_3 = gm_new h_2 (k0 + 2) →
  ∀ h_4 : Mem, h_4 = gm_st h_3 k0 1 1 →
  ∀ h_5 : Mem, h_5 = gm_new h_4 (k0 + 3) →
  ∀ h_6 : Mem, h_6 = gm_st h_5 k0 2 1 →
  ∀ h_7 : Mem, h_7 = gm_new h_6 (k0 + 4) →
  ∀ h_8 : Mem, h_8 = gm_st h_7 k0 3 1 →
  ∀ h_9 : Mem, h_9 = gm_new h_8 (k0 + 5) →
  ∀ h_10 : Mem, h_10 = gm_st h_9 k0 4 1 →
  ∀ h_11 : Mem, h_11 = gm_st h_10 k0 10 (1 : Int32) →
  ¬ h_11 k0 3 = 0 ∧
  ∀ h_13 : Mem, h_13 = (fun a => if a = k0 + 4 then va_cpy (fun j => (gm_tab 0).getD j 0) (h_11 (k0 + 4)) 0 0 10 else h_11 a) →
  ¬ h_13 k0 4 = 0 ∧
  f_J7_fill_53178 (k0 + 5) 10 (-1) h_13 fun h_15 =>
  Q h_15
set_option maxRecDepth 20000 in
theorem t_X6_init (k0 : Nat) (hk0 : gm_cls k0 = 5) (h : Mem) (Q : Mem → Prop) (hyp : f_X6_init k0 h Q) : CnA m_X6_init [.ref k0] (k0 + 1) (k0 + 6) h Q := by
  have hn57 : k0 + 6 ≤ 57 := kb5 hk0
  refine ae_entry (lv := [(0, .ref k0)]) pn_X6 (Nat.le_of_ble_eq_true rfl) rfl ?_
  unfold f_X6_init at hyp
  refine ae_aload_n a_X6_init_0 rfl 0 rfl ?_
  refine ae_obj a_X6_init_1 lo_X6_3 (Nat.le_of_ble_eq_true rfl) (Nat.le_of_ble_eq_true rfl) ?_
  refine ae_aload_n a_X6_init_4 rfl 0 rfl ?_
  refine ae_bipush (v := 12) a_X6_init_5 rfl ?_
  refine ae_newa (w := 12) a_X6_init_7 (ka5_0 hk0) (by decide) (by decide) (by decide) (by omega) (Nat.le_of_ble_eq_true rfl) (Nat.le_of_ble_eq_true rfl) ?_
  refine ae_nm (fun h_1 eh_1 => ?_)
  have hyp := hyp h_1 eh_1
  show AV _ _ _ 1 12 9 _ (.ref (k0 + 1) :: _) (k0 + 2) _
  refine ae_putF (q := k0 + 1) a_X6_init_9 pf_X6_9 hk0 (by omega) (by omega) rfl (kr5_0 hk0) ?_
  refine ae_nm (fun h_2 eh_2 => ?_)
  have hyp := hyp h_2 eh_2
  refine ae_aload_n a_X6_init_12 rfl 0 rfl ?_
  refine ae_bipush (v := 12) a_X6_init_13 rfl ?_
  refine ae_newa (w := 12) a_X6_init_15 (ka5_1 hk0) (by decide) (by decide) (by decide) (by omega) (Nat.le_of_ble_eq_true rfl) (Nat.le_of_ble_eq_true rfl) ?_
  refine ae_nm (fun h_3 eh_3 => ?_)
  have hyp := hyp h_3 eh_3
  show AV _ _ _ 2 24 17 _ (.ref (k0 + 2) :: _) (k0 + 3) _
  refine ae_putF (q := k0 + 2) a_X6_init_17 pf_X6_15 hk0 (by omega) (by omega) rfl (kr5_1 hk0) ?_
  refine ae_nm (fun h_4 eh_4 => ?_)
  have hyp := hyp h_4 eh_4
  refine ae_aload_n a_X6_init_20 rfl 0 rfl ?_
  refine ae_bipush (v := 12) a_X6_init_21 rfl ?_
  refine ae_newa (w := 12) a_X6_init_23 (ka5_2 hk0) (by decide) (by decide) (by decide) (by omega) (Nat.le_of_ble_eq_true rfl) (Nat.le_of_ble_eq_true rfl) ?_
  refine ae_nm (fun h_5 eh_5 => ?_)
  have hyp := hyp h_5 eh_5
  show AV _ _ _ 3 36 25 _ (.ref (k0 + 3) :: _) (k0 + 4) _
  refine ae_putF (q := k0 + 3) a_X6_init_25 pf_X6_18 hk0 (by omega) (by omega) rfl (kr5_2 hk0) ?_
  refine ae_nm (fun h_6 eh_6 => ?_)
  have hyp := hyp h_6 eh_6
  refine ae_aload_n a_X6_init_28 rfl 0 rfl ?_
  refine ae_bipush (v := 10) a_X6_init_29 rfl ?_
  refine ae_newa (w := 10) a_X6_init_31 (ka5_3 hk0) (by decide) (by decide) (by decide) (by omega) (Nat.le_of_ble_eq_true rfl) (Nat.le_of_ble_eq_true rfl) ?_
  refine ae_nm (fun h_7 eh_7 => ?_)
  have hyp := hyp h_7 eh_7
  show AV _ _ _ 4 46 33 _ (.ref (k0 + 4) :: _) (k0 + 5) _
  refine ae_putF (q := k0 + 4) a_X6_init_33 pf_X6_21 hk0 (by omega) (by omega) rfl (kr5_3 hk0) ?_
  refine ae_nm (fun h_8 eh_8 => ?_)
  have hyp := hyp h_8 eh_8
  refine ae_aload_n a_X6_init_36 rfl 0 rfl ?_
  refine ae_bipush (v := 10) a_X6_init_37 rfl ?_
  refine ae_newa (w := 10) a_X6_init_39 (ka5_4 hk0) (by decide) (by decide) (by decide) (by omega) (Nat.le_of_ble_eq_true rfl) (Nat.le_of_ble_eq_true rfl) ?_
  refine ae_nm (fun h_9 eh_9 => ?_)
  have hyp := hyp h_9 eh_9
  show AV _ _ _ 5 56 41 _ (.ref (k0 + 5) :: _) (k0 + 6) _
  refine ae_putF (q := k0 + 5) a_X6_init_41 pf_X6_24 hk0 (by omega) (by omega) rfl (kr5_4 hk0) ?_
  refine ae_nm (fun h_10 eh_10 => ?_)
  have hyp := hyp h_10 eh_10
  refine ae_aload_n a_X6_init_44 rfl 0 rfl ?_
  refine ae_iconst (v := 1) a_X6_init_45 rfl ?_
  refine ae_putI a_X6_init_46 pd_X6_27 hk0 (by omega) (by omega) ?_
  refine ae_nm (fun h_11 eh_11 => ?_)
  have hyp := hyp h_11 eh_11
  refine ae_getsN (i := 0) a_X6_init_49 (by decide) rfl lg_X6_31 ?_
  refine ae_iconst (v := 0) a_X6_init_52 rfl ?_
  refine ae_aload_n a_X6_init_53 rfl 0 rfl ?_
  obtain ⟨z_12, hyp⟩ := hyp
  refine ae_getR (q := k0 + 4) a_X6_init_54 fdi_X6_21 hk0 (by omega) (kr5_3 hk0) z_12 ?_
  refine ae_iconst (v := 0) a_X6_init_57 rfl ?_
  refine ae_bipush (v := 10) a_X6_init_58 rfl ?_
  refine ae_copyT (i := 0) a_X6_init_60 la_X6_34 (by decide) (ka5_3 hk0) (by omega) (by omega) rfl rfl (Nat.le_of_ble_eq_true rfl) (Nat.le_of_ble_eq_true rfl) ?_
  refine ae_nm (fun h_13 eh_13 => ?_)
  have hyp := hyp h_13 eh_13
  refine ae_aload_n a_X6_init_63 rfl 0 rfl ?_
  obtain ⟨z_14, hyp⟩ := hyp
  refine ae_getR (q := k0 + 5) a_X6_init_64 fdi_X6_24 hk0 (by omega) (kr5_4 hk0) z_14 ?_
  refine ae_iconst (v := -1) a_X6_init_67 rfl ?_
  refine ae_cS [.ref (k0 + 5), .int (-1 : Int32)] (rest := []) (n1 := k0 + 6) a_X6_init_68 ok_J7_fill_53178 lf_X6_40 ⟨Nat.le_of_ble_eq_true rfl, Nat.le_of_ble_eq_true rfl⟩ rfl rfl (Nat.le_of_ble_eq_true rfl) (Nat.le_of_ble_eq_true rfl) (Nat.le_of_ble_eq_true rfl) (tA_fill (k0 + 5) 10 (-1) (ka5_4 hk0) (k0 + 6) (by omega) (by omega) h_13 _ hyp) (fun h_15 hyp => ?_)
  exact ae_vret rfl a_X6_init_71 rfl rfl rfl hyp
def m_X9_init : Mt := (yX9_init, cX9_init, 2, none, { frames := 3, cells := 42, slots := 596, locals := 80 })
theorem ok_X9_init : NOk1 m_X9_init 0 := ⟨gm_mem 90 (by decide +kernel) rfl, gm_mem 67 (by decide +kernel) rfl, by decide +kernel⟩
theorem in_X9_init : Cond.instanceMethod yX9_init ∈ gm_ws := gm_mem 89 (by decide +kernel) rfl
theorem a_X9_init_0 : At m_X9_init 0 (.aload_n 0) 1 1 := at_i (by decide +kernel) rfl
theorem a_X9_init_1 : At m_X9_init 1 (.invokespecial 1) 3 4 := at_i (by decide +kernel) rfl
theorem a_X9_init_4 : At m_X9_init 4 (.aload_n 0) 1 5 := at_i (by decide +kernel) rfl
theorem a_X9_init_5 : At m_X9_init 5 (.new 7) 3 8 := at_i (by decide +kernel) rfl
theorem a_X9_init_8 : At m_X9_init 8 (.dup) 1 9 := at_i (by decide +kernel) rfl
theorem a_X9_init_9 : At m_X9_init 9 (.invokespecial 9) 3 12 := at_i (by decide +kernel) rfl
theorem a_X9_init_12 : At m_X9_init 12 (.putfield 10) 3 15 := at_i (by decide +kernel) rfl
theorem a_X9_init_15 : At m_X9_init 15 (.aload_n 0) 1 16 := at_i (by decide +kernel) rfl
theorem a_X9_init_16 : At m_X9_init 16 (.new 7) 3 19 := at_i (by decide +kernel) rfl
theorem a_X9_init_19 : At m_X9_init 19 (.dup) 1 20 := at_i (by decide +kernel) rfl
theorem a_X9_init_20 : At m_X9_init 20 (.invokespecial 9) 3 23 := at_i (by decide +kernel) rfl
theorem a_X9_init_23 : At m_X9_init 23 (.putfield 16) 3 26 := at_i (by decide +kernel) rfl
theorem a_X9_init_26 : At m_X9_init 26 (.aload_n 0) 1 27 := at_i (by decide +kernel) rfl
theorem a_X9_init_27 : At m_X9_init 27 (.new 7) 3 30 := at_i (by decide +kernel) rfl
theorem a_X9_init_30 : At m_X9_init 30 (.dup) 1 31 := at_i (by decide +kernel) rfl
theorem a_X9_init_31 : At m_X9_init 31 (.invokespecial 9) 3 34 := at_i (by decide +kernel) rfl
theorem a_X9_init_34 : At m_X9_init 34 (.putfield 19) 3 37 := at_i (by decide +kernel) rfl
theorem a_X9_init_37 : At m_X9_init 37 (.aload_n 0) 1 38 := at_i (by decide +kernel) rfl
theorem a_X9_init_38 : At m_X9_init 38 (.new 22) 3 41 := at_i (by decide +kernel) rfl
theorem a_X9_init_41 : At m_X9_init 41 (.dup) 1 42 := at_i (by decide +kernel) rfl
theorem a_X9_init_42 : At m_X9_init 42 (.invokespecial 24) 3 45 := at_i (by decide +kernel) rfl
theorem a_X9_init_45 : At m_X9_init 45 (.putfield 25) 3 48 := at_i (by decide +kernel) rfl
theorem a_X9_init_48 : At m_X9_init 48 (.aload_n 0) 1 49 := at_i (by decide +kernel) rfl
theorem a_X9_init_49 : At m_X9_init 49 (.new 29) 3 52 := at_i (by decide +kernel) rfl
theorem a_X9_init_52 : At m_X9_init 52 (.dup) 1 53 := at_i (by decide +kernel) rfl
theorem a_X9_init_53 : At m_X9_init 53 (.invokespecial 31) 3 56 := at_i (by decide +kernel) rfl
theorem a_X9_init_56 : At m_X9_init 56 (.putfield 32) 3 59 := at_i (by decide +kernel) rfl
theorem a_X9_init_59 : At m_X9_init 59 (.aload_n 0) 1 60 := at_i (by decide +kernel) rfl
theorem a_X9_init_60 : At m_X9_init 60 (.new 36) 3 63 := at_i (by decide +kernel) rfl
theorem a_X9_init_63 : At m_X9_init 63 (.dup) 1 64 := at_i (by decide +kernel) rfl
theorem a_X9_init_64 : At m_X9_init 64 (.invokespecial 38) 3 67 := at_i (by decide +kernel) rfl
theorem a_X9_init_67 : At m_X9_init 67 (.putfield 39) 3 70 := at_i (by decide +kernel) rfl
theorem a_X9_init_70 : At m_X9_init 70 (.aload_n 0) 1 71 := at_i (by decide +kernel) rfl
theorem a_X9_init_71 : At m_X9_init 71 (.new 43) 3 74 := at_i (by decide +kernel) rfl
theorem a_X9_init_74 : At m_X9_init 74 (.dup) 1 75 := at_i (by decide +kernel) rfl
theorem a_X9_init_75 : At m_X9_init 75 (.invokespecial 45) 3 78 := at_i (by decide +kernel) rfl
theorem a_X9_init_78 : At m_X9_init 78 (.putfield 46) 3 81 := at_i (by decide +kernel) rfl
theorem a_X9_init_81 : At m_X9_init 81 (.aload_n 0) 1 82 := at_i (by decide +kernel) rfl
theorem a_X9_init_82 : At m_X9_init 82 (.new 50) 3 85 := at_i (by decide +kernel) rfl
theorem a_X9_init_85 : At m_X9_init 85 (.dup) 1 86 := at_i (by decide +kernel) rfl
theorem a_X9_init_86 : At m_X9_init 86 (.invokespecial 52) 3 89 := at_i (by decide +kernel) rfl
theorem a_X9_init_89 : At m_X9_init 89 (.putfield 53) 3 92 := at_i (by decide +kernel) rfl
theorem a_X9_init_92 : At m_X9_init 92 (.aload_n 0) 1 93 := at_i (by decide +kernel) rfl
theorem a_X9_init_93 : At m_X9_init 93 (.new 57) 3 96 := at_i (by decide +kernel) rfl
theorem a_X9_init_96 : At m_X9_init 96 (.dup) 1 97 := at_i (by decide +kernel) rfl
theorem a_X9_init_97 : At m_X9_init 97 (.invokespecial 59) 3 100 := at_i (by decide +kernel) rfl
theorem a_X9_init_100 : At m_X9_init 100 (.putfield 60) 3 103 := at_i (by decide +kernel) rfl
theorem a_X9_init_103 : At m_X9_init 103 (.aload_n 0) 1 104 := at_i (by decide +kernel) rfl
theorem a_X9_init_104 : At m_X9_init 104 (.iconst 4) 1 105 := at_i (by decide +kernel) rfl
theorem a_X9_init_105 : At m_X9_init 105 (.anewarray 64) 3 108 := at_i (by decide +kernel) rfl
theorem a_X9_init_108 : At m_X9_init 108 (.putfield 66) 3 111 := at_i (by decide +kernel) rfl
theorem a_X9_init_111 : At m_X9_init 111 (.aload_n 0) 1 112 := at_i (by decide +kernel) rfl
theorem a_X9_init_112 : At m_X9_init 112 (.bipush 7) 2 114 := at_i (by decide +kernel) rfl
theorem a_X9_init_114 : At m_X9_init 114 (.newarray .int) 2 116 := at_i (by decide +kernel) rfl
theorem a_X9_init_116 : At m_X9_init 116 (.putfield 70) 3 119 := at_i (by decide +kernel) rfl
theorem a_X9_init_119 : At m_X9_init 119 (.iconst 0) 1 120 := at_i (by decide +kernel) rfl
theorem a_X9_init_120 : At m_X9_init 120 (.istore_n 1) 1 121 := at_i (by decide +kernel) rfl
theorem a_X9_init_121 : At m_X9_init 121 (.iload_n 1) 1 122 := at_i (by decide +kernel) rfl
theorem a_X9_init_122 : At m_X9_init 122 (.iconst 4) 1 123 := at_i (by decide +kernel) rfl
theorem a_X9_init_123 : AtJ m_X9_init 123 (.if_icmp .ge 22) (22) 145 126 := at_j (by decide +kernel) (by decide) rfl
theorem a_X9_init_126 : At m_X9_init 126 (.aload_n 0) 1 127 := at_i (by decide +kernel) rfl
theorem a_X9_init_127 : At m_X9_init 127 (.getfield 66) 3 130 := at_i (by decide +kernel) rfl
theorem a_X9_init_130 : At m_X9_init 130 (.iload_n 1) 1 131 := at_i (by decide +kernel) rfl
theorem a_X9_init_131 : At m_X9_init 131 (.new 64) 3 134 := at_i (by decide +kernel) rfl
theorem a_X9_init_134 : At m_X9_init 134 (.dup) 1 135 := at_i (by decide +kernel) rfl
theorem a_X9_init_135 : At m_X9_init 135 (.invokespecial 74) 3 138 := at_i (by decide +kernel) rfl
theorem a_X9_init_138 : At m_X9_init 138 (.aastore) 1 139 := at_i (by decide +kernel) rfl
theorem a_X9_init_139 : At m_X9_init 139 (.iinc 1 1) 3 142 := at_i (by decide +kernel) rfl
theorem a_X9_init_142 : AtJ m_X9_init 142 (.goto (-21)) (-21) 121 145 := at_j (by decide +kernel) (by decide) rfl
theorem a_X9_init_145 : At m_X9_init 145 (.return_) 1 146 := at_i (by decide +kernel) rfl
def f_X9_init (h : Mem) (Q : Mem → Prop) : Prop :=
  ∀ h_1 : Mem, h_1 = gm_new h 1 →
  f_X6_init 1 h_1 fun h_2 =>
  ∀ h_3 : Mem, h_3 = gm_st h_2 0 0 1 →
  ∀ h_4 : Mem, h_4 = gm_new h_3 7 →
  f_X6_init 7 h_4 fun h_5 =>
  ∀ h_6 : Mem, h_6 = gm_st h_5 0 1 1 →
  ∀ h_7 : Mem, h_7 = gm_new h_6 13 →
  f_X6_init 13 h_7 fun h_8 =>
  ∀ h_9 : Mem, h_9 = gm_st h_8 0 2 1 →
  ∀ h_10 : Mem, h_10 = gm_new h_9 19 →
  f_X1_init 19 h_10 fun h_11 =>
  ∀ h_12 : Mem, h_12 = gm_st h_11 0 3 1 →
  ∀ h_13 : Mem, h_13 = gm_new h_12 20 →
  f_X2_init  h_13 fun h_14 =>
  ∀ h_15 : Mem, h_15 = gm_st h_14 0 4 1 →
  ∀ h_16 : Mem, h_16 = gm_new h_15 23 →
  f_X4_init  h_16 fun h_17 =>
  ∀ h_18 : Mem, h_18 = gm_st h_17 0 5 1 →
  ∀ h_19 : Mem, h_19 = gm_new h_18 26 →
  f_X8_init  h_19 fun h_20 =>
  ∀ h_21 : Mem, h_21 = gm_st h_20 0 6 1 →
  ∀ h_22 : Mem, h_22 = gm_new h_21 30 →
  f_X7_init  h_22 fun h_23 =>
  ∀ h_24 : Mem, h_24 = gm_st h_23 0 7 1 →
  ∀ h_25 : Mem, h_25 = gm_new h_24 32 →
  f_X3_init  h_25 fun h_26 =>
  ∀ h_27 : Mem, h_27 = gm_st h_26 0 8 1 →
  ∀ h_28 : Mem, h_28 = gm_new h_27 33 →
  ∀ h_29 : Mem, h_29 = gm_st h_28 0 9 1 →
  ∀ h_30 : Mem, h_30 = gm_new h_29 34 →
  ∀ h_31 : Mem, h_31 = gm_st h_30 0 10 1 →
  ¬ h_31 0 9 = 0 ∧
  ∀ h_33 : Mem, h_33 = gm_new h_31 35 →
  f_X5_init 35 h_33 fun h_34 =>
  ∀ h_35 : Mem, h_35 = gm_st h_34 33 0 1 →
  ¬ h_35 0 9 = 0 ∧
  ∀ h_37 : Mem, h_37 = gm_new h_35 37 →
  f_X5_init 37 h_37 fun h_38 =>
  ∀ h_39 : Mem, h_39 = gm_st h_38 33 1 1 →
  ¬ h_39 0 9 = 0 ∧
  ∀ h_41 : Mem, h_41 = gm_new h_39 39 →
  f_X5_init 39 h_41 fun h_42 =>
  ∀ h_43 : Mem, h_43 = gm_st h_42 33 2 1 →
  ¬ h_43 0 9 = 0 ∧
  ∀ h_45 : Mem, h_45 = gm_new h_43 41 →
  f_X5_init 41 h_45 fun h_46 =>
  ∀ h_47 : Mem, h_47 = gm_st h_46 33 3 1 →
  Q h_47
set_option maxRecDepth 20000 in
theorem t_X9_init (h : Mem) (Q : Mem → Prop) (hyp : f_X9_init h Q) : CnA m_X9_init [.ref 0] 1 43 h Q := by
  refine ae_entry (lv := [(0, .ref 0)]) pn_X9 (Nat.le_of_ble_eq_true rfl) rfl ?_
  unfold f_X9_init at hyp
  refine ae_aload_n a_X9_init_0 rfl 0 rfl ?_
  refine ae_obj a_X9_init_1 lo_X9_1 (Nat.le_of_ble_eq_true rfl) (Nat.le_of_ble_eq_true rfl) ?_
  refine ae_aload_n a_X9_init_4 rfl 0 rfl ?_
  refine ae_new a_X9_init_5 nw_X9_7 (rfl : gm_cls 1 = 5) (by decide) (Nat.le_of_ble_eq_true rfl) (Nat.le_of_ble_eq_true rfl) ?_
  refine ae_nm (fun h_1 eh_1 => ?_)
  have hyp := hyp h_1 eh_1
  show AV _ _ _ 1 11 8 _ _ 2 _
  refine ae_dup a_X9_init_8 rfl ?_
  refine ae_cI (n1 := 7) a_X9_init_9 ok_X6_init rfl in_X6_init lc_X9_9 ⟨Nat.le_of_ble_eq_true rfl, Nat.le_of_ble_eq_true rfl⟩ rfl (Nat.le_of_ble_eq_true rfl) (Nat.le_of_ble_eq_true rfl) (Nat.le_of_ble_eq_true rfl) (t_X6_init 1 (rfl : gm_cls 1 = 5) h_1 _ hyp) (fun h_2 hyp => ?_)
  show AV _ _ _ 6 67 12 _ _ 7 _
  refine ae_putF (q := 1) a_X9_init_12 pf_X9_10 (rfl : gm_cls 0 = 8) (by decide) (by decide) rfl rfl ?_
  refine ae_nm (fun h_3 eh_3 => ?_)
  have hyp := hyp h_3 eh_3
  refine ae_aload_n a_X9_init_15 rfl 0 rfl ?_
  refine ae_new a_X9_init_16 nw_X9_7 (rfl : gm_cls 7 = 5) (by decide) (Nat.le_of_ble_eq_true rfl) (Nat.le_of_ble_eq_true rfl) ?_
  refine ae_nm (fun h_4 eh_4 => ?_)
  have hyp := hyp h_4 eh_4
  show AV _ _ _ 7 78 19 _ _ 8 _
  refine ae_dup a_X9_init_19 rfl ?_
  refine ae_cI (n1 := 13) a_X9_init_20 ok_X6_init rfl in_X6_init lc_X9_9 ⟨Nat.le_of_ble_eq_true rfl, Nat.le_of_ble_eq_true rfl⟩ rfl (Nat.le_of_ble_eq_true rfl) (Nat.le_of_ble_eq_true rfl) (Nat.le_of_ble_eq_true rfl) (t_X6_init 7 (rfl : gm_cls 7 = 5) h_4 _ hyp) (fun h_5 hyp => ?_)
  show AV _ _ _ 12 134 23 _ _ 13 _
  refine ae_putF (q := 7) a_X9_init_23 pf_X9_16 (rfl : gm_cls 0 = 8) (by decide) (by decide) rfl rfl ?_
  refine ae_nm (fun h_6 eh_6 => ?_)
  have hyp := hyp h_6 eh_6
  refine ae_aload_n a_X9_init_26 rfl 0 rfl ?_
  refine ae_new a_X9_init_27 nw_X9_7 (rfl : gm_cls 13 = 5) (by decide) (Nat.le_of_ble_eq_true rfl) (Nat.le_of_ble_eq_true rfl) ?_
  refine ae_nm (fun h_7 eh_7 => ?_)
  have hyp := hyp h_7 eh_7
  show AV _ _ _ 13 145 30 _ _ 14 _
  refine ae_dup a_X9_init_30 rfl ?_
  refine ae_cI (n1 := 19) a_X9_init_31 ok_X6_init rfl in_X6_init lc_X9_9 ⟨Nat.le_of_ble_eq_true rfl, Nat.le_of_ble_eq_true rfl⟩ rfl (Nat.le_of_ble_eq_true rfl) (Nat.le_of_ble_eq_true rfl) (Nat.le_of_ble_eq_true rfl) (t_X6_init 13 (rfl : gm_cls 13 = 5) h_7 _ hyp) (fun h_8 hyp => ?_)
  show AV _ _ _ 18 201 34 _ _ 19 _
  refine ae_putF (q := 13) a_X9_init_34 pf_X9_19 (rfl : gm_cls 0 = 8) (by decide) (by decide) rfl rfl ?_
  refine ae_nm (fun h_9 eh_9 => ?_)
  have hyp := hyp h_9 eh_9
  refine ae_aload_n a_X9_init_37 rfl 0 rfl ?_
  refine ae_new a_X9_init_38 nw_X9_22 (rfl : gm_cls 19 = 0) (by decide) (Nat.le_of_ble_eq_true rfl) (Nat.le_of_ble_eq_true rfl) ?_
  refine ae_nm (fun h_10 eh_10 => ?_)
  have hyp := hyp h_10 eh_10
  show AV _ _ _ 19 207 41 _ _ 20 _
  refine ae_dup a_X9_init_41 rfl ?_
  refine ae_cN (n1 := 20) a_X9_init_42 ok_X1_init rfl in_X1_init lc_X9_24 ⟨Nat.le_of_ble_eq_true rfl, Nat.le_of_ble_eq_true rfl⟩ rfl (Nat.le_of_ble_eq_true rfl) (Nat.le_of_ble_eq_true rfl) (Nat.le_of_ble_eq_true rfl) (t_X1_init 19 (rfl : gm_cls 19 = 0) h_10 _ hyp) (fun h_11 hyp => ?_)
  show AV _ _ _ 19 207 45 _ _ 20 _
  refine ae_putF (q := 19) a_X9_init_45 pf_X9_25 (rfl : gm_cls 0 = 8) (by decide) (by decide) rfl rfl ?_
  refine ae_nm (fun h_12 eh_12 => ?_)
  have hyp := hyp h_12 eh_12
  refine ae_aload_n a_X9_init_48 rfl 0 rfl ?_
  refine ae_new a_X9_init_49 nw_X9_29 (rfl : gm_cls 20 = 1) (by decide) (Nat.le_of_ble_eq_true rfl) (Nat.le_of_ble_eq_true rfl) ?_
  refine ae_nm (fun h_13 eh_13 => ?_)
  have hyp := hyp h_13 eh_13
  show AV _ _ _ 20 209 52 _ _ 21 _
  refine ae_dup a_X9_init_52 rfl ?_
  refine ae_cN (n1 := 23) a_X9_init_53 ok_X2_init rfl in_X2_init lc_X9_31 ⟨Nat.le_of_ble_eq_true rfl, Nat.le_of_ble_eq_true rfl⟩ rfl (Nat.le_of_ble_eq_true rfl) (Nat.le_of_ble_eq_true rfl) (Nat.le_of_ble_eq_true rfl) (t_X2_init   h_13 _ hyp) (fun h_14 hyp => ?_)
  show AV _ _ _ 22 221 56 _ _ 23 _
  refine ae_putF (q := 20) a_X9_init_56 pf_X9_32 (rfl : gm_cls 0 = 8) (by decide) (by decide) rfl rfl ?_
  refine ae_nm (fun h_15 eh_15 => ?_)
  have hyp := hyp h_15 eh_15
  refine ae_aload_n a_X9_init_59 rfl 0 rfl ?_
  refine ae_new a_X9_init_60 nw_X9_36 (rfl : gm_cls 23 = 3) (by decide) (Nat.le_of_ble_eq_true rfl) (Nat.le_of_ble_eq_true rfl) ?_
  refine ae_nm (fun h_16 eh_16 => ?_)
  have hyp := hyp h_16 eh_16
  show AV _ _ _ 23 226 63 _ _ 24 _
  refine ae_dup a_X9_init_63 rfl ?_
  refine ae_cN (n1 := 26) a_X9_init_64 ok_X4_init rfl in_X4_init lc_X9_38 ⟨Nat.le_of_ble_eq_true rfl, Nat.le_of_ble_eq_true rfl⟩ rfl (Nat.le_of_ble_eq_true rfl) (Nat.le_of_ble_eq_true rfl) (Nat.le_of_ble_eq_true rfl) (t_X4_init   h_16 _ hyp) (fun h_17 hyp => ?_)
  show AV _ _ _ 25 244 67 _ _ 26 _
  refine ae_putF (q := 23) a_X9_init_67 pf_X9_39 (rfl : gm_cls 0 = 8) (by decide) (by decide) rfl rfl ?_
  refine ae_nm (fun h_18 eh_18 => ?_)
  have hyp := hyp h_18 eh_18
  refine ae_aload_n a_X9_init_70 rfl 0 rfl ?_
  refine ae_new a_X9_init_71 nw_X9_43 (rfl : gm_cls 26 = 7) (by decide) (Nat.le_of_ble_eq_true rfl) (Nat.le_of_ble_eq_true rfl) ?_
  refine ae_nm (fun h_19 eh_19 => ?_)
  have hyp := hyp h_19 eh_19
  show AV _ _ _ 26 247 74 _ _ 27 _
  refine ae_dup a_X9_init_74 rfl ?_
  refine ae_cN (n1 := 30) a_X9_init_75 ok_X8_init rfl in_X8_init lc_X9_45 ⟨Nat.le_of_ble_eq_true rfl, Nat.le_of_ble_eq_true rfl⟩ rfl (Nat.le_of_ble_eq_true rfl) (Nat.le_of_ble_eq_true rfl) (Nat.le_of_ble_eq_true rfl) (t_X8_init   h_19 _ hyp) (fun h_20 hyp => ?_)
  show AV _ _ _ 29 285 78 _ _ 30 _
  refine ae_putF (q := 26) a_X9_init_78 pf_X9_46 (rfl : gm_cls 0 = 8) (by decide) (by decide) rfl rfl ?_
  refine ae_nm (fun h_21 eh_21 => ?_)
  have hyp := hyp h_21 eh_21
  refine ae_aload_n a_X9_init_81 rfl 0 rfl ?_
  refine ae_new a_X9_init_82 nw_X9_50 (rfl : gm_cls 30 = 6) (by decide) (Nat.le_of_ble_eq_true rfl) (Nat.le_of_ble_eq_true rfl) ?_
  refine ae_nm (fun h_22 eh_22 => ?_)
  have hyp := hyp h_22 eh_22
  show AV _ _ _ 30 287 85 _ _ 31 _
  refine ae_dup a_X9_init_85 rfl ?_
  refine ae_cN (n1 := 32) a_X9_init_86 ok_X7_init rfl in_X7_init lc_X9_52 ⟨Nat.le_of_ble_eq_true rfl, Nat.le_of_ble_eq_true rfl⟩ rfl (Nat.le_of_ble_eq_true rfl) (Nat.le_of_ble_eq_true rfl) (Nat.le_of_ble_eq_true rfl) (t_X7_init   h_22 _ hyp) (fun h_23 hyp => ?_)
  show AV _ _ _ 31 407 89 _ _ 32 _
  refine ae_putF (q := 30) a_X9_init_89 pf_X9_53 (rfl : gm_cls 0 = 8) (by decide) (by decide) rfl rfl ?_
  refine ae_nm (fun h_24 eh_24 => ?_)
  have hyp := hyp h_24 eh_24
  refine ae_aload_n a_X9_init_92 rfl 0 rfl ?_
  refine ae_new a_X9_init_93 nw_X9_57 (rfl : gm_cls 32 = 2) (by decide) (Nat.le_of_ble_eq_true rfl) (Nat.le_of_ble_eq_true rfl) ?_
  refine ae_nm (fun h_25 eh_25 => ?_)
  have hyp := hyp h_25 eh_25
  show AV _ _ _ 32 413 96 _ _ 33 _
  refine ae_dup a_X9_init_96 rfl ?_
  refine ae_cN (n1 := 33) a_X9_init_97 ok_X3_init rfl in_X3_init lc_X9_59 ⟨Nat.le_of_ble_eq_true rfl, Nat.le_of_ble_eq_true rfl⟩ rfl (Nat.le_of_ble_eq_true rfl) (Nat.le_of_ble_eq_true rfl) (Nat.le_of_ble_eq_true rfl) (t_X3_init   h_25 _ hyp) (fun h_26 hyp => ?_)
  show AV _ _ _ 32 413 100 _ _ 33 _
  refine ae_putF (q := 32) a_X9_init_100 pf_X9_60 (rfl : gm_cls 0 = 8) (by decide) (by decide) rfl rfl ?_
  refine ae_nm (fun h_27 eh_27 => ?_)
  have hyp := hyp h_27 eh_27
  refine ae_aload_n a_X9_init_103 rfl 0 rfl ?_
  refine ae_iconst (v := 4) a_X9_init_104 rfl ?_
  refine ae_newq33 a_X9_init_105 cl_X9_64 rfl rfl (Nat.le_of_ble_eq_true rfl) (Nat.le_of_ble_eq_true rfl) ?_
  refine ae_nm (fun h_28 eh_28 => ?_)
  have hyp := hyp h_28 eh_28
  show AV _ _ _ 33 417 108 _ (.ref 33 :: _) 34 _
  refine ae_putF (q := 33) a_X9_init_108 pf_X9_66 (rfl : gm_cls 0 = 8) (by decide) (by decide) rfl rfl ?_
  refine ae_nm (fun h_29 eh_29 => ?_)
  have hyp := hyp h_29 eh_29
  refine ae_aload_n a_X9_init_111 rfl 0 rfl ?_
  refine ae_bipush (v := 7) a_X9_init_112 rfl ?_
  refine ae_newa (w := 7) a_X9_init_114 ga_34 (by decide) (by decide) (by decide) (by decide) (Nat.le_of_ble_eq_true rfl) (Nat.le_of_ble_eq_true rfl) ?_
  refine ae_nm (fun h_30 eh_30 => ?_)
  have hyp := hyp h_30 eh_30
  show AV _ _ _ 34 424 116 _ (.ref 34 :: _) 35 _
  refine ae_putF (q := 34) a_X9_init_116 pf_X9_70 (rfl : gm_cls 0 = 8) (by decide) (by decide) rfl rfl ?_
  refine ae_nm (fun h_31 eh_31 => ?_)
  have hyp := hyp h_31 eh_31
  refine ae_iconst (v := 0) a_X9_init_119 rfl ?_
  refine ae_istore_n (lv' := [(1, .int (0 : Int32)), (0, .ref 0)]) a_X9_init_120 rfl (Nat.le_of_ble_eq_true rfl) rfl ?_
  refine ae_iload_n a_X9_init_121 rfl 0 rfl ?_
  refine ae_iconst (v := 4) a_X9_init_122 rfl ?_
  refine ae_ge a_X9_init_123 (fun c => absurd c (by decide)) (fun _ => ?_)
  refine ae_aload_n a_X9_init_126 rfl 1 rfl ?_
  obtain ⟨z_32, hyp⟩ := hyp
  refine ae_getR (q := 33) a_X9_init_127 fdi_X9_66 (rfl : gm_cls 0 = 8) (by decide) rfl z_32 ?_
  refine ae_iload_n a_X9_init_130 rfl 0 rfl ?_
  refine ae_new a_X9_init_131 nw_X9_64 (rfl : gm_cls 35 = 4) (by decide) (Nat.le_of_ble_eq_true rfl) (Nat.le_of_ble_eq_true rfl) ?_
  refine ae_nm (fun h_33 eh_33 => ?_)
  have hyp := hyp h_33 eh_33
  show AV _ _ _ 35 427 134 _ _ 36 _
  refine ae_dup a_X9_init_134 rfl ?_
  refine ae_cN (n1 := 37) a_X9_init_135 ok_X5_init rfl in_X5_init lc_X9_74 ⟨Nat.le_of_ble_eq_true rfl, Nat.le_of_ble_eq_true rfl⟩ rfl (Nat.le_of_ble_eq_true rfl) (Nat.le_of_ble_eq_true rfl) (Nat.le_of_ble_eq_true rfl) (t_X5_init 35 (rfl : gm_cls 35 = 4) h_33 _ hyp) (fun h_34 hyp => ?_)
  show AV _ _ _ 36 467 138 _ _ 37 _
  refine ae_ast33 (j := 0) a_X9_init_138 lj_0_4.1 lj_0_4.2 (by decide) (by decide) (by decide) rfl ?_
  refine ae_nm (fun h_35 eh_35 => ?_)
  have hyp := hyp h_35 eh_35
  refine ae_iinc (v := 1) (lv' := [(1, .int (1 : Int32)), (0, .ref 0)]) a_X9_init_139 0 rfl rfl (Nat.le_of_ble_eq_true rfl) rfl ?_
  refine ae_goto a_X9_init_142 ?_
  refine ae_iload_n a_X9_init_121 rfl 0 rfl ?_
  refine ae_iconst (v := 4) a_X9_init_122 rfl ?_
  refine ae_ge a_X9_init_123 (fun c => absurd c (by decide)) (fun _ => ?_)
  refine ae_aload_n a_X9_init_126 rfl 1 rfl ?_
  obtain ⟨z_36, hyp⟩ := hyp
  refine ae_getR (q := 33) a_X9_init_127 fdi_X9_66 (rfl : gm_cls 0 = 8) (by decide) rfl z_36 ?_
  refine ae_iload_n a_X9_init_130 rfl 0 rfl ?_
  refine ae_new a_X9_init_131 nw_X9_64 (rfl : gm_cls 37 = 4) (by decide) (Nat.le_of_ble_eq_true rfl) (Nat.le_of_ble_eq_true rfl) ?_
  refine ae_nm (fun h_37 eh_37 => ?_)
  have hyp := hyp h_37 eh_37
  show AV _ _ _ 37 470 134 _ _ 38 _
  refine ae_dup a_X9_init_134 rfl ?_
  refine ae_cN (n1 := 39) a_X9_init_135 ok_X5_init rfl in_X5_init lc_X9_74 ⟨Nat.le_of_ble_eq_true rfl, Nat.le_of_ble_eq_true rfl⟩ rfl (Nat.le_of_ble_eq_true rfl) (Nat.le_of_ble_eq_true rfl) (Nat.le_of_ble_eq_true rfl) (t_X5_init 37 (rfl : gm_cls 37 = 4) h_37 _ hyp) (fun h_38 hyp => ?_)
  show AV _ _ _ 38 510 138 _ _ 39 _
  refine ae_ast33 (j := 1) a_X9_init_138 lj_1_4.1 lj_1_4.2 (by decide) (by decide) (by decide) rfl ?_
  refine ae_nm (fun h_39 eh_39 => ?_)
  have hyp := hyp h_39 eh_39
  refine ae_iinc (v := 2) (lv' := [(1, .int (2 : Int32)), (0, .ref 0)]) a_X9_init_139 0 rfl rfl (Nat.le_of_ble_eq_true rfl) rfl ?_
  refine ae_goto a_X9_init_142 ?_
  refine ae_iload_n a_X9_init_121 rfl 0 rfl ?_
  refine ae_iconst (v := 4) a_X9_init_122 rfl ?_
  refine ae_ge a_X9_init_123 (fun c => absurd c (by decide)) (fun _ => ?_)
  refine ae_aload_n a_X9_init_126 rfl 1 rfl ?_
  obtain ⟨z_40, hyp⟩ := hyp
  refine ae_getR (q := 33) a_X9_init_127 fdi_X9_66 (rfl : gm_cls 0 = 8) (by decide) rfl z_40 ?_
  refine ae_iload_n a_X9_init_130 rfl 0 rfl ?_
  refine ae_new a_X9_init_131 nw_X9_64 (rfl : gm_cls 39 = 4) (by decide) (Nat.le_of_ble_eq_true rfl) (Nat.le_of_ble_eq_true rfl) ?_
  refine ae_nm (fun h_41 eh_41 => ?_)
  have hyp := hyp h_41 eh_41
  show AV _ _ _ 39 513 134 _ _ 40 _
  refine ae_dup a_X9_init_134 rfl ?_
  refine ae_cN (n1 := 41) a_X9_init_135 ok_X5_init rfl in_X5_init lc_X9_74 ⟨Nat.le_of_ble_eq_true rfl, Nat.le_of_ble_eq_true rfl⟩ rfl (Nat.le_of_ble_eq_true rfl) (Nat.le_of_ble_eq_true rfl) (Nat.le_of_ble_eq_true rfl) (t_X5_init 39 (rfl : gm_cls 39 = 4) h_41 _ hyp) (fun h_42 hyp => ?_)
  show AV _ _ _ 40 553 138 _ _ 41 _
  refine ae_ast33 (j := 2) a_X9_init_138 lj_2_4.1 lj_2_4.2 (by decide) (by decide) (by decide) rfl ?_
  refine ae_nm (fun h_43 eh_43 => ?_)
  have hyp := hyp h_43 eh_43
  refine ae_iinc (v := 3) (lv' := [(1, .int (3 : Int32)), (0, .ref 0)]) a_X9_init_139 0 rfl rfl (Nat.le_of_ble_eq_true rfl) rfl ?_
  refine ae_goto a_X9_init_142 ?_
  refine ae_iload_n a_X9_init_121 rfl 0 rfl ?_
  refine ae_iconst (v := 4) a_X9_init_122 rfl ?_
  refine ae_ge a_X9_init_123 (fun c => absurd c (by decide)) (fun _ => ?_)
  refine ae_aload_n a_X9_init_126 rfl 1 rfl ?_
  obtain ⟨z_44, hyp⟩ := hyp
  refine ae_getR (q := 33) a_X9_init_127 fdi_X9_66 (rfl : gm_cls 0 = 8) (by decide) rfl z_44 ?_
  refine ae_iload_n a_X9_init_130 rfl 0 rfl ?_
  refine ae_new a_X9_init_131 nw_X9_64 (rfl : gm_cls 41 = 4) (by decide) (Nat.le_of_ble_eq_true rfl) (Nat.le_of_ble_eq_true rfl) ?_
  refine ae_nm (fun h_45 eh_45 => ?_)
  have hyp := hyp h_45 eh_45
  show AV _ _ _ 41 556 134 _ _ 42 _
  refine ae_dup a_X9_init_134 rfl ?_
  refine ae_cN (n1 := 43) a_X9_init_135 ok_X5_init rfl in_X5_init lc_X9_74 ⟨Nat.le_of_ble_eq_true rfl, Nat.le_of_ble_eq_true rfl⟩ rfl (Nat.le_of_ble_eq_true rfl) (Nat.le_of_ble_eq_true rfl) (Nat.le_of_ble_eq_true rfl) (t_X5_init 41 (rfl : gm_cls 41 = 4) h_45 _ hyp) (fun h_46 hyp => ?_)
  show AV _ _ _ 42 596 138 _ _ 43 _
  refine ae_ast33 (j := 3) a_X9_init_138 lj_3_4.1 lj_3_4.2 (by decide) (by decide) (by decide) rfl ?_
  refine ae_nm (fun h_47 eh_47 => ?_)
  have hyp := hyp h_47 eh_47
  refine ae_iinc (v := 4) (lv' := [(1, .int (4 : Int32)), (0, .ref 0)]) a_X9_init_139 0 rfl rfl (Nat.le_of_ble_eq_true rfl) rfl ?_
  refine ae_goto a_X9_init_142 ?_
  refine ae_iload_n a_X9_init_121 rfl 0 rfl ?_
  refine ae_iconst (v := 4) a_X9_init_122 rfl ?_
  refine ae_ge a_X9_init_123 (fun _ => ?_) (fun c => absurd (by decide) c)
  exact ae_vret rfl a_X9_init_145 rfl rfl rfl hyp
def m_X10_init : Mt := (yX10_init, cX10_init, 2, none, { frames := 1, cells := 13, slots := 11035, locals := 20 })
theorem ok_X10_init : NOk1 m_X10_init 0 := ⟨gm_mem 981 (by decide +kernel) rfl, gm_mem 78 (by decide +kernel) rfl, by decide +kernel⟩
theorem in_X10_init : Cond.instanceMethod yX10_init ∈ gm_ws := gm_mem 980 (by decide +kernel) rfl
theorem a_X10_init_0 : At m_X10_init 0 (.aload_n 0) 1 1 := at_i (by decide +kernel) rfl
theorem a_X10_init_1 : At m_X10_init 1 (.invokespecial 1) 3 4 := at_i (by decide +kernel) rfl
theorem a_X10_init_4 : At m_X10_init 4 (.aload_n 0) 1 5 := at_i (by decide +kernel) rfl
theorem a_X10_init_5 : At m_X10_init 5 (.bipush 62) 2 7 := at_i (by decide +kernel) rfl
theorem a_X10_init_7 : At m_X10_init 7 (.newarray .int) 2 9 := at_i (by decide +kernel) rfl
theorem a_X10_init_9 : At m_X10_init 9 (.putfield 9) 3 12 := at_i (by decide +kernel) rfl
theorem a_X10_init_12 : At m_X10_init 12 (.aload_n 0) 1 13 := at_i (by decide +kernel) rfl
theorem a_X10_init_13 : At m_X10_init 13 (.bipush 62) 2 15 := at_i (by decide +kernel) rfl
theorem a_X10_init_15 : At m_X10_init 15 (.newarray .int) 2 17 := at_i (by decide +kernel) rfl
theorem a_X10_init_17 : At m_X10_init 17 (.putfield 13) 3 20 := at_i (by decide +kernel) rfl
theorem a_X10_init_20 : At m_X10_init 20 (.aload_n 0) 1 21 := at_i (by decide +kernel) rfl
theorem a_X10_init_21 : At m_X10_init 21 (.bipush 62) 2 23 := at_i (by decide +kernel) rfl
theorem a_X10_init_23 : At m_X10_init 23 (.newarray .int) 2 25 := at_i (by decide +kernel) rfl
theorem a_X10_init_25 : At m_X10_init 25 (.putfield 16) 3 28 := at_i (by decide +kernel) rfl
theorem a_X10_init_28 : At m_X10_init 28 (.aload_n 0) 1 29 := at_i (by decide +kernel) rfl
theorem a_X10_init_29 : At m_X10_init 29 (.bipush 8) 2 31 := at_i (by decide +kernel) rfl
theorem a_X10_init_31 : At m_X10_init 31 (.newarray .int) 2 33 := at_i (by decide +kernel) rfl
theorem a_X10_init_33 : At m_X10_init 33 (.putfield 19) 3 36 := at_i (by decide +kernel) rfl
theorem a_X10_init_36 : At m_X10_init 36 (.aload_n 0) 1 37 := at_i (by decide +kernel) rfl
theorem a_X10_init_37 : At m_X10_init 37 (.sipush 10000) 3 40 := at_i (by decide +kernel) rfl
theorem a_X10_init_40 : At m_X10_init 40 (.newarray .int) 2 42 := at_i (by decide +kernel) rfl
theorem a_X10_init_42 : At m_X10_init 42 (.putfield 22) 3 45 := at_i (by decide +kernel) rfl
theorem a_X10_init_45 : At m_X10_init 45 (.aload_n 0) 1 46 := at_i (by decide +kernel) rfl
theorem a_X10_init_46 : At m_X10_init 46 (.bipush 26) 2 48 := at_i (by decide +kernel) rfl
theorem a_X10_init_48 : At m_X10_init 48 (.newarray .int) 2 50 := at_i (by decide +kernel) rfl
theorem a_X10_init_50 : At m_X10_init 50 (.putfield 25) 3 53 := at_i (by decide +kernel) rfl
theorem a_X10_init_53 : At m_X10_init 53 (.aload_n 0) 1 54 := at_i (by decide +kernel) rfl
theorem a_X10_init_54 : At m_X10_init 54 (.bipush 120) 2 56 := at_i (by decide +kernel) rfl
theorem a_X10_init_56 : At m_X10_init 56 (.newarray .int) 2 58 := at_i (by decide +kernel) rfl
theorem a_X10_init_58 : At m_X10_init 58 (.putfield 28) 3 61 := at_i (by decide +kernel) rfl
theorem a_X10_init_61 : At m_X10_init 61 (.aload_n 0) 1 62 := at_i (by decide +kernel) rfl
theorem a_X10_init_62 : At m_X10_init 62 (.bipush 7) 2 64 := at_i (by decide +kernel) rfl
theorem a_X10_init_64 : At m_X10_init 64 (.anewarray 31) 3 67 := at_i (by decide +kernel) rfl
theorem a_X10_init_67 : At m_X10_init 67 (.dup) 1 68 := at_i (by decide +kernel) rfl
theorem a_X10_init_68 : At m_X10_init 68 (.iconst 0) 1 69 := at_i (by decide +kernel) rfl
theorem a_X10_init_69 : At m_X10_init 69 (.ldc 33) 2 71 := at_i (by decide +kernel) rfl
theorem a_X10_init_71 : At m_X10_init 71 (.aastore) 1 72 := at_i (by decide +kernel) rfl
theorem a_X10_init_72 : At m_X10_init 72 (.dup) 1 73 := at_i (by decide +kernel) rfl
theorem a_X10_init_73 : At m_X10_init 73 (.iconst 1) 1 74 := at_i (by decide +kernel) rfl
theorem a_X10_init_74 : At m_X10_init 74 (.ldc 35) 2 76 := at_i (by decide +kernel) rfl
theorem a_X10_init_76 : At m_X10_init 76 (.aastore) 1 77 := at_i (by decide +kernel) rfl
theorem a_X10_init_77 : At m_X10_init 77 (.dup) 1 78 := at_i (by decide +kernel) rfl
theorem a_X10_init_78 : At m_X10_init 78 (.iconst 2) 1 79 := at_i (by decide +kernel) rfl
theorem a_X10_init_79 : At m_X10_init 79 (.ldc 37) 2 81 := at_i (by decide +kernel) rfl
theorem a_X10_init_81 : At m_X10_init 81 (.aastore) 1 82 := at_i (by decide +kernel) rfl
theorem a_X10_init_82 : At m_X10_init 82 (.dup) 1 83 := at_i (by decide +kernel) rfl
theorem a_X10_init_83 : At m_X10_init 83 (.iconst 3) 1 84 := at_i (by decide +kernel) rfl
theorem a_X10_init_84 : At m_X10_init 84 (.ldc 39) 2 86 := at_i (by decide +kernel) rfl
theorem a_X10_init_86 : At m_X10_init 86 (.aastore) 1 87 := at_i (by decide +kernel) rfl
theorem a_X10_init_87 : At m_X10_init 87 (.dup) 1 88 := at_i (by decide +kernel) rfl
theorem a_X10_init_88 : At m_X10_init 88 (.iconst 4) 1 89 := at_i (by decide +kernel) rfl
theorem a_X10_init_89 : At m_X10_init 89 (.ldc 41) 2 91 := at_i (by decide +kernel) rfl
theorem a_X10_init_91 : At m_X10_init 91 (.aastore) 1 92 := at_i (by decide +kernel) rfl
theorem a_X10_init_92 : At m_X10_init 92 (.dup) 1 93 := at_i (by decide +kernel) rfl
theorem a_X10_init_93 : At m_X10_init 93 (.iconst 5) 1 94 := at_i (by decide +kernel) rfl
theorem a_X10_init_94 : At m_X10_init 94 (.ldc 43) 2 96 := at_i (by decide +kernel) rfl
theorem a_X10_init_96 : At m_X10_init 96 (.aastore) 1 97 := at_i (by decide +kernel) rfl
theorem a_X10_init_97 : At m_X10_init 97 (.dup) 1 98 := at_i (by decide +kernel) rfl
theorem a_X10_init_98 : At m_X10_init 98 (.bipush 6) 2 100 := at_i (by decide +kernel) rfl
theorem a_X10_init_100 : At m_X10_init 100 (.ldc 45) 2 102 := at_i (by decide +kernel) rfl
theorem a_X10_init_102 : At m_X10_init 102 (.aastore) 1 103 := at_i (by decide +kernel) rfl
theorem a_X10_init_103 : At m_X10_init 103 (.putfield 47) 3 106 := at_i (by decide +kernel) rfl
theorem a_X10_init_106 : At m_X10_init 106 (.aload_n 0) 1 107 := at_i (by decide +kernel) rfl
theorem a_X10_init_107 : At m_X10_init 107 (.sipush 480) 3 110 := at_i (by decide +kernel) rfl
theorem a_X10_init_110 : At m_X10_init 110 (.newarray .int) 2 112 := at_i (by decide +kernel) rfl
theorem a_X10_init_112 : At m_X10_init 112 (.putfield 51) 3 115 := at_i (by decide +kernel) rfl
theorem a_X10_init_115 : At m_X10_init 115 (.aload_n 0) 1 116 := at_i (by decide +kernel) rfl
theorem a_X10_init_116 : At m_X10_init 116 (.iconst 4) 1 117 := at_i (by decide +kernel) rfl
theorem a_X10_init_117 : At m_X10_init 117 (.newarray .int) 2 119 := at_i (by decide +kernel) rfl
theorem a_X10_init_119 : At m_X10_init 119 (.putfield 54) 3 122 := at_i (by decide +kernel) rfl
theorem a_X10_init_122 : At m_X10_init 122 (.aload_n 0) 1 123 := at_i (by decide +kernel) rfl
theorem a_X10_init_123 : At m_X10_init 123 (.iconst 4) 1 124 := at_i (by decide +kernel) rfl
theorem a_X10_init_124 : At m_X10_init 124 (.newarray .int) 2 126 := at_i (by decide +kernel) rfl
theorem a_X10_init_126 : At m_X10_init 126 (.putfield 57) 3 129 := at_i (by decide +kernel) rfl
theorem a_X10_init_129 : At m_X10_init 129 (.aload_n 0) 1 130 := at_i (by decide +kernel) rfl
theorem a_X10_init_130 : At m_X10_init 130 (.sipush 160) 3 133 := at_i (by decide +kernel) rfl
theorem a_X10_init_133 : At m_X10_init 133 (.newarray .int) 2 135 := at_i (by decide +kernel) rfl
theorem a_X10_init_135 : At m_X10_init 135 (.putfield 60) 3 138 := at_i (by decide +kernel) rfl
theorem a_X10_init_138 : At m_X10_init 138 (.aload_n 0) 1 139 := at_i (by decide +kernel) rfl
theorem a_X10_init_139 : At m_X10_init 139 (.bipush 40) 2 141 := at_i (by decide +kernel) rfl
theorem a_X10_init_141 : At m_X10_init 141 (.newarray .int) 2 143 := at_i (by decide +kernel) rfl
theorem a_X10_init_143 : At m_X10_init 143 (.putfield 63) 3 146 := at_i (by decide +kernel) rfl
theorem a_X10_init_146 : At m_X10_init 146 (.aload_n 0) 1 147 := at_i (by decide +kernel) rfl
theorem a_X10_init_147 : At m_X10_init 147 (.getfield 9) 3 150 := at_i (by decide +kernel) rfl
theorem a_X10_init_150 : At m_X10_init 150 (.iconst 5) 1 151 := at_i (by decide +kernel) rfl
theorem a_X10_init_151 : At m_X10_init 151 (.iconst 1) 1 152 := at_i (by decide +kernel) rfl
theorem a_X10_init_152 : At m_X10_init 152 (.iastore) 1 153 := at_i (by decide +kernel) rfl
theorem a_X10_init_153 : At m_X10_init 153 (.aload_n 0) 1 154 := at_i (by decide +kernel) rfl
theorem a_X10_init_154 : At m_X10_init 154 (.getfield 9) 3 157 := at_i (by decide +kernel) rfl
theorem a_X10_init_157 : At m_X10_init 157 (.bipush 6) 2 159 := at_i (by decide +kernel) rfl
theorem a_X10_init_159 : At m_X10_init 159 (.iconst 4) 1 160 := at_i (by decide +kernel) rfl
theorem a_X10_init_160 : At m_X10_init 160 (.iastore) 1 161 := at_i (by decide +kernel) rfl
theorem a_X10_init_161 : At m_X10_init 161 (.aload_n 0) 1 162 := at_i (by decide +kernel) rfl
theorem a_X10_init_162 : At m_X10_init 162 (.getfield 9) 3 165 := at_i (by decide +kernel) rfl
theorem a_X10_init_165 : At m_X10_init 165 (.bipush 7) 2 167 := at_i (by decide +kernel) rfl
theorem a_X10_init_167 : At m_X10_init 167 (.iconst 4) 1 168 := at_i (by decide +kernel) rfl
theorem a_X10_init_168 : At m_X10_init 168 (.iastore) 1 169 := at_i (by decide +kernel) rfl
theorem a_X10_init_169 : At m_X10_init 169 (.aload_n 0) 1 170 := at_i (by decide +kernel) rfl
theorem a_X10_init_170 : At m_X10_init 170 (.getfield 9) 3 173 := at_i (by decide +kernel) rfl
theorem a_X10_init_173 : At m_X10_init 173 (.bipush 8) 2 175 := at_i (by decide +kernel) rfl
theorem a_X10_init_175 : At m_X10_init 175 (.iconst 5) 1 176 := at_i (by decide +kernel) rfl
theorem a_X10_init_176 : At m_X10_init 176 (.iastore) 1 177 := at_i (by decide +kernel) rfl
theorem a_X10_init_177 : At m_X10_init 177 (.aload_n 0) 1 178 := at_i (by decide +kernel) rfl
theorem a_X10_init_178 : At m_X10_init 178 (.getfield 9) 3 181 := at_i (by decide +kernel) rfl
theorem a_X10_init_181 : At m_X10_init 181 (.bipush 9) 2 183 := at_i (by decide +kernel) rfl
theorem a_X10_init_183 : At m_X10_init 183 (.iconst 5) 1 184 := at_i (by decide +kernel) rfl
theorem a_X10_init_184 : At m_X10_init 184 (.iastore) 1 185 := at_i (by decide +kernel) rfl
theorem a_X10_init_185 : At m_X10_init 185 (.aload_n 0) 1 186 := at_i (by decide +kernel) rfl
theorem a_X10_init_186 : At m_X10_init 186 (.getfield 9) 3 189 := at_i (by decide +kernel) rfl
theorem a_X10_init_189 : At m_X10_init 189 (.bipush 12) 2 191 := at_i (by decide +kernel) rfl
theorem a_X10_init_191 : At m_X10_init 191 (.iconst 3) 1 192 := at_i (by decide +kernel) rfl
theorem a_X10_init_192 : At m_X10_init 192 (.iastore) 1 193 := at_i (by decide +kernel) rfl
theorem a_X10_init_193 : At m_X10_init 193 (.aload_n 0) 1 194 := at_i (by decide +kernel) rfl
theorem a_X10_init_194 : At m_X10_init 194 (.getfield 9) 3 197 := at_i (by decide +kernel) rfl
theorem a_X10_init_197 : At m_X10_init 197 (.bipush 13) 2 199 := at_i (by decide +kernel) rfl
theorem a_X10_init_199 : At m_X10_init 199 (.iconst 3) 1 200 := at_i (by decide +kernel) rfl
theorem a_X10_init_200 : At m_X10_init 200 (.iastore) 1 201 := at_i (by decide +kernel) rfl
theorem a_X10_init_201 : At m_X10_init 201 (.aload_n 0) 1 202 := at_i (by decide +kernel) rfl
theorem a_X10_init_202 : At m_X10_init 202 (.getfield 9) 3 205 := at_i (by decide +kernel) rfl
theorem a_X10_init_205 : At m_X10_init 205 (.bipush 15) 2 207 := at_i (by decide +kernel) rfl
theorem a_X10_init_207 : At m_X10_init 207 (.sipush 600) 3 210 := at_i (by decide +kernel) rfl
theorem a_X10_init_210 : At m_X10_init 210 (.iastore) 1 211 := at_i (by decide +kernel) rfl
theorem a_X10_init_211 : At m_X10_init 211 (.iconst 0) 1 212 := at_i (by decide +kernel) rfl
theorem a_X10_init_212 : At m_X10_init 212 (.istore_n 1) 1 213 := at_i (by decide +kernel) rfl
theorem a_X10_init_213 : At m_X10_init 213 (.iload_n 1) 1 214 := at_i (by decide +kernel) rfl
theorem a_X10_init_214 : At m_X10_init 214 (.bipush 10) 2 216 := at_i (by decide +kernel) rfl
theorem a_X10_init_216 : AtJ m_X10_init 216 (.if_icmp .ge 19) (19) 235 219 := at_j (by decide +kernel) (by decide) rfl
theorem a_X10_init_219 : At m_X10_init 219 (.aload_n 0) 1 220 := at_i (by decide +kernel) rfl
theorem a_X10_init_220 : At m_X10_init 220 (.getfield 9) 3 223 := at_i (by decide +kernel) rfl
theorem a_X10_init_223 : At m_X10_init 223 (.bipush 16) 2 225 := at_i (by decide +kernel) rfl
theorem a_X10_init_225 : At m_X10_init 225 (.iload_n 1) 1 226 := at_i (by decide +kernel) rfl
theorem a_X10_init_226 : At m_X10_init 226 (.iadd) 1 227 := at_i (by decide +kernel) rfl
theorem a_X10_init_227 : At m_X10_init 227 (.iconst (-1)) 1 228 := at_i (by decide +kernel) rfl
theorem a_X10_init_228 : At m_X10_init 228 (.iastore) 1 229 := at_i (by decide +kernel) rfl
theorem a_X10_init_229 : At m_X10_init 229 (.iinc 1 1) 3 232 := at_i (by decide +kernel) rfl
theorem a_X10_init_232 : AtJ m_X10_init 232 (.goto (-19)) (-19) 213 235 := at_j (by decide +kernel) (by decide) rfl
theorem a_X10_init_235 : At m_X10_init 235 (.return_) 1 236 := at_i (by decide +kernel) rfl
def f_X10_init (h : Mem) (Q : Mem → Prop) : Prop :=
  ∀ h_1 : Mem, h_1 = gm_new h 44 →
  ∀ h_2 : Mem, h_2 = gm_st h_1 43 0 1 →
  ∀ h_3 : Mem, h_3 = gm_new h_2 45 →
  ∀ h_4 : Mem, h_4 = gm_st h_3 43 1 1 →
  ∀ h_5 : Mem, h_5 = gm_new h_4 46 →
  ∀ h_6 : Mem, h_6 = gm_st h_5 43 2 1 →
  ∀ h_7 : Mem, h_7 = gm_new h_6 47 →
  ∀ h_8 : Mem, h_8 = gm_st h_7 43 4 1 →
  ∀ h_9 : Mem, h_9 = gm_new h_8 48 →
  ∀ h_10 : Mem, h_10 = gm_st h_9 43 5 1 →
  ∀ h_11 : Mem, h_11 = gm_new h_10 49 →
  ∀ h_12 : Mem, h_12 = gm_st h_11 43 10 1 →
  ∀ h_13 : Mem, h_13 = gm_new h_12 50 →
  ∀ h_14 : Mem, h_14 = gm_st h_13 43 13 1 →
  ∀ h_15 : Mem, h_15 = gm_new h_14 51 →
  ∀ h_16 : Mem, h_16 = gm_st h_15 51 0 1 →
  ∀ h_17 : Mem, h_17 = gm_st h_16 51 1 1 →
  ∀ h_18 : Mem, h_18 = gm_st h_17 51 2 1 →
  ∀ h_19 : Mem, h_19 = gm_st h_18 51 3 1 →
  ∀ h_20 : Mem, h_20 = gm_st h_19 51 4 1 →
  ∀ h_21 : Mem, h_21 = gm_st h_20 51 5 1 →
  ∀ h_22 : Mem, h_22 = gm_st h_21 51 6 1 →
  ∀ h_23 : Mem, h_23 = gm_st h_22 43 20 1 →
  ∀ h_24 : Mem, h_24 = gm_new h_23 52 →
  ∀ h_25 : Mem, h_25 = gm_st h_24 43 21 1 →
  ∀ h_26 : Mem, h_26 = gm_new h_25 53 →
  ∀ h_27 : Mem, h_27 = gm_st h_26 43 24 1 →
  ∀ h_28 : Mem, h_28 = gm_new h_27 54 →
  ∀ h_29 : Mem, h_29 = gm_st h_28 43 25 1 →
  ∀ h_30 : Mem, h_30 = gm_new h_29 55 →
  ∀ h_31 : Mem, h_31 = gm_st h_30 43 26 1 →
  ∀ h_32 : Mem, h_32 = gm_new h_31 56 →
  ∀ h_33 : Mem, h_33 = gm_st h_32 43 27 1 →
  ¬ h_33 43 0 = 0 ∧
  ∀ h_35 : Mem, h_35 = gm_st h_33 44 5 (1 : Int32) →
  ¬ h_35 43 0 = 0 ∧
  ∀ h_37 : Mem, h_37 = gm_st h_35 44 6 (4 : Int32) →
  ¬ h_37 43 0 = 0 ∧
  ∀ h_39 : Mem, h_39 = gm_st h_37 44 7 (4 : Int32) →
  ¬ h_39 43 0 = 0 ∧
  ∀ h_41 : Mem, h_41 = gm_st h_39 44 8 (5 : Int32) →
  ¬ h_41 43 0 = 0 ∧
  ∀ h_43 : Mem, h_43 = gm_st h_41 44 9 (5 : Int32) →
  ¬ h_43 43 0 = 0 ∧
  ∀ h_45 : Mem, h_45 = gm_st h_43 44 12 (3 : Int32) →
  ¬ h_45 43 0 = 0 ∧
  ∀ h_47 : Mem, h_47 = gm_st h_45 44 13 (3 : Int32) →
  ¬ h_47 43 0 = 0 ∧
  ∀ h_49 : Mem, h_49 = gm_st h_47 44 15 (600 : Int32) →
  ¬ h_49 43 0 = 0 ∧
  ∀ h_51 : Mem, h_51 = gm_st h_49 44 16 (-1 : Int32) →
  ¬ h_51 43 0 = 0 ∧
  ∀ h_53 : Mem, h_53 = gm_st h_51 44 17 (-1 : Int32) →
  ¬ h_53 43 0 = 0 ∧
  ∀ h_55 : Mem, h_55 = gm_st h_53 44 18 (-1 : Int32) →
  ¬ h_55 43 0 = 0 ∧
  ∀ h_57 : Mem, h_57 = gm_st h_55 44 19 (-1 : Int32) →
  ¬ h_57 43 0 = 0 ∧
  ∀ h_59 : Mem, h_59 = gm_st h_57 44 20 (-1 : Int32) →
  ¬ h_59 43 0 = 0 ∧
  ∀ h_61 : Mem, h_61 = gm_st h_59 44 21 (-1 : Int32) →
  ¬ h_61 43 0 = 0 ∧
  ∀ h_63 : Mem, h_63 = gm_st h_61 44 22 (-1 : Int32) →
  ¬ h_63 43 0 = 0 ∧
  ∀ h_65 : Mem, h_65 = gm_st h_63 44 23 (-1 : Int32) →
  ¬ h_65 43 0 = 0 ∧
  ∀ h_67 : Mem, h_67 = gm_st h_65 44 24 (-1 : Int32) →
  ¬ h_67 43 0 = 0 ∧
  ∀ h_69 : Mem, h_69 = gm_st h_67 44 25 (-1 : Int32) →
  Q h_69
set_option maxRecDepth 20000 in
theorem t_X10_init (h : Mem) (Q : Mem → Prop) (hyp : f_X10_init h Q) : CnA m_X10_init [.ref 43] 44 57 h Q := by
  refine ae_entry (lv := [(0, .ref 43)]) pn_X10 (Nat.le_of_ble_eq_true rfl) rfl ?_
  unfold f_X10_init at hyp
  refine ae_aload_n a_X10_init_0 rfl 0 rfl ?_
  refine ae_obj a_X10_init_1 lo_X10_1 (Nat.le_of_ble_eq_true rfl) (Nat.le_of_ble_eq_true rfl) ?_
  refine ae_aload_n a_X10_init_4 rfl 0 rfl ?_
  refine ae_bipush (v := 62) a_X10_init_5 rfl ?_
  refine ae_newa (w := 62) a_X10_init_7 ga_44 (by decide) (by decide) (by decide) (by decide) (Nat.le_of_ble_eq_true rfl) (Nat.le_of_ble_eq_true rfl) ?_
  refine ae_nm (fun h_1 eh_1 => ?_)
  have hyp := hyp h_1 eh_1
  show AV _ _ _ 1 62 9 _ (.ref 44 :: _) 45 _
  refine ae_putF (q := 44) a_X10_init_9 pf_X10_9 (rfl : gm_cls 43 = 9) (by decide) (by decide) rfl rfl ?_
  refine ae_nm (fun h_2 eh_2 => ?_)
  have hyp := hyp h_2 eh_2
  refine ae_aload_n a_X10_init_12 rfl 0 rfl ?_
  refine ae_bipush (v := 62) a_X10_init_13 rfl ?_
  refine ae_newa (w := 62) a_X10_init_15 ga_45 (by decide) (by decide) (by decide) (by decide) (Nat.le_of_ble_eq_true rfl) (Nat.le_of_ble_eq_true rfl) ?_
  refine ae_nm (fun h_3 eh_3 => ?_)
  have hyp := hyp h_3 eh_3
  show AV _ _ _ 2 124 17 _ (.ref 45 :: _) 46 _
  refine ae_putF (q := 45) a_X10_init_17 pf_X10_13 (rfl : gm_cls 43 = 9) (by decide) (by decide) rfl rfl ?_
  refine ae_nm (fun h_4 eh_4 => ?_)
  have hyp := hyp h_4 eh_4
  refine ae_aload_n a_X10_init_20 rfl 0 rfl ?_
  refine ae_bipush (v := 62) a_X10_init_21 rfl ?_
  refine ae_newa (w := 62) a_X10_init_23 ga_46 (by decide) (by decide) (by decide) (by decide) (Nat.le_of_ble_eq_true rfl) (Nat.le_of_ble_eq_true rfl) ?_
  refine ae_nm (fun h_5 eh_5 => ?_)
  have hyp := hyp h_5 eh_5
  show AV _ _ _ 3 186 25 _ (.ref 46 :: _) 47 _
  refine ae_putF (q := 46) a_X10_init_25 pf_X10_16 (rfl : gm_cls 43 = 9) (by decide) (by decide) rfl rfl ?_
  refine ae_nm (fun h_6 eh_6 => ?_)
  have hyp := hyp h_6 eh_6
  refine ae_aload_n a_X10_init_28 rfl 0 rfl ?_
  refine ae_bipush (v := 8) a_X10_init_29 rfl ?_
  refine ae_newa (w := 8) a_X10_init_31 ga_47 (by decide) (by decide) (by decide) (by decide) (Nat.le_of_ble_eq_true rfl) (Nat.le_of_ble_eq_true rfl) ?_
  refine ae_nm (fun h_7 eh_7 => ?_)
  have hyp := hyp h_7 eh_7
  show AV _ _ _ 4 194 33 _ (.ref 47 :: _) 48 _
  refine ae_putF (q := 47) a_X10_init_33 pf_X10_19 (rfl : gm_cls 43 = 9) (by decide) (by decide) rfl rfl ?_
  refine ae_nm (fun h_8 eh_8 => ?_)
  have hyp := hyp h_8 eh_8
  refine ae_aload_n a_X10_init_36 rfl 0 rfl ?_
  refine ae_sipush (v := 10000) a_X10_init_37 rfl ?_
  refine ae_newa (w := 10000) a_X10_init_40 ga_48 (by decide) (by decide) (by decide) (by decide) (Nat.le_of_ble_eq_true rfl) (Nat.le_of_ble_eq_true rfl) ?_
  refine ae_nm (fun h_9 eh_9 => ?_)
  have hyp := hyp h_9 eh_9
  show AV _ _ _ 5 10194 42 _ (.ref 48 :: _) 49 _
  refine ae_putF (q := 48) a_X10_init_42 pf_X10_22 (rfl : gm_cls 43 = 9) (by decide) (by decide) rfl rfl ?_
  refine ae_nm (fun h_10 eh_10 => ?_)
  have hyp := hyp h_10 eh_10
  refine ae_aload_n a_X10_init_45 rfl 0 rfl ?_
  refine ae_bipush (v := 26) a_X10_init_46 rfl ?_
  refine ae_newa (w := 26) a_X10_init_48 ga_49 (by decide) (by decide) (by decide) (by decide) (Nat.le_of_ble_eq_true rfl) (Nat.le_of_ble_eq_true rfl) ?_
  refine ae_nm (fun h_11 eh_11 => ?_)
  have hyp := hyp h_11 eh_11
  show AV _ _ _ 6 10220 50 _ (.ref 49 :: _) 50 _
  refine ae_putF (q := 49) a_X10_init_50 pf_X10_25 (rfl : gm_cls 43 = 9) (by decide) (by decide) rfl rfl ?_
  refine ae_nm (fun h_12 eh_12 => ?_)
  have hyp := hyp h_12 eh_12
  refine ae_aload_n a_X10_init_53 rfl 0 rfl ?_
  refine ae_bipush (v := 120) a_X10_init_54 rfl ?_
  refine ae_newa (w := 120) a_X10_init_56 ga_50 (by decide) (by decide) (by decide) (by decide) (Nat.le_of_ble_eq_true rfl) (Nat.le_of_ble_eq_true rfl) ?_
  refine ae_nm (fun h_13 eh_13 => ?_)
  have hyp := hyp h_13 eh_13
  show AV _ _ _ 7 10340 58 _ (.ref 50 :: _) 51 _
  refine ae_putF (q := 50) a_X10_init_58 pf_X10_28 (rfl : gm_cls 43 = 9) (by decide) (by decide) rfl rfl ?_
  refine ae_nm (fun h_14 eh_14 => ?_)
  have hyp := hyp h_14 eh_14
  refine ae_aload_n a_X10_init_61 rfl 0 rfl ?_
  refine ae_bipush (v := 7) a_X10_init_62 rfl ?_
  refine ae_newq51 a_X10_init_64 cl_X10_31 rfl rfl (Nat.le_of_ble_eq_true rfl) (Nat.le_of_ble_eq_true rfl) ?_
  refine ae_nm (fun h_15 eh_15 => ?_)
  have hyp := hyp h_15 eh_15
  show AV _ _ _ 8 10347 67 _ (.ref 51 :: _) 52 _
  refine ae_dup a_X10_init_67 rfl ?_
  refine ae_iconst (v := 0) a_X10_init_68 rfl ?_
  refine ae_ldcS (i := 0) a_X10_init_69 sli_X10_33 ?_
  refine ae_ast51 (j := 0) a_X10_init_71 lj_0_7.1 lj_0_7.2 (by decide) (by decide) (by decide) ?_
  refine ae_nm (fun h_16 eh_16 => ?_)
  have hyp := hyp h_16 eh_16
  refine ae_dup a_X10_init_72 rfl ?_
  refine ae_iconst (v := 1) a_X10_init_73 rfl ?_
  refine ae_ldcS (i := 1) a_X10_init_74 sli_X10_35 ?_
  refine ae_ast51 (j := 1) a_X10_init_76 lj_1_7.1 lj_1_7.2 (by decide) (by decide) (by decide) ?_
  refine ae_nm (fun h_17 eh_17 => ?_)
  have hyp := hyp h_17 eh_17
  refine ae_dup a_X10_init_77 rfl ?_
  refine ae_iconst (v := 2) a_X10_init_78 rfl ?_
  refine ae_ldcS (i := 2) a_X10_init_79 sli_X10_37 ?_
  refine ae_ast51 (j := 2) a_X10_init_81 lj_2_7.1 lj_2_7.2 (by decide) (by decide) (by decide) ?_
  refine ae_nm (fun h_18 eh_18 => ?_)
  have hyp := hyp h_18 eh_18
  refine ae_dup a_X10_init_82 rfl ?_
  refine ae_iconst (v := 3) a_X10_init_83 rfl ?_
  refine ae_ldcS (i := 3) a_X10_init_84 sli_X10_39 ?_
  refine ae_ast51 (j := 3) a_X10_init_86 lj_3_7.1 lj_3_7.2 (by decide) (by decide) (by decide) ?_
  refine ae_nm (fun h_19 eh_19 => ?_)
  have hyp := hyp h_19 eh_19
  refine ae_dup a_X10_init_87 rfl ?_
  refine ae_iconst (v := 4) a_X10_init_88 rfl ?_
  refine ae_ldcS (i := 4) a_X10_init_89 sli_X10_41 ?_
  refine ae_ast51 (j := 4) a_X10_init_91 lj_4_7.1 lj_4_7.2 (by decide) (by decide) (by decide) ?_
  refine ae_nm (fun h_20 eh_20 => ?_)
  have hyp := hyp h_20 eh_20
  refine ae_dup a_X10_init_92 rfl ?_
  refine ae_iconst (v := 5) a_X10_init_93 rfl ?_
  refine ae_ldcS (i := 5) a_X10_init_94 sli_X10_43 ?_
  refine ae_ast51 (j := 5) a_X10_init_96 lj_5_7.1 lj_5_7.2 (by decide) (by decide) (by decide) ?_
  refine ae_nm (fun h_21 eh_21 => ?_)
  have hyp := hyp h_21 eh_21
  refine ae_dup a_X10_init_97 rfl ?_
  refine ae_bipush (v := 6) a_X10_init_98 rfl ?_
  refine ae_ldcS (i := 6) a_X10_init_100 sli_X10_45 ?_
  refine ae_ast51 (j := 6) a_X10_init_102 lj_6_7.1 lj_6_7.2 (by decide) (by decide) (by decide) ?_
  refine ae_nm (fun h_22 eh_22 => ?_)
  have hyp := hyp h_22 eh_22
  refine ae_putF (q := 51) a_X10_init_103 pf_X10_47 (rfl : gm_cls 43 = 9) (by decide) (by decide) rfl rfl ?_
  refine ae_nm (fun h_23 eh_23 => ?_)
  have hyp := hyp h_23 eh_23
  refine ae_aload_n a_X10_init_106 rfl 0 rfl ?_
  refine ae_sipush (v := 480) a_X10_init_107 rfl ?_
  refine ae_newa (w := 480) a_X10_init_110 ga_52 (by decide) (by decide) (by decide) (by decide) (Nat.le_of_ble_eq_true rfl) (Nat.le_of_ble_eq_true rfl) ?_
  refine ae_nm (fun h_24 eh_24 => ?_)
  have hyp := hyp h_24 eh_24
  show AV _ _ _ 9 10827 112 _ (.ref 52 :: _) 53 _
  refine ae_putF (q := 52) a_X10_init_112 pf_X10_51 (rfl : gm_cls 43 = 9) (by decide) (by decide) rfl rfl ?_
  refine ae_nm (fun h_25 eh_25 => ?_)
  have hyp := hyp h_25 eh_25
  refine ae_aload_n a_X10_init_115 rfl 0 rfl ?_
  refine ae_iconst (v := 4) a_X10_init_116 rfl ?_
  refine ae_newa (w := 4) a_X10_init_117 ga_53 (by decide) (by decide) (by decide) (by decide) (Nat.le_of_ble_eq_true rfl) (Nat.le_of_ble_eq_true rfl) ?_
  refine ae_nm (fun h_26 eh_26 => ?_)
  have hyp := hyp h_26 eh_26
  show AV _ _ _ 10 10831 119 _ (.ref 53 :: _) 54 _
  refine ae_putF (q := 53) a_X10_init_119 pf_X10_54 (rfl : gm_cls 43 = 9) (by decide) (by decide) rfl rfl ?_
  refine ae_nm (fun h_27 eh_27 => ?_)
  have hyp := hyp h_27 eh_27
  refine ae_aload_n a_X10_init_122 rfl 0 rfl ?_
  refine ae_iconst (v := 4) a_X10_init_123 rfl ?_
  refine ae_newa (w := 4) a_X10_init_124 ga_54 (by decide) (by decide) (by decide) (by decide) (Nat.le_of_ble_eq_true rfl) (Nat.le_of_ble_eq_true rfl) ?_
  refine ae_nm (fun h_28 eh_28 => ?_)
  have hyp := hyp h_28 eh_28
  show AV _ _ _ 11 10835 126 _ (.ref 54 :: _) 55 _
  refine ae_putF (q := 54) a_X10_init_126 pf_X10_57 (rfl : gm_cls 43 = 9) (by decide) (by decide) rfl rfl ?_
  refine ae_nm (fun h_29 eh_29 => ?_)
  have hyp := hyp h_29 eh_29
  refine ae_aload_n a_X10_init_129 rfl 0 rfl ?_
  refine ae_sipush (v := 160) a_X10_init_130 rfl ?_
  refine ae_newa (w := 160) a_X10_init_133 ga_55 (by decide) (by decide) (by decide) (by decide) (Nat.le_of_ble_eq_true rfl) (Nat.le_of_ble_eq_true rfl) ?_
  refine ae_nm (fun h_30 eh_30 => ?_)
  have hyp := hyp h_30 eh_30
  show AV _ _ _ 12 10995 135 _ (.ref 55 :: _) 56 _
  refine ae_putF (q := 55) a_X10_init_135 pf_X10_60 (rfl : gm_cls 43 = 9) (by decide) (by decide) rfl rfl ?_
  refine ae_nm (fun h_31 eh_31 => ?_)
  have hyp := hyp h_31 eh_31
  refine ae_aload_n a_X10_init_138 rfl 0 rfl ?_
  refine ae_bipush (v := 40) a_X10_init_139 rfl ?_
  refine ae_newa (w := 40) a_X10_init_141 ga_56 (by decide) (by decide) (by decide) (by decide) (Nat.le_of_ble_eq_true rfl) (Nat.le_of_ble_eq_true rfl) ?_
  refine ae_nm (fun h_32 eh_32 => ?_)
  have hyp := hyp h_32 eh_32
  show AV _ _ _ 13 11035 143 _ (.ref 56 :: _) 57 _
  refine ae_putF (q := 56) a_X10_init_143 pf_X10_63 (rfl : gm_cls 43 = 9) (by decide) (by decide) rfl rfl ?_
  refine ae_nm (fun h_33 eh_33 => ?_)
  have hyp := hyp h_33 eh_33
  refine ae_aload_n a_X10_init_146 rfl 0 rfl ?_
  obtain ⟨z_34, hyp⟩ := hyp
  refine ae_getR (q := 44) a_X10_init_147 fdi_X10_9 (rfl : gm_cls 43 = 9) (by decide) rfl z_34 ?_
  refine ae_iconst (v := 5) a_X10_init_150 rfl ?_
  refine ae_iconst (v := 1) a_X10_init_151 rfl ?_
  refine ae_iast (j := 5) a_X10_init_152 ga_44 (by decide) (by decide) lj_5_62.1 lj_5_62.2 ?_
  refine ae_nm (fun h_35 eh_35 => ?_)
  have hyp := hyp h_35 eh_35
  refine ae_aload_n a_X10_init_153 rfl 0 rfl ?_
  obtain ⟨z_36, hyp⟩ := hyp
  refine ae_getR (q := 44) a_X10_init_154 fdi_X10_9 (rfl : gm_cls 43 = 9) (by decide) rfl z_36 ?_
  refine ae_bipush (v := 6) a_X10_init_157 rfl ?_
  refine ae_iconst (v := 4) a_X10_init_159 rfl ?_
  refine ae_iast (j := 6) a_X10_init_160 ga_44 (by decide) (by decide) lj_6_62.1 lj_6_62.2 ?_
  refine ae_nm (fun h_37 eh_37 => ?_)
  have hyp := hyp h_37 eh_37
  refine ae_aload_n a_X10_init_161 rfl 0 rfl ?_
  obtain ⟨z_38, hyp⟩ := hyp
  refine ae_getR (q := 44) a_X10_init_162 fdi_X10_9 (rfl : gm_cls 43 = 9) (by decide) rfl z_38 ?_
  refine ae_bipush (v := 7) a_X10_init_165 rfl ?_
  refine ae_iconst (v := 4) a_X10_init_167 rfl ?_
  refine ae_iast (j := 7) a_X10_init_168 ga_44 (by decide) (by decide) lj_7_62.1 lj_7_62.2 ?_
  refine ae_nm (fun h_39 eh_39 => ?_)
  have hyp := hyp h_39 eh_39
  refine ae_aload_n a_X10_init_169 rfl 0 rfl ?_
  obtain ⟨z_40, hyp⟩ := hyp
  refine ae_getR (q := 44) a_X10_init_170 fdi_X10_9 (rfl : gm_cls 43 = 9) (by decide) rfl z_40 ?_
  refine ae_bipush (v := 8) a_X10_init_173 rfl ?_
  refine ae_iconst (v := 5) a_X10_init_175 rfl ?_
  refine ae_iast (j := 8) a_X10_init_176 ga_44 (by decide) (by decide) lj_8_62.1 lj_8_62.2 ?_
  refine ae_nm (fun h_41 eh_41 => ?_)
  have hyp := hyp h_41 eh_41
  refine ae_aload_n a_X10_init_177 rfl 0 rfl ?_
  obtain ⟨z_42, hyp⟩ := hyp
  refine ae_getR (q := 44) a_X10_init_178 fdi_X10_9 (rfl : gm_cls 43 = 9) (by decide) rfl z_42 ?_
  refine ae_bipush (v := 9) a_X10_init_181 rfl ?_
  refine ae_iconst (v := 5) a_X10_init_183 rfl ?_
  refine ae_iast (j := 9) a_X10_init_184 ga_44 (by decide) (by decide) lj_9_62.1 lj_9_62.2 ?_
  refine ae_nm (fun h_43 eh_43 => ?_)
  have hyp := hyp h_43 eh_43
  refine ae_aload_n a_X10_init_185 rfl 0 rfl ?_
  obtain ⟨z_44, hyp⟩ := hyp
  refine ae_getR (q := 44) a_X10_init_186 fdi_X10_9 (rfl : gm_cls 43 = 9) (by decide) rfl z_44 ?_
  refine ae_bipush (v := 12) a_X10_init_189 rfl ?_
  refine ae_iconst (v := 3) a_X10_init_191 rfl ?_
  refine ae_iast (j := 12) a_X10_init_192 ga_44 (by decide) (by decide) lj_12_62.1 lj_12_62.2 ?_
  refine ae_nm (fun h_45 eh_45 => ?_)
  have hyp := hyp h_45 eh_45
  refine ae_aload_n a_X10_init_193 rfl 0 rfl ?_
  obtain ⟨z_46, hyp⟩ := hyp
  refine ae_getR (q := 44) a_X10_init_194 fdi_X10_9 (rfl : gm_cls 43 = 9) (by decide) rfl z_46 ?_
  refine ae_bipush (v := 13) a_X10_init_197 rfl ?_
  refine ae_iconst (v := 3) a_X10_init_199 rfl ?_
  refine ae_iast (j := 13) a_X10_init_200 ga_44 (by decide) (by decide) lj_13_62.1 lj_13_62.2 ?_
  refine ae_nm (fun h_47 eh_47 => ?_)
  have hyp := hyp h_47 eh_47
  refine ae_aload_n a_X10_init_201 rfl 0 rfl ?_
  obtain ⟨z_48, hyp⟩ := hyp
  refine ae_getR (q := 44) a_X10_init_202 fdi_X10_9 (rfl : gm_cls 43 = 9) (by decide) rfl z_48 ?_
  refine ae_bipush (v := 15) a_X10_init_205 rfl ?_
  refine ae_sipush (v := 600) a_X10_init_207 rfl ?_
  refine ae_iast (j := 15) a_X10_init_210 ga_44 (by decide) (by decide) lj_15_62.1 lj_15_62.2 ?_
  refine ae_nm (fun h_49 eh_49 => ?_)
  have hyp := hyp h_49 eh_49
  refine ae_iconst (v := 0) a_X10_init_211 rfl ?_
  refine ae_istore_n (lv' := [(1, .int (0 : Int32)), (0, .ref 43)]) a_X10_init_212 rfl (Nat.le_of_ble_eq_true rfl) rfl ?_
  refine ae_iload_n a_X10_init_213 rfl 0 rfl ?_
  refine ae_bipush (v := 10) a_X10_init_214 rfl ?_
  refine ae_ge a_X10_init_216 (fun c => absurd c (by decide)) (fun _ => ?_)
  refine ae_aload_n a_X10_init_219 rfl 1 rfl ?_
  obtain ⟨z_50, hyp⟩ := hyp
  refine ae_getR (q := 44) a_X10_init_220 fdi_X10_9 (rfl : gm_cls 43 = 9) (by decide) rfl z_50 ?_
  refine ae_bipush (v := 16) a_X10_init_223 rfl ?_
  refine ae_iload_n a_X10_init_225 rfl 0 rfl ?_
  refine ae_iadd a_X10_init_226 ?_
  show AV _ _ _ _ _ 227 _ (.int 16 :: _) _ _
  refine ae_iconst (v := -1) a_X10_init_227 rfl ?_
  refine ae_iast (j := 16) a_X10_init_228 ga_44 (by decide) (by decide) lj_16_62.1 lj_16_62.2 ?_
  refine ae_nm (fun h_51 eh_51 => ?_)
  have hyp := hyp h_51 eh_51
  refine ae_iinc (v := 1) (lv' := [(1, .int (1 : Int32)), (0, .ref 43)]) a_X10_init_229 0 rfl rfl (Nat.le_of_ble_eq_true rfl) rfl ?_
  refine ae_goto a_X10_init_232 ?_
  refine ae_iload_n a_X10_init_213 rfl 0 rfl ?_
  refine ae_bipush (v := 10) a_X10_init_214 rfl ?_
  refine ae_ge a_X10_init_216 (fun c => absurd c (by decide)) (fun _ => ?_)
  refine ae_aload_n a_X10_init_219 rfl 1 rfl ?_
  obtain ⟨z_52, hyp⟩ := hyp
  refine ae_getR (q := 44) a_X10_init_220 fdi_X10_9 (rfl : gm_cls 43 = 9) (by decide) rfl z_52 ?_
  refine ae_bipush (v := 16) a_X10_init_223 rfl ?_
  refine ae_iload_n a_X10_init_225 rfl 0 rfl ?_
  refine ae_iadd a_X10_init_226 ?_
  show AV _ _ _ _ _ 227 _ (.int 17 :: _) _ _
  refine ae_iconst (v := -1) a_X10_init_227 rfl ?_
  refine ae_iast (j := 17) a_X10_init_228 ga_44 (by decide) (by decide) lj_17_62.1 lj_17_62.2 ?_
  refine ae_nm (fun h_53 eh_53 => ?_)
  have hyp := hyp h_53 eh_53
  refine ae_iinc (v := 2) (lv' := [(1, .int (2 : Int32)), (0, .ref 43)]) a_X10_init_229 0 rfl rfl (Nat.le_of_ble_eq_true rfl) rfl ?_
  refine ae_goto a_X10_init_232 ?_
  refine ae_iload_n a_X10_init_213 rfl 0 rfl ?_
  refine ae_bipush (v := 10) a_X10_init_214 rfl ?_
  refine ae_ge a_X10_init_216 (fun c => absurd c (by decide)) (fun _ => ?_)
  refine ae_aload_n a_X10_init_219 rfl 1 rfl ?_
  obtain ⟨z_54, hyp⟩ := hyp
  refine ae_getR (q := 44) a_X10_init_220 fdi_X10_9 (rfl : gm_cls 43 = 9) (by decide) rfl z_54 ?_
  refine ae_bipush (v := 16) a_X10_init_223 rfl ?_
  refine ae_iload_n a_X10_init_225 rfl 0 rfl ?_
  refine ae_iadd a_X10_init_226 ?_
  show AV _ _ _ _ _ 227 _ (.int 18 :: _) _ _
  refine ae_iconst (v := -1) a_X10_init_227 rfl ?_
  refine ae_iast (j := 18) a_X10_init_228 ga_44 (by decide) (by decide) lj_18_62.1 lj_18_62.2 ?_
  refine ae_nm (fun h_55 eh_55 => ?_)
  have hyp := hyp h_55 eh_55
  refine ae_iinc (v := 3) (lv' := [(1, .int (3 : Int32)), (0, .ref 43)]) a_X10_init_229 0 rfl rfl (Nat.le_of_ble_eq_true rfl) rfl ?_
  refine ae_goto a_X10_init_232 ?_
  refine ae_iload_n a_X10_init_213 rfl 0 rfl ?_
  refine ae_bipush (v := 10) a_X10_init_214 rfl ?_
  refine ae_ge a_X10_init_216 (fun c => absurd c (by decide)) (fun _ => ?_)
  refine ae_aload_n a_X10_init_219 rfl 1 rfl ?_
  obtain ⟨z_56, hyp⟩ := hyp
  refine ae_getR (q := 44) a_X10_init_220 fdi_X10_9 (rfl : gm_cls 43 = 9) (by decide) rfl z_56 ?_
  refine ae_bipush (v := 16) a_X10_init_223 rfl ?_
  refine ae_iload_n a_X10_init_225 rfl 0 rfl ?_
  refine ae_iadd a_X10_init_226 ?_
  show AV _ _ _ _ _ 227 _ (.int 19 :: _) _ _
  refine ae_iconst (v := -1) a_X10_init_227 rfl ?_
  refine ae_iast (j := 19) a_X10_init_228 ga_44 (by decide) (by decide) lj_19_62.1 lj_19_62.2 ?_
  refine ae_nm (fun h_57 eh_57 => ?_)
  have hyp := hyp h_57 eh_57
  refine ae_iinc (v := 4) (lv' := [(1, .int (4 : Int32)), (0, .ref 43)]) a_X10_init_229 0 rfl rfl (Nat.le_of_ble_eq_true rfl) rfl ?_
  refine ae_goto a_X10_init_232 ?_
  refine ae_iload_n a_X10_init_213 rfl 0 rfl ?_
  refine ae_bipush (v := 10) a_X10_init_214 rfl ?_
  refine ae_ge a_X10_init_216 (fun c => absurd c (by decide)) (fun _ => ?_)
  refine ae_aload_n a_X10_init_219 rfl 1 rfl ?_
  obtain ⟨z_58, hyp⟩ := hyp
  refine ae_getR (q := 44) a_X10_init_220 fdi_X10_9 (rfl : gm_cls 43 = 9) (by decide) rfl z_58 ?_
  refine ae_bipush (v := 16) a_X10_init_223 rfl ?_
  refine ae_iload_n a_X10_init_225 rfl 0 rfl ?_
  refine ae_iadd a_X10_init_226 ?_
  show AV _ _ _ _ _ 227 _ (.int 20 :: _) _ _
  refine ae_iconst (v := -1) a_X10_init_227 rfl ?_
  refine ae_iast (j := 20) a_X10_init_228 ga_44 (by decide) (by decide) lj_20_62.1 lj_20_62.2 ?_
  refine ae_nm (fun h_59 eh_59 => ?_)
  have hyp := hyp h_59 eh_59
  refine ae_iinc (v := 5) (lv' := [(1, .int (5 : Int32)), (0, .ref 43)]) a_X10_init_229 0 rfl rfl (Nat.le_of_ble_eq_true rfl) rfl ?_
  refine ae_goto a_X10_init_232 ?_
  refine ae_iload_n a_X10_init_213 rfl 0 rfl ?_
  refine ae_bipush (v := 10) a_X10_init_214 rfl ?_
  refine ae_ge a_X10_init_216 (fun c => absurd c (by decide)) (fun _ => ?_)
  refine ae_aload_n a_X10_init_219 rfl 1 rfl ?_
  obtain ⟨z_60, hyp⟩ := hyp
  refine ae_getR (q := 44) a_X10_init_220 fdi_X10_9 (rfl : gm_cls 43 = 9) (by decide) rfl z_60 ?_
  refine ae_bipush (v := 16) a_X10_init_223 rfl ?_
  refine ae_iload_n a_X10_init_225 rfl 0 rfl ?_
  refine ae_iadd a_X10_init_226 ?_
  show AV _ _ _ _ _ 227 _ (.int 21 :: _) _ _
  refine ae_iconst (v := -1) a_X10_init_227 rfl ?_
  refine ae_iast (j := 21) a_X10_init_228 ga_44 (by decide) (by decide) lj_21_62.1 lj_21_62.2 ?_
  refine ae_nm (fun h_61 eh_61 => ?_)
  have hyp := hyp h_61 eh_61
  refine ae_iinc (v := 6) (lv' := [(1, .int (6 : Int32)), (0, .ref 43)]) a_X10_init_229 0 rfl rfl (Nat.le_of_ble_eq_true rfl) rfl ?_
  refine ae_goto a_X10_init_232 ?_
  refine ae_iload_n a_X10_init_213 rfl 0 rfl ?_
  refine ae_bipush (v := 10) a_X10_init_214 rfl ?_
  refine ae_ge a_X10_init_216 (fun c => absurd c (by decide)) (fun _ => ?_)
  refine ae_aload_n a_X10_init_219 rfl 1 rfl ?_
  obtain ⟨z_62, hyp⟩ := hyp
  refine ae_getR (q := 44) a_X10_init_220 fdi_X10_9 (rfl : gm_cls 43 = 9) (by decide) rfl z_62 ?_
  refine ae_bipush (v := 16) a_X10_init_223 rfl ?_
  refine ae_iload_n a_X10_init_225 rfl 0 rfl ?_
  refine ae_iadd a_X10_init_226 ?_
  show AV _ _ _ _ _ 227 _ (.int 22 :: _) _ _
  refine ae_iconst (v := -1) a_X10_init_227 rfl ?_
  refine ae_iast (j := 22) a_X10_init_228 ga_44 (by decide) (by decide) lj_22_62.1 lj_22_62.2 ?_
  refine ae_nm (fun h_63 eh_63 => ?_)
  have hyp := hyp h_63 eh_63
  refine ae_iinc (v := 7) (lv' := [(1, .int (7 : Int32)), (0, .ref 43)]) a_X10_init_229 0 rfl rfl (Nat.le_of_ble_eq_true rfl) rfl ?_
  refine ae_goto a_X10_init_232 ?_
  refine ae_iload_n a_X10_init_213 rfl 0 rfl ?_
  refine ae_bipush (v := 10) a_X10_init_214 rfl ?_
  refine ae_ge a_X10_init_216 (fun c => absurd c (by decide)) (fun _ => ?_)
  refine ae_aload_n a_X10_init_219 rfl 1 rfl ?_
  obtain ⟨z_64, hyp⟩ := hyp
  refine ae_getR (q := 44) a_X10_init_220 fdi_X10_9 (rfl : gm_cls 43 = 9) (by decide) rfl z_64 ?_
  refine ae_bipush (v := 16) a_X10_init_223 rfl ?_
  refine ae_iload_n a_X10_init_225 rfl 0 rfl ?_
  refine ae_iadd a_X10_init_226 ?_
  show AV _ _ _ _ _ 227 _ (.int 23 :: _) _ _
  refine ae_iconst (v := -1) a_X10_init_227 rfl ?_
  refine ae_iast (j := 23) a_X10_init_228 ga_44 (by decide) (by decide) lj_23_62.1 lj_23_62.2 ?_
  refine ae_nm (fun h_65 eh_65 => ?_)
  have hyp := hyp h_65 eh_65
  refine ae_iinc (v := 8) (lv' := [(1, .int (8 : Int32)), (0, .ref 43)]) a_X10_init_229 0 rfl rfl (Nat.le_of_ble_eq_true rfl) rfl ?_
  refine ae_goto a_X10_init_232 ?_
  refine ae_iload_n a_X10_init_213 rfl 0 rfl ?_
  refine ae_bipush (v := 10) a_X10_init_214 rfl ?_
  refine ae_ge a_X10_init_216 (fun c => absurd c (by decide)) (fun _ => ?_)
  refine ae_aload_n a_X10_init_219 rfl 1 rfl ?_
  obtain ⟨z_66, hyp⟩ := hyp
  refine ae_getR (q := 44) a_X10_init_220 fdi_X10_9 (rfl : gm_cls 43 = 9) (by decide) rfl z_66 ?_
  refine ae_bipush (v := 16) a_X10_init_223 rfl ?_
  refine ae_iload_n a_X10_init_225 rfl 0 rfl ?_
  refine ae_iadd a_X10_init_226 ?_
  show AV _ _ _ _ _ 227 _ (.int 24 :: _) _ _
  refine ae_iconst (v := -1) a_X10_init_227 rfl ?_
  refine ae_iast (j := 24) a_X10_init_228 ga_44 (by decide) (by decide) lj_24_62.1 lj_24_62.2 ?_
  refine ae_nm (fun h_67 eh_67 => ?_)
  have hyp := hyp h_67 eh_67
  refine ae_iinc (v := 9) (lv' := [(1, .int (9 : Int32)), (0, .ref 43)]) a_X10_init_229 0 rfl rfl (Nat.le_of_ble_eq_true rfl) rfl ?_
  refine ae_goto a_X10_init_232 ?_
  refine ae_iload_n a_X10_init_213 rfl 0 rfl ?_
  refine ae_bipush (v := 10) a_X10_init_214 rfl ?_
  refine ae_ge a_X10_init_216 (fun c => absurd c (by decide)) (fun _ => ?_)
  refine ae_aload_n a_X10_init_219 rfl 1 rfl ?_
  obtain ⟨z_68, hyp⟩ := hyp
  refine ae_getR (q := 44) a_X10_init_220 fdi_X10_9 (rfl : gm_cls 43 = 9) (by decide) rfl z_68 ?_
  refine ae_bipush (v := 16) a_X10_init_223 rfl ?_
  refine ae_iload_n a_X10_init_225 rfl 0 rfl ?_
  refine ae_iadd a_X10_init_226 ?_
  show AV _ _ _ _ _ 227 _ (.int 25 :: _) _ _
  refine ae_iconst (v := -1) a_X10_init_227 rfl ?_
  refine ae_iast (j := 25) a_X10_init_228 ga_44 (by decide) (by decide) lj_25_62.1 lj_25_62.2 ?_
  refine ae_nm (fun h_69 eh_69 => ?_)
  have hyp := hyp h_69 eh_69
  refine ae_iinc (v := 10) (lv' := [(1, .int (10 : Int32)), (0, .ref 43)]) a_X10_init_229 0 rfl rfl (Nat.le_of_ble_eq_true rfl) rfl ?_
  refine ae_goto a_X10_init_232 ?_
  refine ae_iload_n a_X10_init_213 rfl 0 rfl ?_
  refine ae_bipush (v := 10) a_X10_init_214 rfl ?_
  refine ae_ge a_X10_init_216 (fun _ => ?_) (fun c => absurd (by decide) c)
  exact ae_vret rfl a_X10_init_235 rfl rfl rfl hyp
