/-! THE START: the classes, the two objects made, the world as the methods want it -/
theorem lw_arrI {args : Array Value} {s : State} (h : (Cond.arrayClass .int).before args s = true) : ∃ cA : ClassId, ArrOfT s cA .int ∧ va_RA s cA .int := by
  obtain ⟨cA, kA, comp, h1, h2, h3⟩ := Cond.arrayClass_spec h
  exact ⟨cA, fun n z => ⟨fun k h => (by cases h), kA, h2, comp, h3⟩, h1⟩
theorem lw_arrO {C : String} {s : State} (h : va_AO C s) : ∃ cA : ClassId, ArrOfT s cA (.object C) ∧ va_RA s cA (.object C) := by
  obtain ⟨comp, c, k, h1, h2, h3, h4, h5⟩ := Cond.arrayOver_spec h
  exact ⟨c, fun n z => ⟨fun k h => (by cases h), k, h3, comp, h4⟩, k, comp, h3, h4, h1, h5⟩
theorem gm_c20 : ∀ k, k < 57 → ¬ gm_cls k < 10 → gm_cls k = 20 ∨ k = 33 ∨ k = 51 := by decide
theorem lw_inX1 : Cond.instantiable RX1 6 ∈ gm_ws := gm_mem 161 (by decide +kernel) rfl
theorem lw_inX2 : Cond.instantiable RX2 2 ∈ gm_ws := gm_mem 195 (by decide +kernel) rfl
theorem lw_inX3 : Cond.instantiable RX3 6 ∈ gm_ws := gm_mem 269 (by decide +kernel) rfl
theorem lw_inX4 : Cond.instantiable RX4 5 ∈ gm_ws := gm_mem 210 (by decide +kernel) rfl
theorem lw_inX5 : Cond.instantiable RX5 3 ∈ gm_ws := gm_mem 295 (by decide +kernel) rfl
theorem lw_inX6 : Cond.instantiable RX6 11 ∈ gm_ws := gm_mem 95 (by decide +kernel) rfl
theorem lw_inX7 : Cond.instantiable RX7 2 ∈ gm_ws := gm_mem 253 (by decide +kernel) rfl
theorem lw_inX8 : Cond.instantiable RX8 3 ∈ gm_ws := gm_mem 237 (by decide +kernel) rfl
theorem lw_inX9 : Cond.instantiable RX9 12 ∈ gm_ws := gm_mem 87 (by decide +kernel) rfl
theorem lw_inX10 : Cond.instantiable RX10 28 ∈ gm_ws := gm_mem 978 (by decide +kernel) rfl
theorem lw_ao : Cond.arrayOver (.object "GlassWords$Sheet") ∈ lw_tbl ∧ Cond.arrayOver (.object "java/lang/String") ∈ lw_tbl := by decide +kernel
theorem lw_known {args : Array Value} {s : State} (hts : ∀ w ∈ lw_tbl, w.before args s = true) : ∃ Y : va_G × ClassId × ClassId × ClassId, va_K Y.1 vwCl [(Y.2.1, .int), (Y.2.2.1, .object "GlassWords$Sheet"), (Y.2.2.2, .object "java/lang/String")] s := by
  have hg : ∀ w ∈ gm_ws, w.before args s = true := fun w hw => hts w (lw_ws hw)
  obtain ⟨c0, s0, k0⟩ := u_known (C := RX1) (T := TX1) (N := 6) (n := 6) hg inX1 (hg _ lw_inX1)
  obtain ⟨c1, s1, k1⟩ := u_known (C := RX2) (T := TX2) (N := 2) (n := 2) hg inX2 (hg _ lw_inX2)
  obtain ⟨c2, s2, k2⟩ := u_known (C := RX3) (T := TX3) (N := 6) (n := 6) hg inX3 (hg _ lw_inX3)
  obtain ⟨c3, s3, k3⟩ := u_known (C := RX4) (T := TX4) (N := 5) (n := 5) hg inX4 (hg _ lw_inX4)
  obtain ⟨c4, s4, k4⟩ := u_known (C := RX5) (T := TX5) (N := 3) (n := 3) hg inX5 (hg _ lw_inX5)
  obtain ⟨c5, s5, k5⟩ := u_known (C := RX6) (T := TX6) (N := 11) (n := 11) hg inX6 (hg _ lw_inX6)
  obtain ⟨c6, s6, k6⟩ := u_known (C := RX7) (T := TX7) (N := 2) (n := 2) hg inX7 (hg _ lw_inX7)
  obtain ⟨c7, s7, k7⟩ := u_known (C := RX8) (T := TX8) (N := 3) (n := 3) hg inX8 (hg _ lw_inX8)
  obtain ⟨c8, s8, k8⟩ := u_known (C := RX9) (T := TX9) (N := 12) (n := 12) hg inX9 (hg _ lw_inX9)
  obtain ⟨c9, s9, k9⟩ := u_known (C := RX10) (T := TX10) (N := 28) (n := 28) hg inX10 (hg _ lw_inX10)
  obtain ⟨cI, i1, i2⟩ := lw_arrI (hg _ gm_warr)
  obtain ⟨cS, j1, j2⟩ := lw_arrO (va_AO.of (hts _ lw_ao.1))
  obtain ⟨cT, l1, l2⟩ := lw_arrO (va_AO.of (hts _ lw_ao.2))
  refine ⟨((fun k => [c0, c1, c2, c3, c4, c5, c6, c7, c8, c9].getD k c0, fun k => [s0, s1, s2, s3, s4, s5, s6, s7, s8, s9].getD k s0), cI, cS, cT), ?_, ?_⟩
  · intro k q hq
    match k, hq with
    | 0, hq => cases hq; exact k0
    | 1, hq => cases hq; exact k1
    | 2, hq => cases hq; exact k2
    | 3, hq => cases hq; exact k3
    | 4, hq => cases hq; exact k4
    | 5, hq => cases hq; exact k5
    | 6, hq => cases hq; exact k6
    | 7, hq => cases hq; exact k7
    | 8, hq => cases hq; exact k8
    | 9, hq => cases hq; exact k9
    | k + 10, hq => simp [vwCl] at hq
  · intro k q hq
    match k, hq with
    | 0, hq => cases hq; exact ⟨i1, i2⟩
    | 1, hq => cases hq; exact ⟨j1, j2⟩
    | 2, hq => cases hq; exact ⟨l1, l2⟩
    | k + 3, hq => simp at hq
/-- a cell made: the world grows -/
theorem gm_born {own : String} {args : Array Value} {s : State} {X : Xt} {h : Mem} {n cn N idx : Nat} {H H1 : Heap} {kC : Class} (hg : ∀ w ∈ gm_ws, w.before args s = true) (hlin : gm_lin X) (hK : va_K X.2.1 vwCl (gm_tys X) s) (hw : NwOk own idx cn N) (hk : gm_cls n = cn) (hn : n < 57) (hz : H.size = X.1 0 + n) (hP : va_P X.2.1 vwCl (gm_WC X n h) H) (hkC : s.vm.classes[X.2.1.1 cn]? = some kC) (e1 : H1[H.size]? = some (blank (X.2.1.1 cn) kC)) (o1 : ∀ q, q < H.size → H1[q]? = H[q]?) : va_P X.2.1 vwCl (gm_WC X (n + 1) (gm_new h n)) H1 := by
  obtain ⟨CC, T, ty, g1, g2, g3, g4, g5, g6, g7, g8, g9⟩ := hw
  have hKn := hK.1 cn _ g1
  have hold : ∀ (k : Nat) (x : Nat × va_E), (gm_WC X n h)[k]? = some x → H1[x.1]? = H[x.1]? := fun k x hx => o1 x.1 (hP k x hx).lt
  have hobj : va_at X.2.1 vwCl (X.1 0 + n, .inr (cn, (List.range N).map (fun j => gm_fvC X.1 n j 0))) H1 := by
    refine ⟨_, g1, ?_⟩
    rw [← hz]
    refine (u_born ty hg g2 hKn hkC e1 g3).to (fun j hj => ?_)
    rw [g9 j hj]
    show _ = ((List.range N).map (fun j => gm_fvC X.1 n j 0)).getD j Value.null
    rw [List.getD_eq_getElem?_getD, List.getElem?_map, List.getElem?_range hj]
    show _ = gm_fvC X.1 n j 0
    unfold gm_fvC
    rw [hk]
    by_cases h0 : gm_fk cn j = 0
    · rw [if_pos h0, h0]
      rfl
    · rw [if_neg h0]
      split
      · exact absurd (by assumption) h0
      · rfl
  rw [← gm_WC_push hlin hn (by rw [gm_cellC_obj hk g8, g7])]
  refine (hP.kept hold).app (fun k x hx => ?_)
  have hzk : k < 1 := (List.getElem?_eq_some_iff.mp hx).1
  rw [show k = 0 by omega] at hx
  cases hx
  exact hobj
/-- every reference is set -/
def gm_flags (h : Mem) : Prop := (∀ k, k < 57 → ∀ j, gm_fk (gm_cls k) j = 1 → ¬ h k j = 0) ∧ (∀ i, i < 4 → ¬ h 33 i = 0) ∧ (∀ i, i < 7 → ¬ h 51 i = 0)
theorem gm_arrq {c : ClassId} {n : Nat} {f g : Nat → Option Nat} (hfg : ∀ i, i < n → f i = g i) : vp_cell c (n, .inr (.inr (.inr (.inr f)))) = vp_cell c (n, .inr (.inr (.inr (.inr g)))) := by
  rw [vp_cell_q, vp_cell_q]
  unfold arrV
  congr 1
  refine Array.ext (by simp) (fun i h1 h2 => ?_)
  simp at h1
  simp [hfg i (by omega)]
theorem gm_full {X : Xt} {h : Mem} {H : Heap} (hf : gm_flags h) (hP : va_P X.2.1 vwCl (gm_WC X 57 h) H) : va_P X.2.1 vwCl (gm_W X h) H := by
  intro k q hq
  have hk : k < 57 := by
    have := (List.getElem?_eq_some_iff.mp hq).1
    simpa [gm_W] using this
  rw [gm_W_at hk] at hq
  cases hq
  have h0 := hP k _ (gm_WC_at hk)
  by_cases h10 : gm_cls k < 10
  · rw [gm_cellC_obj rfl h10] at h0
    rw [gm_cell_obj rfl h10]
    have e : (List.range (gm_nf (gm_cls k))).map (fun j => gm_fv X.1 k j (h k j)) = (List.range (gm_nf (gm_cls k))).map (fun j => gm_fvC X.1 k j (h k j)) := by
      refine List.map_congr_left (fun j _ => ?_)
      have hne := hf.1 k hk j
      unfold gm_fv gm_fvC
      generalize gm_fk (gm_cls k) j = z at hne ⊢
      match z with
      | 0 => rfl
      | 1 => show _ = if _ then _ else _; rw [if_neg (hne rfl)]; rfl
      | z + 2 => rfl
    rw [e]
    exact h0
  · have hc : gm_cls k = 20 ∨ k = 33 ∨ k = 51 := gm_c20 k hk h10
    rcases hc with hc | rfl | rfl
    · rw [gm_cellC_arr ⟨hc, rfl⟩] at h0
      rw [gm_cell_arr ⟨hc, rfl⟩]
      exact h0
    · show H[X.1 33]? = some (vp_cell _ _)
      rw [show H[X.1 33]? = some (vp_cell _ _) from h0]
      refine congrArg some (gm_arrq (fun i hi => ?_))
      rw [if_neg (hf.2.1 i hi)]
    · show H[X.1 51]? = some (vp_cell _ _)
      rw [show H[X.1 51]? = some (vp_cell _ _) from h0]
      refine congrArg some (gm_arrq (fun i hi => ?_))
      rw [if_neg (hf.2.2 i hi)]
