/-! the making: a table copied into a row -/
theorem ae_copyT {M : Mt} {n' : Nat} {Q : Mem → Prop} {cs ss pc pc' n idx i k w : Nat} {lv : List (Nat × Value)} {rest : List Value} {h : Mem} (hd : At M pc (.invokestatic idx) 3 pc') (hlink : Cond.methodLink M.1.cls idx arraycopyName ∈ gm_ws) (hi : i < 6) (ha : gm_arr k w) (hkn : k < n) (hn : n ≤ 57) (hlen : (gm_tab i).length = w) (hw10 : w = 10) (hf : 1 ≤ M.2.2.2.2.frames) (hw : (rest.map fun v => v.category).sum + (nativeFrameWords "java/lang/System" "arraycopy" 5 + 11) ≤ M.2.2.2.2.locals) (kk : AV M n' Q cs ss pc' lv rest n (fun a => if a = k then va_cpy (fun j => (gm_tab i).getD j 0) (h k) 0 0 10 else h a)) : AV M n' Q cs ss pc lv (.int 10 :: .int 0 :: .ref k :: .int 0 :: .ref (200 + i) :: rest) n h := by
  obtain ⟨d, rfl⟩ := hd
  subst hw10
  intro p l e s m args below meth c X H locs ls C hz hP hS hl
  intro T hT X0
  have hD := gm_DC C.2.1 n hn h
  have ha1 := gm_WC_arr (X := X) (h := h) hkn ha
  obtain ⟨scr, hs1, hs2, hs3, hs4, -, hs5, hs7⟩ := (C.2.2.2.1.2.1 i hi).2
  rw [hlen] at hs4 hs5
  have hc0 : H[X.1 (200 + i)]? = some scr := by rw [hS.2.1 _ (Array.getElem?_eq_some_iff.mp hs1).1 hs7]; exact hs1
  have hc1 : H[X.1 k]? = some (vp_cell X.2.2.1 (10, .inl (h k))) := hP k _ ha1
  obtain ⟨hs6, k0, hk0, cm0, hkk0⟩ := hs2
  obtain ⟨-, k1, hk1, cm1, hkk1⟩ := (C.2.2.1.2 0 (X.2.2.1, .int) rfl).1 10 (fun j => .int (h k j))
  obtain ⟨vm', X', step⟩ := X0.arraycopy C.1.1 C.1.2.2.2.2.1 (C.1.2.2.2.2.2.1 _ hlink) (C.1.2.2.2.2.2.1 _ gm_wcpy.1) (C.1.2.2.2.2.2.1 _ gm_wcpy.2.1) (C.1.2.2.2.2.2.1 _ gm_wcpy.2.2) (src := X.1 (200 + i)) (dst := X.1 k) (cs := scr) (cd := vp_cell X.2.2.1 (10, .inl (h k))) (srcPos := 0) (destPos := 0) (n := 10) (by rw [hT]; exact hc0) (by rw [hT]; exact hc1)
    hs6 (fun _ h => by cases h) hs3 (fun h => by cases h) hk0 hk1 hkk0 hkk1 (by simp [refKind]) (by decide) (by decide) (by decide)
    (by show ¬ (0 : Int) + 10 > _; omega)
    (by show ¬ (0 : Int) + 10 > ((arrV X.2.2.1 10 (fun j => .int (h k j))).slots.size : Int); rw [arrV_size]; omega)
    (fun vm₁ _ j hj => by
      have hj' : j < 10 := hj
      have e : scr.slots.getD ((0 : Int32).toNatClampNeg + j) .null = .int ((gm_tab i).getD j 0) := by
        rw [Array.getD_eq_getD_getElem?, show (0 : Int32).toNatClampNeg + j = j from Nat.zero_add j, hs5 _ hj']
        rfl
      refine ⟨?_, ?_⟩
      · rw [e]; rfl
      · rw [e]; exact trivial)
    (g := F0 m pc ls (.int 10 :: .int 0 :: .ref (X.1 k) :: .int 0 :: .ref (X.1 (200 + i)) :: rest.map (gm_tv X.1))) rfl (by show ls.size = _; rw [C.1.2.2.2.1]; exact hl.1) (rest := rest.map (gm_tv X.1)) rfl (by rw [C.1.2.1]; exact d) hf (by show 2 * 0 + _ + _ ≤ _; rw [gm_catsum]; omega)
  have e1 : copied scr (vp_cell X.2.2.1 (10, .inl (h k))) 0 0 10 = vp_cell X.2.2.1 (10, .inl (va_cpy (fun j => (gm_tab i).getD j 0) (h k) 0 0 10)) := va_copiedX (fun z => .int z) scr X.2.2.1 (fun j => (gm_tab i).getD j 0) (h k) hs5 (by decide)
  rw [e1] at X' step
  have hl0 : X.1 k < H.size := (Array.getElem?_eq_some_iff.mp hc1).1
  have hheap : ((T.setVm vm').setCell (X.1 k) (vp_cell X.2.2.1 (10, .inl (va_cpy (fun j => (gm_tab i).getD j 0) (h k) 0 0 10)))).heap = H.setIfInBounds (X.1 k) (vp_cell X.2.2.1 (10, .inl (va_cpy (fun j => (gm_tab i).getD j 0) (h k) 0 0 10))) := by rw [← hT]; rfl
  have oq : ∀ q : Nat, q ≠ X.1 k → (H.setIfInBounds (X.1 k) (vp_cell X.2.2.1 (10, .inl (va_cpy (fun j => (gm_tab i).getD j 0) (h k) 0 0 10))))[q]? = H[q]? := fun q hq => by simp [Array.getElem?_setIfInBounds, Ne.symm hq]
  have hP1 := hP.set (e := .inl (X.2.2.1, 10, .inl (va_cpy (fun j => (gm_tab i).getD j 0) (h k) 0 0 10))) (H1 := H.setIfInBounds (X.1 k) (vp_cell X.2.2.1 (10, .inl (va_cpy (fun j => (gm_tab i).getD j 0) (h k) 0 0 10)))) hD ha1 (show (H.setIfInBounds (X.1 k) _)[X.1 k]? = some _ by simp [Array.getElem?_setIfInBounds, hl0]) oq
  rw [gm_WC_set (h := h) (h' := fun a => if a = k then va_cpy (fun j => (gm_tab i).getD j 0) (h k) 0 0 10 else h a) hkn (by rw [gm_cellC_arr ha, if_pos rfl]) (fun a h9 => if_neg h9)] at hP1
  obtain ⟨t, a1, b1⟩ := kk p l e s m args below meth c X _ _ ls C (by rw [Array.size_setIfInBounds]; exact hz) hP1 ⟨by simp; exact hS.1, fun q g1 g2 => by
      rw [oq q (fun e => g2 (by rw [e]; exact hD.2 k _ ha1))]
      exact hS.2.1 q g1 g2, fun q hq => by
      rcases List.mem_append.mp hq with h | h
      · exact hS.2.2 q h
      · obtain ⟨z, -, hz⟩ := List.mem_map.mp h
        rw [← hz]
        exact hD.2 k _ ha1⟩ hl _ hheap X'
  exact ⟨t, step t a1, b1⟩
