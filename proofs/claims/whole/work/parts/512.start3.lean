theorem cl_L_7 : Cond.classLink R_law 7 RX9 ∈ gm_ws := gm_mem 86 (by decide +kernel) rfl
theorem cl_L_10 : Cond.classLink R_law 10 RX10 ∈ gm_ws := gm_mem 977 (by decide +kernel) rfl
theorem ii_L_7 : Cond.initialized RX9 ∈ gm_ws := gm_mem 67 (by decide +kernel) rfl
theorem ii_L_10 : Cond.initialized RX10 ∈ gm_ws := gm_mem 78 (by decide +kernel) rfl
theorem nw_L_7 : NwOk R_law 7 8 12 := ⟨RX9, TX9, tyX9, rfl, inX9, tyX9_ok, cl_L_7, lw_inX9, ii_L_7, rfl, by decide, by decide⟩
theorem nw_L_10 : NwOk R_law 10 9 28 := ⟨RX10, TX10, tyX10, rfl, inX10, tyX10_ok, cl_L_10, lw_inX10, ii_L_10, rfl, by decide, by decide⟩
theorem lk_L_9 : Cond.methodLink R_law 9 yX9_init ∈ gm_ws := gm_mem 88 (by decide +kernel) rfl
theorem lk_L_12 : Cond.methodLink R_law 12 yX10_init ∈ gm_ws := gm_mem 979 (by decide +kernel) rfl
def lw_bornH (Inv : Mem → Prop) : Prop := f_X9_init (gm_new (fun _ _ => 0) 0) (fun h1 => f_X10_init (gm_new h1 43) (fun h2 => gm_flags h2 ∧ Inv h2))
set_option maxHeartbeats 4000000 in
set_option maxRecDepth 20000 in
theorem lw_whole {Inv : Mem → Prop} (hp : lw_pairs Inv) (hbn : lw_bornH Inv) {p : Program} {e : Env} {s : State} {m : MethodId} {below : List Frame} {meth : Method} {c : Code} (l : Launch) {b L : Nat} {xs : Nat → Int32} (hL : L ≤ 3072) (C0 : lw_At p s m meth c b L xs) : W p l e room_1 s m #[Value.ref b] below meth c s.heap [] 0 0 (lw_Z below #[Value.ref b] s) (entryFrame m ([Value.ref b] : List Value).toArray 4) := by
  obtain ⟨hx, hb, hr, hml, hown, hts, hXs, hbl, hlocks, hgv⟩ := id C0
  obtain ⟨r, hr1, hr300, hold⟩ := lw_old hts (flat_of_before _ hgv)
  obtain ⟨Y, hKY⟩ := lw_known hts
  obtain ⟨X, eX⟩ : ∃ X : Xt, X = (r, Y) := ⟨_, rfl⟩
  have hlin : gm_lin X := fun k hk => by rw [eX]; show r k = r 0 + k; rw [hr1 k hk, hr1 0 (by decide)]; rfl
  have hX0 : X.1 0 = s.heap.size := by rw [eX]; exact hr1 0 (by decide)
  have hX300 : X.1 300 = b := by rw [eX]; exact hr300
  have hA0 : gm_A0 X = fun q : Nat => s.heap.size ≤ q := by funext q; show (X.1 0 ≤ q) = _; rw [hX0]
  have hO : gm_oldA (gm_A0 X) X s s.heap := by rw [hA0, eX]; exact hold Y
  have hK : va_K X.2.1 vwCl (gm_tys X) s := by rw [eX]; exact hKY
  have hAO : gm_aos s := ⟨va_AO.of (hts _ lw_ao.1), va_AO.of (hts _ lw_ao.2)⟩
  have hg : ∀ w ∈ gm_ws, w.before #[Value.ref b] s = true := fun w hw => hts w (lw_ws hw)
  have hP : va_P X.2.1 vwCl (gm_WC X 0 (fun _ _ => 0)) s.heap := fun k q h => by simp [gm_WC] at h
  have hl := lv_entry ([.ref b]) (n := 4) (Nat.le_of_ble_eq_true rfl)
  rw [lg_entry_eq]
  generalize (lg_sl ([.ref b]) ++ List.replicate (4 - (lg_sl ([.ref b])).length) Slot.unset).toArray = ls at hl ⊢
  have hl : lv_has ls 4 [(0, .ref b)] := hl
  have hk9 := hK.1 8 (RX9, TX9, 12) rfl
  have hk10 := hK.1 9 (RX10, TX10, 28) rfl
  have hX43 : X.1 43 = X.1 0 + 43 := hlin 43 (by decide)
  refine W.newcK hx hb hown (hg _ cl_L_7) (hg _ lw_inX9) (hg _ ii_L_7) rfl d_law_0 (Nat.le_of_ble_eq_true rfl) (Nat.le_of_ble_eq_true rfl) hk9.2.1 hX0.symm fun H1 kC hkC e1 z1 o1 => ?_
  have hP := gm_born hg hlin hK nw_L_7 rfl (by decide) hX0.symm hP hkC (by rw [← hX0]; exact e1) (by rw [← hX0]; exact o1)
  have hz : H1.size = X.1 0 + 1 := z1
  have hS : va_S (fun q : Nat => s.heap.size ≤ q) s.heap H1 [] := ⟨by rw [z1, hX0]; exact Nat.le_succ _, fun q h1 _ => o1 q (by rw [hX0]; exact h1), fun _ h => by cases h⟩
  refine lv_dup hx hb d_law_3 rfl ?_
  refine va_callv (va_runI (As := []) (rest := [.ref (X.1 0)]) (b := X.1 0) (Ts := gm_ws) (own := R_law) ⟨hx, hb, hml, hown, hg⟩ (t_X9_init _ _ hbn l X) ⟨callB_of 0 hg (gm_goodN1 ok_X9_init rfl) rfl rfl rfl (hg _ ok_X9_init.2.1) (hg _ lk_L_9) ok_X9_init.2.2 ⟨Nat.le_of_ble_eq_true rfl, Nat.le_of_ble_eq_true rfl⟩, rfl, hg _ in_X9_init⟩ ⟨gm_blindA, fun U hU hW => ⟨rfl, by rw [hU]; exact hz, hlin, by rw [hU]; exact hP, va_K.moved hW.alike hK, by rw [hU]; exact gm_oldA.warm hW (hO.kept (fun a h1 h2 => hS.2.1 a h1 (by rw [hA0] at h2; exact h2))), va_AO.moved hW.alike hAO.1, va_AO.moved hW.alike hAO.2⟩⟩ rfl rfl hl.1 rfl (lv_room (Nat.le_of_ble_eq_true rfl)) d_law_4 ⟨Nat.le_of_ble_eq_true rfl, Nat.le_of_ble_eq_true rfl⟩) hS (fun q _ z => by rw [hA0] at z; exact z) (fun q z => by rw [hA0] at z; exact z) (fun h0 t H2 locs2 ht _ hyp hb1 _ _ hS => ?_)
  have hz : H2.size = X.1 0 + 43 := by rw [← ht]; exact hb1.1
  have hP := hb1.2
  rw [ht] at hP
  have hl0 := hl
  refine lv_astore_n (lv' := [(1, .ref (X.1 0)), (0, .ref b)]) hx hb d_law_7 rfl hl (by decide) rfl (fun ls hl => ?_)
  refine W.newcK hx hb hown (hg _ cl_L_10) (hg _ lw_inX10) (hg _ ii_L_10) rfl d_law_8 (Nat.le_of_ble_eq_true rfl) (Nat.le_of_ble_eq_true rfl) hk10.2.1 (hz.trans hX43.symm) fun H1 kC hkC e1 z1 o1 => ?_
  have hP := gm_born hg hlin hK nw_L_10 rfl (by decide) hz hP hkC (by rw [hz, ← hX43]; exact e1) (by rw [hz, ← hX43]; exact o1)
  have hz : H1.size = X.1 0 + 44 := by rw [z1, hX43]
  have hS : va_S (fun q : Nat => s.heap.size ≤ q) s.heap H1 locs2 := ⟨by rw [z1, hX43, hX0]; omega, fun q h1 h2 => (o1 q (by rw [hX43, hX0]; omega)).trans (hS.2.1 q h1 h2), hS.2.2⟩
  refine lv_dup hx hb d_law_11 rfl ?_
  refine va_callv (va_runI (As := []) (rest := [.ref (X.1 43)]) (b := X.1 43) (Ts := gm_ws) (own := R_law) ⟨hx, hb, hml, hown, hg⟩ (t_X10_init _ _ hyp l X) ⟨callB_of 0 hg (gm_goodN1 ok_X10_init rfl) rfl rfl rfl (hg _ ok_X10_init.2.1) (hg _ lk_L_12) ok_X10_init.2.2 ⟨Nat.le_of_ble_eq_true rfl, Nat.le_of_ble_eq_true rfl⟩, rfl, hg _ in_X10_init⟩ ⟨gm_blindA, fun U hU hW => ⟨rfl, by rw [hU]; exact hz, hlin, by rw [hU]; exact hP, va_K.moved hW.alike hK, by rw [hU]; exact gm_oldA.warm hW (hO.kept (fun a h1 h2 => hS.2.1 a h1 (by rw [hA0] at h2; exact h2))), va_AO.moved hW.alike hAO.1, va_AO.moved hW.alike hAO.2⟩⟩ rfl rfl hl.1 rfl (lv_room (Nat.le_of_ble_eq_true rfl)) d_law_12 ⟨Nat.le_of_ble_eq_true rfl, Nat.le_of_ble_eq_true rfl⟩) hS (fun q _ z => by rw [hA0] at z; exact z) (fun q z => by rw [hA0] at z; exact z) (fun h43 t H2 locs2 ht _ hyp hb1 _ _ hS => ?_)
  have hz : H2.size = X.1 0 + 57 := by rw [← ht]; exact hb1.1
  have hP := hb1.2
  rw [ht] at hP
  refine lv_astore_n (lv' := [(2, .ref (X.1 43)), (1, .ref (X.1 0)), (0, .ref b)]) hx hb d_law_15 rfl hl (by decide) rfl (fun ls hl => ?_)
  refine lv_iconst (v := 0) hx hb d_law_16 (by decide) ?_
  refine lv_istore_n (lv' := [(3, .int 0), (2, .ref (X.1 43)), (1, .ref (X.1 0)), (0, .ref b)]) hx hb d_law_17 rfl hl (by decide) rfl (fun ls hl => ?_)
  refine W.widen (k := 1000) (n := 20000) (Nat.le_of_ble_eq_true rfl) (Nat.le_of_ble_eq_true rfl) ?_
  have hinj : gm_inj X := fun i j hi hj q => by rw [hlin i hi, hlin j hj] at q; omega
  have hA : ∀ q, gm_A X q → gm_A0 X q := fun q hq => by
    obtain ⟨k, h1, rfl⟩ := hq
    show X.1 0 ≤ X.1 k
    rw [hlin k h1]
    omega
  have hcx : lw_cx L xs p s m meth c X := ⟨by rw [hX300]; exact C0, hinj, hK, hO.narrow hA, fun k hk => by rw [hlin k hk, hX0]; omega⟩
  have hlv : lv_has ls 4 ([(0, Value.ref 300), (1, .ref 0), (2, .ref 43), (3, .int (nI 0))].map (gm_tp X.1)) := by
    show lv_has ls 4 [(0, .ref (X.1 300)), (1, .ref (X.1 0)), (2, .ref (X.1 43)), (3, .int (nI 0))]
    rw [hX300]
    exact lv_sub hl [3, 2, 1, 0] rfl
  have hgo := lw_loop hp (L := L) (xs := xs) hL (L + 7) 0 _ (by omega) (by omega) hyp.2 p l e s m below meth c X H2 locs2 ls hcx (gm_full hyp.1 hP) hS hlv
  rw [hX300] at hgo
  exact hgo
