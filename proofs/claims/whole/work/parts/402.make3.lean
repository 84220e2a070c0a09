/-- a constructor that can be called: its words -/
def NOk1 (N : Mt) (n : Nat) : Prop := Cond.code N.1 N.2.1 N.2.2.1 N.2.2.2.1 ∈ gm_ws ∧ Cond.initialized N.1.cls ∈ gm_ws ∧ (N.1.cls ≠ "java/lang/invoke/MethodHandle" ∧ N.1.cls ≠ "java/lang/invoke/VarHandle" ∧ (parseMethodDescriptor N.1.desc).map (fun d => d.parameters.length) = some n)
theorem gm_goodN1 {N : Mt} {n : Nat} (hN : NOk1 N n) (hr : N.2.2.2.1 = none) : GoodIn gm_ws (.code N.1 N.2.1 N.2.2.1 none :: gm_ws) := fun w hw => by
  rcases List.mem_cons.mp hw with rfl | h
  · have := hN.1
    rw [hr] at this
    exact gm_good this
  · exact gm_good h
/-! the making: rows of references, the table copied, calls -/
theorem gm_blindA {X : Xt} {n : Nat} {h : Mem} {av : List Value} : FrameBlind (va_Pc av (gm_wdA X n h)) := fun a U g mk q => ⟨q.1, q.2.1, q.2.2.1, q.2.2.2.1, va_K.moved (u := U) (U := U.calling g mk a) (Vm.Alike.refl U.vm) q.2.2.2.2.1, gm_oldA.same (u := U) (U := U.calling g mk a) rfl q.2.2.2.2.2.1, va_AO.moved (u := U) (U := U.calling g mk a) (Vm.Alike.refl U.vm) q.2.2.2.2.2.2.1, va_AO.moved (u := U) (U := U.calling g mk a) (Vm.Alike.refl U.vm) q.2.2.2.2.2.2.2⟩
theorem gm_preA {X : Xt} {n : Nat} {h : Mem} {av : List Value} {M : Mt} {p : Program} {s : State} {m : MethodId} {args : Array Value} {meth : Method} {c : Code} {H : Heap} {locs : List Loc} (C : gm_cxA M p s m args meth c X) (hz : H.size = X.1 0 + n) (hP : va_P X.2.1 vwCl (gm_WC X n h) H) (hS : va_S (gm_A0 X) s.heap H locs) (U : State) (hU : U.heap = H) (hW : s.WarmedH U.vm) : va_Pc av (gm_wdA X n h) av.toArray U := by
  refine ⟨rfl, by rw [hU]; exact hz, C.2.1, by rw [hU]; exact hP, va_K.moved hW.alike C.2.2.1, ?_, va_AO.moved hW.alike C.2.2.2.2.1.1, va_AO.moved hW.alike C.2.2.2.2.1.2⟩
  rw [hU]
  exact gm_oldA.warm hW (C.2.2.2.1.kept hS.2.1)
section
variable {M N : Mt} {n' n1 : Nat} {Q Q1 : Mem → Prop} {cs ss pc pc' tgt n idx : Nat} {lv : List (Nat × Value)} {st rest : List Value} {h : Mem}
theorem gm_wcS {X : Xt} {h : Mem} {n : Nat} (hk : 33 < n) : (gm_WC X n h)[33]? = some (X.1 33, .inl (X.2.2.2.1, 4, .inr (.inr (.inr (.inr (fun i => if h 33 i = 0 then none else some (X.1 (35 + 2 * i)))))))) := gm_WC_at hk
theorem gm_wcT {X : Xt} {h : Mem} {n : Nat} (hk : 51 < n) : (gm_WC X n h)[51]? = some (X.1 51, .inl (X.2.2.2.2, 7, .inr (.inr (.inr (.inr (fun i => if h 51 i = 0 then none else some (X.1 (100 + i)))))))) := gm_WC_at hk
/-- a reference put into a row -/
theorem ae_ast {a t0 w v key : Nat} {E : String} {i : Int32} {X : Xt} {p : Program} {l : Launch} {e : Env} {s : State} {m : MethodId} {args : Array Value} {below : List Frame} {meth : Method} {c : Code} {H : Heap} {locs : List Loc} {ls : Array Slot} {cA : ClassId} {f : Nat → Option Nat} {QQ : State → Prop} {rs : List Value} {cells slots : Nat} (d : decode M.2.1 pc = .ok (.aastore, 1)) (C : gm_cxA M p s m args meth c X) (hn : n ≤ 57) (hP : va_P X.2.1 vwCl (gm_WC X n h) H) (hS : va_S (gm_A0 X) s.heap H locs) (ha : (gm_WC X n h)[key]? = some (a, .inl (cA, w, .inr (.inr (.inr (.inr f)))))) (ht : (gm_tys X)[t0]? = some (cA, .object E)) (hr : va_Any E s H v) (hin : vp_in i w)
    (kk : ∀ (H1 : Heap) (locs1 : List Loc), H1.size = H.size → va_P X.2.1 vwCl ((gm_WC X n h).set key (a, .inl (cA, w, .inr (.inr (.inr (.inr (va_up f i.toNatClampNeg (some v)))))))) H1 → va_S (gm_A0 X) s.heap H1 locs1 → W p l e M.2.2.2.2 s m args below meth c H1 locs1 cells slots QQ (F0 m (pc + 1) ls rs)) : W p l e M.2.2.2.2 s m args below meth c H locs cells slots QQ (F0 m pc ls (.ref v :: .int i :: .ref a :: rs)) := by
  have hlt : i.toNatClampNeg < w := Nat.not_le.mp fun q => hin (Or.inr q)
  have h0 : ¬ i < 0 := fun q => hin (Or.inl q)
  have hD := gm_DC C.2.1 n hn h
  obtain ⟨cellV, g1, g3, ⟨kC, hkC⟩, hasg⟩ := hr
  obtain ⟨kA, comp, k1, k2, k3, -⟩ := (C.2.2.1.2 t0 _ ht).2
  obtain ⟨kE, hkE, -⟩ := Vm.findClass_spec k3
  refine W.aast C.1.1 C.1.2.1 (hP key _ ha) (fun q h => by cases h) (fun h => by cases h) k1 k2 rfl hkE ⟨h0, by show _ < (arrV _ _ _).slots.size; rw [arrV_size]; exact hlt⟩ g1 (fun q h => by rw [h] at g3; cases g3) hkC (hasg _ k3) rfl rfl d fun H1 e z oq => ?_
  have hat : va_at X.2.1 vwCl (a, .inl (cA, w, .inr (.inr (.inr (.inr (va_up f i.toNatClampNeg (some v))))))) H1 := by
    show H1[a]? = some (vp_cell _ _)
    rw [e, vp_cell_q, vp_cell_q, arrV_store]
    congr 2
    funext q
    by_cases hq : q = i.toNatClampNeg
    · subst hq
      simp [updV, va_up, va_rf]
    · simp [updV, va_up, hq]
  exact kk H1 _ z (hP.set hD ha hat oq) (hS.put z oq (hD.2 key _ ha))
theorem ae_ast33 {i : Int32} {j : Nat} (hd : At M pc .aastore 1 pc') (hi : vp_in i 4) (hj : i.toNatClampNeg = j) (hn : n ≤ 57) (h33 : 33 < n) (hk : 35 + 2 * j < n) (hc : gm_cls (35 + 2 * j) = 4) (kk : AV M n' Q cs ss pc' lv st n (gm_st h 33 j 1)) : AV M n' Q cs ss pc lv (.ref (35 + 2 * j) :: .int i :: .ref 33 :: st) n h := by
  obtain ⟨d, rfl⟩ := hd
  intro p l e s m args below meth c X H locs ls C hz hP hS hl
  refine ae_ast d C hn hP hS (gm_wcS h33) (t0 := 1) rfl (va_rAny C.2.2.1 hP (gm_WC_obj hk hc (by decide)) (r := (RX5, TX5, 3)) rfl (fun comp c0 q1 q2 => ?_)) hi (fun H1 locs1 z1 hP1 hS1 => ?_)
  · cases q1.symm.trans q2
    exact va_asg _ _
  · refine kk p l e s m args below meth c X H1 locs1 ls C (by rw [z1]; exact hz) ?_ hS1 hl
    rw [← gm_WC_set (h := h) h33 (e := .inl (X.2.2.2.1, 4, .inr (.inr (.inr (.inr (va_up (fun i => if h 33 i = 0 then none else some (X.1 (35 + 2 * i))) i.toNatClampNeg (some (X.1 (35 + 2 * j))))))))) ?_ (fun a ha => gm_st_o a ha)]
    · exact hP1
    · show (Sum.inl (X.2.2.2.1, 4, _) : va_E) = _
      congr 7
      funext q
      rw [gm_st_s, hj]
      by_cases hq : q = j
      · subst hq
        simp [va_up, upd]
      · simp [va_up, upd, hq]
theorem ae_ast51 {i : Int32} {j : Nat} (hd : At M pc .aastore 1 pc') (hi : vp_in i 7) (hj : i.toNatClampNeg = j) (hn : n ≤ 57) (h51 : 51 < n) (h17 : j < 17) (kk : AV M n' Q cs ss pc' lv st n (gm_st h 51 j 1)) : AV M n' Q cs ss pc lv (.ref (100 + j) :: .int i :: .ref 51 :: st) n h := by
  obtain ⟨d, rfl⟩ := hd
  intro p l e s m args below meth c X H locs ls C hz hP hS hl
  have hany : va_Any "java/lang/String" s H (X.1 (100 + j)) := by
    obtain ⟨cell, g1, g2, g3, g4⟩ := (C.2.2.2.1.2.2.2.1 j h17).1.kept hS.2.1
    obtain ⟨kC, hkC, -⟩ := Vm.findClass_spec g3
    exact ⟨cell, g1, g2, ⟨kC, hkC⟩, fun comp hc => by cases hc.symm.trans g3; exact va_asg _ _⟩
  refine ae_ast d C hn hP hS (gm_wcT h51) (t0 := 2) rfl hany hi (fun H1 locs1 z1 hP1 hS1 => ?_)
  refine kk p l e s m args below meth c X H1 locs1 ls C (by rw [z1]; exact hz) ?_ hS1 hl
  rw [← gm_WC_set (h := h) h51 (e := .inl (X.2.2.2.2, 7, .inr (.inr (.inr (.inr (va_up (fun i => if h 51 i = 0 then none else some (X.1 (100 + i))) i.toNatClampNeg (some (X.1 (100 + j))))))))) ?_ (fun a ha => gm_st_o a ha)]
  · exact hP1
  · show (Sum.inl (X.2.2.2.2, 7, _) : va_E) = _
    congr 7
    funext q
    rw [gm_st_s, hj]
    by_cases hq : q = j
    · subst hq
      simp [va_up, upd]
    · simp [va_up, upd, hq]
/-- calls: a constructor of a nest mate, of a class of the package; a static method -/
theorem ae_cN {k : Nat} {host : String} (hd : At M pc (.invokespecial idx) 3 pc') (hN : NOk1 N 0) (hi : N.1.name = "<init>") (hin : Cond.instanceMethod N.1 ∈ gm_ws) (hlink : Cond.methodLinkNest M.1.cls idx N.1 host ∈ lw_tbl) (hR : RmOk M N) (hr : N.2.2.2.1 = none) (hw : (st.map fun v => v.category).sum ≤ 8) (hc : cs + N.2.2.2.2.cells ≤ M.2.2.2.2.cells) (hs : ss + N.2.2.2.2.slots ≤ M.2.2.2.2.slots) (hM : CnA N [.ref k] n n1 h Q1) (kk : ∀ h1, Q1 h1 → AV M n' Q (cs + N.2.2.2.2.cells) (ss + N.2.2.2.2.slots) pc' lv st n1 h1) : AV M n' Q cs ss pc lv (.ref k :: st) n h := by
  obtain ⟨d, rfl⟩ := hd
  intro p l e s m args below meth c X H locs ls C hz hP hS hl
  have hMl := hM l X
  unfold gm_words at hMl
  rw [hr] at hMl
  refine va_callv (va_runIN (As := []) (rest := st.map (gm_tv X.1)) (b := X.1 k) (Ts := gm_ws) (own := M.1.cls) (host := host) ⟨C.1.1, C.1.2.1, C.1.2.2.2.1, C.1.2.2.2.2.1, C.1.2.2.2.2.2.1⟩ hMl ⟨va_cnB 0 C.1.2.2.2.2.2.1 (gm_goodN1 hN hr) rfl rfl rfl (C.2.2.2.1.1 _ hlink rfl) (C.1.2.2.2.2.2.1 _ hN.2.1) hN.2.2 hR, hi, C.1.2.2.2.2.2.1 _ hin⟩ ⟨gm_blindA, fun U hU hW => gm_preA (av := [Value.ref (X.1 k)]) C hz hP hS U hU hW⟩ rfl rfl hl.1 rfl (lv_room (by rw [gm_catsum]; exact hw)) d ⟨hc, hs⟩) hS (fun _ _ q => q) (fun _ q => q) (fun u t H1 locs1 ht _ hq hb _ _ hS1 => kk u hq p l e s m args below meth c X H1 locs1 ls C (by rw [← ht]; exact hb.1) (by rw [← ht]; exact hb.2) hS1 hl)
theorem ae_cI {k : Nat} (hd : At M pc (.invokespecial idx) 3 pc') (hN : NOk1 N 0) (hi : N.1.name = "<init>") (hin : Cond.instanceMethod N.1 ∈ gm_ws) (hlink : Cond.methodLink M.1.cls idx N.1 ∈ gm_ws) (hR : RmOk M N) (hr : N.2.2.2.1 = none) (hw : (st.map fun v => v.category).sum ≤ 8) (hc : cs + N.2.2.2.2.cells ≤ M.2.2.2.2.cells) (hs : ss + N.2.2.2.2.slots ≤ M.2.2.2.2.slots) (hM : CnA N [.ref k] n n1 h Q1) (kk : ∀ h1, Q1 h1 → AV M n' Q (cs + N.2.2.2.2.cells) (ss + N.2.2.2.2.slots) pc' lv st n1 h1) : AV M n' Q cs ss pc lv (.ref k :: st) n h := by
  obtain ⟨d, rfl⟩ := hd
  intro p l e s m args below meth c X H locs ls C hz hP hS hl
  have hMl := hM l X
  unfold gm_words at hMl
  rw [hr] at hMl
  refine va_callv (va_runI (As := []) (rest := st.map (gm_tv X.1)) (b := X.1 k) (Ts := gm_ws) (own := M.1.cls) ⟨C.1.1, C.1.2.1, C.1.2.2.2.1, C.1.2.2.2.2.1, C.1.2.2.2.2.2.1⟩ hMl ⟨callB_of 0 C.1.2.2.2.2.2.1 (gm_goodN1 hN hr) rfl rfl rfl (C.1.2.2.2.2.2.1 _ hN.2.1) (C.1.2.2.2.2.2.1 _ hlink) hN.2.2 hR, hi, C.1.2.2.2.2.2.1 _ hin⟩ ⟨gm_blindA, fun U hU hW => gm_preA (av := [Value.ref (X.1 k)]) C hz hP hS U hU hW⟩ rfl rfl hl.1 rfl (lv_room (by rw [gm_catsum]; exact hw)) d ⟨hc, hs⟩) hS (fun _ _ q => q) (fun _ q => q) (fun u t H1 locs1 ht _ hq hb _ _ hS1 => kk u hq p l e s m args below meth c X H1 locs1 ls C (by rw [← ht]; exact hb.1) (by rw [← ht]; exact hb.2) hS1 hl)
theorem ae_cS (as : List Value) {w : Nat} (hd : At M pc (.invokestatic idx) 3 pc') (hN : SOk N w) (hlink : Cond.methodLink M.1.cls idx N.1 ∈ gm_ws) (hR : RmOk M N) (hn : as.length = w) (hst : as.reverse ++ rest = st) (hw : (rest.map fun v => v.category).sum ≤ 8) (hc : cs ≤ M.2.2.2.2.cells) (hs : ss ≤ M.2.2.2.2.slots) (hM : CnA N as n n1 h Q1) (kk : ∀ h1, Q1 h1 → AV M n' Q cs ss pc' lv rest n1 h1) : AV M n' Q cs ss pc lv st n h := by
  obtain ⟨d, rfl⟩ := hd
  subst hst
  intro p l e s m args below meth c X H locs ls C hz hP hS hl
  refine va_callv (mc := 0) (ms := 0) (va_runS (As := as.map (gm_tv X.1)) (rest := rest.map (gm_tv X.1)) (Ts := gm_ws) (own := M.1.cls) ⟨C.1.1, C.1.2.1, C.1.2.2.2.1, C.1.2.2.2.2.1, C.1.2.2.2.2.2.1⟩ (by have := hM l X; rw [hN.1.2.2.2.1, hN.1.2.2.2.2] at this; exact this) ⟨callB_of w C.1.2.2.2.2.2.1 (gm_goodN hN.1) rfl hN.1.2.2.2.1 hN.1.2.2.2.2 (C.1.2.2.2.2.2.1 _ hN.1.2.1) (C.1.2.2.2.2.2.1 _ hlink) hN.1.2.2.1 hR, C.1.2.2.2.2.2.1 _ hN.2⟩ ⟨gm_blindA, fun U hU hW => gm_preA C hz hP hS U hU hW⟩ rfl (by rw [List.length_map]; exact hn) hl.1 ?_ (lv_room (by rw [gm_catsum]; exact hw)) d ⟨hc, hs⟩) hS (fun _ _ q => q) (fun _ q => q) (fun u t H1 locs1 ht _ hq hb _ _ hS1 => kk u hq p l e s m args below meth c X H1 locs1 ls C (by rw [← ht]; exact hb.1) (by rw [← ht]; exact hb.2) hS1 hl)
  show (as.reverse ++ rest).map (gm_tv X.1) = _
  rw [List.map_append, List.map_reverse]
end
