theorem gm_wMath : Cond.initialized "java/lang/Math" ∈ gm_ws := by decide +kernel
theorem gm_wmax : Cond.static Lib.Math.max.name ∈ gm_ws ∧ Cond.code Lib.Math.max.name Lib.Math.max.code 2 (some .int) ∈ gm_ws := by decide +kernel
theorem gm_wmin : Cond.static Lib.Math.min.name ∈ gm_ws ∧ Cond.code Lib.Math.min.name Lib.Math.min.code 2 (some .int) ∈ gm_ws := by decide +kernel
theorem gm_wabs : Cond.static Lib.Math.abs.name ∈ gm_ws ∧ Cond.code Lib.Math.abs.name Lib.Math.abs.code 1 (some .int) ∈ gm_ws := by decide +kernel
theorem gm_wcpy : Cond.native arraycopyName ∈ gm_ws ∧ Cond.static arraycopyName ∈ gm_ws ∧ Cond.initialized "java/lang/System" ∈ gm_ws := by decide +kernel
/-! rows: calls -/
theorem gm_good {w : Cond} (h : w ∈ gm_ws) : w ∈ gm_ws ∧ ((w.onTables && w.keeps) = true ∨ ∃ ty, w = .arrayClass ty) := ⟨h, good_of_word (List.mem_filter.mp h).2⟩
/-- a method that can be called: its words, n parameters -/
def NOk (N : Mt) (n : Nat) : Prop := Cond.code N.1 N.2.1 N.2.2.1 N.2.2.2.1 ∈ gm_ws ∧ Cond.initialized N.1.cls ∈ gm_ws ∧ (N.1.cls ≠ "java/lang/invoke/MethodHandle" ∧ N.1.cls ≠ "java/lang/invoke/VarHandle" ∧ (parseMethodDescriptor N.1.desc).map (fun d => d.parameters.length) = some n) ∧ N.2.2.2.2.cells = 0 ∧ N.2.2.2.2.slots = 0
def VOk (N : Mt) (n : Nat) : Prop := NOk N n ∧ Cond.instanceMethod N.1 ∈ gm_ws ∧ Cond.selects N.1.cls N.1 N.1 ∈ gm_ws
def SOk (N : Mt) (n : Nat) : Prop := NOk N n ∧ Cond.static N.1 ∈ gm_ws
def RmOk (M N : Mt) : Prop := N.2.2.2.2.frames + 1 ≤ M.2.2.2.2.frames ∧ 8 + (N.2.2.1 + 11) + N.2.2.2.2.locals ≤ M.2.2.2.2.locals
theorem gm_goodN {N : Mt} {n : Nat} (hN : NOk N n) : GoodIn gm_ws (gm_words N) := fun w hw => by
  rcases List.mem_cons.mp hw with rfl | h
  · exact gm_good hN.1
  · exact gm_good h
theorem gm_blind {X : Xt} {h : Mem} {av : List Value} : FrameBlind (va_Pc av (gm_wd X h)) := fun a U g mk q => ⟨q.1, q.2.1, q.2.2.1, va_K.moved (u := U) (U := U.calling g mk a) (Vm.Alike.refl U.vm) q.2.2.2.1, gm_old.same (u := U) (U := U.calling g mk a) rfl q.2.2.2.2⟩
theorem gm_pre {X : Xt} {h : Mem} {av : List Value} {M : Mt} {p : Program} {s : State} {m : MethodId} {args : Array Value} {meth : Method} {c : Code} {H : Heap} {locs : List Loc} (C : gm_cx M p s m args meth c X) (hP : va_P X.2.1 vwCl (gm_W X h) H) (hS : va_S (gm_A X) s.heap H locs) (U : State) (hU : U.heap = H) (hW : s.WarmedH U.vm) : va_Pc av (gm_wd X h) av.toArray U := by
  refine ⟨rfl, C.2.1, by rw [hU]; exact hP, va_K.moved hW.alike C.2.2.1, ?_⟩
  rw [hU]
  exact gm_old.warm hW (C.2.2.2.kept hS.2.1)
theorem gm_catsum (r : Nat → Nat) (st : List Value) : ((st.map (gm_tv r)).map fun v => v.category) = st.map fun v => v.category := by
  rw [List.map_map]
  exact List.map_congr_left (fun v _ => gm_tvc r v)
section
variable {M N : Mt} {G G' : Xt → Array Value → State → Outcome → State → Prop} {pc pc' tgt n idx : Nat} {lv : List (Nat × Value)} {st rest as : List Value} {h : Mem}
variable {p : Program} {l : Launch} {e : Env} {s : State} {m : MethodId} {args : Array Value} {below : List Frame} {meth : Method} {c : Code} {X : Xt} {H : Heap} {locs : List Loc} {ls : Array Slot}
theorem gm_runV {k cn : Nat} (hN : Cn N (.ref k :: as) h G') (hV : VOk N n) (hR : RmOk M N) (hlink : Cond.methodLink M.1.cls idx N.1 ∈ gm_ws) (hk : gm_cls k = cn) (hc : ∃ T w, vwCl[cn]? = some (N.1.cls, T, w)) (h10 : cn < 10) (hn : as.length = n) (hst : as.reverse ++ .ref k :: rest = st) (hw : (rest.map fun v => v.category).sum ≤ 8)
    (C : gm_cx M p s m args meth c X) (hP : va_P X.2.1 vwCl (gm_W X h) H) (hS : va_S (gm_A X) s.heap H locs) (hl : lv_has ls M.2.2.1 (lv.map (gm_tp X.1))) (d : decode M.2.1 pc = .ok (.invokevirtual idx, 3)) :
    va_Run p l e M.2.2.2.2 s m args below meth c H locs 0 0 0 0 (F0 m pc ls (st.map (gm_tv X.1))) (rest.map (gm_tv X.1)) (G' X ((Value.ref k :: as).map (gm_tv X.1)).toArray) (gm_A X) := by
  obtain ⟨T, w, hc⟩ := hc
  subst hst
  refine va_runV (C := N.1.cls) (b := X.1 k) (As := as.map (gm_tv X.1)) (Ts := gm_ws) (own := M.1.cls) ⟨C.1.1, C.1.2.1, C.1.2.2.2.1, C.1.2.2.2.2.1, C.1.2.2.2.2.2.1⟩ (hN l X) ⟨callB_of n C.1.2.2.2.2.2.1 (gm_goodN hV.1) rfl hV.1.2.2.2.1 hV.1.2.2.2.2 (C.1.2.2.2.2.2.1 _ hV.1.2.1) (C.1.2.2.2.2.2.1 _ hlink) hV.1.2.2.1 hR, C.1.2.2.2.2.2.1 _ hV.2.1, C.1.2.2.2.2.2.1 _ hV.2.2⟩ ⟨gm_blind, va_recv C.2.2.1 hP hc (gm_W_obj hk h10), fun U hU hW => gm_pre C hP hS U hU hW⟩ rfl (by rw [List.length_map]; exact hn) hl.1 ?_ (lv_room (by rw [gm_catsum]; exact hw)) d ⟨Nat.zero_le _, Nat.zero_le _⟩
  show (as.reverse ++ .ref k :: rest).map (gm_tv X.1) = _
  rw [List.map_append, List.map_reverse]
  rfl
theorem gm_runS (hN : Cn N as h G') (hV : SOk N n) (hR : RmOk M N) (hlink : Cond.methodLink M.1.cls idx N.1 ∈ gm_ws) (hn : as.length = n) (hst : as.reverse ++ rest = st) (hw : (rest.map fun v => v.category).sum ≤ 8)
    (C : gm_cx M p s m args meth c X) (hP : va_P X.2.1 vwCl (gm_W X h) H) (hS : va_S (gm_A X) s.heap H locs) (hl : lv_has ls M.2.2.1 (lv.map (gm_tp X.1))) (d : decode M.2.1 pc = .ok (.invokestatic idx, 3)) :
    va_Run p l e M.2.2.2.2 s m args below meth c H locs 0 0 0 0 (F0 m pc ls (st.map (gm_tv X.1))) (rest.map (gm_tv X.1)) (G' X (as.map (gm_tv X.1)).toArray) (gm_A X) := by
  subst hst
  refine va_runS (As := as.map (gm_tv X.1)) (Ts := gm_ws) (own := M.1.cls) ⟨C.1.1, C.1.2.1, C.1.2.2.2.1, C.1.2.2.2.2.1, C.1.2.2.2.2.2.1⟩ (hN l X) ⟨callB_of n C.1.2.2.2.2.2.1 (gm_goodN hV.1) rfl hV.1.2.2.2.1 hV.1.2.2.2.2 (C.1.2.2.2.2.2.1 _ hV.1.2.1) (C.1.2.2.2.2.2.1 _ hlink) hV.1.2.2.1 hR, C.1.2.2.2.2.2.1 _ hV.2⟩ ⟨gm_blind, fun U hU hW => gm_pre C hP hS U hU hW⟩ rfl (by rw [List.length_map]; exact hn) hl.1 ?_ (lv_room (by rw [gm_catsum]; exact hw)) d ⟨Nat.zero_le _, Nat.zero_le _⟩
  show (as.reverse ++ rest).map (gm_tv X.1) = _
  rw [List.map_append, List.map_reverse]
theorem gm_runSN {host : String} (hN : Cn N as h G') (hV : SOk N n) (hR : RmOk M N) (hlink : Cond.methodLinkNest M.1.cls idx N.1 host ∈ lw_tbl) (hn : as.length = n) (hst : as.reverse ++ rest = st) (hw : (rest.map fun v => v.category).sum ≤ 8)
    (C : gm_cx M p s m args meth c X) (hP : va_P X.2.1 vwCl (gm_W X h) H) (hS : va_S (gm_A X) s.heap H locs) (hl : lv_has ls M.2.2.1 (lv.map (gm_tp X.1))) (d : decode M.2.1 pc = .ok (.invokestatic idx, 3)) :
    va_Run p l e M.2.2.2.2 s m args below meth c H locs 0 0 0 0 (F0 m pc ls (st.map (gm_tv X.1))) (rest.map (gm_tv X.1)) (G' X (as.map (gm_tv X.1)).toArray) (gm_A X) := by
  subst hst
  refine va_runSN (As := as.map (gm_tv X.1)) (Ts := gm_ws) (own := M.1.cls) (host := host) ⟨C.1.1, C.1.2.1, C.1.2.2.2.1, C.1.2.2.2.2.1, C.1.2.2.2.2.2.1⟩ (hN l X) ⟨va_cnB n C.1.2.2.2.2.2.1 (gm_goodN hV.1) rfl hV.1.2.2.2.1 hV.1.2.2.2.2 (C.2.2.2.1 _ hlink rfl) (C.1.2.2.2.2.2.1 _ hV.1.2.1) hV.1.2.2.1 hR, C.1.2.2.2.2.2.1 _ hV.2, trivial⟩ ⟨gm_blind, fun U hU hW => gm_pre C hP hS U hU hW⟩ rfl (by rw [List.length_map]; exact hn) hl.1 ?_ (lv_room (by rw [gm_catsum]; exact hw)) d ⟨Nat.zero_le _, Nat.zero_le _⟩
  show (as.reverse ++ rest).map (gm_tv X.1) = _
  rw [List.map_append, List.map_reverse]
end
section
variable {M N : Mt} {G : Xt → Array Value → State → Outcome → State → Prop} {pc pc' tgt n idx : Nat} {lv : List (Nat × Value)} {st rest : List Value} {h : Mem}
theorem ge_cVI {k cn : Nat} (as : List Value) {Q : Int32 → Mem → Prop} (hd : At M pc (.invokevirtual idx) 3 pc') (hV : VOk N n) (hlink : Cond.methodLink M.1.cls idx N.1 ∈ gm_ws) (hR : RmOk M N) (hk : gm_cls k = cn) (hc : ∃ T w, vwCl[cn]? = some (N.1.cls, T, w)) (h10 : cn < 10) (hn : as.length = n) (hst : as.reverse ++ .ref k :: rest = st) (hw : (rest.map fun v => v.category).sum ≤ 8) (hN : Cn N (.ref k :: as) h (GI Q)) (kk : ∀ r h', Q r h' → EV M G pc' lv (.int r :: rest) h') : EV M G pc lv st h := by
  obtain ⟨d, rfl⟩ := hd
  intro p l e s m args below meth c X H locs ls C hP hS hl
  exact va_calli (gm_runV hN hV hR hlink hk hc h10 hn hst hw C hP hS hl d) hS (fun _ _ q => q) (fun _ q => q) (fun r u t H1 locs1 ht _ hq hb _ _ hS1 => kk r u hq p l e s m args below meth c X H1 locs1 ls C (by rw [← ht]; exact hb) hS1 hl)
theorem ge_cVL {k cn : Nat} (as : List Value) {Q : Int64 → Mem → Prop} (hd : At M pc (.invokevirtual idx) 3 pc') (hV : VOk N n) (hlink : Cond.methodLink M.1.cls idx N.1 ∈ gm_ws) (hR : RmOk M N) (hk : gm_cls k = cn) (hc : ∃ T w, vwCl[cn]? = some (N.1.cls, T, w)) (h10 : cn < 10) (hn : as.length = n) (hst : as.reverse ++ .ref k :: rest = st) (hw : (rest.map fun v => v.category).sum ≤ 8) (hN : Cn N (.ref k :: as) h (GL Q)) (kk : ∀ r h', Q r h' → EV M G pc' lv (.long r :: rest) h') : EV M G pc lv st h := by
  obtain ⟨d, rfl⟩ := hd
  intro p l e s m args below meth c X H locs ls C hP hS hl
  exact va_calll (gm_runV hN hV hR hlink hk hc h10 hn hst hw C hP hS hl d) hS (fun _ _ q => q) (fun _ q => q) (fun r u t H1 locs1 ht _ hq hb _ _ hS1 => kk r u hq p l e s m args below meth c X H1 locs1 ls C (by rw [← ht]; exact hb) hS1 hl)
theorem ge_cVV {k cn : Nat} (as : List Value) {Q : Mem → Prop} (hd : At M pc (.invokevirtual idx) 3 pc') (hV : VOk N n) (hlink : Cond.methodLink M.1.cls idx N.1 ∈ gm_ws) (hR : RmOk M N) (hk : gm_cls k = cn) (hc : ∃ T w, vwCl[cn]? = some (N.1.cls, T, w)) (h10 : cn < 10) (hn : as.length = n) (hst : as.reverse ++ .ref k :: rest = st) (hw : (rest.map fun v => v.category).sum ≤ 8) (hN : Cn N (.ref k :: as) h (GV Q)) (kk : ∀ h', Q h' → EV M G pc' lv rest h') : EV M G pc lv st h := by
  obtain ⟨d, rfl⟩ := hd
  intro p l e s m args below meth c X H locs ls C hP hS hl
  exact va_callv (gm_runV hN hV hR hlink hk hc h10 hn hst hw C hP hS hl d) hS (fun _ _ q => q) (fun _ q => q) (fun u t H1 locs1 ht _ hq hb _ _ hS1 => kk u hq p l e s m args below meth c X H1 locs1 ls C (by rw [← ht]; exact hb) hS1 hl)
theorem ge_cVR {k cn : Nat} (as : List Value) {Q : Nat → Mem → Prop} (hd : At M pc (.invokevirtual idx) 3 pc') (hV : VOk N n) (hlink : Cond.methodLink M.1.cls idx N.1 ∈ gm_ws) (hR : RmOk M N) (hk : gm_cls k = cn) (hc : ∃ T w, vwCl[cn]? = some (N.1.cls, T, w)) (h10 : cn < 10) (hn : as.length = n) (hst : as.reverse ++ .ref k :: rest = st) (hw : (rest.map fun v => v.category).sum ≤ 8) (hN : Cn N (.ref k :: as) h (GR Q)) (kk : ∀ r h', Q r h' → EV M G pc' lv (.ref r :: rest) h') : EV M G pc lv st h := by
  obtain ⟨d, rfl⟩ := hd
  intro p l e s m args below meth c X H locs ls C hP hS hl
  exact va_callr (gm_runV hN hV hR hlink hk hc h10 hn hst hw C hP hS hl d) hS (fun _ _ q => q) (fun _ q => q) (fun u ra t H1 locs1 ht _ hq hb _ _ hS1 => by
    obtain ⟨e1, e2⟩ := hb
    rw [e1]
    exact kk u.1 u.2 hq p l e s m args below meth c X H1 locs1 ls C (by rw [← ht]; exact e2) hS1 hl)
theorem ge_cSI (as : List Value) {Q : Int32 → Mem → Prop} (hd : At M pc (.invokestatic idx) 3 pc') (hV : SOk N n) (hlink : Cond.methodLink M.1.cls idx N.1 ∈ gm_ws) (hR : RmOk M N)  (hn : as.length = n) (hst : as.reverse ++ rest = st) (hw : (rest.map fun v => v.category).sum ≤ 8) (hN : Cn N as h (GI Q)) (kk : ∀ r h', Q r h' → EV M G pc' lv (.int r :: rest) h') : EV M G pc lv st h := by
  obtain ⟨d, rfl⟩ := hd
  intro p l e s m args below meth c X H locs ls C hP hS hl
  exact va_calli (gm_runS hN hV hR hlink hn hst hw C hP hS hl d) hS (fun _ _ q => q) (fun _ q => q) (fun r u t H1 locs1 ht _ hq hb _ _ hS1 => kk r u hq p l e s m args below meth c X H1 locs1 ls C (by rw [← ht]; exact hb) hS1 hl)
theorem ge_cSL (as : List Value) {Q : Int64 → Mem → Prop} (hd : At M pc (.invokestatic idx) 3 pc') (hV : SOk N n) (hlink : Cond.methodLink M.1.cls idx N.1 ∈ gm_ws) (hR : RmOk M N)  (hn : as.length = n) (hst : as.reverse ++ rest = st) (hw : (rest.map fun v => v.category).sum ≤ 8) (hN : Cn N as h (GL Q)) (kk : ∀ r h', Q r h' → EV M G pc' lv (.long r :: rest) h') : EV M G pc lv st h := by
  obtain ⟨d, rfl⟩ := hd
  intro p l e s m args below meth c X H locs ls C hP hS hl
  exact va_calll (gm_runS hN hV hR hlink hn hst hw C hP hS hl d) hS (fun _ _ q => q) (fun _ q => q) (fun r u t H1 locs1 ht _ hq hb _ _ hS1 => kk r u hq p l e s m args below meth c X H1 locs1 ls C (by rw [← ht]; exact hb) hS1 hl)
theorem ge_cSV (as : List Value) {Q : Mem → Prop} (hd : At M pc (.invokestatic idx) 3 pc') (hV : SOk N n) (hlink : Cond.methodLink M.1.cls idx N.1 ∈ gm_ws) (hR : RmOk M N)  (hn : as.length = n) (hst : as.reverse ++ rest = st) (hw : (rest.map fun v => v.category).sum ≤ 8) (hN : Cn N as h (GV Q)) (kk : ∀ h', Q h' → EV M G pc' lv rest h') : EV M G pc lv st h := by
  obtain ⟨d, rfl⟩ := hd
  intro p l e s m args below meth c X H locs ls C hP hS hl
  exact va_callv (gm_runS hN hV hR hlink hn hst hw C hP hS hl d) hS (fun _ _ q => q) (fun _ q => q) (fun u t H1 locs1 ht _ hq hb _ _ hS1 => kk u hq p l e s m args below meth c X H1 locs1 ls C (by rw [← ht]; exact hb) hS1 hl)
theorem ge_cSR (as : List Value) {Q : Nat → Mem → Prop} (hd : At M pc (.invokestatic idx) 3 pc') (hV : SOk N n) (hlink : Cond.methodLink M.1.cls idx N.1 ∈ gm_ws) (hR : RmOk M N)  (hn : as.length = n) (hst : as.reverse ++ rest = st) (hw : (rest.map fun v => v.category).sum ≤ 8) (hN : Cn N as h (GR Q)) (kk : ∀ r h', Q r h' → EV M G pc' lv (.ref r :: rest) h') : EV M G pc lv st h := by
  obtain ⟨d, rfl⟩ := hd
  intro p l e s m args below meth c X H locs ls C hP hS hl
  exact va_callr (gm_runS hN hV hR hlink hn hst hw C hP hS hl d) hS (fun _ _ q => q) (fun _ q => q) (fun u ra t H1 locs1 ht _ hq hb _ _ hS1 => by
    obtain ⟨e1, e2⟩ := hb
    rw [e1]
    exact kk u.1 u.2 hq p l e s m args below meth c X H1 locs1 ls C (by rw [← ht]; exact e2) hS1 hl)
theorem ge_cNI {host : String} (as : List Value) {Q : Int32 → Mem → Prop} (hd : At M pc (.invokestatic idx) 3 pc') (hV : SOk N n) (hlink : Cond.methodLinkNest M.1.cls idx N.1 host ∈ lw_tbl) (hR : RmOk M N)  (hn : as.length = n) (hst : as.reverse ++ rest = st) (hw : (rest.map fun v => v.category).sum ≤ 8) (hN : Cn N as h (GI Q)) (kk : ∀ r h', Q r h' → EV M G pc' lv (.int r :: rest) h') : EV M G pc lv st h := by
  obtain ⟨d, rfl⟩ := hd
  intro p l e s m args below meth c X H locs ls C hP hS hl
  exact va_calli (gm_runSN hN hV hR hlink hn hst hw C hP hS hl d) hS (fun _ _ q => q) (fun _ q => q) (fun r u t H1 locs1 ht _ hq hb _ _ hS1 => kk r u hq p l e s m args below meth c X H1 locs1 ls C (by rw [← ht]; exact hb) hS1 hl)
theorem ge_cNL {host : String} (as : List Value) {Q : Int64 → Mem → Prop} (hd : At M pc (.invokestatic idx) 3 pc') (hV : SOk N n) (hlink : Cond.methodLinkNest M.1.cls idx N.1 host ∈ lw_tbl) (hR : RmOk M N)  (hn : as.length = n) (hst : as.reverse ++ rest = st) (hw : (rest.map fun v => v.category).sum ≤ 8) (hN : Cn N as h (GL Q)) (kk : ∀ r h', Q r h' → EV M G pc' lv (.long r :: rest) h') : EV M G pc lv st h := by
  obtain ⟨d, rfl⟩ := hd
  intro p l e s m args below meth c X H locs ls C hP hS hl
  exact va_calll (gm_runSN hN hV hR hlink hn hst hw C hP hS hl d) hS (fun _ _ q => q) (fun _ q => q) (fun r u t H1 locs1 ht _ hq hb _ _ hS1 => kk r u hq p l e s m args below meth c X H1 locs1 ls C (by rw [← ht]; exact hb) hS1 hl)
theorem ge_cNV {host : String} (as : List Value) {Q : Mem → Prop} (hd : At M pc (.invokestatic idx) 3 pc') (hV : SOk N n) (hlink : Cond.methodLinkNest M.1.cls idx N.1 host ∈ lw_tbl) (hR : RmOk M N)  (hn : as.length = n) (hst : as.reverse ++ rest = st) (hw : (rest.map fun v => v.category).sum ≤ 8) (hN : Cn N as h (GV Q)) (kk : ∀ h', Q h' → EV M G pc' lv rest h') : EV M G pc lv st h := by
  obtain ⟨d, rfl⟩ := hd
  intro p l e s m args below meth c X H locs ls C hP hS hl
  exact va_callv (gm_runSN hN hV hR hlink hn hst hw C hP hS hl d) hS (fun _ _ q => q) (fun _ q => q) (fun u t H1 locs1 ht _ hq hb _ _ hS1 => kk u hq p l e s m args below meth c X H1 locs1 ls C (by rw [← ht]; exact hb) hS1 hl)
theorem ge_cNR {host : String} (as : List Value) {Q : Nat → Mem → Prop} (hd : At M pc (.invokestatic idx) 3 pc') (hV : SOk N n) (hlink : Cond.methodLinkNest M.1.cls idx N.1 host ∈ lw_tbl) (hR : RmOk M N)  (hn : as.length = n) (hst : as.reverse ++ rest = st) (hw : (rest.map fun v => v.category).sum ≤ 8) (hN : Cn N as h (GR Q)) (kk : ∀ r h', Q r h' → EV M G pc' lv (.ref r :: rest) h') : EV M G pc lv st h := by
  obtain ⟨d, rfl⟩ := hd
  intro p l e s m args below meth c X H locs ls C hP hS hl
  exact va_callr (gm_runSN hN hV hR hlink hn hst hw C hP hS hl d) hS (fun _ _ q => q) (fun _ q => q) (fun u ra t H1 locs1 ht _ hq hb _ _ hS1 => by
    obtain ⟨e1, e2⟩ := hb
    rw [e1]
    exact kk u.1 u.2 hq p l e s m args below meth c X H1 locs1 ls C (by rw [← ht]; exact e2) hS1 hl)
theorem ge_mmax {x y : Int32} (hd : At M pc (.invokestatic idx) 3 pc') (hlink : Cond.methodLink M.1.cls idx Lib.Math.max.name ∈ gm_ws) (hf : 1 ≤ M.2.2.2.2.frames) (hw : (rest.map fun v => v.category).sum + 13 ≤ M.2.2.2.2.locals) (k : EV M G pc' lv (.int (if x < y then y else x) :: rest) h) : EV M G pc lv (.int y :: .int x :: rest) h := by
  obtain ⟨d, rfl⟩ := hd
  exact fun p l e s m args below meth c X H locs ls C hP hS hl => va_mmax C.1.1 C.1.2.1 (C.1.2.2.2.1.trans hl.1.symm) C.1.2.2.2.2.1 (C.1.2.2.2.2.2.1 _ hlink) (C.1.2.2.2.2.2.1 _ gm_wmax.1) (C.1.2.2.2.2.2.1 _ gm_wMath) (C.1.2.2.2.2.2.1 _ gm_wmax.2) hf (by rw [gm_catsum]; exact hw) (Nat.zero_le _) (Nat.zero_le _) d (k p l e s m args below meth c X H locs ls C hP hS hl)
theorem ge_mmin {x y : Int32} (hd : At M pc (.invokestatic idx) 3 pc') (hlink : Cond.methodLink M.1.cls idx Lib.Math.min.name ∈ gm_ws) (hf : 1 ≤ M.2.2.2.2.frames) (hw : (rest.map fun v => v.category).sum + 13 ≤ M.2.2.2.2.locals) (k : EV M G pc' lv (.int (if y < x then y else x) :: rest) h) : EV M G pc lv (.int y :: .int x :: rest) h := by
  obtain ⟨d, rfl⟩ := hd
  exact fun p l e s m args below meth c X H locs ls C hP hS hl => va_mmin C.1.1 C.1.2.1 (C.1.2.2.2.1.trans hl.1.symm) C.1.2.2.2.2.1 (C.1.2.2.2.2.2.1 _ hlink) (C.1.2.2.2.2.2.1 _ gm_wmin.1) (C.1.2.2.2.2.2.1 _ gm_wMath) (C.1.2.2.2.2.2.1 _ gm_wmin.2) hf (by rw [gm_catsum]; exact hw) (Nat.zero_le _) (Nat.zero_le _) d (k p l e s m args below meth c X H locs ls C hP hS hl)
theorem ge_mabs {x : Int32} (hd : At M pc (.invokestatic idx) 3 pc') (hlink : Cond.methodLink M.1.cls idx Lib.Math.abs.name ∈ gm_ws) (hf : 1 ≤ M.2.2.2.2.frames) (hw : (rest.map fun v => v.category).sum + 13 ≤ M.2.2.2.2.locals) (k : EV M G pc' lv (.int (if 0 ≤ x then x else 0 - x) :: rest) h) : EV M G pc lv (.int x :: rest) h := by
  obtain ⟨d, rfl⟩ := hd
  exact fun p l e s m args below meth c X H locs ls C hP hS hl => va_mabs C.1.1 C.1.2.1 (C.1.2.2.2.1.trans hl.1.symm) C.1.2.2.2.2.1 (C.1.2.2.2.2.2.1 _ hlink) (C.1.2.2.2.2.2.1 _ gm_wabs.1) (C.1.2.2.2.2.2.1 _ gm_wMath) (C.1.2.2.2.2.2.1 _ gm_wabs.2) hf (by rw [gm_catsum]; exact hw) (Nat.zero_le _) (Nat.zero_le _) d (k p l e s m args below meth c X H locs ls C hP hS hl)
/-- a stretch of numbers copied between rows -/
def gm_cpy (h : Mem) (a b sp dp n : Nat) : Mem := fun q => if q = b then va_cpy (h a) (h b) sp dp n else h q
theorem gm_W_cpy {X : Xt} {h : Mem} {a b n sp dp cnt : Nat} (hb : gm_arr b n) : (gm_W X h).set b (X.1 b, .inl (X.2.2.1, n, .inl (va_cpy (h a) (h b) sp dp cnt))) = gm_W X (gm_cpy h a b sp dp cnt) :=
  gm_W_set (gm_arr_lt hb) (by rw [gm_cell_arr hb]; unfold gm_cpy; rw [if_pos rfl]) (fun q h9 => if_neg h9)
theorem ge_copy {k1 k2 n1 n2 : Nat} {sp dp cnt : Int32} (hd : At M pc (.invokestatic idx) 3 pc') (hlink : Cond.methodLink M.1.cls idx arraycopyName ∈ gm_ws) (ha : gm_arr k1 n1) (hb : gm_arr k2 n2) (h1 : ¬ sp < 0) (h2 : ¬ dp < 0) (h3 : ¬ cnt < 0) (h4 : sp.toNatClampNeg + cnt.toNatClampNeg ≤ n1) (h5 : dp.toNatClampNeg + cnt.toNatClampNeg ≤ n2) (hf : 1 ≤ M.2.2.2.2.frames) (hw : (rest.map fun v => v.category).sum + (nativeFrameWords "java/lang/System" "arraycopy" 5 + 11) ≤ M.2.2.2.2.locals) (kk : EV M G pc' lv rest (gm_cpy h k1 k2 sp.toNatClampNeg dp.toNatClampNeg cnt.toNatClampNeg)) : EV M G pc lv (.int cnt :: .int dp :: .ref k2 :: .int sp :: .ref k1 :: rest) h := by
  obtain ⟨d, rfl⟩ := hd
  exact fun p l e s m args below meth c X H locs ls C hP hS hl => va_copyi C.1.1 C.1.2.1 (C.1.2.2.2.1.trans hl.1.symm) C.1.2.2.2.2.1 (C.1.2.2.2.2.2.1 _ hlink) (C.1.2.2.2.2.2.1 _ gm_wcpy.1) (C.1.2.2.2.2.2.1 _ gm_wcpy.2.1) (C.1.2.2.2.2.2.1 _ gm_wcpy.2.2) C.2.2.1 hP (gm_D C.2.1 h) hS k1 k2 0 0 (ty := .int) (gm_W_arr ha) (gm_W_arr hb) rfl rfl rfl h1 h2 h3 h4 h5 (fun _ _ => rfl) hf (by rw [gm_catsum]; exact hw) d
    (fun H1 locs1 hP1 _ hS1 => kk p l e s m args below meth c X H1 locs1 ls C (by rw [← gm_W_cpy hb]; exact hP1) hS1 hl)
end
