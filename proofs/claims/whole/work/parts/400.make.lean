theorem gm_wobj : Cond.instanceMethod objectInit ∈ gm_ws ∧ Cond.code objectInit ⟨#[0xb1]⟩ 1 none ∈ gm_ws := by decide +kernel
theorem gm_warr : Cond.arrayClass .int ∈ gm_ws := by decide +kernel
/-! THE MAKING: constructors, over a world that grows: key n is the n-th cell made, at address X.1 0 + n; a reference field is null until its number in the memory isn't 0 -/
def gm_fvC (r : Nat → Nat) (k j : Nat) (v : Int32) : Value := match gm_fk (gm_cls k) j with
  | 0 => .int v
  | _ => if v = 0 then .null else .ref (r (gm_rf k j))
def gm_cellC (X : Xt) (k : Nat) (f : Nat → Int32) : va_E := match gm_cls k with
  | 20 => .inl (X.2.2.1, gm_len k, .inl f)
  | 21 => .inl (X.2.2.2.1, 4, .inr (.inr (.inr (.inr (fun i => if f i = 0 then none else some (X.1 (35 + 2 * i)))))))
  | 22 => .inl (X.2.2.2.2, 7, .inr (.inr (.inr (.inr (fun i => if f i = 0 then none else some (X.1 (100 + i)))))))
  | c => .inr (c, (List.range (gm_nf c)).map (fun j => gm_fvC X.1 k j (f j)))
def gm_WC (X : Xt) (n : Nat) (h : Mem) : va_W := (List.range n).map (fun k => (X.1 k, gm_cellC X k (h k)))
def gm_A0 (X : Xt) : Nat → Prop := fun q => X.1 0 ≤ q
def gm_lin (X : Xt) : Prop := ∀ k, k < 57 → X.1 k = X.1 0 + k
/-- a new cell's numbers are 0 -/
def gm_new (h : Mem) (k : Nat) : Mem := fun a => if a = k then (fun _ => 0) else h a
def gm_aos (U : State) : Prop := va_AO "GlassWords$Sheet" U ∧ va_AO "java/lang/String" U
theorem gm_WC_at {X : Xt} {h : Mem} {n k : Nat} (hk : k < n) : (gm_WC X n h)[k]? = some (X.1 k, gm_cellC X k (h k)) := by
  unfold gm_WC
  rw [List.getElem?_map, List.getElem?_range hk]
  rfl
theorem gm_WC_set {X : Xt} {h h' : Mem} {n k : Nat} (hk : k < n) {e : va_E} (he : gm_cellC X k (h' k) = e) (ho : ∀ a, a ≠ k → h' a = h a) : (gm_WC X n h).set k (X.1 k, e) = gm_WC X n h' := by
  refine List.ext_getElem? (fun a => ?_)
  by_cases ha : a = k
  · subst ha
    rw [List.getElem?_set_self (by simp [gm_WC]; exact hk), gm_WC_at hk, he]
  · rw [List.getElem?_set_ne (Ne.symm ha)]
    unfold gm_WC
    rw [List.getElem?_map, List.getElem?_map]
    by_cases hl : a < n
    · rw [List.getElem?_range hl]
      simp [ho a ha]
    · rw [List.getElem?_eq_none (by simp; omega)]
      rfl
theorem gm_DC {X : Xt} (hI : gm_lin X) (n : Nat) (hn : n ≤ 57) (h : Mem) : va_D (gm_A0 X) (gm_WC X n h) := by
  have key : ∀ (k : Nat) (q : Nat × va_E), (gm_WC X n h)[k]? = some q → k < n ∧ q.1 = X.1 0 + k := by
    intro k q hq
    have hl : k < n := by
      have := (List.getElem?_eq_some_iff.mp hq).1
      simpa [gm_WC] using this
    rw [gm_WC_at hl] at hq
    cases hq
    exact ⟨hl, hI k (by omega)⟩
  refine ⟨fun i j p q hi hj e => ?_, fun k q hk => ?_⟩
  · obtain ⟨a1, a2⟩ := key i p hi
    obtain ⟨b1, b2⟩ := key j q hj
    omega
  · obtain ⟨a1, a2⟩ := key k q hk
    show X.1 0 ≤ q.1
    omega
theorem gm_WC_push {X : Xt} (hI : gm_lin X) {h : Mem} {n : Nat} (hn : n < 57) {e : va_E} (he : gm_cellC X n (fun _ => 0) = e) : gm_WC X n h ++ [(X.1 0 + n, e)] = gm_WC X (n + 1) (gm_new h n) := by
  unfold gm_WC
  rw [List.range_succ, List.map_append]
  congr 1
  · refine List.map_congr_left (fun k hk => ?_)
    have : k ≠ n := by have := List.mem_range.mp hk; omega
    simp [gm_new, this]
  · simp [gm_new, ← hI n hn, he]
theorem gm_cellC_obj {X : Xt} {k c : Nat} {f : Nat → Int32} (hc : gm_cls k = c) (h10 : c < 10) : gm_cellC X k f = .inr (c, (List.range (gm_nf c)).map (fun j => gm_fvC X.1 k j (f j))) := by
  unfold gm_cellC
  rw [hc]
  match c, h10 with
  | 0, _ => rfl
  | 1, _ => rfl
  | 2, _ => rfl
  | 3, _ => rfl
  | 4, _ => rfl
  | 5, _ => rfl
  | 6, _ => rfl
  | 7, _ => rfl
  | 8, _ => rfl
  | 9, _ => rfl
theorem gm_cellC_arr {X : Xt} {k n : Nat} {f : Nat → Int32} (ha : gm_arr k n) : gm_cellC X k f = .inl (X.2.2.1, n, .inl f) := by
  unfold gm_cellC
  rw [ha.1, ← ha.2]
  rfl
theorem gm_WC_obj {X : Xt} {h : Mem} {n k c : Nat} (hk : k < n) (hc : gm_cls k = c) (h10 : c < 10) : (gm_WC X n h)[k]? = some (X.1 k, .inr (c, (List.range (gm_nf c)).map (fun j => gm_fvC X.1 k j (h k j)))) := by
  rw [gm_WC_at hk, gm_cellC_obj hc h10]
theorem gm_WC_arr {X : Xt} {h : Mem} {n k w : Nat} (hk : k < n) (ha : gm_arr k w) : (gm_WC X n h)[k]? = some (X.1 k, .inl (X.2.2.1, w, .inl (h k))) := by
  rw [gm_WC_at hk, gm_cellC_arr ha]
theorem gm_WC_put {X : Xt} {h : Mem} {n k c j : Nat} {v : Int32} {w : Value} (hk : k < n) (hc : gm_cls k = c) (h10 : c < 10) (hj : j < gm_nf c) (hw : gm_fvC X.1 k j v = w) : (gm_WC X n h).set k (X.1 k, .inr (c, ((List.range (gm_nf c)).map (fun j => gm_fvC X.1 k j (h k j))).set j w)) = gm_WC X n (gm_st h k j v) := by
  refine gm_WC_set hk ?_ (fun a ha => gm_st_o a ha)
  rw [gm_cellC_obj hc h10]
  congr 2
  subst hw
  rw [← gm_set_map hj (fun j => gm_fvC X.1 k j (h k j)) (fun i => gm_fvC X.1 k i (gm_st h k j v k i)) (fun i hi => by show gm_fvC X.1 k i (gm_st h k j v k i) = gm_fvC X.1 k i (h k i); rw [gm_st_s, pk_un hi])]
  congr 1
  show gm_fvC X.1 k j (gm_st h k j v k j) = _
  rw [gm_st_s, pk_us]
theorem gm_WC_ast {X : Xt} {h : Mem} {n k w : Nat} (hk : k < n) (ha : gm_arr k w) (j : Nat) (v : Int32) : (gm_WC X n h).set k (X.1 k, .inl (X.2.2.1, w, .inl (upd (h k) j v))) = gm_WC X n (gm_st h k j v) :=
  gm_WC_set hk (by rw [gm_cellC_arr ha, gm_st_s]) (fun a h9 => gm_st_o a h9)
def gm_cxA (M : Mt) (p : Program) (s : State) (m : MethodId) (args : Array Value) (meth : Method) (c : Code) (X : Xt) : Prop :=
  (p.tables.exec = Jvm.exec ∧ c.code = M.2.1 ∧ meth.sig.returnType = M.2.2.2.1 ∧ c.maxLocals = M.2.2.1 ∧ s.vm.findClass M.1.cls = some m.cls ∧ (∀ w ∈ gm_ws, w.before args s = true) ∧ meth.locks = false ∧ meth.name = M.1.name) ∧ gm_lin X ∧ va_K X.2.1 vwCl (gm_tys X) s ∧ gm_oldA (gm_A0 X) X s s.heap ∧ gm_aos s ∧ X.1 0 ≤ s.heap.size
def gm_wdA (X : Xt) (n : Nat) (h : Mem) (U : State) : Prop := U.heap.size = X.1 0 + n ∧ gm_lin X ∧ va_P X.2.1 vwCl (gm_WC X n h) U.heap ∧ va_K X.2.1 vwCl (gm_tys X) U ∧ gm_oldA (gm_A0 X) X U U.heap ∧ gm_aos U
def gm_wpA (X : Xt) (n : Nat) (h : Mem) (t : State) : Prop := t.heap.size = X.1 0 + n ∧ va_P X.2.1 vwCl (gm_WC X n h) t.heap
/-- a body of the making: cs, ss the cells and slots made so far, n the cells that there are, n' those at the end -/
def AV (M : Mt) (n' : Nat) (Q : Mem → Prop) (cs ss pc : Nat) (lv : List (Nat × Value)) (st : List Value) (n : Nat) (h : Mem) : Prop :=
  ∀ (p : Program) (l : Launch) (e : Env) (s : State) (m : MethodId) (args : Array Value) (below : List Frame) (meth : Method) (c : Code) (X : Xt) (H : Heap) (locs : List Loc) (ls : Array Slot),
    gm_cxA M p s m args meth c X → H.size = X.1 0 + n → va_P X.2.1 vwCl (gm_WC X n h) H → va_S (gm_A0 X) s.heap H locs → lv_has ls M.2.2.1 (lv.map (gm_tp X.1)) →
    W p l e M.2.2.2.2 s m args below meth c H locs cs ss (MQ below (va_Qv Q (gm_wpA X n') (gm_A0 X)) args s M.2.2.2.2.cells M.2.2.2.2.slots (gm_A0 X)) (F0 m pc ls (st.map (gm_tv X.1)))
def CnA (M : Mt) (args : List Value) (n n' : Nat) (h : Mem) (Q : Mem → Prop) : Prop :=
  ∀ (l : Launch) (X : Xt), Met l M.1 (gm_words M) M.2.2.2.2 (va_Pc (args.map (gm_tv X.1)) (gm_wdA X n h)) (va_Qv Q (gm_wpA X n') (gm_A0 X)) M.2.2.2.2.cells M.2.2.2.2.slots (gm_A0 X)
theorem ae_entry {M : Mt} {args : List Value} {lv : List (Nat × Value)} {n n' : Nat} {h : Mem} {Q : Mem → Prop} (hy : plainName M.1.cls = true) (hn : (lg_sl args).length ≤ M.2.2.1) (hlv : lv_args 0 args = lv) (body : AV M n' Q 0 0 0 lv [] n h) : CnA M args n n' h Q := by
  intro l X
  refine Met.ofW (cc := M.2.1) (maxL := M.2.2.1) (ret := M.2.2.2.1) hy rfl ?_
  intro p e s m args' below meth c s₁ B hml hv
  obtain ⟨rfl, hz, hI, hP, hK, hO, hAO⟩ := hv
  have hts := atoms_spec (ws := gm_words M) B.pre
  have hl := lv_entry (args.map (gm_tv X.1)) (n := M.2.2.1) (by rw [gm_sl]; exact hn)
  rw [lg_entry_eq]
  rw [gm_args, hlv] at hl
  exact body p l e s m _ below meth c X s.heap [] _ ⟨⟨B.exec, B.bytes, B.returns, hml, findClass_of_methodNamed B.named, fun w hw => hts w (List.mem_cons_of_mem _ hw), B.notSynchronized, (name_of_methodNamed B.named B.method).1⟩, hI, hK, hO, hAO, by omega⟩ hz hP va_S.rf hl
section
variable {M : Mt} {n' : Nat} {Q : Mem → Prop} {cs ss pc pc' tgt n idx : Nat} {lv : List (Nat × Value)} {st : List Value} {h : Mem}
theorem ae_iconst {i : Int} {v : Int32} (hd : At M pc (.iconst i) 1 pc') (hv : Int32.ofInt i = v) (k : AV M n' Q cs ss pc' lv (.int v :: st) n h) : AV M n' Q cs ss pc lv (st) n h := by
  obtain ⟨d, rfl⟩ := hd
  exact fun p l e s m args below meth c X H locs ls C hz hP hS hl => lv_iconst C.1.1 C.1.2.1 d hv (k p l e s m args below meth c X H locs ls C hz hP hS hl)
theorem ae_bipush {i : Int} {v : Int32} (hd : At M pc (.bipush i) 2 pc') (hv : (Int8.ofInt i).toInt32 = v) (k : AV M n' Q cs ss pc' lv (.int v :: st) n h) : AV M n' Q cs ss pc lv (st) n h := by
  obtain ⟨d, rfl⟩ := hd
  exact fun p l e s m args below meth c X H locs ls C hz hP hS hl => lv_bipush C.1.1 C.1.2.1 d hv (k p l e s m args below meth c X H locs ls C hz hP hS hl)
theorem ae_sipush {i : Int} {v : Int32} (hd : At M pc (.sipush i) 3 pc') (hv : (Int16.ofInt i).toInt32 = v) (k : AV M n' Q cs ss pc' lv (.int v :: st) n h) : AV M n' Q cs ss pc lv (st) n h := by
  obtain ⟨d, rfl⟩ := hd
  exact fun p l e s m args below meth c X H locs ls C hz hP hS hl => lv_sipush C.1.1 C.1.2.1 d hv (k p l e s m args below meth c X H locs ls C hz hP hS hl)
theorem ae_iload_n {k4 : Fin 4} {i : Nat} {x : Int32} (hd : At M pc (.iload_n k4) 1 pc') (hi : (k4 : Nat) = i) (q : Nat) (hq : lv[q]? = some (i, .int x)) (k : AV M n' Q cs ss pc' lv (.int x :: st) n h) : AV M n' Q cs ss pc lv (st) n h := by
  obtain ⟨d, rfl⟩ := hd
  exact fun p l e s m args below meth c X H locs ls C hz hP hS hl => lv_iload_n C.1.1 C.1.2.1 d hi (gm_lvat hl q hq) (k p l e s m args below meth c X H locs ls C hz hP hS hl)
theorem ae_aload_n {k4 : Fin 4} {i x : Nat} (hd : At M pc (.aload_n k4) 1 pc') (hi : (k4 : Nat) = i) (q : Nat) (hq : lv[q]? = some (i, .ref x)) (k : AV M n' Q cs ss pc' lv (.ref x :: st) n h) : AV M n' Q cs ss pc lv (st) n h := by
  obtain ⟨d, rfl⟩ := hd
  exact fun p l e s m args below meth c X H locs ls C hz hP hS hl => lv_aload_n C.1.1 C.1.2.1 d hi (gm_lvat hl q hq) (k p l e s m args below meth c X H locs ls C hz hP hS hl)
theorem ae_iadd {x y : Int32} (hd : At M pc (.iadd) 1 pc')  (k : AV M n' Q cs ss pc' lv (.int (x + y) :: st) n h) : AV M n' Q cs ss pc lv (.int y :: .int x :: st) n h := by
  obtain ⟨d, rfl⟩ := hd
  exact fun p l e s m args below meth c X H locs ls C hz hP hS hl => lv_iadd C.1.1 C.1.2.1 d  (k p l e s m args below meth c X H locs ls C hz hP hS hl)
theorem ae_dup {v : Value} (hd : At M pc (.dup) 1 pc') (hv : v.category = 1) (k : AV M n' Q cs ss pc' lv (v :: v :: st) n h) : AV M n' Q cs ss pc lv (v :: st) n h := by
  obtain ⟨d, rfl⟩ := hd
  exact fun p l e s m args below meth c X H locs ls C hz hP hS hl => lv_dup C.1.1 C.1.2.1 d (by rw [gm_tvc]; exact hv) (k p l e s m args below meth c X H locs ls C hz hP hS hl)
theorem ae_nm {m0 : Mem} (k : ∀ h1, h1 = m0 → AV M n' Q cs ss pc lv st n h1) : AV M n' Q cs ss pc lv st n m0 := k _ rfl
theorem ae_istore_n {k4 : Fin 4} {i : Nat} {x : Int32} {lv' : List (Nat × Value)} (hd : At M pc (.istore_n k4) 1 pc') (hi : (k4 : Nat) = i) (hn : i < M.2.2.1) (hl' : gm_put1 i (.int x) lv = lv') (k : AV M n' Q cs ss pc' lv' st n h) : AV M n' Q cs ss pc lv (.int x :: st) n h := by
  obtain ⟨d, rfl⟩ := hd
  subst hl'
  exact fun p l e s m args below meth c X H locs ls C hz hP hS hl => lv_istore_n C.1.1 C.1.2.1 d hi hl hn (gm_put1_map X.1 i (.int x) lv) (fun ls' hl2 => k p l e s m args below meth c X H locs ls' C hz hP hS hl2)
theorem ae_iinc {i : Nat} {a : Int} {x v : Int32} {lv' : List (Nat × Value)} (hd : At M pc (.iinc i a) 3 pc') (q : Nat) (hq : lv[q]? = some (i, .int x)) (hv : x + Int32.ofInt a = v) (hn : i < M.2.2.1) (hl' : gm_put1 i (.int v) lv = lv') (k : AV M n' Q cs ss pc' lv' st n h) : AV M n' Q cs ss pc lv st n h := by
  obtain ⟨d, rfl⟩ := hd
  subst hl'
  exact fun p l e s m args below meth c X H locs ls C hz hP hS hl => lv_iinc (k := q) C.1.1 C.1.2.1 d hl (by rw [List.getElem?_map, hq]; rfl) hv hn (gm_put1_map X.1 i (.int v) lv) (fun ls' hl2 => k p l e s m args below meth c X H locs ls' C hz hP hS hl2)
theorem ae_ge {x y : Int32} {off : Int} (hd : AtJ M pc (.if_icmp .ge off) off tgt pc') (kt : y ≤ x → AV M n' Q cs ss tgt lv st n h) (kf : ¬ y ≤ x → AV M n' Q cs ss pc' lv st n h) : AV M n' Q cs ss pc lv (.int y :: .int x :: st) n h := by
  obtain ⟨d, ht, rfl⟩ := hd
  exact fun p l e s m args below meth c X H locs ls C hz hP hS hl => lv_icmp_ge C.1.1 C.1.2.1 d ht (fun q => kt q p l e s m args below meth c X H locs ls C hz hP hS hl) (fun q => kf q p l e s m args below meth c X H locs ls C hz hP hS hl)
theorem ae_goto {off : Int} (hd : AtJ M pc (.goto off) off tgt pc') (k : AV M n' Q cs ss tgt lv st n h) : AV M n' Q cs ss pc lv st n h := by
  obtain ⟨d, ht, -⟩ := hd
  exact fun p l e s m args below meth c X H locs ls C hz hP hS hl => lv_goto C.1.1 C.1.2.1 d ht (k p l e s m args below meth c X H locs ls C hz hP hS hl)
theorem ae_sub {lv' : List (Nat × Value)} (ks : List Nat) (hp : lv_pick lv ks = lv') (k : AV M n' Q cs ss pc lv' st n h) : AV M n' Q cs ss pc lv st n h := by
  subst hp
  refine fun p l e s m args below meth c X H locs ls C hz hP hS hl => k p l e s m args below meth c X H locs ls C hz hP hS (lv_sub hl ks ?_)
  unfold lv_pick
  rw [List.map_filterMap]
  congr 1
  funext q
  rw [List.getElem?_map]
theorem ae_obj {k : Nat} (hd : At M pc (.invokespecial idx) 3 pc') (hlink : Cond.methodLink M.1.cls idx objectInit ∈ gm_ws) (hf : 1 ≤ M.2.2.2.2.frames) (hw : (st.map fun v => v.category).sum + 12 ≤ M.2.2.2.2.locals) (kk : AV M n' Q cs ss pc' lv st n h) : AV M n' Q cs ss pc lv (.ref k :: st) n h := by
  obtain ⟨d, rfl⟩ := hd
  exact fun p l e s m args below meth c X H locs ls C hz hP hS hl => W.objInit C.1.1 C.1.2.1 C.1.2.2.2.2.1 (C.1.2.2.2.2.2.1 _ hlink) (C.1.2.2.2.2.2.1 _ gm_wobj.1) (C.1.2.2.2.2.2.1 _ gm_wobj.2) rfl (by rw [C.1.2.2.2.1]; exact hl.1) rfl d hf (by show 2 * 0 + _ + 12 ≤ _; rw [gm_catsum]; omega) (kk p l e s m args below meth c X H locs ls C hz hP hS hl)
theorem ae_vret (hr : M.2.2.2.1 = none) (hd : At M pc .return_ 1 pc') (hc : cs = M.2.2.2.2.cells) (hs : ss = M.2.2.2.2.slots) (hn : n = n') (hq : Q h) : AV M n' Q cs ss pc lv [] n h := by
  obtain ⟨d, rfl⟩ := hd
  subst hc hs hn
  exact fun p l e s m args below meth c X H locs ls C hz hP hS hl => W.vret C.1.1 C.1.2.1 (C.1.2.2.1.trans hr) (fun t ht _ => ⟨⟨h, rfl, hq, by rw [ht]; exact hz, by rw [ht]; exact hP⟩, hS.F ht⟩) hS.2.2 d (hlocks := C.1.2.2.2.2.2.2.1)
/-- a class that can be made: class number c, N slots -/
def NwOk (own : String) (idx c N : Nat) : Prop := ∃ (CC : String) (T : u_T) (ty : Nat → FieldType), vwCl[c]? = some (CC, T, N) ∧ (∀ w ∈ u_ws CC T N, w ∈ gm_ws) ∧ (∀ k, k < N → parseFieldDescriptor (T k).2.2.1 = some (ty k)) ∧ Cond.classLink own idx CC ∈ gm_ws ∧ Cond.instantiable CC N ∈ gm_ws ∧ Cond.initialized CC ∈ gm_ws ∧ gm_nf c = N ∧ c < 10 ∧ ∀ j, j < N → defaultValue (ty j) = (if gm_fk c j = 0 then .int 0 else .null)
theorem ae_new {cn N : Nat} (hd : At M pc (.new idx) 3 pc') (hw : NwOk M.1.cls idx cn N) (hk : gm_cls n = cn) (hn : n < 57) (hc : cs + 1 ≤ M.2.2.2.2.cells) (hs : ss + N ≤ M.2.2.2.2.slots) (kk : AV M n' Q (cs + 1) (ss + N) pc' lv (.ref n :: st) (n + 1) (gm_new h n)) : AV M n' Q cs ss pc lv st n h := by
  obtain ⟨d, rfl⟩ := hd
  obtain ⟨CC, T, ty, g1, g2, g3, g4, g5, g6, g7, g8, g9⟩ := hw
  intro p l e s m args below meth c X H locs ls C hz hP hS hl
  have hKn := C.2.2.1.1 cn _ g1
  refine W.newcK C.1.1 C.1.2.1 C.1.2.2.2.2.1 (C.1.2.2.2.2.2.1 _ g4) (C.1.2.2.2.2.2.1 _ g5) (C.1.2.2.2.2.2.1 _ g6) rfl d hc hs hKn.2.1 rfl fun H1 kC hkC e1 z1 o1 => ?_
  have hold : ∀ (k : Nat) (x : Nat × va_E), (gm_WC X n h)[k]? = some x → H1[x.1]? = H[x.1]? := fun k x hx => o1 x.1 (hP k x hx).lt
  have hobj : va_at X.2.1 vwCl (X.1 0 + n, .inr (cn, (List.range N).map (fun j => gm_fvC X.1 n j 0))) H1 := by
    refine ⟨_, g1, ?_⟩
    rw [← hz]
    refine (u_born ty C.1.2.2.2.2.2.1 g2 hKn hkC e1 g3).to (fun j hj => ?_)
    rw [g9 j hj]
    show _ = ((List.range N).map (fun j => gm_fvC X.1 n j 0)).getD j Value.null
    rw [List.getD_eq_getElem?_getD, List.getElem?_map, List.getElem?_range hj]
    show _ = gm_fvC X.1 n j 0
    unfold gm_fvC
    rw [hk]
    by_cases h0 : gm_fk cn j = 0
    · rw [if_pos h0, h0]
      rfl
    · rw [if_neg h0]
      split
      · exact absurd (by assumption) h0
      · rfl
  have hP1 : va_P X.2.1 vwCl (gm_WC X (n + 1) (gm_new h n)) H1 := by
    rw [← gm_WC_push C.2.1 hn (by rw [gm_cellC_obj hk g8, g7])]
    refine (hP.kept hold).app (fun k x hx => ?_)
    have hzk : k < 1 := (List.getElem?_eq_some_iff.mp hx).1
    rw [show k = 0 by omega] at hx
    cases hx
    exact hobj
  have he : H.size = X.1 n := by rw [hz]; exact (C.2.1 n hn).symm
  rw [he]
  exact kk p l e s m args below meth c X H1 locs ls C (by rw [z1, hz]; rfl) hP1 ⟨by rw [z1]; exact Nat.le_succ_of_le hS.1, fun x h1 h2 => (o1 x (Nat.lt_of_lt_of_le h1 hS.1)).trans (hS.2.1 x h1 h2), hS.2.2⟩ hl
theorem ae_newa {w : Nat} {x : Int32} (hd : At M pc (.newarray .int) 2 pc') (ha : gm_arr n w) (hx : ¬ x < 0) (hxw : x.toNatClampNeg = w) (hb : w * componentBytes .int ≤ 536870912) (hn : n < 57) (hc : cs + 1 ≤ M.2.2.2.2.cells) (hs : ss + w ≤ M.2.2.2.2.slots) (kk : AV M n' Q (cs + 1) (ss + w) pc' lv (.ref n :: st) (n + 1) (gm_new h n)) : AV M n' Q cs ss pc lv (.int x :: st) n h := by
  obtain ⟨d, rfl⟩ := hd
  intro p l e s m args below meth c X H locs ls C hz hP hS hl
  refine va_newaK (atype := .int) C.1.1 C.1.2.1 (C.1.2.2.2.2.2.1 _ gm_warr) rfl d rfl hx hxw hb hc hs rfl fun H1 cA e1 z1 o1 hAr hNm => ?_
  have hcA : cA = X.2.2.1 := by
    have h2 := (C.2.2.1.2 0 (X.2.2.1, .int) rfl).2
    exact Option.some.inj (hNm.symm.trans h2)
  subst hcA
  have hold : ∀ (k : Nat) (y : Nat × va_E), (gm_WC X n h)[k]? = some y → H1[y.1]? = H[y.1]? := fun k y hy => o1 y.1 (hP k y hy).lt
  have hP1 : va_P X.2.1 vwCl (gm_WC X (n + 1) (gm_new h n)) H1 := by
    rw [← gm_WC_push C.2.1 hn (gm_cellC_arr ha)]
    refine (hP.kept hold).app (fun k y hy => ?_)
    have hzk : k < 1 := (List.getElem?_eq_some_iff.mp hy).1
    rw [show k = 0 by omega] at hy
    cases hy
    show H1[X.1 0 + n]? = some (vp_cell _ _)
    rw [← hz, e1]
    rfl
  have he : H.size = X.1 n := by rw [hz]; exact (C.2.1 n hn).symm
  rw [he]
  exact kk p l e s m args below meth c X H1 locs ls C (by rw [z1, hz]; rfl) hP1 ⟨by rw [z1]; exact Nat.le_succ_of_le hS.1, fun x h1 h2 => (o1 x (Nat.lt_of_lt_of_le h1 hS.1)).trans (hS.2.1 x h1 h2), hS.2.2⟩ hl
end
