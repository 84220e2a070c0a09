/-! THE JUDGEMENT of a method's body over the memory -/
def gm_ws : List Cond := lw_tbl.filter goodWord
/-- a method: name, code, locals, answer, room -/
abbrev Mt : Type := MethodName × ByteArray × Nat × Option FieldType × Room
abbrev gm_words (M : Mt) : List Cond := .code M.1 M.2.1 M.2.2.1 M.2.2.2.1 :: gm_ws
def gm_wd (X : Xt) (h : Mem) (U : State) : Prop := gm_inj X ∧ va_P X.2.1 vwCl (gm_W X h) U.heap ∧ va_K X.2.1 vwCl (gm_tys X) U ∧ gm_old X U U.heap
def gm_wp (X : Xt) (h : Mem) (t : State) : Prop := va_P X.2.1 vwCl (gm_W X h) t.heap
def gm_cx (M : Mt) (p : Program) (s : State) (m : MethodId) (args : Array Value) (meth : Method) (c : Code) (X : Xt) : Prop :=
  (p.tables.exec = Jvm.exec ∧ c.code = M.2.1 ∧ meth.sig.returnType = M.2.2.2.1 ∧ c.maxLocals = M.2.2.1 ∧ s.vm.findClass M.1.cls = some m.cls ∧ (∀ w ∈ gm_ws, w.before args s = true) ∧ meth.locks = false) ∧ gm_inj X ∧ va_K X.2.1 vwCl (gm_tys X) s ∧ gm_old X s s.heap
def EV (M : Mt) (G : Xt → Array Value → State → Outcome → State → Prop) (pc : Nat) (lv : List (Nat × Value)) (st : List Value) (h : Mem) : Prop :=
  ∀ (p : Program) (l : Launch) (e : Env) (s : State) (m : MethodId) (args : Array Value) (below : List Frame) (meth : Method) (c : Code) (X : Xt) (H : Heap) (locs : List Loc) (ls : Array Slot),
    gm_cx M p s m args meth c X → va_P X.2.1 vwCl (gm_W X h) H → va_S (gm_A X) s.heap H locs → lv_has ls M.2.2.1 (lv.map (gm_tp X.1)) →
    W p l e M.2.2.2.2 s m args below meth c H locs 0 0 (MQ below (G X) args s 0 0 (gm_A X)) (F0 m pc ls (st.map (gm_tv X.1)))
/-- what an instruction is, and where the next one stands -/
def At (M : Mt) (pc : Nat) (i : Instr) (n pc' : Nat) : Prop := decode M.2.1 pc = .ok (i, n) ∧ pc + n = pc'
def AtJ (M : Mt) (pc : Nat) (i : Instr) (off : Int) (tgt pc' : Nat) : Prop := decode M.2.1 pc = .ok (i, 3) ∧ (pc : Int) + off = (tgt : Int) ∧ pc + 3 = pc'
theorem at_i {M : Mt} {pc n pc' : Nat} {i : Instr} (h1 : decode M.2.1 pc = .ok (i, n)) (h2 : pc + n = pc') : At M pc i n pc' := ⟨h1, h2⟩
theorem at_j {M : Mt} {pc tgt pc' : Nat} {off : Int} {i : Instr} (h1 : decode M.2.1 pc = .ok (i, 3)) (h2 : (pc : Int) + off = (tgt : Int)) (h3 : pc + 3 = pc') : AtJ M pc i off tgt pc' := ⟨h1, h2, h3⟩
/-- contracts: a number, nothing, a long, a reference by key -/
def GI (Q : Int32 → Mem → Prop) (X : Xt) : Array Value → State → Outcome → State → Prop := va_Qi Q (gm_wp X) (gm_A X)
def GV (Q : Mem → Prop) (X : Xt) : Array Value → State → Outcome → State → Prop := va_Qv Q (gm_wp X) (gm_A X)
def GL (Q : Int64 → Mem → Prop) (X : Xt) : Array Value → State → Outcome → State → Prop := va_Ql Q (gm_wp X) (gm_A X)
def GR (Q : Nat → Mem → Prop) (X : Xt) : Array Value → State → Outcome → State → Prop := va_Qr (S := Nat × Mem) (fun u => Q u.1 u.2) (fun u a t => a = X.1 u.1 ∧ gm_wp X u.2 t) (gm_A X)
def Cn (M : Mt) (args : List Value) (h : Mem) (G : Xt → Array Value → State → Outcome → State → Prop) : Prop :=
  ∀ (l : Launch) (X : Xt), Met l M.1 (gm_words M) M.2.2.2.2 (va_Pc (args.map (gm_tv X.1)) (gm_wd X h)) (G X) 0 0 (gm_A X)
theorem gm_args (r : Nat → Nat) : ∀ (vs : List Value) (i : Nat), lv_args i (vs.map (gm_tv r)) = (lv_args i vs).map (gm_tp r)
  | [], _ => rfl
  | v :: vs, i => by
    have hc : (gm_tv r v).category = v.category := by cases v <;> rfl
    show (i, gm_tv r v) :: lv_args (if (gm_tv r v).category = 2 then i + 2 else i + 1) (vs.map (gm_tv r)) = gm_tp r (i, v) :: (lv_args (if v.category = 2 then i + 2 else i + 1) vs).map (gm_tp r)
    rw [hc, gm_args r vs]
    rfl
theorem gm_sl (r : Nat → Nat) (vs : List Value) : (lg_sl (vs.map (gm_tv r))).length = (lg_sl vs).length := by
  induction vs with
  | nil => rfl
  | cons v vs ih =>
    have hc : (gm_tv r v).category = v.category := by cases v <;> rfl
    simp only [lg_sl, List.map_cons, List.flatMap_cons, hc, List.length_append] at ih ⊢
    rw [ih]
    by_cases h : v.category = 2
    · rw [if_pos h, if_pos h]; rfl
    · rw [if_neg h, if_neg h]; rfl
theorem ge_entry {M : Mt} {args : List Value} {lv : List (Nat × Value)} {h : Mem} {G : Xt → Array Value → State → Outcome → State → Prop} (hy : plainName M.1.cls = true) (hn : (lg_sl args).length ≤ M.2.2.1) (hlv : lv_args 0 args = lv) (body : EV M G 0 lv [] h) : Cn M args h G := by
  intro l X
  refine Met.ofW (cc := M.2.1) (maxL := M.2.2.1) (ret := M.2.2.2.1) hy rfl ?_
  intro p e s m args' below meth c s₁ B hml hv
  obtain ⟨rfl, hI, hP, hK, hO⟩ := hv
  have hts := atoms_spec (ws := gm_words M) B.pre
  have hl := lv_entry (args.map (gm_tv X.1)) (n := M.2.2.1) (by rw [gm_sl]; exact hn)
  rw [lg_entry_eq]
  rw [gm_args, hlv] at hl
  exact body p l e s m _ below meth c X s.heap [] _ ⟨⟨B.exec, B.bytes, B.returns, hml, findClass_of_methodNamed B.named, fun w hw => hts w (List.mem_cons_of_mem _ hw), B.notSynchronized⟩, hI, hK, hO⟩ hP va_S.rf hl
/-! rows -/
section
variable {M : Mt} {G : Xt → Array Value → State → Outcome → State → Prop} {pc pc' tgt : Nat} {lv : List (Nat × Value)} {st : List Value} {h : Mem}
theorem ge_iconst {n : Int} {v : Int32} (hd : At M pc (.iconst n) 1 pc') (hv : Int32.ofInt n = v) (k : EV M G pc' lv (.int v :: st) h) : EV M G pc lv st h := by
  obtain ⟨d, rfl⟩ := hd
  exact fun p l e s m args below meth c X H locs ls C hP hS hl => lv_iconst C.1.1 C.1.2.1 d hv (k p l e s m args below meth c X H locs ls C hP hS hl)
theorem ge_bipush {n : Int} {v : Int32} (hd : At M pc (.bipush n) 2 pc') (hv : (Int8.ofInt n).toInt32 = v) (k : EV M G pc' lv (.int v :: st) h) : EV M G pc lv st h := by
  obtain ⟨d, rfl⟩ := hd
  exact fun p l e s m args below meth c X H locs ls C hP hS hl => lv_bipush C.1.1 C.1.2.1 d hv (k p l e s m args below meth c X H locs ls C hP hS hl)
theorem ge_sipush {n : Int} {v : Int32} (hd : At M pc (.sipush n) 3 pc') (hv : (Int16.ofInt n).toInt32 = v) (k : EV M G pc' lv (.int v :: st) h) : EV M G pc lv st h := by
  obtain ⟨d, rfl⟩ := hd
  exact fun p l e s m args below meth c X H locs ls C hP hS hl => lv_sipush C.1.1 C.1.2.1 d hv (k p l e s m args below meth c X H locs ls C hP hS hl)
theorem ge_lconst {n : Fin 2} {v : Int64} (hd : At M pc (.lconst n) 1 pc') (hv : Int64.ofNat (n : Nat) = v) (k : EV M G pc' lv (.long v :: st) h) : EV M G pc lv st h := by
  obtain ⟨d, rfl⟩ := hd
  exact fun p l e s m args below meth c X H locs ls C hP hS hl => lv_lconst C.1.1 C.1.2.1 d hv (k p l e s m args below meth c X H locs ls C hP hS hl)
theorem gm_lvat {r : Nat → Nat} {lv : List (Nat × Value)} {ls : Array Slot} {nL : Nat} (hl : lv_has ls nL (lv.map (gm_tp r))) (q : Nat) {i : Nat} {v : Value} (hk : lv[q]? = some (i, v)) : ls[i]? = some (.val (gm_tv r v)) :=
  lv_at hl q (by rw [List.getElem?_map, hk]; rfl)
theorem ge_iload_n {k4 : Fin 4} {i : Nat} {x : Int32} (hd : At M pc (.iload_n k4) 1 pc') (hi : (k4 : Nat) = i) (q : Nat) (hq : lv[q]? = some (i, .int x)) (k : EV M G pc' lv (.int x :: st) h) : EV M G pc lv st h := by
  obtain ⟨d, rfl⟩ := hd
  exact fun p l e s m args below meth c X H locs ls C hP hS hl => lv_iload_n C.1.1 C.1.2.1 d hi (gm_lvat hl q hq) (k p l e s m args below meth c X H locs ls C hP hS hl)
theorem ge_iload {i : Nat} {x : Int32} (hd : At M pc (.iload i) 2 pc') (q : Nat) (hq : lv[q]? = some (i, .int x)) (k : EV M G pc' lv (.int x :: st) h) : EV M G pc lv st h := by
  obtain ⟨d, rfl⟩ := hd
  exact fun p l e s m args below meth c X H locs ls C hP hS hl => lv_iload C.1.1 C.1.2.1 d (gm_lvat hl q hq) (k p l e s m args below meth c X H locs ls C hP hS hl)
theorem ge_lload_n {k4 : Fin 4} {i : Nat} {x : Int64} (hd : At M pc (.lload_n k4) 1 pc') (hi : (k4 : Nat) = i) (q : Nat) (hq : lv[q]? = some (i, .long x)) (k : EV M G pc' lv (.long x :: st) h) : EV M G pc lv st h := by
  obtain ⟨d, rfl⟩ := hd
  exact fun p l e s m args below meth c X H locs ls C hP hS hl => lv_lload_n C.1.1 C.1.2.1 d hi (gm_lvat hl q hq) (k p l e s m args below meth c X H locs ls C hP hS hl)
theorem ge_lload {i : Nat} {x : Int64} (hd : At M pc (.lload i) 2 pc') (q : Nat) (hq : lv[q]? = some (i, .long x)) (k : EV M G pc' lv (.long x :: st) h) : EV M G pc lv st h := by
  obtain ⟨d, rfl⟩ := hd
  exact fun p l e s m args below meth c X H locs ls C hP hS hl => lv_lload C.1.1 C.1.2.1 d (gm_lvat hl q hq) (k p l e s m args below meth c X H locs ls C hP hS hl)
theorem ge_aload_n {k4 : Fin 4} {i x : Nat} (hd : At M pc (.aload_n k4) 1 pc') (hi : (k4 : Nat) = i) (q : Nat) (hq : lv[q]? = some (i, .ref x)) (k : EV M G pc' lv (.ref x :: st) h) : EV M G pc lv st h := by
  obtain ⟨d, rfl⟩ := hd
  exact fun p l e s m args below meth c X H locs ls C hP hS hl => lv_aload_n C.1.1 C.1.2.1 d hi (gm_lvat hl q hq) (k p l e s m args below meth c X H locs ls C hP hS hl)
theorem ge_aload {i x : Nat} (hd : At M pc (.aload i) 2 pc') (q : Nat) (hq : lv[q]? = some (i, .ref x)) (k : EV M G pc' lv (.ref x :: st) h) : EV M G pc lv st h := by
  obtain ⟨d, rfl⟩ := hd
  exact fun p l e s m args below meth c X H locs ls C hP hS hl => lv_aload C.1.1 C.1.2.1 d (gm_lvat hl q hq) (k p l e s m args below meth c X H locs ls C hP hS hl)
/-- the locals behind a store of one slot, of two -/
def gm_put1 (i : Nat) (v : Value) (lv : List (Nat × Value)) : List (Nat × Value) := (i, v) :: lv.filter (fun q => !(q.1 == i) && !(q.1 + 1 == i && q.2.category == 2))
def gm_put2 (i : Nat) (v : Value) (lv : List (Nat × Value)) : List (Nat × Value) := (i, v) :: lv.filter (fun q => !(q.1 == i) && (!(q.1 == i + 1) && !(q.1 + 1 == i && q.2.category == 2)))
theorem gm_tvc (r : Nat → Nat) (v : Value) : (gm_tv r v).category = v.category := by cases v <;> rfl
theorem gm_put1_map (r : Nat → Nat) (i : Nat) (v : Value) (lv : List (Nat × Value)) : (i, gm_tv r v) :: (lv.map (gm_tp r)).filter (fun q => !(q.1 == i) && !(q.1 + 1 == i && q.2.category == 2)) = (gm_put1 i v lv).map (gm_tp r) := by
  unfold gm_put1
  rw [List.map_cons, List.filter_map]
  congr 2
  refine List.filter_congr (fun q _ => ?_)
  simp [gm_tp, gm_tvc]
theorem gm_put2_map (r : Nat → Nat) (i : Nat) (v : Value) (lv : List (Nat × Value)) : (i, gm_tv r v) :: (lv.map (gm_tp r)).filter (fun q => !(q.1 == i) && (!(q.1 == i + 1) && !(q.1 + 1 == i && q.2.category == 2))) = (gm_put2 i v lv).map (gm_tp r) := by
  unfold gm_put2
  rw [List.map_cons, List.filter_map]
  congr 2
  refine List.filter_congr (fun q _ => ?_)
  simp [gm_tp, gm_tvc]
theorem ge_istore_n {k4 : Fin 4} {i : Nat} {x : Int32} {lv' : List (Nat × Value)} (hd : At M pc (.istore_n k4) 1 pc') (hi : (k4 : Nat) = i) (hn : i < M.2.2.1) (hl' : gm_put1 i (.int x) lv = lv') (k : EV M G pc' lv' st h) : EV M G pc lv (.int x :: st) h := by
  obtain ⟨d, rfl⟩ := hd
  subst hl'
  exact fun p l e s m args below meth c X H locs ls C hP hS hl => lv_istore_n C.1.1 C.1.2.1 d hi hl hn (gm_put1_map X.1 i (.int x) lv) (fun ls' hl2 => k p l e s m args below meth c X H locs ls' C hP hS hl2)
theorem ge_istore {i : Nat} {x : Int32} {lv' : List (Nat × Value)} (hd : At M pc (.istore i) 2 pc') (hn : i < M.2.2.1) (hl' : gm_put1 i (.int x) lv = lv') (k : EV M G pc' lv' st h) : EV M G pc lv (.int x :: st) h := by
  obtain ⟨d, rfl⟩ := hd
  subst hl'
  exact fun p l e s m args below meth c X H locs ls C hP hS hl => lv_istore C.1.1 C.1.2.1 d hl hn (gm_put1_map X.1 i (.int x) lv) (fun ls' hl2 => k p l e s m args below meth c X H locs ls' C hP hS hl2)
theorem ge_astore_n {k4 : Fin 4} {i x : Nat} {lv' : List (Nat × Value)} (hd : At M pc (.astore_n k4) 1 pc') (hi : (k4 : Nat) = i) (hn : i < M.2.2.1) (hl' : gm_put1 i (.ref x) lv = lv') (k : EV M G pc' lv' st h) : EV M G pc lv (.ref x :: st) h := by
  obtain ⟨d, rfl⟩ := hd
  subst hl'
  exact fun p l e s m args below meth c X H locs ls C hP hS hl => lv_astore_n C.1.1 C.1.2.1 d hi hl hn (gm_put1_map X.1 i (.ref x) lv) (fun ls' hl2 => k p l e s m args below meth c X H locs ls' C hP hS hl2)
theorem ge_astore {i x : Nat} {lv' : List (Nat × Value)} (hd : At M pc (.astore i) 2 pc') (hn : i < M.2.2.1) (hl' : gm_put1 i (.ref x) lv = lv') (k : EV M G pc' lv' st h) : EV M G pc lv (.ref x :: st) h := by
  obtain ⟨d, rfl⟩ := hd
  subst hl'
  exact fun p l e s m args below meth c X H locs ls C hP hS hl => lv_astore C.1.1 C.1.2.1 d hl hn (gm_put1_map X.1 i (.ref x) lv) (fun ls' hl2 => k p l e s m args below meth c X H locs ls' C hP hS hl2)
theorem ge_lstore_n {k4 : Fin 4} {i : Nat} {x : Int64} {lv' : List (Nat × Value)} (hd : At M pc (.lstore_n k4) 1 pc') (hi : (k4 : Nat) = i) (hn : i + 1 < M.2.2.1) (hl' : gm_put2 i (.long x) lv = lv') (k : EV M G pc' lv' st h) : EV M G pc lv (.long x :: st) h := by
  obtain ⟨d, rfl⟩ := hd
  subst hl'
  exact fun p l e s m args below meth c X H locs ls C hP hS hl => lv_lstore_n C.1.1 C.1.2.1 d hi hl hn (gm_put2_map X.1 i (.long x) lv) (fun ls' hl2 => k p l e s m args below meth c X H locs ls' C hP hS hl2)
theorem ge_lstore {i : Nat} {x : Int64} {lv' : List (Nat × Value)} (hd : At M pc (.lstore i) 2 pc') (hn : i + 1 < M.2.2.1) (hl' : gm_put2 i (.long x) lv = lv') (k : EV M G pc' lv' st h) : EV M G pc lv (.long x :: st) h := by
  obtain ⟨d, rfl⟩ := hd
  subst hl'
  exact fun p l e s m args below meth c X H locs ls C hP hS hl => lv_lstore C.1.1 C.1.2.1 d hl hn (gm_put2_map X.1 i (.long x) lv) (fun ls' hl2 => k p l e s m args below meth c X H locs ls' C hP hS hl2)
theorem ge_iinc {i : Nat} {n : Int} {x v : Int32} {lv' : List (Nat × Value)} (hd : At M pc (.iinc i n) 3 pc') (q : Nat) (hq : lv[q]? = some (i, .int x)) (hv : x + Int32.ofInt n = v) (hn : i < M.2.2.1) (hl' : gm_put1 i (.int v) lv = lv') (k : EV M G pc' lv' st h) : EV M G pc lv st h := by
  obtain ⟨d, rfl⟩ := hd
  subst hl'
  exact fun p l e s m args below meth c X H locs ls C hP hS hl => lv_iinc (k := q) C.1.1 C.1.2.1 d hl (by rw [List.getElem?_map, hq]; rfl) hv hn (gm_put1_map X.1 i (.int v) lv) (fun ls' hl2 => k p l e s m args below meth c X H locs ls' C hP hS hl2)
end
