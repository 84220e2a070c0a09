/-! rows: fields, rows of numbers, tables, calls -/
theorem inX1 : ∀ w ∈ u_ws RX1 TX1 6, w ∈ gm_ws := by decide +kernel
theorem inX2 : ∀ w ∈ u_ws RX2 TX2 2, w ∈ gm_ws := by decide +kernel
theorem inX3 : ∀ w ∈ u_ws RX3 TX3 6, w ∈ gm_ws := by decide +kernel
theorem inX4 : ∀ w ∈ u_ws RX4 TX4 5, w ∈ gm_ws := by decide +kernel
theorem inX5 : ∀ w ∈ u_ws RX5 TX5 3, w ∈ gm_ws := by decide +kernel
theorem inX6 : ∀ w ∈ u_ws RX6 TX6 11, w ∈ gm_ws := by decide +kernel
theorem inX7 : ∀ w ∈ u_ws RX7 TX7 2, w ∈ gm_ws := by decide +kernel
theorem inX8 : ∀ w ∈ u_ws RX8 TX8 3, w ∈ gm_ws := by decide +kernel
theorem inX9 : ∀ w ∈ u_ws RX9 TX9 12, w ∈ gm_ws := by decide +kernel
theorem inX10 : ∀ w ∈ u_ws RX10 TX10 28, w ∈ gm_ws := by decide +kernel
theorem gm_mem {w : Cond} (i : Nat) (h : lw_tbl[i]? = some w) (hg : goodWord w = true) : w ∈ gm_ws := List.mem_filter.mpr ⟨List.mem_of_getElem? h, hg⟩
theorem gm_memN {w : Cond} (i : Nat) (h : lw_tbl[i]? = some w) : w ∈ lw_tbl := List.mem_of_getElem? h
/-- field j of class number c, read through pool entry idx of class own; kd its kind -/
def FdOk (own : String) (idx c j kd : Nat) : Prop := ∃ (C : String) (T : u_T) (N : Nat), vwCl[c]? = some (C, T, N) ∧ j < N ∧ Cond.fieldLink own idx (T j).1 (T j).2.1 (T j).2.2.1 ∈ gm_ws ∧ (∀ w ∈ u_ws C T N, w ∈ gm_ws) ∧ gm_fk c j = kd ∧ gm_nf c = N ∧ c < 10
def PdOk (own : String) (idx c j kd : Nat) (ty : FieldType) : Prop := ∃ (C : String) (T : u_T) (N : Nat) (ty0 : Nat → FieldType), vwCl[c]? = some (C, T, N) ∧ j < N ∧ Cond.fieldLink own idx (T j).1 (T j).2.1 (T j).2.2.1 ∈ gm_ws ∧ (∀ w ∈ u_ws C T N, w ∈ gm_ws) ∧ gm_fk c j = kd ∧ gm_nf c = N ∧ c < 10 ∧
  (∀ k, k < N → parseFieldDescriptor (T k).2.2.1 = some (ty0 k)) ∧ (∀ a, a < N → ∀ b, b < N → a ≠ b → (T a).2.1 ≠ (T b).2.1) ∧ (T j).2.2.2 = false ∧ parseFieldDescriptor (T j).2.2.1 = some ty
theorem gm_cell_obj {X : Xt} {k c : Nat} {f : Nat → Int32} (hc : gm_cls k = c) (h10 : c < 10) : gm_cell X k f = .inr (c, (List.range (gm_nf c)).map (fun j => gm_fv X.1 k j (f j))) := by
  unfold gm_cell
  rw [hc]
  match c, h10 with
  | 0, _ => rfl
  | 1, _ => rfl
  | 2, _ => rfl
  | 3, _ => rfl
  | 4, _ => rfl
  | 5, _ => rfl
  | 6, _ => rfl
  | 7, _ => rfl
  | 8, _ => rfl
  | 9, _ => rfl
theorem gm_cell_arr {X : Xt} {k n : Nat} {f : Nat → Int32} (ha : gm_arr k n) : gm_cell X k f = .inl (X.2.2.1, n, .inl f) := by
  unfold gm_cell
  rw [ha.1, ← ha.2]
  rfl
theorem gm_lt10 {k c : Nat} (hc : gm_cls k = c) (h10 : c < 10) : k < 57 := gm_lt (by omega)
theorem gm_arr_lt {k n : Nat} (ha : gm_arr k n) : k < 57 := gm_lt (by rw [ha.1]; decide)
theorem gm_W_obj {X : Xt} {h : Mem} {k c : Nat} (hc : gm_cls k = c) (h10 : c < 10) : (gm_W X h)[k]? = some (X.1 k, .inr (c, (List.range (gm_nf c)).map (fun j => gm_fv X.1 k j (h k j)))) := by
  rw [gm_W_at (gm_lt10 hc h10), gm_cell_obj hc h10]
theorem gm_W_arr {X : Xt} {h : Mem} {k n : Nat} (ha : gm_arr k n) : (gm_W X h)[k]? = some (X.1 k, .inl (X.2.2.1, n, .inl (h k))) := by
  rw [gm_W_at (gm_arr_lt ha), gm_cell_arr ha]
theorem gm_set_map {N j : Nat} (hj : j < N) (f : Nat → Value) (g : Nat → Value) (hg : ∀ i, i ≠ j → g i = f i) : ((List.range N).map f).set j (g j) = (List.range N).map g := by
  refine List.ext_getElem? (fun i => ?_)
  by_cases hi : i = j
  · subst hi
    rw [List.getElem?_set_self (by simpa using hj), List.getElem?_map, List.getElem?_range hj]
    rfl
  · rw [List.getElem?_set_ne (Ne.symm hi), List.getElem?_map, List.getElem?_map]
    by_cases hl : i < N
    · rw [List.getElem?_range hl]
      simp [hg i hi]
    · rw [List.getElem?_eq_none (by simp; omega)]
      rfl
/-- a field of the memory written: the world -/
theorem gm_W_put {X : Xt} {h : Mem} {k c j : Nat} {v : Int32} {w : Value} (hc : gm_cls k = c) (h10 : c < 10) (hj : j < gm_nf c) (hw : gm_fv X.1 k j v = w) : (gm_W X h).set k (X.1 k, .inr (c, ((List.range (gm_nf c)).map (fun j => gm_fv X.1 k j (h k j))).set j w)) = gm_W X (gm_st h k j v) := by
  refine gm_W_set (gm_lt10 hc h10) ?_ (fun a ha => gm_st_o a ha)
  rw [gm_cell_obj hc h10]
  congr 2
  subst hw
  rw [← gm_set_map hj (fun j => gm_fv X.1 k j (h k j)) (fun i => gm_fv X.1 k i (gm_st h k j v k i)) (fun i hi => by show gm_fv X.1 k i (gm_st h k j v k i) = gm_fv X.1 k i (h k i); rw [gm_st_s, pk_un hi])]
  congr 1
  show gm_fv X.1 k j (gm_st h k j v k j) = _
  rw [gm_st_s, pk_us]
theorem gm_W_ast {X : Xt} {h : Mem} {k n : Nat} (ha : gm_arr k n) (j : Nat) (v : Int32) : (gm_W X h).set k (X.1 k, .inl (X.2.2.1, n, .inl (upd (h k) j v))) = gm_W X (gm_st h k j v) :=
  gm_W_set (gm_arr_lt ha) (by rw [gm_cell_arr ha, gm_st_s]) (fun a h9 => gm_st_o a h9)
def gm_b (v : Int32) : Prop := v = 0 ∨ v = 1
theorem gm_b_nar {v : Int32} (h : gm_b v) : narrow .boolean (.int v) = .int v := by rcases h with rfl | rfl <;> rfl
theorem gm_b_fit {v : Int32} (h : gm_b v) : fits .boolean (.int v) = true := by rcases h with rfl | rfl <;> rfl
theorem gm_b0 : gm_b 0 := Or.inl rfl
theorem gm_b1 : gm_b 1 := Or.inr rfl
section
variable {M : Mt} {G : Xt → Array Value → State → Outcome → State → Prop} {pc pc' tgt : Nat} {lv : List (Nat × Value)} {st : List Value} {h : Mem}
theorem ge_getV {k j cn idx kd : Nat} {v : Int32 → Value} (hd : At M pc (.getfield idx) 3 pc') (hf : FdOk M.1.cls idx cn j kd) (hk : gm_cls k = cn) (hv : ∀ r : Nat → Nat, gm_fv r k j (h k j) = gm_tv r (v (h k j))) (kk : EV M G pc' lv (v (h k j) :: st) h) : EV M G pc lv (.ref k :: st) h := by
  obtain ⟨d, rfl⟩ := hd
  obtain ⟨CC, T, N, h1, h2, h3, h4, h5, h6, h7⟩ := hf
  exact fun p l e s m args below meth c X H locs ls C hP hS hl => va_get (D := X.2.1) (ci := cn) (C := CC) (T := T) (N := N) C.1.1 C.1.2.1 C.1.2.2.2.2.2.1 h4 C.1.2.2.2.2.1 C.2.2.1 hP k (gm_W_obj hk h7) h1 j h2 (C.1.2.2.2.2.2.1 _ h3) (fun _ h9 => h9) (by rw [List.getElem?_map, List.getElem?_range (by rw [h6]; exact h2)]; exact congrArg some (hv X.1)) d (kk p l e s m args below meth c X H locs ls C hP hS hl)
theorem ge_getI {k j c idx : Nat} (hd : At M pc (.getfield idx) 3 pc') (hf : FdOk M.1.cls idx c j 0) (hk : gm_cls k = c) (kk : EV M G pc' lv (.int (h k j) :: st) h) : EV M G pc lv (.ref k :: st) h :=
  ge_getV (v := .int) hd hf hk (fun r => by unfold gm_fv; rw [hk, hf.choose_spec.choose_spec.choose_spec.2.2.2.2.1]; rfl) kk
theorem ge_getR {k j c idx q : Nat} (hd : At M pc (.getfield idx) 3 pc') (hf : FdOk M.1.cls idx c j 1) (hk : gm_cls k = c) (hq : gm_rf k j = q) (kk : EV M G pc' lv (.ref q :: st) h) : EV M G pc lv (.ref k :: st) h :=
  ge_getV (v := fun _ => .ref q) hd hf hk (fun r => by unfold gm_fv; rw [hk, hf.choose_spec.choose_spec.choose_spec.2.2.2.2.1, hq]; rfl) kk
theorem ge_getO {k j c idx q : Nat} (hd : At M pc (.getfield idx) 3 pc') (hf : FdOk M.1.cls idx c j 2) (hk : gm_cls k = c) (hq : gm_rf k j = q) (hne : ¬ h k j = 0) (kk : EV M G pc' lv (.ref q :: st) h) : EV M G pc lv (.ref k :: st) h :=
  ge_getV (v := fun _ => .ref q) hd hf hk (fun r => by unfold gm_fv; rw [hk, hf.choose_spec.choose_spec.choose_spec.2.2.2.2.1, hq]; show (if h k j = 0 then Value.null else Value.ref (r q)) = _; rw [if_neg hne]; rfl) kk
theorem ge_putV {k j c idx kd : Nat} {ty : FieldType} {v : Value} {x : Int32} (hd : At M pc (.putfield idx) 3 pc') (hf : PdOk M.1.cls idx c j kd ty) (hk : gm_cls k = c) (hv : ∀ r : Nat → Nat, gm_fv r k j x = gm_tv r v) (hn : ∀ r : Nat → Nat, narrow ty (gm_tv r v) = gm_tv r v ∧ fits ty (gm_tv r v) = true) (kk : EV M G pc' lv st (gm_st h k j x)) : EV M G pc lv (v :: .ref k :: st) h := by
  obtain ⟨d, rfl⟩ := hd
  obtain ⟨CC, T, N, ty0, h1, h2, h3, h4, h5, h6, h7, h8, h9, h10, h11⟩ := hf
  exact fun p l e s m args below meth c_1 X H locs ls C hP hS hl => va_put (D := X.2.1) (ci := c) (C := CC) (T := T) (N := N) C.1.1 C.1.2.1 C.1.2.2.2.2.2.1 h4 ty0 h8 h9 C.1.2.2.2.2.1 C.2.2.1 hP (gm_D C.2.1 h) hS k (gm_W_obj hk h7) h1 j h2 (C.1.2.2.2.2.2.1 _ h3) (fun _ h9 => h9) h10 h11 (hn X.1).1 (hn X.1).2 (by rw [List.length_map, List.length_range, h6]; exact h2) d
    (fun H1 locs1 hP1 _ hS1 => kk p l e s m args below meth c_1 X H1 locs1 ls C (by rw [← gm_W_put hk h7 (by rw [h6]; exact h2) (hv X.1)]; exact hP1) hS1 hl)
theorem ge_putI {k j c idx : Nat} {x : Int32} (hd : At M pc (.putfield idx) 3 pc') (hf : PdOk M.1.cls idx c j 0 .int) (hk : gm_cls k = c) (kk : EV M G pc' lv st (gm_st h k j x)) : EV M G pc lv (.int x :: .ref k :: st) h :=
  ge_putV hd hf hk (fun r => by unfold gm_fv; rw [hk, hf.choose_spec.choose_spec.choose_spec.choose_spec.2.2.2.2.1]; rfl) (fun r => ⟨rfl, rfl⟩) kk
theorem ge_putZ {k j c idx : Nat} {x : Int32} (hd : At M pc (.putfield idx) 3 pc') (hf : PdOk M.1.cls idx c j 0 .boolean) (hk : gm_cls k = c) (hb : gm_b x) (kk : EV M G pc' lv st (gm_st h k j x)) : EV M G pc lv (.int x :: .ref k :: st) h :=
  ge_putV hd hf hk (fun r => by unfold gm_fv; rw [hk, hf.choose_spec.choose_spec.choose_spec.choose_spec.2.2.2.2.1]; rfl) (fun r => ⟨gm_b_nar hb, gm_b_fit hb⟩) kk
theorem ge_putR {k j c idx q : Nat} {C0 : String} (hd : At M pc (.putfield idx) 3 pc') (hf : PdOk M.1.cls idx c j 2 (.object C0)) (hk : gm_cls k = c) (hq : gm_rf k j = q) (kk : EV M G pc' lv st (gm_st h k j 1)) : EV M G pc lv (.ref q :: .ref k :: st) h :=
  ge_putV hd hf hk (fun r => by unfold gm_fv; rw [hk, hf.choose_spec.choose_spec.choose_spec.choose_spec.2.2.2.2.1, hq]; rfl) (fun r => ⟨rfl, rfl⟩) kk
theorem ge_iald {k n j : Nat} {i : Int32} (hd : At M pc .iaload 1 pc') (ha : gm_arr k n) (hi : vp_in i n) (hj : i.toNatClampNeg = j) (kk : EV M G pc' lv (.int (h k j) :: st) h) : EV M G pc lv (.int i :: .ref k :: st) h := by
  obtain ⟨d, rfl⟩ := hd
  subst hj
  exact fun p l e s m args below meth c X H locs ls C hP hS hl => va_iald C.1.1 C.1.2.1 C.2.2.1 hP k 0 (gm_W_arr ha) rfl hi d (kk p l e s m args below meth c X H locs ls C hP hS hl)
theorem ge_iast {k n j : Nat} {i x : Int32} (hd : At M pc .iastore 1 pc') (ha : gm_arr k n) (hi : vp_in i n) (hj : i.toNatClampNeg = j) (kk : EV M G pc' lv st (gm_st h k j x)) : EV M G pc lv (.int x :: .int i :: .ref k :: st) h := by
  obtain ⟨d, rfl⟩ := hd
  subst hj
  exact fun p l e s m args below meth c X H locs ls C hP hS hl => va_iast C.1.1 C.1.2.1 C.2.2.1 hP (gm_D C.2.1 h) hS k 0 (gm_W_arr ha) rfl hi d (fun H1 locs1 hP1 _ hS1 => kk p l e s m args below meth c X H1 locs1 ls C (by rw [← gm_W_ast ha]; exact hP1) hS1 hl)
theorem ge_alen {k n : Nat} {v : Int32} (hd : At M pc .arraylength 1 pc') (ha : gm_arr k n) (hv : Int32.ofNat n = v) (kk : EV M G pc' lv (.int v :: st) h) : EV M G pc lv (.ref k :: st) h := by
  obtain ⟨d, rfl⟩ := hd
  exact fun p l e s m args below meth c X H locs ls C hP hS hl => va_alen C.1.1 C.1.2.1 C.2.2.1 hP k 0 (gm_W_arr ha) rfl hv d (kk p l e s m args below meth c X H locs ls C hP hS hl)
theorem gm_W_33 {X : Xt} {h : Mem} : (gm_W X h)[33]? = some (X.1 33, .inl (X.2.2.2.1, 4, .inr (.inr (.inr (.inr (fun i => some (X.1 (35 + 2 * i)))))))) := gm_W_at (by decide)
theorem gm_W_51 {X : Xt} {h : Mem} : (gm_W X h)[51]? = some (X.1 51, .inl (X.2.2.2.2, 7, .inr (.inr (.inr (.inr (fun i => some (X.1 (100 + i)))))))) := gm_W_at (by decide)
theorem ge_ald33 {i : Int32} (hd : At M pc .aaload 1 pc') (hi : vp_in i 4) (kk : EV M G pc' lv (.ref (35 + 2 * i.toNatClampNeg) :: st) h) : EV M G pc lv (.int i :: .ref 33 :: st) h := by
  obtain ⟨d, rfl⟩ := hd
  exact fun p l e s m args below meth c X H locs ls C hP hS hl => va_aldq C.1.1 C.1.2.1 C.2.2.1 hP 33 1 gm_W_33 rfl hi d (kk p l e s m args below meth c X H locs ls C hP hS hl)
theorem ge_ald51 {i : Int32} (hd : At M pc .aaload 1 pc') (hi : vp_in i 7) (kk : EV M G pc' lv (.ref (100 + i.toNatClampNeg) :: st) h) : EV M G pc lv (.int i :: .ref 51 :: st) h := by
  obtain ⟨d, rfl⟩ := hd
  exact fun p l e s m args below meth c X H locs ls C hP hS hl => va_aldq C.1.1 C.1.2.1 C.2.2.1 hP 51 2 gm_W_51 rfl hi d (kk p l e s m args below meth c X H locs ls C hP hS hl)
theorem ge_alen51 (hd : At M pc .arraylength 1 pc') (kk : EV M G pc' lv (.int 7 :: st) h) : EV M G pc lv (.ref 51 :: st) h := by
  obtain ⟨d, rfl⟩ := hd
  exact fun p l e s m args below meth c X H locs ls C hP hS hl => va_alen C.1.1 C.1.2.1 C.2.2.1 hP 51 2 gm_W_51 rfl rfl d (kk p l e s m args below meth c X H locs ls C hP hS hl)
/-- a table that is a static: read through an entry of its own class, or of a nest mate -/
theorem ge_gets {i idx : Nat} {nm : String} (hd : At M pc (.getstatic idx) 3 pc') (hi : i < 6) (hnm : gm_stN.getD i "" = nm) (hw : Cond.fieldLink M.1.cls idx "GlassWords" nm "[I" ∈ gm_ws) (kk : EV M G pc' lv (.ref (200 + i) :: st) h) : EV M G pc lv st h := by
  obtain ⟨d, rfl⟩ := hd
  subst hnm
  exact fun p l e s m args below meth c X H locs ls C hP hS hl => va_gets C.1.1 C.1.2.1 (C.2.2.2.2.1 i hi).1 hS C.1.2.2.2.2.1 (C.1.2.2.2.2.2.1 _ hw) (fun _ h9 => h9) d (kk p l e s m args below meth c X H locs ls C hP hS hl)
theorem ge_getsN {i idx : Nat} {nm host : String} (hd : At M pc (.getstatic idx) 3 pc') (hi : i < 6) (hnm : gm_stN.getD i "" = nm) (hw : Cond.fieldLinkNest M.1.cls idx "GlassWords" nm "[I" host ∈ lw_tbl) (kk : EV M G pc' lv (.ref (200 + i) :: st) h) : EV M G pc lv st h := by
  obtain ⟨d, rfl⟩ := hd
  subst hnm
  exact fun p l e s m args below meth c X H locs ls C hP hS hl => va_getsN C.1.1 C.1.2.1 (C.2.2.2.2.1 i hi).1 hS C.1.2.2.2.2.1 (va_Nw.use rfl (C.2.2.2.1 _ hw rfl)) (fun _ h9 => h9) d (kk p l e s m args below meth c X H locs ls C hP hS hl)
theorem ge_tld {i n : Nat} {x : Int32} (hd : At M pc .iaload 1 pc') (hi : i < 6) (hn : (gm_tab i).length = n) (hx : vp_in x n) (kk : EV M G pc' lv (.int ((gm_tab i).getD x.toNatClampNeg 0) :: st) h) : EV M G pc lv (.int x :: .ref (200 + i) :: st) h := by
  obtain ⟨d, rfl⟩ := hd
  subst hn
  exact fun p l e s m args below meth c X H locs ls C hP hS hl => va_ti C.1.1 C.1.2.1 (C.2.2.2.2.1 i hi).2 hS hx rfl d (kk p l e s m args below meth c X H locs ls C hP hS hl)
end
