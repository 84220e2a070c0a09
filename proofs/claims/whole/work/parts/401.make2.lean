/-! the making: fields, rows, calls -/
/-- a final field that a constructor sets -/
def PfOk (own : String) (idx c j : Nat) (ty : FieldType) : Prop := ∃ (CC : String) (T : u_T) (N : Nat) (ty0 : Nat → FieldType), vwCl[c]? = some (CC, T, N) ∧ j < N ∧ Cond.fieldLink own idx (T j).1 (T j).2.1 (T j).2.2.1 ∈ gm_ws ∧ (∀ w ∈ u_ws CC T N, w ∈ gm_ws) ∧ gm_fk c j = 1 ∧ gm_nf c = N ∧ c < 10 ∧
  (∀ k, k < N → parseFieldDescriptor (T k).2.2.1 = some (ty0 k)) ∧ (∀ a, a < N → ∀ b, b < N → a ≠ b → (T a).2.1 ≠ (T b).2.1) ∧ (T j).2.2.2 = true ∧ (T j).1 = own ∧ parseFieldDescriptor (T j).2.2.1 = some ty ∧ (∀ q : Nat, narrow ty (.ref q) = .ref q ∧ fits ty (.ref q) = true)
section
variable {M : Mt} {n' : Nat} {Q : Mem → Prop} {cs ss pc pc' tgt n idx : Nat} {lv : List (Nat × Value)} {st : List Value} {h : Mem}
theorem ae_putF {k j cn q : Nat} {ty : FieldType} (hd : At M pc (.putfield idx) 3 pc') (hf : PfOk M.1.cls idx cn j ty) (hk : gm_cls k = cn) (hkn : k < n) (hn : n ≤ 57) (hi : M.1.name = "<init>") (hq : gm_rf k j = q) (kk : AV M n' Q cs ss pc' lv st n (gm_st h k j 1)) : AV M n' Q cs ss pc lv (.ref q :: .ref k :: st) n h := by
  obtain ⟨d, rfl⟩ := hd
  obtain ⟨CC, T, N, ty0, h1, h2, h3, h4, h5, h6, h7, h8, h9, h10, h11, h12, h13⟩ := hf
  intro p l e s m args below meth c_1 X H locs ls C hz hP hS hl
  have hv : gm_fvC X.1 k j 1 = .ref (X.1 q) := by unfold gm_fvC; rw [hk, h5, hq]; rfl
  have he := gm_WC_obj (X := X) (h := h) hkn hk h7
  have hD := gm_DC C.2.1 n hn h
  have hap := va_apart (own := M.1.cls) C.1.2.2.2.2.2.1 h4 ty0 h8 h9 C.2.2.1 h1
  obtain ⟨r, g1, cell, q1, q2, q3, q4⟩ := hP k _ he
  cases g1.symm.trans h1
  obtain ⟨hSl, hfc, kC, hkC, hkind⟩ := C.2.2.1.1 cn _ h1
  obtain ⟨cf, kf, fi, f, hfi, hsl⟩ := hSl j h2
  have hlay := C.1.2.2.2.2.2.1 _ (h4 _ (u_in_lay h2))
  unfold u_lay at hlay
  rw [if_pos h10] at hlay
  have hst := (u_facts hfc hkC (u_lays C.1.2.2.2.2.2.1 h4 h2) hfi).1
  have hcf : m.cls = cf := by
    obtain ⟨_, _, c', _, _, _, -, -, hf', -, -, -, hown2, -⟩ := Cond.laysFinal_spec hlay
    have e1 : c' = cf := by have := hfi.symm.trans hf'; simp at this; exact this.1.symm
    rw [h11] at hown2
    rw [← e1]; exact Option.some.inj (C.1.2.2.2.2.1.symm.trans hown2)
  refine W.putFinK C.1.1 C.1.2.1 C.1.2.2.2.2.1 (C.1.2.2.2.2.2.1 _ h3) hfi hst hcf (C.1.2.2.2.2.2.2.2.trans hi) (by rw [q2]; exact u_fits hfc hkC hkind (Or.inr hlay) hfi h12 (h13 (X.1 q)).1 (h13 (X.1 q)).2) q1 q3 (by rw [hsl]; exact k2_hasslot (q4 j h2)) rfl rfl d fun H' e1 e2 e3 => ?_
  rw [hsl] at e1 ⊢
  have hlen : j < ((List.range (gm_nf cn)).map (fun j => gm_fvC X.1 k j (h k j))).length := by rw [List.length_map, List.length_range, h6]; exact h2
  exact kk p l e s m args below meth c_1 X H' _ ls C (by rw [e2]; exact hz) (by rw [← gm_WC_put hkn hk h7 (by rw [h6]; exact h2) hv]; exact hP.set hD he ⟨_, h1, t_OB.to (V := updV (vp_V _) j (.ref (X.1 q))) ⟨_, e1, q2, q3, t_set q4 hap h2 _⟩ (fun i _ => vp_updV_set hlen _ i)⟩ e3) (hS.put e2 e3 (hD.2 k _ he)) hl
theorem ae_putI {k j cn : Nat} {x : Int32} (hd : At M pc (.putfield idx) 3 pc') (hf : PdOk M.1.cls idx cn j 0 .int) (hk : gm_cls k = cn) (hkn : k < n) (hn : n ≤ 57) (kk : AV M n' Q cs ss pc' lv st n (gm_st h k j x)) : AV M n' Q cs ss pc lv (.int x :: .ref k :: st) n h := by
  obtain ⟨d, rfl⟩ := hd
  obtain ⟨CC, T, N, ty0, h1, h2, h3, h4, h5, h6, h7, h8, h9, h10, h11⟩ := hf
  intro p l e s m args below meth c_1 X H locs ls C hz hP hS hl
  have hv : gm_fvC X.1 k j x = .int x := by unfold gm_fvC; rw [hk, h5]; rfl
  have he := gm_WC_obj (X := X) (h := h) hkn hk h7
  have hD := gm_DC C.2.1 n hn h
  have hap := va_apart (own := M.1.cls) C.1.2.2.2.2.2.1 h4 ty0 h8 h9 C.2.2.1 h1
  obtain ⟨r, g1, cell, q1, q2, q3, q4⟩ := hP k _ he
  cases g1.symm.trans h1
  obtain ⟨hSl, hfc, kC, hkC, hkind⟩ := C.2.2.1.1 cn _ h1
  obtain ⟨cf, kf, fi, f, hfi, hsl⟩ := hSl j h2
  have hlay := C.1.2.2.2.2.2.1 _ (h4 _ (u_in_lay h2))
  unfold u_lay at hlay
  rw [if_neg (by rw [h10]; decide)] at hlay
  have hst := (u_facts hfc hkC (u_lays C.1.2.2.2.2.2.1 h4 h2) hfi).1
  refine W.putK C.1.1 C.1.2.1 (f := f) ⟨C.1.2.2.2.2.1, C.1.2.2.2.2.2.1 _ h3, ⟨_, _, _, hfi⟩, hst⟩ (by rw [q2]; exact u_store hfc hkC hkind hlay hfi h11 rfl rfl) q1 q3 (by rw [hsl]; exact k2_hasslot (q4 j h2)) rfl rfl d fun H' e1 e2 e3 => ?_
  rw [hsl] at e1 ⊢
  have hlen : j < ((List.range (gm_nf cn)).map (fun j => gm_fvC X.1 k j (h k j))).length := by rw [List.length_map, List.length_range, h6]; exact h2
  exact kk p l e s m args below meth c_1 X H' _ ls C (by rw [e2]; exact hz) (by rw [← gm_WC_put hkn hk h7 (by rw [h6]; exact h2) hv]; exact hP.set hD he ⟨_, h1, t_OB.to (V := updV (vp_V _) j (.int x)) ⟨_, e1, q2, q3, t_set q4 hap h2 _⟩ (fun i _ => vp_updV_set hlen _ i)⟩ e3) (hS.put e2 e3 (hD.2 k _ he)) hl
theorem ae_getR {k j cn q : Nat} (hd : At M pc (.getfield idx) 3 pc') (hf : FdOk M.1.cls idx cn j 1) (hk : gm_cls k = cn) (hkn : k < n) (hq : gm_rf k j = q) (hne : ¬ h k j = 0) (kk : AV M n' Q cs ss pc' lv (.ref q :: st) n h) : AV M n' Q cs ss pc lv (.ref k :: st) n h := by
  obtain ⟨d, rfl⟩ := hd
  obtain ⟨CC, T, N, h1, h2, h3, h4, h5, h6, h7⟩ := hf
  exact fun p l e s m args below meth c_1 X H locs ls C hz hP hS hl => va_get (D := X.2.1) (ci := cn) (C := CC) (T := T) (N := N) C.1.1 C.1.2.1 C.1.2.2.2.2.2.1 h4 C.1.2.2.2.2.1 C.2.2.1 hP k (gm_WC_obj hkn hk h7) h1 j h2 (C.1.2.2.2.2.2.1 _ h3) (fun _ h9 => h9) (by rw [List.getElem?_map, List.getElem?_range (by rw [h6]; exact h2)]; refine congrArg some (?_ : gm_fvC X.1 k j (h k j) = Value.ref (X.1 q)); unfold gm_fvC; rw [hk, h5, hq]; show (if h k j = 0 then _ else _) = _; rw [if_neg hne]) d (kk p l e s m args below meth c_1 X H locs ls C hz hP hS hl)
theorem ae_iast {k w j : Nat} {i x : Int32} (hd : At M pc .iastore 1 pc') (ha : gm_arr k w) (hkn : k < n) (hn : n ≤ 57) (hi : vp_in i w) (hj : i.toNatClampNeg = j) (kk : AV M n' Q cs ss pc' lv st n (gm_st h k j x)) : AV M n' Q cs ss pc lv (.int x :: .int i :: .ref k :: st) n h := by
  obtain ⟨d, rfl⟩ := hd
  subst hj
  intro p l e_1 s m args below meth c X H locs ls C hz hP hS hl
  have he := gm_WC_arr (X := X) (h := h) hkn ha
  have hD := gm_DC C.2.1 n hn h
  refine W.iast C.1.1 C.1.2.1 (hP k _ he) ((C.2.2.1.2 0 _ rfl).1 w (fun j => .int (h k j))) (fun q => by cases q) (by show ¬ (i < 0 ∨ (arrV _ _ _).slots.size ≤ _); rw [arrV_size]; exact hi) rfl rfl d fun H1 e z oq => ?_
  have hat : va_at X.2.1 vwCl (X.1 k, .inl (X.2.2.1, w, .inl (upd (h k) i.toNatClampNeg x))) H1 := by
    show H1[X.1 k]? = some (vp_cell _ _)
    rw [e, vp_cell_i, vp_cell_i, arrV_store]
    congr 2
    funext q
    by_cases hq : q = i.toNatClampNeg
    · subst hq
      simp [updV, upd]
    · simp [updV, upd, hq]
  exact kk p l e_1 s m args below meth c X H1 _ ls C (by rw [z]; exact hz) (by rw [← gm_WC_ast hkn ha]; exact hP.set hD he hat oq) (hS.put z oq (hD.2 k _ he)) hl
theorem ae_alen {k w : Nat} {v : Int32} (hd : At M pc .arraylength 1 pc') (ha : gm_arr k w) (hkn : k < n) (hv : Int32.ofNat w = v) (kk : AV M n' Q cs ss pc' lv (.int v :: st) n h) : AV M n' Q cs ss pc lv (.ref k :: st) n h := by
  obtain ⟨d, rfl⟩ := hd
  exact fun p l e s m args below meth c X H locs ls C hz hP hS hl => va_alen C.1.1 C.1.2.1 C.2.2.1 hP k 0 (gm_WC_arr hkn ha) rfl hv d (kk p l e s m args below meth c X H locs ls C hz hP hS hl)
theorem ae_ldcS {i : Nat} {tx : String} (hd : At M pc (.ldc idx) 2 pc') (hw : (M.1.cls, idx, tx, i) ∈ gm_ldc) (k : AV M n' Q cs ss pc' lv (.ref (100 + i) :: st) n h) : AV M n' Q cs ss pc lv st n h := by
  obtain ⟨d, rfl⟩ := hd
  exact fun p l e s m args below meth c X H locs ls C hz hP hS hl => va_ldcS C.1.1 C.1.2.1 C.1.2.2.2.2.1 (C.2.2.2.1.2.2.1 _ hw) d (k p l e s m args below meth c X H locs ls C hz hP hS hl)
theorem ae_getsN {i : Nat} {nm host : String} (hd : At M pc (.getstatic idx) 3 pc') (hi : i < 6) (hnm : gm_stN.getD i "" = nm) (hw : Cond.fieldLinkNest M.1.cls idx "GlassWords" nm "[I" host ∈ lw_tbl) (kk : AV M n' Q cs ss pc' lv (.ref (200 + i) :: st) n h) : AV M n' Q cs ss pc lv st n h := by
  obtain ⟨d, rfl⟩ := hd
  subst hnm
  exact fun p l e s m args below meth c X H locs ls C hz hP hS hl => va_getsN C.1.1 C.1.2.1 (C.2.2.2.1.2.1 i hi).1 hS C.1.2.2.2.2.1 (va_Nw.use rfl (C.2.2.2.1.1 _ hw rfl)) (fun _ h9 => h9) d (kk p l e s m args below meth c X H locs ls C hz hP hS hl)
/-- the rows of references: sheets, texts -/
theorem ae_newq33 {x : Int32} (hd : At M pc (.anewarray idx) 3 pc') (hlink : Cond.classLink M.1.cls idx "GlassWords$Sheet" ∈ gm_ws) (h33 : n = 33) (hx : x = 4) (hc : cs + 1 ≤ M.2.2.2.2.cells) (hs : ss + 4 ≤ M.2.2.2.2.slots) (kk : AV M n' Q (cs + 1) (ss + 4) pc' lv (.ref n :: st) (n + 1) (gm_new h n)) : AV M n' Q cs ss pc lv (.int x :: st) n h := by
  obtain ⟨d, rfl⟩ := hd
  subst hx
  intro p l e s m args below meth c X H locs ls C hz hP hS hl
  refine W.anew C.1.1 C.1.2.1 C.1.2.2.2.2.1 (C.1.2.2.2.2.2.1 _ hlink) (va_AO.use C.2.2.2.2.1.1) rfl d rfl (by decide) (by decide) hc hs fun cA kA comp f1 f2 f3 f4 => ?_
  have hcA : cA = X.2.2.2.1 := by
    obtain ⟨_, _, _, _, _, h2⟩ := (C.2.2.1.2 1 (X.2.2.2.1, .object "GlassWords$Sheet") rfl).2
    exact Option.some.inj (f1.symm.trans h2)
  subst hcA
  have hn : n < 57 := by omega
  generalize hH1 : H.push ({ cls := X.2.2.2.1, slots := Array.replicate (4 : Int32).toNatClampNeg .null, vm := .none } : Cell) = H1
  have z1 : H1.size = H.size + 1 := by rw [← hH1, Array.size_push]
  have e1 : H1[H.size]? = some (arrV X.2.2.2.1 4 (fun _ => .null)) := by rw [← hH1, Array.getElem?_push_size, ← arrV_new]; rfl
  have o1 : ∀ q : Nat, q < H.size → H1[q]? = H[q]? := fun q hq => by rw [← hH1, Array.getElem?_push, if_neg (Nat.ne_of_lt hq)]
  have hold : ∀ (k : Nat) (y : Nat × va_E), (gm_WC X n h)[k]? = some y → H1[y.1]? = H[y.1]? := fun k y hy => o1 y.1 (hP k y hy).lt
  have hP1 : va_P X.2.1 vwCl (gm_WC X (n + 1) (gm_new h n)) H1 := by
    rw [← gm_WC_push C.2.1 hn (e := .inl (X.2.2.2.1, 4, .inr (.inr (.inr (.inr (fun _ => none)))))) (by subst h33; rfl)]
    refine (hP.kept hold).app (fun k y hy => ?_)
    have hzk : k < 1 := (List.getElem?_eq_some_iff.mp hy).1
    rw [show k = 0 by omega] at hy
    cases hy
    show H1[X.1 0 + n]? = some (vp_cell _ _)
    rw [← hz, e1]
    rfl
  have he : H.size = X.1 n := by rw [hz]; exact (C.2.1 n hn).symm
  rw [he]
  exact kk p l e s m args below meth c X H1 locs ls C (by rw [z1, hz]; rfl) hP1 ⟨by rw [z1]; exact Nat.le_succ_of_le hS.1, fun x h1 h2 => (o1 x (Nat.lt_of_lt_of_le h1 hS.1)).trans (hS.2.1 x h1 h2), hS.2.2⟩ hl
theorem ae_newq51 {x : Int32} (hd : At M pc (.anewarray idx) 3 pc') (hlink : Cond.classLink M.1.cls idx "java/lang/String" ∈ gm_ws) (h51 : n = 51) (hx : x = 7) (hc : cs + 1 ≤ M.2.2.2.2.cells) (hs : ss + 7 ≤ M.2.2.2.2.slots) (kk : AV M n' Q (cs + 1) (ss + 7) pc' lv (.ref n :: st) (n + 1) (gm_new h n)) : AV M n' Q cs ss pc lv (.int x :: st) n h := by
  obtain ⟨d, rfl⟩ := hd
  subst hx
  intro p l e s m args below meth c X H locs ls C hz hP hS hl
  refine W.anew C.1.1 C.1.2.1 C.1.2.2.2.2.1 (C.1.2.2.2.2.2.1 _ hlink) (va_AO.use C.2.2.2.2.1.2) rfl d rfl (by decide) (by decide) hc hs fun cA kA comp f1 f2 f3 f4 => ?_
  have hcA : cA = X.2.2.2.2 := by
    obtain ⟨_, _, _, _, _, h2⟩ := (C.2.2.1.2 2 (X.2.2.2.2, .object "java/lang/String") rfl).2
    exact Option.some.inj (f1.symm.trans h2)
  subst hcA
  have hn : n < 57 := by omega
  generalize hH1 : H.push ({ cls := X.2.2.2.2, slots := Array.replicate (7 : Int32).toNatClampNeg .null, vm := .none } : Cell) = H1
  have z1 : H1.size = H.size + 1 := by rw [← hH1, Array.size_push]
  have e1 : H1[H.size]? = some (arrV X.2.2.2.2 7 (fun _ => .null)) := by rw [← hH1, Array.getElem?_push_size, ← arrV_new]; rfl
  have o1 : ∀ q : Nat, q < H.size → H1[q]? = H[q]? := fun q hq => by rw [← hH1, Array.getElem?_push, if_neg (Nat.ne_of_lt hq)]
  have hold : ∀ (k : Nat) (y : Nat × va_E), (gm_WC X n h)[k]? = some y → H1[y.1]? = H[y.1]? := fun k y hy => o1 y.1 (hP k y hy).lt
  have hP1 : va_P X.2.1 vwCl (gm_WC X (n + 1) (gm_new h n)) H1 := by
    rw [← gm_WC_push C.2.1 hn (e := .inl (X.2.2.2.2, 7, .inr (.inr (.inr (.inr (fun _ => none)))))) (by subst h51; rfl)]
    refine (hP.kept hold).app (fun k y hy => ?_)
    have hzk : k < 1 := (List.getElem?_eq_some_iff.mp hy).1
    rw [show k = 0 by omega] at hy
    cases hy
    show H1[X.1 0 + n]? = some (vp_cell _ _)
    rw [← hz, e1]
    rfl
  have he : H.size = X.1 n := by rw [hz]; exact (C.2.1 n hn).symm
  rw [he]
  exact kk p l e s m args below meth c X H1 locs ls C (by rw [z1, hz]; rfl) hP1 ⟨by rw [z1]; exact Nat.le_succ_of_le hS.1, fun x h1 h2 => (o1 x (Nat.lt_of_lt_of_le h1 hS.1)).trans (hS.2.1 x h1 h2), hS.2.2⟩ hl
end
