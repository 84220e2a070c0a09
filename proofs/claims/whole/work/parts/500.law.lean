/-! THE LAW'S BODY over the memory: rows. The script is key 300 -/
def lw_cx (L : Nat) (xs : Nat → Int32) (p : Program) (s : State) (m : MethodId) (meth : Method) (c : Code) (X : Xt) : Prop :=
  lw_At p s m meth c (X.1 300) L xs ∧ gm_inj X ∧ va_K X.2.1 vwCl (gm_tys X) s ∧ gm_old X s s.heap ∧ (∀ k, k < 57 → s.heap.size ≤ X.1 k)
def LV (L : Nat) (xs : Nat → Int32) (pc : Nat) (lv : List (Nat × Value)) (st : List Value) (h : Mem) : Prop :=
  ∀ (p : Program) (l : Launch) (e : Env) (s : State) (m : MethodId) (below : List Frame) (meth : Method) (c : Code) (X : Xt) (H : Heap) (locs : List Loc) (ls : Array Slot),
    lw_cx L xs p s m meth c X → va_P X.2.1 vwCl (gm_W X h) H → va_S (fun q : Nat => s.heap.size ≤ q) s.heap H locs → lv_has ls 4 (lv.map (gm_tp X.1)) →
    W p l e room_1 s m #[Value.ref (X.1 300)] below meth c H locs 1000 20000 (lw_Z below #[Value.ref (X.1 300)] s) (F0 m pc ls (st.map (gm_tv X.1)))
section
variable {L : Nat} {xs : Nat → Int32} {pc tgt : Nat} {lv : List (Nat × Value)} {st : List Value} {h : Mem}
theorem le_iconst {n : Int} {v : Int32} (d : decode code pc = .ok (.iconst n, 1)) (hv : Int32.ofInt n = v) (k : LV L xs (pc + 1) lv (.int v :: st) h) : LV L xs pc lv (st) h :=
  fun p l e s m below meth c X H locs ls C hP hS hl => lv_iconst C.1.1 C.1.2.1 d hv (k p l e s m below meth c X H locs ls C hP hS hl)
theorem le_bipush {n : Int} {v : Int32} (d : decode code pc = .ok (.bipush n, 2)) (hv : (Int8.ofInt n).toInt32 = v) (k : LV L xs (pc + 2) lv (.int v :: st) h) : LV L xs pc lv (st) h :=
  fun p l e s m below meth c X H locs ls C hP hS hl => lv_bipush C.1.1 C.1.2.1 d hv (k p l e s m below meth c X H locs ls C hP hS hl)
theorem le_iload_n {k4 : Fin 4} {i : Nat} {x : Int32} (d : decode code pc = .ok (.iload_n k4, 1)) (hi : (k4 : Nat) = i) (q : Nat) (hq : lv[q]? = some (i, .int x)) (k : LV L xs (pc + 1) lv (.int x :: st) h) : LV L xs pc lv (st) h :=
  fun p l e s m below meth c X H locs ls C hP hS hl => lv_iload_n C.1.1 C.1.2.1 d hi (gm_lvat hl q hq) (k p l e s m below meth c X H locs ls C hP hS hl)
theorem le_aload_n {k4 : Fin 4} {i x : Nat} (d : decode code pc = .ok (.aload_n k4, 1)) (hi : (k4 : Nat) = i) (q : Nat) (hq : lv[q]? = some (i, .ref x)) (k : LV L xs (pc + 1) lv (.ref x :: st) h) : LV L xs pc lv (st) h :=
  fun p l e s m below meth c X H locs ls C hP hS hl => lv_aload_n C.1.1 C.1.2.1 d hi (gm_lvat hl q hq) (k p l e s m below meth c X H locs ls C hP hS hl)
theorem le_iadd {x y : Int32} (d : decode code pc = .ok (.iadd, 1))  (k : LV L xs (pc + 1) lv (.int (x + y) :: st) h) : LV L xs pc lv (.int y :: .int x :: st) h :=
  fun p l e s m below meth c X H locs ls C hP hS hl => lv_iadd C.1.1 C.1.2.1 d  (k p l e s m below meth c X H locs ls C hP hS hl)
theorem le_isub {x y : Int32} (d : decode code pc = .ok (.isub, 1))  (k : LV L xs (pc + 1) lv (.int (x - y) :: st) h) : LV L xs pc lv (.int y :: .int x :: st) h :=
  fun p l e s m below meth c X H locs ls C hP hS hl => lv_isub C.1.1 C.1.2.1 d  (k p l e s m below meth c X H locs ls C hP hS hl)
theorem le_iand {x y : Int32} (d : decode code pc = .ok (.iand, 1))  (k : LV L xs (pc + 1) lv (.int (x &&& y) :: st) h) : LV L xs pc lv (.int y :: .int x :: st) h :=
  fun p l e s m below meth c X H locs ls C hP hS hl => lv_iand C.1.1 C.1.2.1 d  (k p l e s m below meth c X H locs ls C hP hS hl)
theorem le_lcmp {x y : Int64} (d : decode code pc = .ok (.lcmp, 1))  (k : LV L xs (pc + 1) lv (.int (lg_cmp x y) :: st) h) : LV L xs pc lv (.long y :: .long x :: st) h :=
  fun p l e s m below meth c X H locs ls C hP hS hl => W.lcmp C.1.1 C.1.2.1 d  (k p l e s m below meth c X H locs ls C hP hS hl)
theorem le_slen (d : decode code pc = .ok (.arraylength, 1)) (k : LV L xs (pc + 1) lv (.int (nI L) :: st) h) : LV L xs pc lv (.ref 300 :: st) h :=
  fun p l e s m below meth c X H locs ls C hP hS hl => va_slen C.1.1 C.1.2.1 C.1.2.2.2.2.2.2.1 C.1.2.2.2.2.2.2.2.1 (Nat.not_le.mpr C.1.2.2.2.2.2.2.2.1) hS d (k p l e s m below meth c X H locs ls C hP hS hl)
theorem le_sld {i : Int32} (d : decode code pc = .ok (.iaload, 1)) (hi : vp_in i L) (k : LV L xs (pc + 1) lv (.int (xs i.toNatClampNeg) :: st) h) : LV L xs pc lv (.int i :: .ref 300 :: st) h :=
  fun p l e s m below meth c X H locs ls C hP hS hl => va_sld C.1.1 C.1.2.1 C.1.2.2.2.2.2.2.1 C.1.2.2.2.2.2.2.2.1 (Nat.not_le.mpr C.1.2.2.2.2.2.2.2.1) hS hi d (k p l e s m below meth c X H locs ls C hP hS hl)
theorem le_icmp_gt {x y : Int32} {off : Int} (d : decode code pc = .ok (.if_icmp .gt off, 3)) (ht : (pc : Int) + off = (tgt : Int)) (kt : y < x → LV L xs tgt lv st h) (kf : ¬ y < x → LV L xs (pc + 3) lv st h) : LV L xs pc lv (.int y :: .int x :: st) h :=
  fun p l e s m below meth c X H locs ls C hP hS hl => lv_icmp_gt C.1.1 C.1.2.1 d ht (fun q => kt q p l e s m below meth c X H locs ls C hP hS hl) (fun q => kf q p l e s m below meth c X H locs ls C hP hS hl)
theorem le_icmp_eq {x y : Int32} {off : Int} (d : decode code pc = .ok (.if_icmp .eq off, 3)) (ht : (pc : Int) + off = (tgt : Int)) (hxy : x = y) (kt : LV L xs tgt lv st h) : LV L xs pc lv (.int y :: .int x :: st) h :=
  fun p l e s m below meth c X H locs ls C hP hS hl => lv_icmp_eq C.1.1 C.1.2.1 d ht (fun q => kt p l e s m below meth c X H locs ls C hP hS hl) (fun q => absurd hxy q)
theorem le_if_eq {x : Int32} {off : Int} (d : decode code pc = .ok (.ifCond .eq off, 3)) (ht : (pc : Int) + off = (tgt : Int)) (hx : x = 0) (kt : LV L xs tgt lv st h) : LV L xs pc lv (.int x :: st) h :=
  fun p l e s m below meth c X H locs ls C hP hS hl => lv_if_eq C.1.1 C.1.2.1 d ht (fun q => kt p l e s m below meth c X H locs ls C hP hS hl) (fun q => absurd hx q)
theorem le_goto {off : Int} (d : decode code pc = .ok (.goto off, 3)) (ht : (pc : Int) + off = (tgt : Int)) (k : LV L xs tgt lv st h) : LV L xs pc lv st h :=
  fun p l e s m below meth c X H locs ls C hP hS hl => lv_goto C.1.1 C.1.2.1 d ht (k p l e s m below meth c X H locs ls C hP hS hl)
theorem le_iinc {i : Nat} {n : Int} {x v : Int32} {lv' : List (Nat × Value)} (d : decode code pc = .ok (.iinc i n, 3)) (q : Nat) (hq : lv[q]? = some (i, .int x)) (hv : x + Int32.ofInt n = v) (hn : i < 4) (hl' : gm_put1 i (.int v) lv = lv') (k : LV L xs (pc + 3) lv' st h) : LV L xs pc lv st h := by
  subst hl'
  exact fun p l e s m below meth c X H locs ls C hP hS hl => lv_iinc (k := q) C.1.1 C.1.2.1 d hl (by rw [List.getElem?_map, hq]; rfl) hv hn (gm_put1_map X.1 i (.int v) lv) (fun ls' hl2 => k p l e s m below meth c X H locs ls' C hP hS hl2)
theorem le_sub {lv' : List (Nat × Value)} (ks : List Nat) (hp : lv_pick lv ks = lv') (k : LV L xs pc lv' st h) : LV L xs pc lv st h := by
  subst hp
  refine fun p l e s m below meth c X H locs ls C hP hS hl => k p l e s m below meth c X H locs ls C hP hS (lv_sub hl ks ?_)
  unfold lv_pick
  rw [List.map_filterMap]
  congr 1
  funext q
  rw [List.getElem?_map]
theorem le_sw {x : Int32} {dflt lo hi : Int} {offs : Array Int} {len dt : Nat} (cs : List (Int32 × Nat)) (hd : decode code pc = .ok (.tableswitch dflt lo hi offs, len)) (hok : gm_tabOk pc lo hi offs cs = true) (ht : (pc : Int) + dflt = (dt : Int)) (k : gm_SW (fun t => LV L xs t lv st h) x dt cs) : LV L xs pc lv (.int x :: st) h := by
  simp only [gm_tabOk, Bool.and_eq_true, decide_eq_true_eq, List.all_eq_true, List.any_eq_true, List.mem_range] at hok
  obtain ⟨⟨h1, h2⟩, h3⟩ := hok
  intro p l e s m below meth c X H locs ls C hP hS hl
  rcases gm_SW_in cs k with ⟨q, g1, g2, g3⟩ | g
  · obtain ⟨⟨a1, a2⟩, a3⟩ := h2 q g1
    exact lv_tableIn C.1.1 C.1.2.1 hd (by rw [g2]; omega) (by rw [g2]; omega) (by rw [g2]; exact a3) (by omega) (g3 p l e s m below meth c X H locs ls C hP hS hl)
  · have hout : x.toInt < lo ∨ hi < x.toInt := by
      rcases Int.lt_or_le x.toInt lo with z | z
      · exact Or.inl z
      · rcases Int.lt_or_le hi x.toInt with y | y
        · exact Or.inr y
        · obtain ⟨q, e1, e2⟩ := h3 (x.toInt - lo).toNat (by rw [h1]; omega)
          exact absurd (Int32.toInt_inj.mp (by rw [e2]; omega)) (g q e1)
    exact lv_tableOut C.1.1 C.1.2.1 hd hout ht (gm_SW_out cs g k p l e s m below meth c X H locs ls C hP hS hl)
theorem le_end (d1 : decode code pc = .ok (.iconst 1, 1)) (d2 : decode code (pc + 1) = .ok (.ireturn, 1)) : LV L xs pc lv [] h := by
  intro p l e s m below meth c X H locs ls C hP hS hl
  refine lv_iconst (v := 1) C.1.1 C.1.2.1 d1 rfl ?_
  refine va_forget (fun q hq => hS.2.2 q hq) ?_
  refine W.widen (k := 600000) (n := 7302250) (Nat.le_of_ble_eq_true rfl) (Nat.le_of_ble_eq_true rfl) ?_
  exact lw_ret C.1.1 C.1.2.1 C.1.2.2.1 C.1.2.2.2.2.2.2.2.2.1 d2
end
def lw_RmOk (N : Mt) : Prop := N.2.2.2.2.frames + 1 ≤ 13 ∧ 8 + (N.2.2.1 + 11) + N.2.2.2.2.locals ≤ 478
theorem lw_ws {w : Cond} (h : w ∈ gm_ws) : w ∈ lw_tbl := (List.mem_filter.mp h).1
theorem lw_A {L : Nat} {xs : Nat → Int32} {p : Program} {s : State} {m : MethodId} {meth : Method} {c : Code} {X : Xt} (C : lw_cx L xs p s m meth c X) {q : Nat} (h : gm_A X q) : s.heap.size ≤ q := by
  obtain ⟨k, h1, rfl⟩ := h
  exact C.2.2.2.2 k h1
theorem lw_run {L : Nat} {xs : Nat → Int32} {N : Mt} {G' : Xt → Array Value → State → Outcome → State → Prop} {pc n idx k cn : Nat} {lv : List (Nat × Value)} {st rest as : List Value} {h : Mem} {p : Program} {l : Launch} {e : Env} {s : State} {m : MethodId} {below : List Frame} {meth : Method} {c : Code} {X : Xt} {H : Heap} {locs : List Loc} {ls : Array Slot} (hN : Cn N (.ref k :: as) h G') (hV : VOk N n) (hR : lw_RmOk N) (hlink : Cond.methodLink R_law idx N.1 ∈ gm_ws) (hk : gm_cls k = cn) (hc : ∃ T w, vwCl[cn]? = some (N.1.cls, T, w)) (h10 : cn < 10) (hn : as.length = n) (hst : as.reverse ++ .ref k :: rest = st) (hw : (rest.map fun v => v.category).sum ≤ 8)
    (C : lw_cx L xs p s m meth c X) (hP : va_P X.2.1 vwCl (gm_W X h) H) (hS : va_S (fun q : Nat => s.heap.size ≤ q) s.heap H locs) (hl : lv_has ls 4 (lv.map (gm_tp X.1))) (d : decode code pc = .ok (.invokevirtual idx, 3)) :
    va_Run p l e room_1 s m #[Value.ref (X.1 300)] below meth c H locs 1000 20000 0 0 (F0 m pc ls (st.map (gm_tv X.1))) (rest.map (gm_tv X.1)) (G' X ((Value.ref k :: as).map (gm_tv X.1)).toArray) (gm_A X) := by
  obtain ⟨T, w, hc⟩ := hc
  subst hst
  have hts : ∀ w ∈ lw_tbl, w.before #[Value.ref (X.1 300)] s = true := C.1.2.2.2.2.2.1
  have hG : GoodIn lw_tbl (gm_words N) := fun w hw => ⟨lw_ws (gm_goodN hV.1 w hw).1, (gm_goodN hV.1 w hw).2⟩
  refine va_runV (C := N.1.cls) (b := X.1 k) (As := as.map (gm_tv X.1)) (Ts := lw_tbl) (own := R_law) ⟨C.1.1, C.1.2.1, C.1.2.2.2.1, C.1.2.2.2.2.1, hts⟩ (hN l X) ⟨callB_of n hts hG rfl hV.1.2.2.2.1 hV.1.2.2.2.2 (hts _ (lw_ws hV.1.2.1)) (hts _ (lw_ws hlink)) hV.1.2.2.1 hR, hts _ (lw_ws hV.2.1), hts _ (lw_ws hV.2.2)⟩ ⟨gm_blind, va_recv C.2.2.1 hP hc (gm_W_obj hk h10), fun U hU hW => ⟨rfl, C.2.1, by rw [hU]; exact hP, va_K.moved hW.alike C.2.2.1, ?_⟩⟩ rfl (by rw [List.length_map]; exact hn) hl.1 ?_ (lv_room (by rw [gm_catsum]; exact hw)) d ⟨Nat.le_of_ble_eq_true rfl, Nat.le_of_ble_eq_true rfl⟩
  · rw [hU]
    exact gm_old.warm hW (C.2.2.2.1.kept (fun a h1 _ => hS.2.1 a h1 (Nat.not_le.mpr h1)))
  · show (as.reverse ++ .ref k :: rest).map (gm_tv X.1) = _
    rw [List.map_append, List.map_reverse]
    rfl
theorem le_cI {L : Nat} {xs : Nat → Int32} {N : Mt} {pc n idx k cn : Nat} {lv : List (Nat × Value)} {st rest : List Value} {h : Mem} (as : List Value) {Q : Int32 → Mem → Prop} (d : decode code pc = .ok (.invokevirtual idx, 3)) (hV : VOk N n) (hlink : Cond.methodLink R_law idx N.1 ∈ gm_ws) (hR : lw_RmOk N) (hk : gm_cls k = cn) (hc : ∃ T w, vwCl[cn]? = some (N.1.cls, T, w)) (h10 : cn < 10) (hn : as.length = n) (hst : as.reverse ++ .ref k :: rest = st) (hw : (rest.map fun v => v.category).sum ≤ 8) (hN : Cn N (.ref k :: as) h (GI Q)) (kk : ∀ r h', Q r h' → LV L xs (pc + 3) lv (.int r :: rest) h') : LV L xs pc lv st h := by
  intro p l e s m below meth c X H locs ls C hP hS hl
  exact va_calli (lw_run hN hV hR hlink hk hc h10 hn hst hw C hP hS hl d) hS (fun q _ z => lw_A C z) (fun q z => lw_A C z) (fun r u t H1 locs1 ht _ hq hb _ _ hS1 => kk r u hq p l e s m below meth c X H1 locs1 ls C (by rw [← ht]; exact hb) hS1 hl)
theorem le_cL {L : Nat} {xs : Nat → Int32} {N : Mt} {pc n idx k cn : Nat} {lv : List (Nat × Value)} {st rest : List Value} {h : Mem} (as : List Value) {Q : Int64 → Mem → Prop} (d : decode code pc = .ok (.invokevirtual idx, 3)) (hV : VOk N n) (hlink : Cond.methodLink R_law idx N.1 ∈ gm_ws) (hR : lw_RmOk N) (hk : gm_cls k = cn) (hc : ∃ T w, vwCl[cn]? = some (N.1.cls, T, w)) (h10 : cn < 10) (hn : as.length = n) (hst : as.reverse ++ .ref k :: rest = st) (hw : (rest.map fun v => v.category).sum ≤ 8) (hN : Cn N (.ref k :: as) h (GL Q)) (kk : ∀ r h', Q r h' → LV L xs (pc + 3) lv (.long r :: rest) h') : LV L xs pc lv st h := by
  intro p l e s m below meth c X H locs ls C hP hS hl
  exact va_calll (lw_run hN hV hR hlink hk hc h10 hn hst hw C hP hS hl d) hS (fun q _ z => lw_A C z) (fun q z => lw_A C z) (fun r u t H1 locs1 ht _ hq hb _ _ hS1 => kk r u hq p l e s m below meth c X H1 locs1 ls C (by rw [← ht]; exact hb) hS1 hl)
