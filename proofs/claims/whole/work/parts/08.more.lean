/-! rows: names, fewer locals, switches, loops, texts -/
section
variable {M : Mt} {G : Xt → Array Value → State → Outcome → State → Prop} {pc pc' tgt idx : Nat} {lv : List (Nat × Value)} {st : List Value} {h : Mem}
theorem ge_nm {m0 : Mem} (k : ∀ h1, h1 = m0 → EV M G pc lv st h1) : EV M G pc lv st m0 := k _ rfl
theorem ge_topi {x : Int32} (k : ∀ y, y = x → EV M G pc lv (.int y :: st) h) : EV M G pc lv (.int x :: st) h := k _ rfl
theorem ge_topl {x : Int64} (k : ∀ y, y = x → EV M G pc lv (.long y :: st) h) : EV M G pc lv (.long x :: st) h := k _ rfl
theorem ge_sub {lv' : List (Nat × Value)} (ks : List Nat) (hp : lv_pick lv ks = lv') (k : EV M G pc lv' st h) : EV M G pc lv st h := by
  subst hp
  refine fun p l e s m args below meth c X H locs ls C hP hS hl => k p l e s m args below meth c X H locs ls C hP hS (lv_sub hl ks ?_)
  unfold lv_pick
  rw [List.map_filterMap]
  congr 1
  funext q
  rw [List.getElem?_map]
theorem ge_ite {c A B : Prop} [Decidable c] (a : c → A) (b : ¬ c → B) : if c then A else B := by
  by_cases h : c
  · rw [if_pos h]; exact a h
  · rw [if_neg h]; exact b h
/-- a switch as tests one by one: (value, place) rows -/
def gm_SW (P : Nat → Prop) (x : Int32) (d : Nat) : List (Int32 × Nat) → Prop
  | [] => P d
  | q :: r => if x = q.1 then P q.2 else gm_SW P x d r
theorem gm_SW_out {P : Nat → Prop} {x : Int32} {d : Nat} : ∀ (cs : List (Int32 × Nat)), (∀ q ∈ cs, ¬ x = q.1) → gm_SW P x d cs → P d
  | [], _, hs => hs
  | q :: r, hn, hs => gm_SW_out r (fun z hz => hn z (List.mem_cons_of_mem _ hz)) (by rw [gm_SW, if_neg (hn q List.mem_cons_self)] at hs; exact hs)
theorem gm_SW_in {P : Nat → Prop} {x : Int32} {d : Nat} : ∀ (cs : List (Int32 × Nat)), gm_SW P x d cs → (∃ q ∈ cs, x = q.1 ∧ P q.2) ∨ (∀ q ∈ cs, ¬ x = q.1)
  | [], _ => Or.inr (fun q h => absurd h List.not_mem_nil)
  | q :: r, hs => by
    by_cases hx : x = q.1
    · rw [gm_SW, if_pos hx] at hs
      exact Or.inl ⟨q, List.mem_cons_self, hx, hs⟩
    · rw [gm_SW, if_neg hx] at hs
      rcases gm_SW_in r hs with ⟨z, h1, h2⟩ | h1
      · exact Or.inl ⟨z, List.mem_cons_of_mem _ h1, h2⟩
      · exact Or.inr (fun z hz => (List.mem_cons.mp hz).elim (fun e => e ▸ hx) (h1 z))
/-- the rows are the table's -/
def gm_tabOk (pc : Nat) (lo hi : Int) (offs : Array Int) (cs : List (Int32 × Nat)) : Bool :=
  decide (offs.size = (hi - lo + 1).toNat) && cs.all (fun q => decide (lo ≤ q.1.toInt) && decide (q.1.toInt ≤ hi) && decide (offs[(q.1.toInt - lo).toNat]? = some ((q.2 : Int) - (pc : Int)))) && (List.range offs.size).all (fun i => cs.any (fun q => decide (q.1.toInt = lo + i)))
theorem ge_sw {x : Int32} {dflt lo hi : Int} {offs : Array Int} {len dt : Nat} (cs : List (Int32 × Nat)) (hd : decode M.2.1 pc = .ok (.tableswitch dflt lo hi offs, len)) (hok : gm_tabOk pc lo hi offs cs = true) (ht : (pc : Int) + dflt = (dt : Int)) (k : gm_SW (fun t => EV M G t lv st h) x dt cs) : EV M G pc lv (.int x :: st) h := by
  simp only [gm_tabOk, Bool.and_eq_true, decide_eq_true_eq, List.all_eq_true, List.any_eq_true, List.mem_range] at hok
  obtain ⟨⟨h1, h2⟩, h3⟩ := hok
  rcases gm_SW_in cs k with ⟨q, g1, g2, g3⟩ | g
  · obtain ⟨⟨a1, a2⟩, a3⟩ := h2 q g1
    refine ge_table hd (fun off ho _ _ => ⟨q.2, ?_, g3⟩) h1 dt ht (fun ho => ?_)
    · rw [g2] at ho
      rw [a3] at ho
      cases ho
      omega
    · rw [g2] at ho
      omega
  · have hout : x.toInt < lo ∨ hi < x.toInt := by
      rcases Int.lt_or_le x.toInt lo with z | z
      · exact Or.inl z
      · rcases Int.lt_or_le hi x.toInt with y | y
        · exact Or.inr y
        · obtain ⟨q, e1, e2⟩ := h3 (x.toInt - lo).toNat (by rw [h1]; omega)
          exact absurd (Int32.toInt_inj.mp (by rw [e2]; omega)) (g q e1)
    exact ge_table hd (fun off _ u1 u2 => absurd hout (fun z => z.elim u1 u2)) h1 dt ht (fun _ => gm_SW_out cs g k)
theorem ge_ldcwS {i : Nat} {tx : String} (hd : At M pc (.ldc_w idx) 3 pc') (hw : (M.1.cls, idx, tx, i) ∈ gm_ldc) (k : EV M G pc' lv (.ref (100 + i) :: st) h) : EV M G pc lv st h := by
  obtain ⟨d, rfl⟩ := hd
  intro p l e s m args below meth c X H locs ls C hP hS hl
  intro T hT X0
  obtain ⟨t, a1, b1⟩ := k p l e s m args below meth c X H locs ls C hP hS hl T hT X0
  have hZ := C.2.2.2.2.2.1 _ hw
  exact ⟨t, Jvm.Stand.ldcStringW X0 C.1.1 C.1.2.2.2.2.1 (text := tx) (a := X.1 (100 + i)) hZ.1 hZ.2 (g := F0 m pc ls (st.map (gm_tv X.1))) rfl (by rw [C.1.2.1]; exact d) t a1, b1⟩
/-- a text's key -/
def gm_str (k : Nat) : Prop := ∃ i, i < 17 ∧ k = 100 + i
theorem ge_strval {i : Nat} (hd : At M pc (.getfield idx) 3 pc') (hi : i < 17) (hw : Cond.fieldLink M.1.cls idx "java/lang/String" "value" "[B" ∈ gm_ws) (k : EV M G pc' lv (.ref (150 + i) :: st) h) : EV M G pc lv (.ref (100 + i) :: st) h := by
  obtain ⟨d, rfl⟩ := hd
  exact fun p l e s m args below meth c X H locs ls C hP hS hl => vk_getf C.1.1 C.1.2.1 (C.2.2.2.2.2.2.1 i hi).2.2.1 hS C.1.2.2.2.2.1 (C.1.2.2.2.2.2.1 _ hw) (fun _ h9 => h9) d (k p l e s m args below meth c X H locs ls C hP hS hl)
theorem ge_strcoder {i : Nat} (hd : At M pc (.getfield idx) 3 pc') (hi : i < 17) (hw : Cond.fieldLink M.1.cls idx "java/lang/String" "coder" "B" ∈ gm_ws) (k : EV M G pc' lv (.int 0 :: st) h) : EV M G pc lv (.ref (100 + i) :: st) h := by
  obtain ⟨d, rfl⟩ := hd
  exact fun p l e s m args below meth c X H locs ls C hP hS hl => vk_getf C.1.1 C.1.2.1 (C.2.2.2.2.2.2.1 i hi).2.1 hS C.1.2.2.2.2.1 (C.1.2.2.2.2.2.1 _ hw) (fun _ h9 => h9) d (k p l e s m args below meth c X H locs ls C hP hS hl)
theorem ge_blen {i : Nat} (hd : At M pc .arraylength 1 pc') (hi : i < 17) (k : EV M G pc' lv (.int (nI (gm_byt i).length) :: st) h) : EV M G pc lv (.ref (150 + i) :: st) h := by
  obtain ⟨d, rfl⟩ := hd
  exact fun p l e s m args below meth c X H locs ls C hP hS hl => va_tlen C.1.1 C.1.2.1 (C.2.2.2.2.2.2.1 i hi).2.2.2 hS rfl d (k p l e s m args below meth c X H locs ls C hP hS hl)
theorem ge_bald {i : Nat} {x : Int32} (hd : At M pc .baload 1 pc') (hi : i < 17) (hx : vp_in x (gm_byt i).length) (k : EV M G pc' lv (.int ((gm_byt i).getD x.toNatClampNeg 0) :: st) h) : EV M G pc lv (.int x :: .ref (150 + i) :: st) h := by
  obtain ⟨d, rfl⟩ := hd
  exact fun p l e s m args below meth c X H locs ls C hP hS hl => va_tb C.1.1 C.1.2.1 (C.2.2.2.2.2.2.1 i hi).2.2.2 hS hx rfl d (k p l e s m args below meth c X H locs ls C hP hS hl)
theorem ge_compact (hd : At M pc (.getstatic idx) 3 pc') (hw : Cond.fieldLink M.1.cls idx "java/lang/String" "COMPACT_STRINGS" "Z" ∈ gm_ws) (k : EV M G pc' lv (.int 1 :: st) h) : EV M G pc lv st h := by
  obtain ⟨d, rfl⟩ := hd
  exact fun p l e s m args below meth c X H locs ls C hP hS hl => va_gets C.1.1 C.1.2.1 C.2.2.2.2.2.2.2.1 hS C.1.2.2.2.2.1 (C.1.2.2.2.2.2.1 _ hw) (fun _ h9 => h9) d (k p l e s m args below meth c X H locs ls C hP hS hl)
theorem ge_formatter (hd : At M pc (.getstatic idx) 3 pc') (hw : Cond.fieldLink M.1.cls idx "jdk/internal/util/Preconditions" "SIOOBE_FORMATTER" "Ljava/util/function/BiFunction;" ∈ gm_ws) (k1 : EV M G pc' lv (.null :: st) h) (k2 : EV M G pc' lv (.ref 180 :: st) h) : EV M G pc lv st h := by
  obtain ⟨d, rfl⟩ := hd
  intro p l e s m args below meth c X H locs ls C hP hS hl
  rcases C.2.2.2.2.2.2.2.2 with z | z
  · exact va_gets C.1.1 C.1.2.1 z hS C.1.2.2.2.2.1 (C.1.2.2.2.2.2.1 _ hw) (fun _ h9 => h9) d (k1 p l e s m args below meth c X H locs ls C hP hS hl)
  · exact va_gets C.1.1 C.1.2.1 z hS C.1.2.2.2.2.1 (C.1.2.2.2.2.2.1 _ hw) (fun _ h9 => h9) d (k2 p l e s m args below meth c X H locs ls C hP hS hl)
end
theorem ge_cTI {M N : Mt} {G : Xt → Array Value → State → Outcome → State → Prop} {pc pc' n idx : Nat} {lv : List (Nat × Value)} {st rest : List Value} {h : Mem} {i : Nat} (as : List Value) {Q : Int32 → Mem → Prop} (hd : At M pc (.invokevirtual idx) 3 pc') (hV : VOk N n) (hC : N.1.cls = "java/lang/String") (hlink : Cond.methodLink M.1.cls idx N.1 ∈ gm_ws) (hR : RmOk M N) (hi : i < 17) (hn : as.length = n) (hst : as.reverse ++ .ref (100 + i) :: rest = st) (hw : (rest.map fun v => v.category).sum ≤ 8) (hN : Cn N (.ref (100 + i) :: as) h (GI Q)) (kk : ∀ r h', Q r h' → EV M G pc' lv (.int r :: rest) h') : EV M G pc lv st h := by
  obtain ⟨d, rfl⟩ := hd
  subst hst
  intro p l e s m args below meth c X H locs ls C hP hS hl
  refine va_calli (va_runV (C := N.1.cls) (b := X.1 (100 + i)) (As := as.map (gm_tv X.1)) (Ts := gm_ws) (own := M.1.cls) (rest := rest.map (gm_tv X.1)) ⟨C.1.1, C.1.2.1, C.1.2.2.2.1, C.1.2.2.2.2.1, C.1.2.2.2.2.2.1⟩ (hN l X) ⟨callB_of n C.1.2.2.2.2.2.1 (gm_goodN hV.1) rfl hV.1.2.2.2.1 hV.1.2.2.2.2 (C.1.2.2.2.2.2.1 _ hV.1.2.1) (C.1.2.2.2.2.2.1 _ hlink) hV.1.2.2.1 hR, C.1.2.2.2.2.2.1 _ hV.2.1, C.1.2.2.2.2.2.1 _ hV.2.2⟩ ⟨gm_blind, ?_, fun U hU hW => gm_pre C hP hS U hU hW⟩ rfl (by rw [List.length_map]; exact hn) hl.1 ?_ (lv_room (by rw [gm_catsum]; exact hw)) d ⟨Nat.zero_le _, Nat.zero_le _⟩) hS (fun _ _ q => q) (fun _ q => q) (fun r u t H1 locs1 ht _ hq hb _ _ hS1 => kk r u hq p l e s m args below meth c X H1 locs1 ls C (by rw [← ht]; exact hb) hS1 hl)
  · obtain ⟨cell, h1, h2, h3, -⟩ := (C.2.2.2.2.2.2.1 i hi).1.kept hS.2.1
    exact ⟨cell, h1, h2, by rw [hC]; exact h3⟩
  · show (as.reverse ++ .ref (100 + i) :: rest).map (gm_tv X.1) = _
    rw [List.map_append, List.map_reverse]
    rfl
def gm_it0 (B : (Mem → Prop) → Mem → Prop) : Nat → Mem → Prop
  | 0, _ => False
  | n + 1, h => B (gm_it0 B n) h
theorem ge_loop0 {B : (Mem → Prop) → Mem → Prop} {P : Mem → Prop} (hB : ∀ K : Mem → Prop, (∀ h, K h → P h) → ∀ h, B K h → P h) : ∀ n h, gm_it0 B n h → P h
  | 0, _, q => q.elim
  | n + 1, h, q => hB (gm_it0 B n) (ge_loop0 hB n) h q
def gm_it1 {T0 : Type} (B : (T0 → Mem → Prop) → T0 → Mem → Prop) : Nat → T0 → Mem → Prop
  | 0, _, _ => False
  | n + 1, x0, h => B (gm_it1 B n) x0 h
theorem ge_loop1 {T0 : Type} {B : (T0 → Mem → Prop) → T0 → Mem → Prop} {P : T0 → Mem → Prop} (hB : ∀ K : T0 → Mem → Prop, (∀ x0 h, K x0 h → P x0 h) → ∀ x0 h, B K x0 h → P x0 h) : ∀ n x0 h, gm_it1 B n x0 h → P x0 h
  | 0, _, _, q => q.elim
  | n + 1, x0, h, q => hB (gm_it1 B n) (ge_loop1 hB n) x0 h q
def gm_it2 {T0 T1 : Type} (B : (T0 → T1 → Mem → Prop) → T0 → T1 → Mem → Prop) : Nat → T0 → T1 → Mem → Prop
  | 0, _, _, _ => False
  | n + 1, x0, x1, h => B (gm_it2 B n) x0 x1 h
theorem ge_loop2 {T0 T1 : Type} {B : (T0 → T1 → Mem → Prop) → T0 → T1 → Mem → Prop} {P : T0 → T1 → Mem → Prop} (hB : ∀ K : T0 → T1 → Mem → Prop, (∀ x0 x1 h, K x0 x1 h → P x0 x1 h) → ∀ x0 x1 h, B K x0 x1 h → P x0 x1 h) : ∀ n x0 x1 h, gm_it2 B n x0 x1 h → P x0 x1 h
  | 0, _, _, _, q => q.elim
  | n + 1, x0, x1, h, q => hB (gm_it2 B n) (ge_loop2 hB n) x0 x1 h q
def gm_it3 {T0 T1 T2 : Type} (B : (T0 → T1 → T2 → Mem → Prop) → T0 → T1 → T2 → Mem → Prop) : Nat → T0 → T1 → T2 → Mem → Prop
  | 0, _, _, _, _ => False
  | n + 1, x0, x1, x2, h => B (gm_it3 B n) x0 x1 x2 h
theorem ge_loop3 {T0 T1 T2 : Type} {B : (T0 → T1 → T2 → Mem → Prop) → T0 → T1 → T2 → Mem → Prop} {P : T0 → T1 → T2 → Mem → Prop} (hB : ∀ K : T0 → T1 → T2 → Mem → Prop, (∀ x0 x1 x2 h, K x0 x1 x2 h → P x0 x1 x2 h) → ∀ x0 x1 x2 h, B K x0 x1 x2 h → P x0 x1 x2 h) : ∀ n x0 x1 x2 h, gm_it3 B n x0 x1 x2 h → P x0 x1 x2 h
  | 0, _, _, _, _, q => q.elim
  | n + 1, x0, x1, x2, h, q => hB (gm_it3 B n) (ge_loop3 hB n) x0 x1 x2 h q
def gm_it4 {T0 T1 T2 T3 : Type} (B : (T0 → T1 → T2 → T3 → Mem → Prop) → T0 → T1 → T2 → T3 → Mem → Prop) : Nat → T0 → T1 → T2 → T3 → Mem → Prop
  | 0, _, _, _, _, _ => False
  | n + 1, x0, x1, x2, x3, h => B (gm_it4 B n) x0 x1 x2 x3 h
theorem ge_loop4 {T0 T1 T2 T3 : Type} {B : (T0 → T1 → T2 → T3 → Mem → Prop) → T0 → T1 → T2 → T3 → Mem → Prop} {P : T0 → T1 → T2 → T3 → Mem → Prop} (hB : ∀ K : T0 → T1 → T2 → T3 → Mem → Prop, (∀ x0 x1 x2 x3 h, K x0 x1 x2 x3 h → P x0 x1 x2 x3 h) → ∀ x0 x1 x2 x3 h, B K x0 x1 x2 x3 h → P x0 x1 x2 x3 h) : ∀ n x0 x1 x2 x3 h, gm_it4 B n x0 x1 x2 x3 h → P x0 x1 x2 x3 h
  | 0, _, _, _, _, _, q => q.elim
  | n + 1, x0, x1, x2, x3, h, q => hB (gm_it4 B n) (ge_loop4 hB n) x0 x1 x2 x3 h q
def gm_it5 {T0 T1 T2 T3 T4 : Type} (B : (T0 → T1 → T2 → T3 → T4 → Mem → Prop) → T0 → T1 → T2 → T3 → T4 → Mem → Prop) : Nat → T0 → T1 → T2 → T3 → T4 → Mem → Prop
  | 0, _, _, _, _, _, _ => False
  | n + 1, x0, x1, x2, x3, x4, h => B (gm_it5 B n) x0 x1 x2 x3 x4 h
theorem ge_loop5 {T0 T1 T2 T3 T4 : Type} {B : (T0 → T1 → T2 → T3 → T4 → Mem → Prop) → T0 → T1 → T2 → T3 → T4 → Mem → Prop} {P : T0 → T1 → T2 → T3 → T4 → Mem → Prop} (hB : ∀ K : T0 → T1 → T2 → T3 → T4 → Mem → Prop, (∀ x0 x1 x2 x3 x4 h, K x0 x1 x2 x3 x4 h → P x0 x1 x2 x3 x4 h) → ∀ x0 x1 x2 x3 x4 h, B K x0 x1 x2 x3 x4 h → P x0 x1 x2 x3 x4 h) : ∀ n x0 x1 x2 x3 x4 h, gm_it5 B n x0 x1 x2 x3 x4 h → P x0 x1 x2 x3 x4 h
  | 0, _, _, _, _, _, _, q => q.elim
  | n + 1, x0, x1, x2, x3, x4, h, q => hB (gm_it5 B n) (ge_loop5 hB n) x0 x1 x2 x3 x4 h q
def gm_it6 {T0 T1 T2 T3 T4 T5 : Type} (B : (T0 → T1 → T2 → T3 → T4 → T5 → Mem → Prop) → T0 → T1 → T2 → T3 → T4 → T5 → Mem → Prop) : Nat → T0 → T1 → T2 → T3 → T4 → T5 → Mem → Prop
  | 0, _, _, _, _, _, _, _ => False
  | n + 1, x0, x1, x2, x3, x4, x5, h => B (gm_it6 B n) x0 x1 x2 x3 x4 x5 h
theorem ge_loop6 {T0 T1 T2 T3 T4 T5 : Type} {B : (T0 → T1 → T2 → T3 → T4 → T5 → Mem → Prop) → T0 → T1 → T2 → T3 → T4 → T5 → Mem → Prop} {P : T0 → T1 → T2 → T3 → T4 → T5 → Mem → Prop} (hB : ∀ K : T0 → T1 → T2 → T3 → T4 → T5 → Mem → Prop, (∀ x0 x1 x2 x3 x4 x5 h, K x0 x1 x2 x3 x4 x5 h → P x0 x1 x2 x3 x4 x5 h) → ∀ x0 x1 x2 x3 x4 x5 h, B K x0 x1 x2 x3 x4 x5 h → P x0 x1 x2 x3 x4 x5 h) : ∀ n x0 x1 x2 x3 x4 x5 h, gm_it6 B n x0 x1 x2 x3 x4 x5 h → P x0 x1 x2 x3 x4 x5 h
  | 0, _, _, _, _, _, _, _, q => q.elim
  | n + 1, x0, x1, x2, x3, x4, x5, h, q => hB (gm_it6 B n) (ge_loop6 hB n) x0 x1 x2 x3 x4 x5 h q
def gm_it7 {T0 T1 T2 T3 T4 T5 T6 : Type} (B : (T0 → T1 → T2 → T3 → T4 → T5 → T6 → Mem → Prop) → T0 → T1 → T2 → T3 → T4 → T5 → T6 → Mem → Prop) : Nat → T0 → T1 → T2 → T3 → T4 → T5 → T6 → Mem → Prop
  | 0, _, _, _, _, _, _, _, _ => False
  | n + 1, x0, x1, x2, x3, x4, x5, x6, h => B (gm_it7 B n) x0 x1 x2 x3 x4 x5 x6 h
theorem ge_loop7 {T0 T1 T2 T3 T4 T5 T6 : Type} {B : (T0 → T1 → T2 → T3 → T4 → T5 → T6 → Mem → Prop) → T0 → T1 → T2 → T3 → T4 → T5 → T6 → Mem → Prop} {P : T0 → T1 → T2 → T3 → T4 → T5 → T6 → Mem → Prop} (hB : ∀ K : T0 → T1 → T2 → T3 → T4 → T5 → T6 → Mem → Prop, (∀ x0 x1 x2 x3 x4 x5 x6 h, K x0 x1 x2 x3 x4 x5 x6 h → P x0 x1 x2 x3 x4 x5 x6 h) → ∀ x0 x1 x2 x3 x4 x5 x6 h, B K x0 x1 x2 x3 x4 x5 x6 h → P x0 x1 x2 x3 x4 x5 x6 h) : ∀ n x0 x1 x2 x3 x4 x5 x6 h, gm_it7 B n x0 x1 x2 x3 x4 x5 x6 h → P x0 x1 x2 x3 x4 x5 x6 h
  | 0, _, _, _, _, _, _, _, _, q => q.elim
  | n + 1, x0, x1, x2, x3, x4, x5, x6, h, q => hB (gm_it7 B n) (ge_loop7 hB n) x0 x1 x2 x3 x4 x5 x6 h q
/-- how often a loop may go round in the telling: far above what any run needs -/
def gm_F : Nat := 1000000
