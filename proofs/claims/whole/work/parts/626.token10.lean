/-! TEXT: tokens of the reference -/
def bt (T : Row) (t i : Nat) : Int32 := if i < t then T i else -1
def C10 (T : Row) (t : Nat) (h : Mem) : Prop := t ≤ 120 ∧ h 43 14 = nI t ∧ ∀ i, i < 120 → h 50 i = T i ∧ 0 ≤ (T i).toInt
def S10 (h : Mem) (τ : Tok) : Prop := h 43 15 = nI τ.1 ∧ h 43 16 = nI τ.2.1 ∧ h 43 17 = nI τ.2.2.1 ∧ (τ.2.2.1 = 2 → h 43 18 = τ.2.2.2)
def Fn (h h' : Mem) : Prop := (∀ a, a ≠ 43 → h' a = h a) ∧ ∀ j, j < 15 ∨ 18 < j → h' 43 j = h 43 j
theorem Fn.rf {h : Mem} : Fn h h := ⟨fun _ _ => rfl, fun _ _ => rfl⟩
theorem Fn.tr {h h1 h2 : Mem} (x : Fn h h1) (y : Fn h1 h2) : Fn h h2 := ⟨fun a q => (y.1 a q).trans (x.1 a q), fun j q => (y.2 j q).trans (x.2 j q)⟩
theorem Fn.st {h h1 : Mem} {j : Nat} {v : Int32} (x : Fn h h1) (h1' : 15 ≤ j) (h2 : j ≤ 18) : Fn h (gm_st h1 43 j v) := ⟨fun a q => by rw [st_k q, x.1 a q], fun i q => by rw [st_j (by omega), x.2 i q]⟩
section
variable {T : Row} {t : Nat}
theorem C10.st {h : Mem} {j : Nat} {v : Int32} (x : C10 T t h) (hj : 15 ≤ j) : C10 T t (gm_st h 43 j v) :=
  ⟨x.1, by rw [st_j (by omega)]; exact x.2.1, fun i hi => by rw [st_k (by decide)]; exact x.2.2 i hi⟩
theorem C10.fn {h h' : Mem} (x : C10 T t h) (f : Fn h h') : C10 T t h' :=
  ⟨x.1, by rw [f.2 14 (by omega)]; exact x.2.1, fun i hi => by rw [f.1 50 (by decide)]; exact x.2.2 i hi⟩
theorem s_byteAt {i : Nat} {h : Mem} {Q : Int32 → Mem → Prop} (C : C10 T t h) (hi : i ≤ 120) (k : Q (bt T t i) h) : f_X10_byteAt (nI i) h Q := by
  have ht := C.1
  unfold f_X10_byteAt
  rw [C.2.1]
  unfold bt at k
  by_cases c : i < t
  · rw [if_pos c] at k
    refine ifn (nI_ge c (by omega)) ⟨vi (by omega) (by decide), ?_⟩
    rw [cl (by omega), (C.2.2 i (by omega)).1]
    exact k
  · rw [if_neg c] at k
    exact ifp (nI_le (by omega) (by omega)) k
theorem s_lt10 {i : Nat} {h : Mem} {Q : Int32 → Mem → Prop} (k : Q (if isLt T t i = true then 1 else 0) h) : f_X10_within (bt T t i) (97 : Int32) (122 : Int32) h Q := by
  by_cases c : isLt T t i = true
  · rw [if_pos c] at k
    have z := of_decide_eq_true c
    unfold bt
    rw [if_pos z.1]
    exact win10 (fa_of_nlt z.2.1) (fa_of_nlt z.2.2) k
  · rw [if_neg c] at k
    refine wout10 (fun z => c ?_) k
    unfold bt at z
    by_cases q : i < t
    · rw [if_pos q] at z
      refine decide_eq_true ⟨q, ?_, ?_⟩
      · have := z.1; rw [fa_le] at this; rw [fa_lt]; omega
      · have := z.2; rw [fa_le] at this; rw [fa_lt]; omega
    · rw [if_neg q] at z
      exact absurd z.1 (by decide)
theorem s_dg10 {i : Nat} {h : Mem} {Q : Int32 → Mem → Prop} (k : Q (if isDg T t i = true then 1 else 0) h) : f_X10_within (bt T t i) (48 : Int32) (57 : Int32) h Q := by
  by_cases c : isDg T t i = true
  · rw [if_pos c] at k
    have z := of_decide_eq_true c
    unfold bt
    rw [if_pos z.1]
    exact win10 (fa_of_nlt z.2.1) (fa_of_nlt z.2.2) k
  · rw [if_neg c] at k
    refine wout10 (fun z => c ?_) k
    unfold bt at z
    by_cases q : i < t
    · rw [if_pos q] at z
      refine decide_eq_true ⟨q, ?_, ?_⟩
      · have := z.1; rw [fa_le] at this; rw [fa_lt]; omega
      · have := z.2; rw [fa_le] at this; rw [fa_lt]; omega
    · rw [if_neg q] at z
      exact absurd z.1 (by decide)
theorem s_letters10 {q : Nat} {h0 : Mem} {Q : Mem → Prop} (hq : q ≤ 120) (hno : isLt T t q = false) (k : ∀ h', C10 T t h' → h' 43 16 = nI q → Fn h0 h' → h' 43 15 = h0 43 15 → h' 43 17 = h0 43 17 → Q h') : ∀ d p g h, p + d = q → d < g → (∀ i, p ≤ i → i < q → isLt T t i = true) → C10 T t h → h 43 16 = nI p → Fn h0 h → h 43 15 = h0 43 15 → h 43 17 = h0 43 17 → gm_it0 (f_X10_next_b84 Q) g h := by
  intro d
  induction d with
  | zero =>
    intro p g h e hg hy C e4 f e2 e3
    have : p = q := by omega
    subst this
    obtain ⟨g, rfl⟩ : ∃ g', g = g' + 1 := ⟨g - 1, by omega⟩
    show f_X10_next_b84 Q (gm_it0 (f_X10_next_b84 Q) g) h
    generalize gm_it0 (f_X10_next_b84 Q) g = K
    unfold f_X10_next_b84
    rw [e4]
    refine s_byteAt C (by omega) (s_lt10 ?_)
    rw [hno]
    exact ifp rfl (k h C e4 f e2 e3)
  | succ d ih =>
    intro p g h e hg hy C e4 f e2 e3
    obtain ⟨g, rfl⟩ : ∃ g', g = g' + 1 := ⟨g - 1, by omega⟩
    show f_X10_next_b84 Q (gm_it0 (f_X10_next_b84 Q) g) h
    have ihg := ih (p + 1) g
    generalize gm_it0 (f_X10_next_b84 Q) g = K at ihg ⊢
    unfold f_X10_next_b84
    rw [e4]
    refine s_byteAt C (by omega) (s_lt10 ?_)
    rw [hy p (Nat.le_refl _) (by omega)]
    refine ifn oz ?_
    rw [e4, nI_1]
    exact nm (ihg _ (by omega) (by omega) (fun i h1 h2 => hy i (by omega) h2) (C.st (by decide)) st_s (f.st (by decide) (by decide)) (by rw [st_j (by decide)]; exact e2) (by rw [st_j (by decide)]; exact e3))
theorem s_digits10 {b q : Nat} {h0 : Mem} {Q : Mem → Prop} (hq : q ≤ 120) (hno : isDg T t q = false) (k : ∀ h', C10 T t h' → h' 43 16 = nI q → h' 43 18 = vl T b (q - b) → Fn h0 h' → h' 43 15 = h0 43 15 → h' 43 17 = h0 43 17 → Q h') : ∀ d p g h, p + d = q → d < g → b ≤ p → (∀ i, p ≤ i → i < q → isDg T t i = true) → C10 T t h → h 43 16 = nI p → h 43 18 = vl T b (p - b) → Fn h0 h → h 43 15 = h0 43 15 → h 43 17 = h0 43 17 → gm_it0 (f_X10_next_b131 Q) g h := by
  intro d
  induction d with
  | zero =>
    intro p g h e hg hbp hy C e4 e5 f e2 e3
    have : p = q := by omega
    subst this
    obtain ⟨g, rfl⟩ : ∃ g', g = g' + 1 := ⟨g - 1, by omega⟩
    show f_X10_next_b131 Q (gm_it0 (f_X10_next_b131 Q) g) h
    generalize gm_it0 (f_X10_next_b131 Q) g = K
    unfold f_X10_next_b131
    rw [e4]
    refine s_byteAt C (by omega) (s_dg10 ?_)
    rw [hno]
    exact ifp rfl (k h C e4 e5 f e2 e3)
  | succ d ih =>
    intro p g h e hg hbp hy C e4 e5 f e2 e3
    obtain ⟨g, rfl⟩ : ∃ g', g = g' + 1 := ⟨g - 1, by omega⟩
    show f_X10_next_b131 Q (gm_it0 (f_X10_next_b131 Q) g) h
    have ihg := ih (p + 1) g
    generalize gm_it0 (f_X10_next_b131 Q) g = K at ihg ⊢
    have hd := hy p (Nat.le_refl _) (by omega)
    have hpt := (of_decide_eq_true hd).1
    unfold f_X10_next_b131
    rw [e4]
    refine s_byteAt C (by omega) (s_dg10 ?_)
    rw [hd]
    refine ifn oz ?_
    rw [e4, e5]
    refine s_byteAt C (by omega) (nm (nm ?_))
    rw [st_j (by decide), e4, nI_1]
    refine nm (ihg _ (by omega) (by omega) (by omega) (fun i h1 h2 => hy i (by omega) h2) ((C.st (by decide)).st (by decide)) st_s ?_ ((f.st (by decide) (by decide)).st (by decide) (by decide)) (by rw [st_j (by decide), st_j (by decide)]; exact e2) (by rw [st_j (by decide), st_j (by decide)]; exact e3))
    have eb : bt T t p = T p := by unfold bt; rw [if_pos hpt]
    rw [st_j (by decide), st_s, eb, show p + 1 - b = (p - b) + 1 by omega, vl, show b + (p - b) = p by omega]
theorem s_next {p : Nat} {h0 : Mem} {Q : Mem → Prop} (C0 : C10 T t h0) (hp : p ≤ t) (h4 : h0 43 16 = nI p) (k : ∀ h', C10 T t h' → S10 h' (nx T t p) → Fn h0 h' → Q h') : f_X10_next h0 Q := by
  have ht := C0.1
  obtain ⟨a1, a2, a3, a4⟩ := skp_spec (sp_hi (T := T) (t := t)) 121 p hp (by omega)
  have sp32 : ∀ i, bt T t i = 32 ↔ isSp T t i = true := fun i => by
    unfold bt
    by_cases q : i < t
    · rw [if_pos q]
      exact ⟨fun z => decide_eq_true ⟨q, z⟩, fun z => (of_decide_eq_true z).2⟩
    · rw [if_neg q]
      exact ⟨fun z => absurd z (by decide), fun z => absurd (of_decide_eq_true z).1 q⟩
  have loop : ∀ d i g h, i + d = skp (isSp T t) 121 p → p ≤ i → d < g → C10 T t h → h 43 15 = nI i → Fn h0 h → gm_it0 (f_X10_next_b8 Q) g h := by
    intro d
    induction d with
    | zero =>
      intro i g h e hpi hg C e4 f
      obtain ⟨g, rfl⟩ : ∃ g', g = g' + 1 := ⟨g - 1, by omega⟩
      show f_X10_next_b8 Q (gm_it0 (f_X10_next_b8 Q) g) h
      generalize gm_it0 (f_X10_next_b8 Q) g = K
      have ei : skp (isSp T t) 121 p = i := by omega
      rw [ei] at a1 a2 a3 a4
      unfold nx at k
      rw [ei] at k
      unfold f_X10_next_b8
      rw [e4]
      refine s_byteAt C (by omega) (ifn (fun z => by rw [sp32, a4] at z; cases z) ?_)
      rw [e4]
      refine s_byteAt C (by omega) ?_
      rw [e4]
      refine nm (nm ?_)
      have C8 := (C.st (j := 16) (v := nI i) (by decide)).st (j := 18) (v := 0) (by decide)
      have f8 := (f.st (j := 16) (v := nI i) (by decide) (by decide)).st (j := 18) (v := 0) (by decide) (by decide)
      by_cases c0 : t ≤ i
      · rw [if_pos c0] at k
        have eb : bt T t i = -1 := by unfold bt; rw [if_neg (by omega)]
        rw [eb]
        refine ifn (by decide) (nm (k _ (C8.st (by decide)) ⟨by rw [st_j (by decide), st_j (by decide), st_j (by decide)]; exact e4, by rw [st_j (by decide), st_j (by decide), st_s], by rw [st_s]; rfl, (by intro z; cases z)⟩ (f8.st (by decide) (by decide))))
      · rw [if_neg c0] at k
        have eb : bt T t i = T i := by unfold bt; rw [if_pos (by omega)]
        refine ifp (by rw [eb, fa_le, i0]; exact (C.2.2 i (by omega)).2) (s_lt10 ?_)
        by_cases c1 : isLt T t i = true
        · rw [if_pos c1] at k ⊢
          obtain ⟨x1, x2, x3, x4⟩ := skp_spec (lt_hi (T := T) (t := t)) 121 i (by omega) (by omega)
          refine ifn oz (nm ?_)
          exact s_letters10 (h0 := gm_st (gm_st (gm_st h 43 16 (nI i)) 43 18 0) 43 17 1) (by omega) x4 (fun h' C' y4 f' y2 y3 => k h' C' ⟨by rw [y2, st_j (by decide), st_j (by decide), st_j (by decide)]; exact e4, y4, by rw [y3, st_s]; rfl, (by intro z; cases z)⟩ ((f8.st (by decide) (by decide)).tr f')) (skp (isLt T t) 121 i - i) i gm_F _ (by omega) (Nat.lt_of_lt_of_le (by omega : _ < 121) (gm_F_ge (by decide))) x3 (C8.st (by decide)) (by rw [st_j (by decide), st_j (by decide), st_s]) Fn.rf rfl rfl
        · rw [if_neg c1] at k ⊢
          refine ifp rfl (s_dg10 ?_)
          by_cases c2 : isDg T t i = true
          · rw [if_pos c2] at k ⊢
            obtain ⟨x1, x2, x3, x4⟩ := skp_spec (dg_hi (T := T) (t := t)) 121 i (by omega) (by omega)
            refine ifn oz (nm ?_)
            exact s_digits10 (b := i) (h0 := gm_st (gm_st (gm_st h 43 16 (nI i)) 43 18 0) 43 17 2) (by omega) x4 (fun h' C' y4 y5 f' y2 y3 => k h' C' ⟨by rw [y2, st_j (by decide), st_j (by decide), st_j (by decide)]; exact e4, y4, by rw [y3, st_s]; rfl, fun _ => y5⟩ ((f8.st (by decide) (by decide)).tr f')) (skp (isDg T t) 121 i - i) i gm_F _ (by omega) (Nat.lt_of_lt_of_le (by omega : _ < 121) (gm_F_ge (by decide))) (Nat.le_refl _) x3 (C8.st (by decide)) (by rw [st_j (by decide), st_j (by decide), st_s]) (by rw [st_j (by decide), st_s, Nat.sub_self]; rfl) Fn.rf rfl rfl
          · rw [if_neg c2] at k ⊢
            refine ifp rfl (nm (nm ?_))
            rw [st_j (by decide), st_j (by decide), st_s, nI_1]
            exact k _ ((C8.st (by decide)).st (by decide)) ⟨by rw [st_j (by decide), st_j (by decide), st_j (by decide), st_j (by decide)]; exact e4, st_s, by rw [st_j (by decide), st_s]; rfl, (by intro z; cases z)⟩ ((f8.st (by decide) (by decide)).st (by decide) (by decide))
    | succ d ih =>
      intro i g h e hpi hg C e4 f
      obtain ⟨g, rfl⟩ : ∃ g', g = g' + 1 := ⟨g - 1, by omega⟩
      show f_X10_next_b8 Q (gm_it0 (f_X10_next_b8 Q) g) h
      have ihg := ih (i + 1) g
      generalize gm_it0 (f_X10_next_b8 Q) g = K at ihg ⊢
      unfold f_X10_next_b8
      rw [e4]
      refine s_byteAt C (by omega) (ifp ((sp32 i).mpr (a3 i hpi (by omega))) ?_)
      rw [e4, nI_1]
      exact nm (ihg _ (by omega) (by omega) (by omega) (C.st (by decide)) st_s (f.st (by decide) (by decide)))
  unfold f_X10_next
  rw [h4]
  exact nm (loop (skp (isSp T t) 121 p - p) p gm_F _ (by omega) (Nat.le_refl _) (Nat.lt_of_lt_of_le (by omega : _ < 122) (gm_F_ge (by decide))) (C0.st (by decide)) st_s (Fn.rf.st (by decide) (by decide)))
/-! words -/
def isw (T : Row) (i : Nat) (τ : Tok) : Bool := decide (τ.2.2.1 = 1 ∧ τ.2.1 - τ.1 = (gm_byt i).length ∧ ∀ k, k < (gm_byt i).length → T (τ.1 + k) = (gm_byt i).getD k 0)
theorem byt_small : ∀ i, i < 17 → ∀ k, k < (gm_byt i).length → ((((gm_byt i).getD k 0) &&& (255 : Int32)).toUInt32 % 65536).toInt32 = (gm_byt i).getD k 0 := by decide +kernel
theorem byt_len : ∀ i, i < 17 → (gm_byt i).length ≤ 8 ∧ 0 < (gm_byt i).length := by decide
theorem s_length {i : Nat} {h : Mem} {Q : Int32 → Mem → Prop} (hi : i < 17) (k : Q (nI (gm_byt i).length) h) : f_J0_length_8abf5 i h Q := by
  unfold f_J0_length_8abf5 f_J0_coder_7d493
  refine ifn (by decide) ?_
  have := byt_len i hi
  dsimp only
  rw [sc_shr0 (by omega)]
  exact k
theorem s_charAt {i c : Nat} {h : Mem} {Q : Int32 → Mem → Prop} (hi : i < 17) (hc : c < (gm_byt i).length) (k : Q ((gm_byt i).getD c 0) h) : f_J0_charAt_5068e i (nI c) h Q := by
  have := byt_len i hi
  have e := byt_small i hi c hc
  unfold f_J0_charAt_5068e f_J0_isLatin1_aae02
  refine ifn (by decide) (ifp rfl (ifn oz ?_))
  unfold f_J1_charAt_3b067 f_J0_checkIndex_df160 f_J3_checkIndex_8e157
  refine ifn (nI_pos (by omega)) (ifp (nI_lt hc (by omega)) ⟨vi hc (by omega), ?_⟩)
  rw [cl (by omega)]
  refine ⟨pk_nc _, ?_⟩
  rw [e]
  refine ⟨?_, k⟩
  have z := pk_nc ((gm_byt i).getD c 0 &&& (255 : Int32))
  rw [e] at z
  exact z
theorem s_isWord9 {i : Nat} {h : Mem} {τ : Tok} {p : Nat} {Q : Int32 → Mem → Prop} (hi : i < 17) (C : C9 T t h) (S : S9 T h τ) (K0 : TK t p τ) (k : Q (if isw T i τ = true then 1 else 0) h) : f_X3_isWord i h Q := by
  have ht := C.1
  obtain ⟨b1, b2, b3, b4, b5, b6⟩ := K0
  have hl := byt_len i hi
  unfold f_X3_isWord
  rw [S.1, S.2.1, S.2.2.1]
  by_cases c1 : τ.2.2.1 = 1
  · have ec : tc T τ = 1 := by unfold tc; rw [c1]; rfl
    rw [ec]
    refine ifp rfl (s_length hi ?_)
    rw [pk_sub b2]
    by_cases c2 : τ.2.1 - τ.1 = (gm_byt i).length
    · refine ifp (by rw [c2]) ?_
      by_cases c3 : ∀ x, x < (gm_byt i).length → T (τ.1 + x) = (gm_byt i).getD x 0
      · rw [if_pos (show isw T i τ = true from decide_eq_true ⟨c1, c2, c3⟩)] at k
        refine lo1 nI (gm_byt i).length (fun j h' => h' = h) rfl (by omega) rfl ?_ ?_
        · rintro K h' rfl
          unfold f_X3_isWord_b28
          exact s_length hi (ifp (nI_le (Nat.le_refl _) (by omega)) k)
        · rintro K j h' hj rfl hK
          unfold f_X3_isWord_b28
          refine s_length hi (ifn (nI_ge hj (by omega)) ⟨C.2.2.2.1, ?_⟩)
          rw [S.2.1, nI_add, nI_1, cl (by omega), C.2.2.1 _ (by omega)]
          exact ⟨vi (by omega) (by decide), s_charAt hi hj (ifp (c3 j hj) (nm (hK h' rfl)))⟩
      · rw [if_neg (by intro z; exact c3 (of_decide_eq_true z).2.2)] at k
        obtain ⟨x, hx, hx2⟩ := pk_least (fun x => x < (gm_byt i).length ∧ ¬ T (τ.1 + x) = (gm_byt i).getD x 0) (Classical.byContradiction (fun z => c3 (fun x hx => Classical.byContradiction (fun w => z ⟨x, hx, w⟩))))
        refine lo1 nI x (fun j h' => h' = h) rfl (by omega) rfl ?_ ?_
        · rintro K h' rfl
          unfold f_X3_isWord_b28
          refine s_length hi (ifn (nI_ge hx.1 (by omega)) ⟨C.2.2.2.1, ?_⟩)
          rw [S.2.1, nI_add, cl (by omega), C.2.2.1 _ (by omega)]
          exact ⟨vi (by omega) (by decide), s_charAt hi hx.1 (ifn hx.2 k)⟩
        · rintro K j h' hj rfl hK
          have hjl : j < (gm_byt i).length := by omega
          have hyes : T (τ.1 + j) = (gm_byt i).getD j 0 := Classical.byContradiction (fun w => hx2 j hj ⟨hjl, w⟩)
          unfold f_X3_isWord_b28
          refine s_length hi (ifn (nI_ge hjl (by omega)) ⟨C.2.2.2.1, ?_⟩)
          rw [S.2.1, nI_add, nI_1, cl (by omega), C.2.2.1 _ (by omega)]
          exact ⟨vi (by omega) (by decide), s_charAt hi hjl (ifp hyes (nm (hK h' rfl)))⟩
    · rw [if_neg (by intro z; exact c2 (of_decide_eq_true z).2.1)] at k
      exact ifn (fun z => c2 ((nI_eq (by omega) (by omega)).mp z)) k
  · rw [if_neg (by intro z; exact c1 (of_decide_eq_true z).1)] at k
    refine ifn (fun z => c1 ?_) k
    unfold tc at z
    rcases b4 with q | q | q | q
    · simp [q] at z
    · exact q
    · simp [q] at z
    · by_cases s1 : T τ.1 = 59
      · simp [q, s1] at z
      · by_cases s2 : T τ.1 = 45
        · simp [q, s1, s2] at z
        · simp [q, s1, s2] at z
theorem s_isWord10 {i : Nat} {h : Mem} {τ : Tok} {p : Nat} {Q : Int32 → Mem → Prop} (hi : i < 17) (C : C10 T t h) (S : S10 h τ) (K0 : TK t p τ) (k : Q (if isw T i τ = true then 1 else 0) h) : f_X10_isWord i h Q := by
  have ht := C.1
  obtain ⟨b1, b2, b3, b4, b5, b6⟩ := K0
  have hl := byt_len i hi
  have dead : Q 0 h → gm_it2 (f_X10_isWord_b32 i Q) gm_F (0 : Int32) (0 : Int32) h := by
    intro q
    refine lo2 nI 0 (fun j v h' => h' = h ∧ v = 0) rfl (by decide) ⟨rfl, rfl⟩ ?_ (fun K j v h' hj => absurd hj (Nat.not_lt_zero j))
    rintro K v h' ⟨rfl, rfl⟩
    unfold f_X10_isWord_b32
    exact s_length hi (ifn (nI_ge (a := 0) (by omega) (by omega)) (ifp rfl ⟨gm_b0, q⟩))
  unfold f_X10_isWord
  rw [S.1, S.2.1, S.2.2.1]
  by_cases c1 : τ.2.2.1 = 1
  · rw [c1]
    refine ifp rfl (s_length hi ?_)
    rw [pk_sub b2]
    by_cases c2 : τ.2.1 - τ.1 = (gm_byt i).length
    · refine ifp (by rw [c2]) ?_
      by_cases c3 : ∀ x, x < (gm_byt i).length → T (τ.1 + x) = (gm_byt i).getD x 0
      · rw [if_pos (show isw T i τ = true from decide_eq_true ⟨c1, c2, c3⟩)] at k
        refine lo2 nI (gm_byt i).length (fun j v h' => h' = h ∧ v = 1) rfl (by omega) ⟨rfl, rfl⟩ ?_ ?_
        · rintro K v h' ⟨rfl, rfl⟩
          unfold f_X10_isWord_b32
          exact s_length hi (ifp (nI_le (Nat.le_refl _) (by omega)) ⟨gm_b1, k⟩)
        · rintro K j v h' hj ⟨rfl, rfl⟩ hK
          unfold f_X10_isWord_b32
          refine s_length hi (ifn (nI_ge hj (by omega)) (ifn oz ?_))
          rw [S.1, nI_add, nI_1, cl (by omega), (C.2.2 _ (by omega)).1]
          exact ⟨vi (by omega) (by decide), s_charAt hi hj (ifp (c3 j hj) (nm (hK _ _ ⟨rfl, rfl⟩)))⟩
      · rw [if_neg (by intro z; exact c3 (of_decide_eq_true z).2.2)] at k
        obtain ⟨x, hx, hx2⟩ := pk_least (fun x => x < (gm_byt i).length ∧ ¬ T (τ.1 + x) = (gm_byt i).getD x 0) (Classical.byContradiction (fun z => c3 (fun x hx => Classical.byContradiction (fun w => z ⟨x, hx, w⟩))))
        refine lo2 nI (x + 1) (fun j v h' => h' = h ∧ v = if j ≤ x then 1 else 0) rfl (by omega) ⟨rfl, by rw [if_pos (Nat.zero_le _)]⟩ ?_ ?_
        · rintro K v h' ⟨rfl, ev⟩
          rw [if_neg (by omega)] at ev
          subst ev
          unfold f_X10_isWord_b32
          refine s_length hi ?_
          by_cases q : (gm_byt i).length ≤ x + 1
          · exact ifp (nI_le q (by omega)) ⟨gm_b0, k⟩
          · exact ifn (nI_ge (by omega) (by omega)) (ifp rfl ⟨gm_b0, k⟩)
        · rintro K j v h' hj ⟨rfl, ev⟩ hK
          rw [if_pos (by omega)] at ev
          subst ev
          have hjl : j < (gm_byt i).length := by omega
          unfold f_X10_isWord_b32
          refine s_length hi (ifn (nI_ge hjl (by omega)) (ifn oz ?_))
          rw [S.1, nI_add, nI_1, cl (by omega), (C.2.2 _ (by omega)).1]
          refine ⟨vi (by omega) (by decide), s_charAt hi hjl ?_⟩
          by_cases q : j = x
          · exact ifn (by rw [q]; exact hx.2) (nm (hK _ _ ⟨rfl, by rw [if_neg (by omega)]⟩))
          · have hyes : T (τ.1 + j) = (gm_byt i).getD j 0 := Classical.byContradiction (fun w => hx2 j (by omega) ⟨hjl, w⟩)
            exact ifp hyes (nm (hK _ _ ⟨rfl, by rw [if_pos (by omega)]⟩))
    · rw [if_neg (by intro z; exact c2 (of_decide_eq_true z).2.1)] at k
      exact ifn (fun z => c2 ((nI_eq (by omega) (by omega)).mp z)) (dead k)
  · rw [if_neg (by intro z; exact c1 (of_decide_eq_true z).1)] at k
    exact ifn (fun z => c1 ((nI_eq (b := 1) (by omega) (by decide)).mp z)) (dead k)
end
