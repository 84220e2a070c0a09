/-! TEXT: tokens -/
abbrev Tok : Type := Nat × Nat × Nat × Int32
def isSp (T : Row) (t i : Nat) : Bool := decide (i < t ∧ T i = 32)
def isLt (T : Row) (t i : Nat) : Bool := decide (i < t ∧ ¬ T i < 97 ∧ ¬ (122 : Int32) < T i)
def isDg (T : Row) (t i : Nat) : Bool := decide (i < t ∧ ¬ T i < 48 ∧ ¬ (57 : Int32) < T i)
def skp (P : Nat → Bool) : Nat → Nat → Nat
  | 0, p => p
  | k + 1, p => if P p = true then skp P k (p + 1) else p
def vl (T : Row) (b : Nat) : Nat → Int32
  | 0 => 0
  | i + 1 => if (((10 : Int32) * vl T b i) + T (b + i)) - (48 : Int32) < (100000 : Int32) then (((10 : Int32) * vl T b i) + T (b + i)) - (48 : Int32) else (100000 : Int32)
theorem skp_spec {P : Nat → Bool} {t : Nat} (hP : ∀ i, t ≤ i → P i = false) : ∀ k p, p ≤ t → t - p < k → p ≤ skp P k p ∧ skp P k p ≤ t ∧ (∀ i, p ≤ i → i < skp P k p → P i = true) ∧ P (skp P k p) = false
  | 0, p, _, h => absurd h (Nat.not_lt_zero _)
  | k + 1, p, hp, hk => by
    unfold skp
    by_cases c : P p = true
    · rw [if_pos c]
      have hpt : p < t := by
        rcases Nat.lt_or_ge p t with q | q
        · exact q
        · rw [hP p q] at c; cases c
      obtain ⟨a1, a2, a3, a4⟩ := skp_spec hP k (p + 1) hpt (by omega)
      refine ⟨by omega, a2, fun i h1 h2 => ?_, a4⟩
      by_cases q : i = p
      · rw [q]; exact c
      · exact a3 i (by omega) h2
    · rw [if_neg c]
      refine ⟨Nat.le_refl _, hp, fun i h1 h2 => by omega, ?_⟩
      cases hh : P p with
      | true => exact absurd hh c
      | false => rfl
/-- the token that is looked at from place p on: where it begins, where it ends, its sort, its value -/
def nx (T : Row) (t p : Nat) : Tok :=
  if t ≤ skp (isSp T t) 121 p then (skp (isSp T t) 121 p, skp (isSp T t) 121 p, 0, 0)
  else if isLt T t (skp (isSp T t) 121 p) = true then (skp (isSp T t) 121 p, skp (isLt T t) 121 (skp (isSp T t) 121 p), 1, 0)
  else if isDg T t (skp (isSp T t) 121 p) = true then (skp (isSp T t) 121 p, skp (isDg T t) 121 (skp (isSp T t) 121 p), 2, vl T (skp (isSp T t) 121 p) (skp (isDg T t) 121 (skp (isSp T t) 121 p) - skp (isSp T t) 121 p))
  else (skp (isSp T t) 121 p, skp (isSp T t) 121 p + 1, 3, 0)
def tc (T : Row) (τ : Tok) : Int32 := if τ.2.2.1 = 0 then 0 else if τ.2.2.1 = 1 then 1 else if τ.2.2.1 = 2 then 2 else if T τ.1 = 59 then 3 else if T τ.1 = 45 then 4 else 5
section
variable {T : Row} {t : Nat}
theorem sp_hi : ∀ i, t ≤ i → isSp T t i = false := fun i h => decide_eq_false (fun z => by omega)
theorem lt_hi : ∀ i, t ≤ i → isLt T t i = false := fun i h => decide_eq_false (fun z => by omega)
theorem dg_hi : ∀ i, t ≤ i → isDg T t i = false := fun i h => decide_eq_false (fun z => by omega)
/-- what is known of a token -/
def TK (t : Nat) (p : Nat) (τ : Tok) : Prop := p ≤ τ.1 ∧ τ.1 ≤ τ.2.1 ∧ τ.2.1 ≤ t ∧ (τ.2.2.1 = 0 ∨ τ.2.2.1 = 1 ∨ τ.2.2.1 = 2 ∨ τ.2.2.1 = 3) ∧ (τ.2.2.1 = 0 → τ.1 = t) ∧ (τ.2.2.1 ≠ 0 → τ.1 < τ.2.1)
theorem nx_TK (ht : t ≤ 120) {p : Nat} (hp : p ≤ t) : TK t p (nx T t p) := by
  obtain ⟨a1, a2, a3, a4⟩ := skp_spec (sp_hi (T := T) (t := t)) 121 p hp (by omega)
  unfold nx
  generalize skp (isSp T t) 121 p = b at *
  by_cases c0 : t ≤ b
  · rw [if_pos c0]; exact ⟨a1, Nat.le_refl _, a2, Or.inl rfl, fun _ => by show b = t; omega, fun z => absurd rfl z⟩
  · rw [if_neg c0]
    by_cases c1 : isLt T t b = true
    · rw [if_pos c1]
      obtain ⟨e1, e2, e3, e4⟩ := skp_spec (lt_hi (T := T) (t := t)) 121 b (by omega) (by omega)
      refine ⟨a1, e1, e2, Or.inr (Or.inl rfl), (by intro z; cases z), fun _ => ?_⟩
      show b < skp (isLt T t) 121 b
      rcases Nat.lt_or_ge b (skp (isLt T t) 121 b) with q | q
      · exact q
      · have : skp (isLt T t) 121 b = b := by omega
        rw [this, c1] at e4; cases e4
    · rw [if_neg c1]
      by_cases c2 : isDg T t b = true
      · rw [if_pos c2]
        obtain ⟨e1, e2, e3, e4⟩ := skp_spec (dg_hi (T := T) (t := t)) 121 b (by omega) (by omega)
        refine ⟨a1, e1, e2, Or.inr (Or.inr (Or.inl rfl)), (by intro z; cases z), fun _ => ?_⟩
        show b < skp (isDg T t) 121 b
        rcases Nat.lt_or_ge b (skp (isDg T t) 121 b) with q | q
        · exact q
        · have : skp (isDg T t) 121 b = b := by omega
          rw [this, c2] at e4; cases e4
      · rw [if_neg c2]; exact ⟨a1, Nat.le_succ _, by show b + 1 ≤ t; omega, Or.inr (Or.inr (Or.inr rfl)), (by intro z; cases z), fun _ => Nat.lt_succ_self _⟩
/-! the class looks on -/
def C9 (T : Row) (t : Nat) (h : Mem) : Prop := t ≤ 120 ∧ h 30 1 = nI t ∧ (∀ i, i < 120 → h 31 i = T i) ∧ ¬ h 32 0 = 0 ∧ ¬ h 32 1 = 0
def S9 (T : Row) (h : Mem) (τ : Tok) : Prop := h 32 2 = tc T τ ∧ h 32 3 = nI τ.1 ∧ h 32 4 = nI τ.2.1 ∧ (τ.2.2.1 = 2 → h 32 5 = τ.2.2.2)
theorem C9.st {h : Mem} {j : Nat} {v : Int32} (x : C9 T t h) (hj : 2 ≤ j) : C9 T t (gm_st h 32 j v) := by
  obtain ⟨a, b, c, d, e⟩ := x
  exact ⟨a, by rw [st_k (by decide)]; exact b, fun i hi => by rw [st_k (by decide)]; exact c i hi, by rw [st_j (by omega)]; exact d, by rw [st_j (by omega)]; exact e⟩
theorem s_isLetter {i : Nat} {h : Mem} {Q : Int32 → Mem → Prop} (C : C9 T t h) (hi : i ≤ 120) (k : Q (if isLt T t i = true then 1 else 0) h) : f_X3_isLetter (nI i) h Q := by
  obtain ⟨ht, e1, e2, e3, e4⟩ := C
  unfold f_X3_isLetter
  refine ⟨e3, ?_⟩
  rw [e1]
  by_cases c : t ≤ i
  · rw [if_neg (by rw [lt_hi i c]; decide)] at k
    exact ifp (nI_le c (by omega)) k
  · refine ifn (nI_ge (by omega) (by omega)) ⟨e3, vi (by omega) (by decide), ?_⟩
    rw [cl (by omega), e2 i (by omega)]
    by_cases c1 : T i < 97
    · rw [if_neg (by unfold isLt; rw [decide_eq_false (fun z => z.2.1 c1)]; decide)] at k
      exact ifp c1 k
    · refine ifn c1 ⟨e3, vi (by omega) (by decide), ?_⟩
      by_cases c2 : (122 : Int32) < T i
      · rw [if_neg (by unfold isLt; rw [decide_eq_false (fun z => z.2.2 c2)]; decide)] at k
        exact ifp c2 k
      · rw [if_pos (by unfold isLt; exact decide_eq_true ⟨by omega, c1, c2⟩)] at k
        exact ifn c2 k
theorem s_isDigit {i : Nat} {h : Mem} {Q : Int32 → Mem → Prop} (C : C9 T t h) (hi : i ≤ 120) (k : Q (if isDg T t i = true then 1 else 0) h) : f_X3_isDigit (nI i) h Q := by
  obtain ⟨ht, e1, e2, e3, e4⟩ := C
  unfold f_X3_isDigit
  refine ⟨e3, ?_⟩
  rw [e1]
  by_cases c : t ≤ i
  · rw [if_neg (by rw [dg_hi i c]; decide)] at k
    exact ifp (nI_le c (by omega)) k
  · refine ifn (nI_ge (by omega) (by omega)) ⟨e3, vi (by omega) (by decide), ?_⟩
    rw [cl (by omega), e2 i (by omega)]
    by_cases c1 : T i < 48
    · rw [if_neg (by unfold isDg; rw [decide_eq_false (fun z => z.2.1 c1)]; decide)] at k
      exact ifp c1 k
    · refine ifn c1 ⟨e3, vi (by omega) (by decide), ?_⟩
      by_cases c2 : (57 : Int32) < T i
      · rw [if_neg (by unfold isDg; rw [decide_eq_false (fun z => z.2.2 c2)]; decide)] at k
        exact ifp c2 k
      · rw [if_pos (by unfold isDg; exact decide_eq_true ⟨by omega, c1, c2⟩)] at k
        exact ifn c2 k
theorem s_letters {q : Nat} {h0 : Mem} {Q : Mem → Prop} (hq : q ≤ 120) (hno : isLt T t q = false) (k : ∀ h', C9 T t h' → h' 32 4 = nI q → Fr1 32 h0 h' → h' 32 2 = h0 32 2 → h' 32 3 = h0 32 3 → Q h') : ∀ d p g h, p + d = q → d < g → (∀ i, p ≤ i → i < q → isLt T t i = true) → C9 T t h → h 32 4 = nI p → Fr1 32 h0 h → h 32 2 = h0 32 2 → h 32 3 = h0 32 3 → gm_it0 (f_X3_lookOn_b90 Q) g h := by
  intro d
  induction d with
  | zero =>
    intro p g h e hg hy C e4 f e2 e3
    have : p = q := by omega
    subst this
    obtain ⟨g, rfl⟩ : ∃ g', g = g' + 1 := ⟨g - 1, by omega⟩
    show f_X3_lookOn_b90 Q (gm_it0 (f_X3_lookOn_b90 Q) g) h
    generalize gm_it0 (f_X3_lookOn_b90 Q) g = K
    unfold f_X3_lookOn_b90
    have ht := C.1
    refine ⟨C.2.2.2.1, ?_⟩
    rw [C.2.1, e4]
    by_cases c : t ≤ p
    · exact ifp (nI_le c (by omega)) (k h C e4 f e2 e3)
    refine ifn (nI_ge (by omega) (by omega)) (s_isLetter C (by omega) ?_)
    rw [hno]
    exact ifp rfl (k h C e4 f e2 e3)
  | succ d ih =>
    intro p g h e hg hy C e4 f e2 e3
    obtain ⟨g, rfl⟩ : ∃ g', g = g' + 1 := ⟨g - 1, by omega⟩
    show f_X3_lookOn_b90 Q (gm_it0 (f_X3_lookOn_b90 Q) g) h
    have ihg := ih (p + 1) g
    generalize gm_it0 (f_X3_lookOn_b90 Q) g = K at ihg ⊢
    unfold f_X3_lookOn_b90
    have ht := C.1
    have hyp := hy p (Nat.le_refl _) (by omega)
    have hpt : p < t := by
      rcases Nat.lt_or_ge p t with w | w
      · exact w
      · rw [lt_hi p w] at hyp; cases hyp
    refine ⟨C.2.2.2.1, ?_⟩
    rw [C.2.1, e4]
    refine ifn (nI_ge hpt (by omega)) (s_isLetter C (by omega) ?_)
    rw [hyp]
    refine ifn oz ?_
    rw [e4, nI_1]
    exact nm (ihg _ (by omega) (by omega) (fun i h1 h2 => hy i (by omega) h2) (C.st (by decide)) st_s f.st (by rw [st_j (by decide)]; exact e2) (by rw [st_j (by decide)]; exact e3))
theorem s_digits {b q : Nat} {h0 : Mem} {Q : Mem → Prop} (hq : q ≤ 120) (hno : isDg T t q = false) (k : ∀ h', C9 T t h' → h' 32 4 = nI q → h' 32 5 = vl T b (q - b) → Fr1 32 h0 h' → h' 32 2 = h0 32 2 → h' 32 3 = h0 32 3 → Q h') : ∀ d p g h, p + d = q → d < g → b ≤ p → (∀ i, p ≤ i → i < q → isDg T t i = true) → C9 T t h → h 32 4 = nI p → h 32 5 = vl T b (p - b) → Fr1 32 h0 h → h 32 2 = h0 32 2 → h 32 3 = h0 32 3 → gm_it0 (f_X3_lookOn_b149 Q) g h := by
  intro d
  induction d with
  | zero =>
    intro p g h e hg hbp hy C e4 e5 f e2 e3
    have : p = q := by omega
    subst this
    obtain ⟨g, rfl⟩ : ∃ g', g = g' + 1 := ⟨g - 1, by omega⟩
    show f_X3_lookOn_b149 Q (gm_it0 (f_X3_lookOn_b149 Q) g) h
    generalize gm_it0 (f_X3_lookOn_b149 Q) g = K
    unfold f_X3_lookOn_b149
    have ht := C.1
    refine ⟨C.2.2.2.1, ?_⟩
    rw [C.2.1, e4]
    by_cases c : t ≤ p
    · exact ifp (nI_le c (by omega)) (k h C e4 e5 f e2 e3)
    refine ifn (nI_ge (by omega) (by omega)) (s_isDigit C (by omega) ?_)
    rw [hno]
    exact ifp rfl (k h C e4 e5 f e2 e3)
  | succ d ih =>
    intro p g h e hg hbp hy C e4 e5 f e2 e3
    obtain ⟨g, rfl⟩ : ∃ g', g = g' + 1 := ⟨g - 1, by omega⟩
    show f_X3_lookOn_b149 Q (gm_it0 (f_X3_lookOn_b149 Q) g) h
    have ihg := ih (p + 1) g
    generalize gm_it0 (f_X3_lookOn_b149 Q) g = K at ihg ⊢
    unfold f_X3_lookOn_b149
    have ht := C.1
    have hyp := hy p (Nat.le_refl _) (by omega)
    have hpt : p < t := by
      rcases Nat.lt_or_ge p t with w | w
      · exact w
      · rw [dg_hi p w] at hyp; cases hyp
    refine ⟨C.2.2.2.1, ?_⟩
    rw [C.2.1, e4]
    refine ifn (nI_ge hpt (by omega)) (s_isDigit C (by omega) ?_)
    rw [hyp]
    refine ifn oz ⟨C.2.2.2.1, ?_⟩
    rw [e4, e5, cl (by omega), C.2.2.1 p (by omega)]
    refine ⟨vi (by omega) (by decide), nm (nm ?_)⟩
    rw [st_j (by decide), e4, nI_1]
    refine nm (ihg _ (by omega) (by omega) (by omega) (fun i h1 h2 => hy i (by omega) h2) ((C.st (by decide)).st (by decide)) st_s ?_ ((f.st).st) (by rw [st_j (by decide), st_j (by decide)]; exact e2) (by rw [st_j (by decide), st_j (by decide)]; exact e3))
    rw [st_j (by decide), st_s, show p + 1 - b = (p - b) + 1 by omega, vl, show b + (p - b) = p by omega]
theorem s_look44 {p : Nat} {h0 h : Mem} {Q : Mem → Prop} (hp : p ≤ t) (C : C9 T t h) (hb : h 32 4 = nI (skp (isSp T t) 121 p)) (f : Fr1 32 h0 h) (k : ∀ h', C9 T t h' → S9 T h' (nx T t p) → Fr1 32 h0 h' → Q h') : f_X3_lookOn_b44 Q h := by
  obtain ⟨a1, a2, a3, a4⟩ := skp_spec (sp_hi (T := T) (t := t)) 121 p hp (by have := C.1; omega)
  unfold nx at k
  generalize skp (isSp T t) 121 p = b at *
  have ht := C.1
  unfold f_X3_lookOn_b44
  rw [hb]
  refine nm ?_
  have C3 := C.st (j := 3) (v := nI b) (by decide)
  rw [C3.2.1, st_s]
  refine ⟨C3.2.2.2.1, ?_⟩
  by_cases c0 : t ≤ b
  · rw [if_pos c0] at k
    refine ifn (nI_nlt c0 (by omega)) (nm (k _ (C3.st (by decide)) ⟨by rw [st_s]; rfl, by rw [st_j (by decide), st_s], by rw [st_j (by decide), st_j (by decide)]; exact hb, (by intro z; cases z)⟩ (f.st).st))
  · rw [if_neg c0] at k
    refine ifp (nI_lt (by omega) (by omega)) (s_isLetter C3 (by omega) ?_)
    by_cases c1 : isLt T t b = true
    · rw [if_pos c1] at k ⊢
      obtain ⟨e1, e2, e3, e4⟩ := skp_spec (lt_hi (T := T) (t := t)) 121 b (by omega) (by omega)
      refine ifn oz (nm ?_)
      exact s_letters (h0 := gm_st (gm_st h 32 3 (nI b)) 32 2 1) (by omega) e4 (fun h' C' x4 f' x2 x3 => k h' C' ⟨by rw [x2, st_s]; rfl, by rw [x3, st_j (by decide), st_s], x4, (by intro z; cases z)⟩ (fun a q => by rw [f' a q, st_k q, st_k q, f a q])) (skp (isLt T t) 121 b - b) b gm_F _ (by omega) (Nat.lt_of_lt_of_le (by omega : _ < 121) (gm_F_ge (by decide))) e3 (C3.st (by decide)) (by rw [st_j (by decide), st_j (by decide)]; exact hb) Fr1.rf rfl rfl
    · rw [if_neg c1] at k ⊢
      refine ifp rfl ?_
      rw [st_s]
      refine s_isDigit C3 (by omega) ?_
      by_cases c2 : isDg T t b = true
      · rw [if_pos c2] at k ⊢
        obtain ⟨e1, e2, e3, e4⟩ := skp_spec (dg_hi (T := T) (t := t)) 121 b (by omega) (by omega)
        refine ifn oz (nm (nm ?_))
        exact s_digits (b := b) (h0 := gm_st (gm_st (gm_st h 32 3 (nI b)) 32 2 2) 32 5 0) (by omega) e4 (fun h' C' x4 x5 f' x2 x3 => k h' C' ⟨by rw [x2, st_j (by decide), st_s]; rfl, by rw [x3, st_j (by decide), st_j (by decide), st_s], x4, fun _ => x5⟩ (fun a q => by rw [f' a q, st_k q, st_k q, st_k q, f a q])) (skp (isDg T t) 121 b - b) b gm_F _ (by omega) (Nat.lt_of_lt_of_le (by omega : _ < 121) (gm_F_ge (by decide))) (Nat.le_refl _) e3 ((C3.st (by decide)).st (by decide)) (by rw [st_j (by decide), st_j (by decide), st_j (by decide)]; exact hb) (by rw [st_s, Nat.sub_self]; rfl) Fr1.rf rfl rfl
      · rw [if_neg c2] at k ⊢
        refine ifp rfl ?_
        unfold f_X3_signAt
        rw [st_s, cl (by omega), C3.2.2.1 b (by omega)]
        have fin : ∀ x : Int32, x = tc T (b, b + 1, 3, 0) → ∀ h_14 : Mem, h_14 = gm_st (gm_st h 32 3 (nI b)) 32 2 x → ∀ h_15 : Mem, h_15 = gm_st h_14 32 4 ((h_14 32 4) + (1 : Int32)) → Q h_15 := by
          intro x ex
          refine nm (nm ?_)
          rw [st_j (by decide), st_j (by decide), hb, nI_1]
          exact k _ ((C3.st (by decide)).st (by decide)) ⟨by rw [st_j (by decide), st_s, ex], by rw [st_j (by decide), st_j (by decide), st_s], st_s, (by intro z; cases z)⟩ (((f.st).st).st)
        refine ⟨C3.2.2.2.1, vi (by omega) (by decide), ?_⟩
        by_cases s1 : T b = 59
        · exact ifp s1 (fin _ (by unfold tc; simp [s1]))
        · refine ifn s1 ⟨C3.2.2.2.1, vi (by omega) (by decide), ?_⟩
          by_cases s2 : T b = 45
          · exact ifp s2 (fin _ (by unfold tc; simp [s1, s2]))
          · exact ifn s2 (fin _ (by unfold tc; simp [s1, s2]))
theorem sp_at {h : Mem} {i : Nat} (C : C9 T t h) (X Y : Prop) (hi : i ≤ t) (k1 : isSp T t i = true → X) (k0 : isSp T t i = false → Y) : ¬ h 32 0 = 0 ∧ if h 30 1 ≤ nI i then Y else (¬ h 32 0 = 0 ∧ vp_in (nI i) 120 ∧ if h 31 (nI i).toNatClampNeg = (32 : Int32) then X else Y) := by
  have ht := C.1
  refine ⟨C.2.2.2.1, ?_⟩
  rw [C.2.1]
  by_cases c : t ≤ i
  · exact ifp (nI_le c (by omega)) (k0 (sp_hi i c))
  · refine ifn (nI_ge (by omega) (by omega)) ⟨C.2.2.2.1, vi (by omega) (by decide), ?_⟩
    rw [cl (by omega), C.2.2.1 i (by omega)]
    by_cases c1 : T i = 32
    · exact ifp c1 (k1 (decide_eq_true ⟨by omega, c1⟩))
    · exact ifn c1 (k0 (decide_eq_false (fun z => c1 z.2)))
theorem s_look9 {p : Nat} {h0 : Mem} {Q : Mem → Prop} (C0 : C9 T t h0) (hp : p ≤ t) (h4 : h0 32 4 = nI p) (k : ∀ h', C9 T t h' → S9 T h' (nx T t p) → Fr1 32 h0 h' → Q h') : f_X3_lookOn h0 Q := by
  have ht := C0.1
  obtain ⟨a1, a2, a3, a4⟩ := skp_spec (sp_hi (T := T) (t := t)) 121 p hp (by omega)
  have loop : ∀ d i g h, i + d = skp (isSp T t) 121 p → p ≤ i → d < g → C9 T t h → h 32 4 = nI i → Fr1 32 h0 h → gm_it0 (f_X3_lookOn_b0 Q) g h := by
    intro d
    induction d with
    | zero =>
      intro i g h e hpi hg C e4 f
      obtain ⟨g, rfl⟩ : ∃ g', g = g' + 1 := ⟨g - 1, by omega⟩
      show f_X3_lookOn_b0 Q (gm_it0 (f_X3_lookOn_b0 Q) g) h
      generalize gm_it0 (f_X3_lookOn_b0 Q) g = K
      have ei : i = skp (isSp T t) 121 p := by omega
      have fin := s_look44 (Q := Q) hp C (by rw [e4, ei]) f k
      unfold f_X3_lookOn_b0
      rw [e4]
      exact sp_at C _ _ (by omega) (fun z => by rw [ei, a4] at z; cases z) (fun _ => fin)
    | succ d ih =>
      intro i g h e hpi hg C e4 f
      obtain ⟨g, rfl⟩ : ∃ g', g = g' + 1 := ⟨g - 1, by omega⟩
      show f_X3_lookOn_b0 Q (gm_it0 (f_X3_lookOn_b0 Q) g) h
      have ihg := ih (i + 1) g
      generalize gm_it0 (f_X3_lookOn_b0 Q) g = K at ihg ⊢
      unfold f_X3_lookOn_b0
      rw [e4, nI_1]
      exact sp_at C _ _ (by omega) (fun _ => nm (ihg _ (by omega) (by omega) (by omega) (C.st (by decide)) st_s f.st)) (fun z => by rw [a3 i hpi (by omega)] at z; cases z)
  unfold f_X3_lookOn
  rw [h4, nI_1]
  refine sp_at C0 _ _ hp (fun z => nm ?_) (fun z => ?_)
  · have hlt : p < skp (isSp T t) 121 p := by
      rcases Nat.lt_or_ge p (skp (isSp T t) 121 p) with q | q
      · exact q
      · rw [show skp (isSp T t) 121 p = p by omega, z] at a4; cases a4
    exact loop (skp (isSp T t) 121 p - (p + 1)) (p + 1) gm_F _ (by omega) (by omega) (Nat.lt_of_lt_of_le (by omega : _ < 121) (gm_F_ge (by decide))) (C0.st (by decide)) st_s (Fr1.st Fr1.rf)
  · refine s_look44 (Q := Q) hp C0 ?_ Fr1.rf k
    have e : skp (isSp T t) 121 p = p := by
      show (if isSp T t p = true then _ else p) = p
      rw [if_neg (by rw [z]; decide)]
    rw [e]
    exact h4
end
