/-! TEXT: items; the class takes them -/
abbrev It : Type := Int32 × Int32 × Int32 × Int32
def adv (T : Row) (t : Nat) (τ : Tok) : Tok := nx T t τ.2.1
def isn (lo hi : Int32) (τ : Tok) : Prop := τ.2.2.1 = 2 ∧ lo ≤ τ.2.2.2 ∧ τ.2.2.2 ≤ hi
def isnb (lo hi : Int32) (τ : Tok) : Bool := decide (τ.2.2.1 = 2 ∧ lo ≤ τ.2.2.2 ∧ τ.2.2.2 ≤ hi)
def pnum (T : Row) (t : Nat) (lo hi : Int32) (τ : Tok) : Nat ⊕ (Int32 × Tok) := if isnb lo hi τ = true then .inr (τ.2.2.2, adv T t τ) else .inl τ.1
def popt (T : Row) (t i : Nat) (lo hi d : Int32) (τ : Tok) : Nat ⊕ (Int32 × Tok) := if isw T i τ = true then pnum T t lo hi (adv T t τ) else .inr (d, τ)
def mnb (T : Row) (τ : Tok) : Bool := decide (τ.2.2.1 = 3 ∧ T τ.1 = 45)
def pneg (o : Nat ⊕ (Int32 × Tok)) : Nat ⊕ (Int32 × Tok) := match o with
  | .inl b => .inl b
  | .inr x => .inr (-x.1, x.2)
def pdr (T : Row) (t : Nat) (τ : Tok) : Nat ⊕ (Int32 × Tok) := if mnb T τ = true then pneg (pnum T t 0 9 (adv T t τ)) else pnum T t 0 9 τ
def pdo (T : Row) (t : Nat) (τ : Tok) : Nat ⊕ (Int32 × Tok) := if isw T 16 τ = true then pdr T t (adv T t τ) else .inr (-100, τ)
def pbd {α β : Type} (o : Nat ⊕ α) (f : α → Nat ⊕ β) : Nat ⊕ β := match o with
  | .inl b => .inl b
  | .inr x => f x
def ppace (T : Row) (t w : Nat) (τ : Tok) : Nat ⊕ (It × Tok) := pbd (pnum T t 1 99 (adv T t τ)) (fun p => pbd (popt T t 15 0 10 (-100) p.2) (fun q => pbd (pdo T t q.2) (fun d => .inr ((nI (10 + w), p.1, q.1, d.1), d.2))))
def prule (T : Row) (t r : Nat) (τ : Tok) : Nat ⊕ (It × Tok) := pbd (pnum T t (ruleL r) (ruleH r) (adv T t τ)) (fun p => .inr ((nI (10 + r), p.1, -100, -100), p.2))
def pline (T : Row) (t κ n : Nat) (τ : Tok) : Nat ⊕ (It × Tok) := if 12 ≤ n then .inl τ.1 else pbd (popt T t 13 1 20 5 (adv T t τ)) (fun p => pbd (popt T t 14 0 9 0 p.2) (fun q => .inr ((nI κ, p.1, q.1, 0), q.2)))
/-- the kind that a word names: 7 if none -/
def kin (T : Row) (τ : Tok) : Nat := if isw T 0 τ = true then 0 else if isw T 1 τ = true then 1 else if isw T 2 τ = true then 2 else if isw T 3 τ = true then 3 else if isw T 4 τ = true then 4 else if isw T 5 τ = true then 5 else if isw T 6 τ = true then 6 else 7
def pitem (T : Row) (t n : Nat) (τ : Tok) : Nat ⊕ (It × Tok) := if kin T τ < 7 then pline T t (kin T τ) n τ else if isw T 7 τ = true then ppace T t 0 τ else if isw T 8 τ = true then ppace T t 1 τ else if isw T 9 τ = true then prule T t 7 τ else if isw T 10 τ = true then prule T t 6 τ else if isw T 11 τ = true then prule T t 8 τ else if isw T 12 τ = true then prule T t 9 τ else .inl τ.1
def FrT (h h' : Mem) : Prop := ∀ a, a < 13 ∨ (18 < a ∧ a ≠ 32) → h' a = h a
theorem FrT.tr {h h1 h2 : Mem} (x : FrT h h1) (y : FrT h1 h2) : FrT h h2 := fun a q => (y a q).trans (x a q)
theorem Fr1.ft {h h' : Mem} (f : Fr1 32 h h') : FrT h h' := fun a q => f a (by omega)
section
variable {T : Row} {t : Nat}
def P9 (T : Row) (t : Nat) (h : Mem) (τ : Tok) : Prop := C9 T t h ∧ S9 T h τ ∧ TK t 0 τ
theorem adv_TK {τ : Tok} (ht : t ≤ 120) (x : TK t 0 τ) : TK t 0 (adv T t τ) := by
  have y := nx_TK (T := T) ht (p := τ.2.1) x.2.2.1
  exact ⟨Nat.zero_le _, y.2⟩
theorem s_adv9 {h : Mem} {τ : Tok} {Q : Mem → Prop} (P : P9 T t h τ) (k : ∀ h', P9 T t h' (adv T t τ) → Fr1 32 h h' → Q h') : f_X3_lookOn h Q :=
  s_look9 P.1 P.2.2.2.2.1 P.2.1.2.2.1 (fun h' C S f => k h' ⟨C, S, adv_TK P.1.1 P.2.2⟩ f)
/-- one of the draft's cells is written -/
theorem P9.wr {h : Mem} {τ : Tok} {a j : Nat} {v : Int32} (P : P9 T t h τ) (ha : 13 ≤ a) (ha2 : a ≤ 18) : P9 T t (gm_st h a j v) τ := by
  obtain ⟨⟨c1, c2, c3, c4, c5⟩, ⟨s1, s2, s3, s4⟩, K⟩ := P
  refine ⟨⟨c1, ?_, fun i hi => ?_, ?_, ?_⟩, ⟨?_, ?_, ?_, fun z => ?_⟩, K⟩
  · rw [st_k (by omega)]; exact c2
  · rw [st_k (by omega)]; exact c3 i hi
  · rw [st_k (by omega)]; exact c4
  · rw [st_k (by omega)]; exact c5
  · rw [st_k (by omega)]; exact s1
  · rw [st_k (by omega)]; exact s2
  · rw [st_k (by omega)]; exact s3
  · rw [st_k (by omega)]; exact s4 z
theorem tc_2 {τ : Tok} (K : TK t 0 τ) : tc T τ = 2 ↔ τ.2.2.1 = 2 := by
  unfold tc
  rcases K.2.2.2.1 with q | q | q | q
  · simp [q]
  · simp [q]
  · simp [q]
  · rw [q]
    by_cases s1 : T τ.1 = 59
    · simp [s1]
    · by_cases s2 : T τ.1 = 45
      · simp [s1, s2]
      · simp [s1, s2]
theorem tc_4 {τ : Tok} (K : TK t 0 τ) : tc T τ = 4 ↔ mnb T τ = true := by
  unfold tc mnb
  rcases K.2.2.2.1 with q | q | q | q
  · simp [q]
  · simp [q]
  · simp [q]
  · rw [q]
    by_cases s1 : T τ.1 = 59
    · simp [s1]
    · by_cases s2 : T τ.1 = 45
      · simp [s1, s2]
      · simp [s1, s2]
theorem s_isNumber {lo hi : Int32} {h : Mem} {τ : Tok} {Q : Int32 → Mem → Prop} (P : P9 T t h τ) (k : Q (if isnb lo hi τ = true then 1 else 0) h) : f_X3_isNumber lo hi h Q := by
  unfold f_X3_isNumber
  rw [P.2.1.1]
  by_cases c : τ.2.2.1 = 2
  · refine ifp ((tc_2 P.2.2).mpr c) ?_
    rw [P.2.1.2.2.2 c]
    by_cases d : lo ≤ τ.2.2.2 ∧ τ.2.2.2 ≤ hi
    · rw [if_pos (show isnb lo hi τ = true from decide_eq_true ⟨c, d⟩)] at k
      exact win9 d.1 d.2 (ifn oz k)
    · rw [if_neg (fun z => d (of_decide_eq_true z).2)] at k
      exact wout9 d (ifp rfl k)
  · rw [if_neg (fun z => c (of_decide_eq_true z).1)] at k
    exact ifn (fun z => c ((tc_2 P.2.2).mp z)) k
/-- what is owed behind a piece of an item -/
def K9 {α : Type} (T : Row) (t : Nat) (h : Mem) (Q : Int32 → Mem → Prop) (o : Nat ⊕ (α × Tok)) (R : α → Row) : Prop := match o with
  | .inl b => ∀ h', h' 32 3 = nI b → FrT h h' → Q 0 h'
  | .inr x => ∀ h', P9 T t h' x.2 → A9 h' 13 (R x.1) → FrT h h' → Q 1 h'
theorem s_takeRule {r : Nat} {h : Mem} {τ : Tok} {M : Row} {Q : Int32 → Mem → Prop} (hr : r < 10) (P : P9 T t h τ) (hM : A9 h 13 M) (k : K9 T t h Q (pnum T t (ruleL r) (ruleH r) (adv T t τ)) (fun v => upd M (6 + r) v)) : f_X3_takeRule (nI r) h Q := by
  unfold f_X3_takeRule
  refine s_adv9 P (fun h1 P1 f1 => ⟨vi hr (by decide), vi hr (by decide), ?_⟩)
  rw [tab4 r hr, tab5 r hr]
  refine s_isNumber (lo := ruleL r) (hi := ruleH r) P1 ?_
  unfold pnum at k
  by_cases c : isnb (ruleL r) (ruleH r) (adv T t τ) = true
  · rw [if_pos c] at k ⊢
    have cv := (of_decide_eq_true c).1
    refine ifn oz ⟨P1.1.2.2.2.2, vi hr (by decide), ?_⟩
    rw [cl (by omega), P1.2.1.2.2.2 cv]
    have hM1 : A9 h1 13 M := hM.fr (fun a _ _ => f1 a (by omega))
    refine nm (s_adv9 (P1.wr (a := 17) (by decide) (by decide)) (fun h2 P2 f2 => k h2 P2 ?_ ?_))
    · exact (hM1.rule (i := r) hr).fr (fun a _ _ => f2 a (by omega))
    · exact fun a q => by rw [f2 a (by omega), st_k (by omega), f1 a (by omega)]
  · rw [if_neg c] at k ⊢
    exact ifp rfl (k h1 P1.2.1.2.1 f1.ft)
theorem s_takeFeature {i f l : Nat} {lo hi d : Int32} {h : Mem} {τ : Tok} {M : Row} {Q : Int32 → Mem → Prop} (hi17 : i < 17) (hf : f = 1 ∨ f = 2) (hl : l < 12) (elo : [0, 1, 0].getD f 0 = lo) (ehi : [6, 20, 9].getD f 0 = hi) (hd : M (26 + 3 * l + f) = d) (P : P9 T t h τ) (hM : A9 h 13 M) (k : K9 T t h Q (popt T t i lo hi d τ) (fun v => upd M (26 + 3 * l + f) v)) : f_X3_takeFeature i (nI f) (nI l) h Q := by
  unfold f_X3_takeFeature
  refine s_isWord9 hi17 P.1 P.2.1 P.2.2 ?_
  unfold popt at k
  by_cases w : isw T i τ = true
  · rw [if_pos w] at k ⊢
    refine ifn oz (s_adv9 P (fun h1 P1 f1 => ⟨vi (by omega) (by decide), vi (by omega) (by decide), ?_⟩))
    rw [tab2 f (by omega), tab3 f (by omega), elo, ehi]
    refine s_isNumber P1 ?_
    unfold pnum at k
    by_cases c : isnb lo hi (adv T t τ) = true
    · rw [if_pos c] at k ⊢
      have cv := (of_decide_eq_true c).1
      have hM1 : A9 h1 13 M := hM.fr (fun a _ _ => f1 a (by omega))
      refine ifn oz ⟨P1.1.2.2.2.2, ?_⟩
      unfold f_X6_features
      rcases hf with rfl | rfl
      · refine ifn (by decide) (ifp rfl ⟨rfl, vi (by show l < 12; omega) (by decide), ?_⟩)
        rw [cl (by omega), P1.2.1.2.2.2 cv]
        refine nm (s_adv9 (P1.wr (a := 15) (by decide) (by decide)) (fun h2 P2 f2 => k h2 P2 ?_ ?_))
        · exact (hM1.feature (i := l) (f := 1) hl (by decide)).fr (fun a _ _ => f2 a (by omega))
        · exact fun a q => by rw [f2 a (by omega), st_k (by omega), f1 a (by omega)]
      · refine ifn (by decide) (ifn (by decide) ⟨rfl, vi (by show l < 12; omega) (by decide), ?_⟩)
        rw [cl (by omega), P1.2.1.2.2.2 cv]
        refine nm (s_adv9 (P1.wr (a := 16) (by decide) (by decide)) (fun h2 P2 f2 => k h2 P2 ?_ ?_))
        · exact (hM1.feature (i := l) (f := 2) hl (by decide)).fr (fun a _ _ => f2 a (by omega))
        · exact fun a q => by rw [f2 a (by omega), st_k (by omega), f1 a (by omega)]
    · rw [if_neg c] at k ⊢
      exact ifp rfl (k h1 P1.2.1.2.1 f1.ft)
  · rw [if_neg w] at k ⊢
    refine ifp rfl (k h P (hM.same (fun j _ => ?_)) (fun _ _ => rfl))
    show upd M (26 + 3 * l + f) d j = M j
    rw [up_at]
    by_cases q : j = 26 + 3 * l + f
    · rw [if_pos q, q, hd]
    · rw [if_neg q]
theorem s_takeDrift {w : Nat} {h : Mem} {τ : Tok} {M : Row} {Q : Int32 → Mem → Prop} (hw : w < 2) (P : P9 T t h τ) (hM : A9 h 13 M) (k : K9 T t h Q (pdr T t (adv T t τ)) (fun v => upd M (6 + (4 + w)) v)) : f_X3_takeDrift (nI (4 + w)) h Q := by
  have b20 : ∀ (h1 : Mem) (τ1 : Tok) (s : Int32) (o : Nat ⊕ (Int32 × Tok)), P9 T t h1 τ1 → FrT h h1 → A9 h1 13 M → (isnb 0 9 τ1 = true → o = .inr (s * τ1.2.2.2, adv T t τ1)) → (¬ isnb 0 9 τ1 = true → o = .inl τ1.1) → K9 T t h Q o (fun v => upd M (6 + (4 + w)) v) → f_X3_takeDrift_b20 (nI (4 + w)) Q s h1 := by
    intro h1 τ1 s o P1 f1 hM1 o1 o0 kk
    have e9 : (gm_tab 5).getD (nI (4 + w)).toNatClampNeg 0 = 9 := by
      rw [tab5 _ (by omega)]
      have : w = 0 ∨ w = 1 := by omega
      rcases this with rfl | rfl <;> rfl
    unfold f_X3_takeDrift_b20
    refine ⟨vi (by omega) (by decide), ?_⟩
    rw [e9]
    refine s_isNumber P1 ?_
    by_cases c : isnb 0 9 τ1 = true
    · rw [o1 c] at kk
      rw [if_pos c]
      have cv := (of_decide_eq_true c).1
      refine ifn oz ⟨P1.1.2.2.2.2, vi (by omega) (by decide), ?_⟩
      rw [cl (by omega), P1.2.1.2.2.2 cv]
      refine nm (s_adv9 (P1.wr (a := 17) (by decide) (by decide)) (fun h2 P2 f2 => kk h2 P2 ?_ ?_))
      · exact (hM1.rule (i := 4 + w) (by omega)).fr (fun a _ _ => f2 a (by omega))
      · exact fun a q => by rw [f2 a (by omega), st_k (by omega), f1 a q]
    · rw [o0 c] at kk
      rw [if_neg c]
      exact ifp rfl (kk h1 P1.2.1.2.1 f1)
  unfold f_X3_takeDrift
  refine s_adv9 P (fun h1 P1 f1 => ?_)
  have hM1 : A9 h1 13 M := hM.fr (fun a _ _ => f1 a (by omega))
  rw [P1.2.1.1]
  unfold pdr at k
  by_cases c : mnb T (adv T t τ) = true
  · rw [if_pos c] at k
    refine ifp ((tc_4 P1.2.2).mpr c) (s_adv9 P1 (fun h2 P2 f2 => b20 h2 _ (-1) _ P2 (f1.ft.tr f2.ft) (hM1.fr (fun a _ _ => f2 a (by omega))) (fun z => ?_) (fun z => ?_) k))
    · unfold pnum; rw [if_pos z]
      show Sum.inr (-_, _) = _
      rw [Int32.neg_eq_neg_one_mul]
    · unfold pnum; rw [if_neg z]; rfl
  · rw [if_neg c] at k
    refine ifn (fun z => c ((tc_4 P1.2.2).mp z)) (b20 h1 _ 1 _ P1 f1.ft hM1 (fun z => ?_) (fun z => ?_) k)
    · unfold pnum; rw [if_pos z, Int32.one_mul]
    · unfold pnum; rw [if_neg z]
/-- an item, done to a row -/
def told (M : Row) (r : Nat) (v : Int32) : Row := if v = -100 then M else upd M r v
def app (M : Row) (n : Nat) (it : It) : Row := if it.1 < 10 then n_add M n it.1 it.2.1 it.2.2.1 else if it.1 = 10 then told (told (upd M 6 it.2.1) 8 it.2.2.1) 10 it.2.2.2 else if it.1 = 11 then told (told (upd M 7 it.2.1) 9 it.2.2.1) 11 it.2.2.2 else upd M (6 + (it.1 - 10).toNatClampNeg) it.2.1
end
