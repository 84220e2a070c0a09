/-! TEXT: items of the reference -/
def W10 (h : Mem) (b : Nat) : Prop := h 43 15 = nI b ∧ h 43 19 = 1
def Fw (h h' : Mem) : Prop := (∀ a, a ≠ 43 → h' a = h a) ∧ ∀ j, j < 15 ∨ 19 < j → h' 43 j = h 43 j
theorem Fw.rf {h : Mem} : Fw h h := ⟨fun _ _ => rfl, fun _ _ => rfl⟩
theorem Fw.tr {h h1 h2 : Mem} (x : Fw h h1) (y : Fw h1 h2) : Fw h h2 := ⟨fun a q => (y.1 a q).trans (x.1 a q), fun j q => (y.2 j q).trans (x.2 j q)⟩
section
variable {T : Row} {t : Nat}
def P10 (T : Row) (t : Nat) (h : Mem) (τ : Tok) : Prop := C10 T t h ∧ S10 h τ ∧ TK t 0 τ ∧ h 43 19 = 0
theorem w_must {b : Nat} {x : Int32} {h : Mem} {Q : Mem → Prop} (w : W10 h b) (k : ∀ h', W10 h' b → Fw h h' → Q h') : f_X10_must x h Q := by
  unfold f_X10_must f_X10_must_b12 f_X10_must_b17
  rw [w.2]
  refine ifn oz ⟨gm_b1, nm ?_⟩
  rw [st_s]
  exact ifn oz (k _ ⟨by rw [st_j (by decide)]; exact w.1, st_s⟩ ⟨fun a q => st_k q, fun j q => st_j (by omega)⟩)
theorem s_must1 {h : Mem} {τ : Tok} {Q : Mem → Prop} (P : P10 T t h τ) (k : ∀ h', P10 T t h' (adv T t τ) → Fw h h' → Q h') : f_X10_must (1 : Int32) h Q := by
  unfold f_X10_must f_X10_must_b17
  rw [P.2.2.2]
  refine ifp rfl (ifn oz ⟨gm_b0, nm ?_⟩)
  rw [st_s]
  refine ifp rfl (s_next (P.1.st (by decide)) P.2.2.1.2.2.1 (by rw [st_j (by decide)]; exact P.2.1.2.1) (fun h' C S f => k h' ⟨C, S, adv_TK P.1.1 P.2.2.1, by rw [f.2 19 (by omega), st_s]⟩ ⟨fun a q => by rw [f.1 a q, st_k q], fun j q => by rw [f.2 j (by omega), st_j (by omega)]⟩))
theorem s_must0 {h : Mem} {τ : Tok} {Q : Mem → Prop} (P : P10 T t h τ) (k : ∀ h', W10 h' τ.1 → Fw h h' → Q h') : f_X10_must (0 : Int32) h Q := by
  unfold f_X10_must f_X10_must_b12 f_X10_must_b17
  rw [P.2.2.2]
  refine ifp rfl (ifp rfl ⟨gm_b1, nm ?_⟩)
  rw [st_s]
  exact ifn oz (k _ ⟨by rw [st_j (by decide)]; exact P.2.1.1, st_s⟩ ⟨fun a q => st_k q, fun j q => st_j (by omega)⟩)
def K10 (T : Row) (t : Nat) (h : Mem) (Q : Int32 → Mem → Prop) (o : Nat ⊕ (Int32 × Tok)) : Prop := match o with
  | .inl b => ∀ h' v, W10 h' b → Fw h h' → Q v h'
  | .inr x => ∀ h', P10 T t h' x.2 → Fw h h' → Q x.1 h'
theorem w_number {b : Nat} {lo hi : Int32} {h : Mem} {Q : Int32 → Mem → Prop} (w : W10 h b) (k : ∀ h' v, W10 h' b → Fw h h' → Q v h') : f_X10_number lo hi h Q := by
  unfold f_X10_number
  refine nm ?_
  by_cases c : h 43 17 = 2
  · refine ifp c ?_
    by_cases d : lo ≤ h 43 18 ∧ h 43 18 ≤ hi
    · exact win10 d.1 d.2 (ifn oz (w_must w (fun h' w' f => k h' _ w' f)))
    · exact wout10 d (ifp rfl (w_must w (fun h' w' f => k h' _ w' f)))
  · exact ifn c (w_must w (fun h' w' f => k h' _ w' f))
theorem s_number {lo hi : Int32} {h : Mem} {τ : Tok} {Q : Int32 → Mem → Prop} (P : P10 T t h τ) (k : K10 T t h Q (pnum T t lo hi τ)) : f_X10_number lo hi h Q := by
  unfold f_X10_number
  refine nm ?_
  unfold pnum at k
  rw [P.2.1.2.2.1]
  by_cases c : τ.2.2.1 = 2
  · rw [c]
    refine ifp rfl ?_
    rw [P.2.1.2.2.2 c]
    by_cases d : lo ≤ τ.2.2.2 ∧ τ.2.2.2 ≤ hi
    · rw [if_pos (show isnb lo hi τ = true from decide_eq_true ⟨c, d⟩)] at k
      exact win10 d.1 d.2 (ifn oz (s_must1 P (fun h' P' f => k h' P' f)))
    · rw [if_neg (fun z => d (of_decide_eq_true z).2)] at k
      exact wout10 d (ifp rfl (s_must0 P (fun h' w f => k h' _ w f)))
  · rw [if_neg (fun z => c (of_decide_eq_true z).1)] at k
    have hc := P.2.2.1.2.2.2.1
    exact ifn (fun z => c ((nI_eq (b := 2) (by omega) (by decide)).mp z)) (s_must0 P (fun h' w f => k h' _ w f))
theorem w_isNext {b i : Nat} {h : Mem} {Q : Int32 → Mem → Prop} (w : W10 h b) (k : Q 0 h) : f_X10_isNext i h Q := by
  unfold f_X10_isNext f_X10_isNext_b19 f_X10_isNext_b20
  rw [w.2]
  exact ifn oz (ifp rfl ⟨gm_b0, k⟩)
theorem s_isNext {i : Nat} {h : Mem} {τ : Tok} {Q : Int32 → Mem → Prop} (hi : i < 17) (P : P10 T t h τ) (k1 : isw T i τ = true → ∀ h', P10 T t h' (adv T t τ) → Fw h h' → Q 1 h') (k0 : ¬ isw T i τ = true → Q 0 h) : f_X10_isNext i h Q := by
  unfold f_X10_isNext f_X10_isNext_b19 f_X10_isNext_b20
  rw [P.2.2.2]
  refine ifp rfl (s_isWord10 hi P.1 P.2.1 P.2.2.1 ?_)
  by_cases c : isw T i τ = true
  · rw [if_pos c]
    exact ifn oz (ifn oz (s_must1 P (fun h' P' f => ⟨gm_b1, k1 c h' P' f⟩)))
  · rw [if_neg c]
    exact ifp rfl (ifp rfl ⟨gm_b0, k0 c⟩)
theorem s_drift10 {h : Mem} {τ : Tok} {Q : Int32 → Mem → Prop} (P : P10 T t h τ) (k : K10 T t h Q (pdr T t τ)) : f_X10_drift h Q := by
  have ht := P.1.1
  have K := P.2.2.1
  unfold pdr at k
  have no : ¬ mnb T τ = true → f_X10_drift_b33 Q h := fun c => by
    rw [if_neg c] at k
    unfold f_X10_drift_b33 f_X10_drift_b34 f_X10_drift_b44
    refine ifp rfl (s_number P ?_)
    cases hp : pnum T t 0 9 τ with
    | inl b => rw [hp] at k; exact fun h' v w f => ifp rfl (k h' v w f)
    | inr x => rw [hp] at k; exact fun h' P' f => ifp rfl (k h' P' f)
  unfold f_X10_drift
  rw [P.2.2.2, P.2.1.2.2.1, P.2.1.1]
  refine ifp rfl ?_
  by_cases c3 : τ.2.2.1 = 3
  · have hlt := K.2.2.2.2.2 (by omega)
    have hle := K.2.2.1
    rw [c3]
    refine ifp rfl ⟨vi (by omega) (by decide), ?_⟩
    rw [cl (by omega), (P.1.2.2 _ (by omega)).1]
    by_cases c : T τ.1 = 45
    · rw [if_pos (show mnb T τ = true from decide_eq_true ⟨c3, c⟩)] at k
      refine ifp c ?_
      unfold f_X10_drift_b34 f_X10_drift_b44
      refine ifn oz (s_must1 P (fun h1 P1 f1 => s_number P1 ?_))
      cases hp : pnum T t 0 9 (adv T t τ) with
      | inl b => rw [hp] at k; exact fun h' v w f => ifn oz (k h' _ w (f1.tr f))
      | inr x => rw [hp] at k; exact fun h' P' f => ifn oz (k h' P' (f1.tr f))
    · exact ifn c (no (fun z => c (of_decide_eq_true z).2))
  · have hc := K.2.2.2.1
    exact ifn (fun z => c3 ((nI_eq (b := 3) (by omega) (by decide)).mp z)) (no (fun z => c3 (of_decide_eq_true z).1))
/-! items are stored -/
def IT (h : Mem) (k : Nat) (it : It) : Prop := h 52 (4 * k) = it.1 ∧ h 52 (4 * k + 1) = it.2.1 ∧ h 52 (4 * k + 2) = it.2.2.1 ∧ h 52 (4 * k + 3) = it.2.2.2
def Fi (k : Nat) (h h' : Mem) : Prop := (∀ a, a ≠ 43 → a ≠ 52 → h' a = h a) ∧ (∀ j, j < 15 ∨ j = 20 ∨ j = 21 ∨ 23 ≤ j → h' 43 j = h 43 j) ∧ ∀ i, i < 4 * k → h' 52 i = h 52 i
theorem Fw.fi {k : Nat} {h h1 h2 : Mem} (x : Fw h h1) (y : Fi k h1 h2) : Fi k h h2 := ⟨fun a q1 q2 => (y.1 a q1 q2).trans (x.1 a q1), fun j q => (y.2.1 j q).trans (x.2 j (by omega)), fun i q => (y.2.2 i q).trans (by rw [x.1 52 (by decide)])⟩
theorem s_item {k : Nat} {a b c d : Int32} {h : Mem} {Q : Mem → Prop} (h22 : h 43 22 = nI k) (hk : k < 120) (kk : ∀ h', IT h' k (a, b, c, d) → h' 43 22 = nI (k + 1) → Fi k h h' → (∀ j, j ≠ 22 → h' 43 j = h 43 j) → Q h') : f_X10_item a b c d h Q := by
  unfold f_X10_item
  have e4 : (4 : Int32) * nI k = nI (4 * k) := pk_mul 4 k
  rw [h22, e4]
  refine nm ?_
  have a1 : nI (4 * k) + (1 : Int32) = nI (4 * k + 1) := nI_1 _
  have a2 : nI (4 * k) + (2 : Int32) = nI (4 * k + 2) := nI_add _ 2
  have a3 : nI (4 * k) + (3 : Int32) = nI (4 * k + 3) := nI_add _ 3
  rw [a1, a2, a3, cl (k := 4 * k) (by omega), cl (k := 4 * k + 1) (by omega), cl (k := 4 * k + 2) (by omega), cl (k := 4 * k + 3) (by omega)]
  refine ⟨vi (by omega) (by decide), nm ⟨vi (by omega) (by decide), nm ⟨vi (by omega) (by decide), nm ⟨vi (by omega) (by decide), nm (nm ?_)⟩⟩⟩⟩
  rw [st_k (by decide), st_k (by decide), st_k (by decide), st_k (by decide), h22, nI_1]
  refine kk _ ⟨?_, ?_, ?_, ?_⟩ st_s ⟨fun x q1 q2 => ?_, fun j q => ?_, fun i q => ?_⟩ (fun j q => ?_)
  · rw [st_k (by decide), st_j (by omega), st_j (by omega), st_j (by omega), st_s]
  · rw [st_k (by decide), st_j (by omega), st_j (by omega), st_s]
  · rw [st_k (by decide), st_j (by omega), st_s]
  · rw [st_k (by decide), st_s]
  · rw [st_k q1, st_k q2, st_k q2, st_k q2, st_k q2]
  · rw [st_j (by omega), st_k (by decide), st_k (by decide), st_k (by decide), st_k (by decide)]
  · rw [st_k (by decide), st_j (by omega), st_j (by omega), st_j (by omega), st_j (by omega)]
  · rw [st_j q, st_k (by decide), st_k (by decide), st_k (by decide), st_k (by decide)]
def KI (T : Row) (t k : Nat) (h : Mem) (Q : Mem → Prop) (o : Nat ⊕ (It × Tok)) : Prop := match o with
  | .inl b => ∀ h', W10 h' b → Fi k h h' → Q h'
  | .inr x => ∀ h', P10 T t h' x.2 → IT h' k x.1 → h' 43 22 = nI (k + 1) → Fi k h h' → Q h'
theorem P10.it {h h' : Mem} {τ : Tok} {k : Nat} (P : P10 T t h τ) (f : Fi k h h') (g : ∀ j, j ≠ 22 → h' 43 j = h 43 j) : P10 T t h' τ := by
  obtain ⟨⟨c1, c2, c3⟩, ⟨s1, s2, s3, s4⟩, K, w⟩ := P
  exact ⟨⟨c1, by rw [g 14 (by decide)]; exact c2, fun i hi => by rw [f.1 50 (by decide) (by decide)]; exact c3 i hi⟩, ⟨by rw [g 15 (by decide)]; exact s1, by rw [g 16 (by decide)]; exact s2, by rw [g 17 (by decide)]; exact s3, fun z => by rw [g 18 (by decide)]; exact s4 z⟩, K, by rw [g 19 (by decide)]; exact w⟩
theorem W10.it {h h' : Mem} {b : Nat} (w : W10 h b) (g : ∀ j, j ≠ 22 → h' 43 j = h 43 j) : W10 h' b := ⟨by rw [g 15 (by decide)]; exact w.1, by rw [g 19 (by decide)]; exact w.2⟩
theorem w_item {k b : Nat} {x y u v : Int32} {h h1 : Mem} {Q : Mem → Prop} (h22 : h 43 22 = nI k) (hk : k < 120) (w : W10 h1 b) (f : Fw h h1) (kk : ∀ h', W10 h' b → Fi k h h' → Q h') : f_X10_item x y u v h1 Q :=
  s_item (by rw [f.2 22 (by omega)]; exact h22) hk (fun h' _ _ fi g => kk h' (w.it g) (f.fi fi))
theorem g_item {k : Nat} {x y u v : Int32} {h h1 : Mem} {τ : Tok} {Q : Mem → Prop} (h22 : h 43 22 = nI k) (hk : k < 120) (P : P10 T t h1 τ) (f : Fw h h1) (kk : ∀ h', P10 T t h' τ → IT h' k (x, y, u, v) → h' 43 22 = nI (k + 1) → Fi k h h' → Q h') : f_X10_item x y u v h1 Q :=
  s_item (by rw [f.2 22 (by omega)]; exact h22) hk (fun h' it e fi g => kk h' (P.it fi g) it e (f.fi fi))
theorem s_readRule {r k : Nat} {h : Mem} {τ : Tok} {Q : Mem → Prop} (hr : r < 10) (h22 : h 43 22 = nI k) (hk : k < 120) (P : P10 T t h (adv T t τ)) (kk : KI T t k h Q (prule T t r τ)) : f_X10_readRule (nI r) h Q := by
  unfold f_X10_readRule
  have e10 : (10 : Int32) + nI r = nI (10 + r) := nI_add 10 r
  rw [e10]
  refine s_least hr (s_most hr (s_number P ?_))
  unfold prule at kk
  cases hp : pnum T t (ruleL r) (ruleH r) (adv T t τ) with
  | inl b => rw [hp] at kk; exact fun h' v w f => w_item h22 hk w f kk
  | inr x => rw [hp] at kk; exact fun h' P' f => g_item h22 hk P' f kk
theorem w_readRule {r k b : Nat} {h h1 : Mem} {Q : Mem → Prop} (hr : r < 10) (h22 : h 43 22 = nI k) (hk : k < 120) (w : W10 h1 b) (f : Fw h h1) (kk : ∀ h', W10 h' b → Fi k h h' → Q h') : f_X10_readRule (nI r) h1 Q := by
  unfold f_X10_readRule
  exact s_least hr (s_most hr (w_number w (fun h2 v w2 f2 => w_item h22 hk w2 (f.tr f2) kk)))
theorem w_b30 {w k b : Nat} {p q : Int32} {h h1 : Mem} {Q : Mem → Prop} (h22 : h 43 22 = nI k) (hk : k < 120) (w0 : W10 h1 b) (f : Fw h h1) (kk : ∀ h', W10 h' b → Fi k h h' → Q h') : f_X10_readPace_b30 (nI w) Q p q h1 := by
  unfold f_X10_readPace_b30
  exact w_isNext w0 (ifp rfl (w_item h22 hk w0 f kk))
theorem s_readPace {w k : Nat} {h : Mem} {τ : Tok} {Q : Mem → Prop} (h22 : h 43 22 = nI k) (hk : k < 120) (P : P10 T t h (adv T t τ)) (kk : KI T t k h Q (ppace T t w τ)) : f_X10_readPace (nI w) h Q := by
  unfold f_X10_readPace
  have e10 : (10 : Int32) + nI w = nI (10 + w) := nI_add 10 w
  have last : ∀ (p q : Int32) (τ2 : Tok) (h1 : Mem), P10 T t h1 τ2 → Fw h h1 → KI T t k h Q (pbd (pdo T t τ2) (fun d => .inr ((nI (10 + w), p, q, d.1), d.2))) → f_X10_readPace_b30 (nI w) Q p q h1 := by
    intro p q τ2 h1 P1 f1 k2
    unfold f_X10_readPace_b30
    rw [e10]
    unfold pdo at k2
    refine s_isNext (by decide) P1 (fun c h2 P2 f2 => ?_) (fun c => ?_)
    · rw [if_pos c] at k2
      refine ifn oz (s_drift10 P2 ?_)
      cases hp : pdr T t (adv T t τ2) with
      | inl b => rw [hp] at k2; exact fun h' v w0 f => w_item h22 hk w0 ((f1.tr f2).tr f) k2
      | inr d => rw [hp] at k2; exact fun h' P' f => g_item h22 hk P' ((f1.tr f2).tr f) k2
    · rw [if_neg c] at k2
      exact ifp rfl (g_item h22 hk P1 f1 k2)
  refine s_number P ?_
  unfold ppace at kk
  cases hp : pnum T t 1 99 (adv T t τ) with
  | inl b =>
    rw [hp] at kk
    exact fun h1 v w0 f1 => w_isNext w0 (ifp rfl (w_b30 h22 hk w0 f1 kk))
  | inr p =>
    rw [hp] at kk
    intro h1 P1 f1
    have kk : KI T t k h Q (pbd (popt T t 15 0 10 (-100) p.2) (fun q => pbd (pdo T t q.2) (fun d => .inr ((nI (10 + w), p.1, q.1, d.1), d.2)))) := kk
    unfold popt at kk
    refine s_isNext (by decide) P1 (fun c h2 P2 f2 => ?_) (fun c => ?_)
    · rw [if_pos c] at kk
      refine ifn oz (s_number P2 ?_)
      cases hq : pnum T t 0 10 (adv T t p.2) with
      | inl b => rw [hq] at kk; exact fun h' v w0 f => w_b30 h22 hk w0 ((f1.tr f2).tr f) kk
      | inr q => rw [hq] at kk; exact fun h' P' f => last p.1 q.1 q.2 h' P' ((f1.tr f2).tr f) kk
    · rw [if_neg c] at kk
      exact ifp rfl (last p.1 (-100) p.2 h1 P1 f1 kk)
/-- a line: one more is counted -/
def Fl (k : Nat) (h h' : Mem) : Prop := (∀ a, a ≠ 43 → a ≠ 52 → h' a = h a) ∧ (∀ j, j < 15 ∨ j = 20 ∨ j = 21 ∨ 24 ≤ j → h' 43 j = h 43 j) ∧ ∀ i, i < 4 * k → h' 52 i = h 52 i
theorem s_readLine {κ n k : Nat} {s : Int32} {h : Mem} {τ : Tok} {Q : Mem → Prop} (hn : n ≤ 12) (es : s = if 12 ≤ n then 0 else 1) (h22 : h 43 22 = nI k) (h23 : h 43 23 = nI n) (hk : k < 120) (P : P10 T t h τ) (kl : ∀ b, pline T t κ n τ = .inl b → ∀ h', W10 h' b → Fl k h h' → Q h') (kr : ∀ x, pline T t κ n τ = .inr x → ∀ h', P10 T t h' x.2 → IT h' k x.1 → h' 43 22 = nI (k + 1) → h' 43 23 = nI (n + 1) → Fl k h h' → Q h') : f_X10_readItem_b24 Q (nI κ) s h := by
  have flw : ∀ {h1 h2 h3 : Mem}, Fw h h1 → h2 = gm_st h1 43 23 (nI (n + 1)) → Fi k h2 h3 → Fl k h h3 := fun {h1 h2 h3} f1 e2 f3 => ⟨fun a q1 q2 => by rw [f3.1 a q1 q2, e2, st_k q1, f1.1 a q1], fun j q => by rw [f3.2.1 j (by omega), e2, st_j (by omega), f1.2 j (by omega)], fun i q => by rw [f3.2.2 i q, e2, st_k (by decide), f1.1 52 (by decide)]⟩
  unfold f_X10_readItem_b24
  by_cases c : 12 ≤ n
  · have e : pline T t κ n τ = .inl τ.1 := by unfold pline; rw [if_pos c]
    rw [if_pos c] at es
    subst es
    refine s_must0 P (fun h1 w1 f1 => ?_)
    rw [f1.2 23 (by omega), h23, nI_1]
    refine nm ?_
    have w2 : W10 (gm_st h1 43 23 (nI (n + 1))) τ.1 := ⟨by rw [st_j (by decide)]; exact w1.1, by rw [st_j (by decide)]; exact w1.2⟩
    refine w_isNext w2 (ifp rfl ?_)
    unfold f_X10_readItem_b58
    refine w_isNext w2 (ifp rfl (w_item (h := gm_st h1 43 23 (nI (n + 1))) (by rw [st_j (by decide), f1.2 22 (by omega)]; exact h22) hk w2 Fw.rf (fun h' w' f' => kl _ e h' w' (flw f1 rfl f'))))
  · rw [if_neg c] at es
    subst es
    have ep : pline T t κ n τ = pbd (popt T t 13 1 20 5 (adv T t τ)) (fun p => pbd (popt T t 14 0 9 0 p.2) (fun q => .inr ((nI κ, p.1, q.1, 0), q.2))) := by unfold pline; rw [if_neg c]
    refine s_must1 P (fun h1 P1 f1 => ?_)
    rw [f1.2 23 (by omega), h23, nI_1]
    refine nm ?_
    obtain ⟨h2, e2⟩ : ∃ h2, h2 = gm_st h1 43 23 (nI (n + 1)) := ⟨_, rfl⟩
    rw [← e2]
    have P2 : P10 T t h2 (adv T t τ) := by
      rw [e2]
      obtain ⟨⟨c1, c2, c3⟩, ⟨s1, s2, s3, s4⟩, K, w⟩ := P1
      exact ⟨⟨c1, by rw [st_j (by decide)]; exact c2, fun i hi => by rw [st_k (by decide)]; exact c3 i hi⟩, ⟨by rw [st_j (by decide)]; exact s1, by rw [st_j (by decide)]; exact s2, by rw [st_j (by decide)]; exact s3, fun z => by rw [st_j (by decide)]; exact s4 z⟩, K, by rw [st_j (by decide)]; exact w⟩
    have g22 : h2 43 22 = nI k := by rw [e2, st_j (by decide), f1.2 22 (by omega)]; exact h22
    have g23 : h2 43 23 = nI (n + 1) := by rw [e2, st_s]
    have wb : ∀ (b : Nat) (x : Int32) (h3 : Mem), pline T t κ n τ = .inl b → W10 h3 b → Fw h2 h3 → f_X10_readItem_b58 Q (nI κ) x h3 := by
      intro b x h3 eb w3 f3
      unfold f_X10_readItem_b58
      exact w_isNext w3 (ifp rfl (w_item g22 hk w3 f3 (fun h' w' f' => kl b eb h' w' (flw f1 e2 f'))))
    have gb : ∀ (p : Int32 × Tok) (h3 : Mem), popt T t 13 1 20 5 (adv T t τ) = .inr p → P10 T t h3 p.2 → Fw h2 h3 → f_X10_readItem_b58 Q (nI κ) p.1 h3 := by
      intro p h3 hp P3 f3
      rw [hp] at ep
      have ep : pline T t κ n τ = pbd (popt T t 14 0 9 0 p.2) (fun q => .inr ((nI κ, p.1, q.1, 0), q.2)) := ep
      unfold f_X10_readItem_b58
      refine s_isNext (by decide) P3 (fun c h4 P4 f4 => ?_) (fun c => ?_)
      · refine ifn oz (s_number P4 ?_)
        unfold popt at ep
        rw [if_pos c] at ep
        cases hq : pnum T t 0 9 (adv T t p.2) with
        | inl b => rw [hq] at ep; exact fun h' v w0 f => w_item g22 hk w0 ((f3.tr f4).tr f) (fun h' w' f' => kl b ep h' w' (flw f1 e2 f'))
        | inr q => rw [hq] at ep; exact fun h' P' f => g_item g22 hk P' ((f3.tr f4).tr f) (fun h' P' it e fi => kr _ ep h' P' it e (by rw [fi.2.1 23 (by omega)]; exact g23) (flw f1 e2 fi))
      · unfold popt at ep
        rw [if_neg c] at ep
        exact ifp rfl (g_item g22 hk P3 f3 (fun h' P' it e fi => kr _ ep h' P' it e (by rw [fi.2.1 23 (by omega)]; exact g23) (flw f1 e2 fi)))
    refine s_isNext (by decide) P2 (fun c h3 P3 f3 => ?_) (fun c => ?_)
    · refine ifn oz (s_number P3 ?_)
      have eo : popt T t 13 1 20 5 (adv T t τ) = pnum T t 1 20 (adv T t (adv T t τ)) := by unfold popt; rw [if_pos c]
      cases hp : pnum T t 1 20 (adv T t (adv T t τ)) with
      | inl b => exact fun h' v w0 f => wb b v h' (by rw [ep, eo, hp]; rfl) w0 (f3.tr f)
      | inr p => exact fun h' P' f => gb p h' (by rw [eo, hp]) P' (f3.tr f)
    · have eo : popt T t 13 1 20 5 (adv T t τ) = .inr (5, adv T t τ) := by unfold popt; rw [if_neg c]
      exact ifp rfl (gb (5, adv T t τ) h2 eo P2 Fw.rf)
end
