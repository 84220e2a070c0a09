/-! TEXT: whole items of the class -/
section
variable {T : Row} {t : Nat}
theorem P9.fr {h h' : Mem} {τ : Tok} (P : P9 T t h τ) (e0 : h' 30 = h 30) (e1 : h' 31 = h 31) (e2 : h' 32 = h 32) : P9 T t h' τ := by
  obtain ⟨⟨c1, c2, c3, c4, c5⟩, ⟨s1, s2, s3, s4⟩, K⟩ := P
  exact ⟨⟨c1, by rw [e0]; exact c2, fun i hi => by rw [e1]; exact c3 i hi, by rw [e2]; exact c4, by rw [e2]; exact c5⟩, ⟨by rw [e2]; exact s1, by rw [e2]; exact s2, by rw [e2]; exact s3, fun z => by rw [e2]; exact s4 z⟩, K⟩
theorem K9.b {α : Type} {h : Mem} {Q : Int32 → Mem → Prop} {o : Nat ⊕ (α × Tok)} {R : α → Row} (k : K9 T t h Q o R) : K9 T t h (fun r h => gm_b r ∧ Q r h) o R := by
  cases o with
  | inl b => exact fun h' e f => ⟨gm_b0, k h' e f⟩
  | inr x => exact fun h' P A f => ⟨gm_b1, k h' P A f⟩
theorem K9.w {α : Type} {h h1 : Mem} {Q : Int32 → Mem → Prop} {o : Nat ⊕ (α × Tok)} {R : α → Row} (f0 : FrT h h1) (k : K9 T t h Q o R) : K9 T t h1 Q o R := by
  cases o with
  | inl b => exact fun h' e f => k h' e (f0.tr f)
  | inr x => exact fun h' P A f => k h' P A (f0.tr f)
theorem pnum_v {lo hi : Int32} {τ : Tok} {x : Int32 × Tok} (e : pnum T t lo hi τ = .inr x) : lo ≤ x.1 ∧ x.1 ≤ hi := by
  unfold pnum at e
  by_cases c : isnb lo hi τ = true
  · rw [if_pos c] at e
    cases e
    exact (of_decide_eq_true c).2
  · rw [if_neg c] at e; cases e
theorem ne100 {v : Int32} (h : (0 : Int32) ≤ v) : ¬ v = -100 := fun z => by rw [z] at h; exact absurd h (by decide)
theorem pdr_v {τ : Tok} {x : Int32 × Tok} (e : pdr T t τ = .inr x) : -9 ≤ x.1.toInt ∧ x.1.toInt ≤ 9 := by
  unfold pdr at e
  by_cases c : mnb T τ = true
  · rw [if_pos c] at e
    cases hp : pnum T t 0 9 (adv T t τ) with
    | inl b => rw [hp] at e; cases e
    | inr y =>
      rw [hp] at e
      cases e
      have v := pnum_v hp
      have v1 := (fa_le _ _).mp v.1
      have v2 := (fa_le _ _).mp v.2
      have e9 : (9 : Int32).toInt = 9 := rfl
      rw [i0] at v1
      rw [e9] at v2
      show -9 ≤ (-y.1).toInt ∧ (-y.1).toInt ≤ 9
      rw [fb_negI (by omega)]
      omega
  · rw [if_neg c] at e
    have v := pnum_v e
    have v1 := (fa_le _ _).mp v.1
    have v2 := (fa_le _ _).mp v.2
    have e9 : (9 : Int32).toInt = 9 := rfl
    rw [i0] at v1
    rw [e9] at v2
    omega
theorem app_pace {M : Row} {n w : Nat} {p q d : Int32} (hw : w < 2) : app M n (nI (10 + w), p, q, d) = told (told (upd M (6 + w) p) (6 + (2 + w)) q) (6 + (4 + w)) d := by
  have : w = 0 ∨ w = 1 := by omega
  unfold app
  dsimp only
  rcases this with rfl | rfl
  · rw [if_neg (by decide), if_pos (by decide)]
  · rw [if_neg (by decide), if_neg (by decide), if_pos (by decide)]
theorem app_rule {M : Row} {n r : Nat} {p : Int32} (hr : 6 ≤ r) (hr2 : r < 10) : app M n (nI (10 + r), p, -100, -100) = upd M (6 + r) p := by
  have : r = 6 ∨ r = 7 ∨ r = 8 ∨ r = 9 := by omega
  unfold app
  dsimp only
  rcases this with rfl | rfl | rfl | rfl
  · rw [if_neg (by decide), if_neg (by decide), if_neg (by decide)]; rfl
  · rw [if_neg (by decide), if_neg (by decide), if_neg (by decide)]; rfl
  · rw [if_neg (by decide), if_neg (by decide), if_neg (by decide)]; rfl
  · rw [if_neg (by decide), if_neg (by decide), if_neg (by decide)]; rfl
theorem app_line {M : Row} {n κ : Nat} {p q : Int32} (hκ : κ < 7) : app M n (nI κ, p, q, 0) = n_add M n (nI κ) p q := by
  unfold app
  exact if_pos (nI_lt (b := 10) (by omega) (by decide))
theorem s_takePace {w n : Nat} {h : Mem} {τ : Tok} {M : Row} {Q : Int32 → Mem → Prop} (hw : w < 2) (P : P9 T t h τ) (hM : A9 h 13 M) (k : K9 T t h Q (ppace T t w τ) (app M n)) : f_X3_takePace (nI w) h Q := by
  unfold f_X3_takePace
  have z0 : (0 : Int32) + nI w = nI w := Int32.zero_add _
  have z2 : (2 : Int32) + nI w = nI (2 + w) := nI_add 2 w
  have z4 : (4 : Int32) + nI w = nI (4 + w) := nI_add 4 w
  have eL : ruleL w = 1 ∧ ruleH w = 99 ∧ ruleL (2 + w) = 0 ∧ ruleH (2 + w) = 10 := by
    have : w = 0 ∨ w = 1 := by omega
    rcases this with rfl | rfl <;> exact ⟨rfl, rfl, rfl, rfl⟩
  rw [z0, z2]
  -- the drift, behind pace p and weight q
  have last : ∀ (p q : Int32) (τ2 : Tok) (h1 : Mem) (M2 : Row), P9 T t h1 τ2 → A9 h1 13 M2 → FrT h h1 → M2 = told (upd M (6 + w) p) (6 + (2 + w)) q → K9 T t h Q (pbd (pdo T t τ2) (fun d => .inr ((nI (10 + w), p, q, d.1), d.2))) (app M n) → f_X3_takePace_b33 (nI w) Q h1 := by
    intro p q τ2 h1 M2 P1 A1 f1 eM kk
    unfold f_X3_takePace_b33
    rw [z4]
    refine s_isWord9 (by decide) P1.1 P1.2.1 P1.2.2 ?_
    unfold pdo at kk
    by_cases c : isw T 16 τ2 = true
    · rw [if_pos c] at kk ⊢
      refine ifn oz (s_takeDrift hw P1 A1 ?_)
      cases hp : pdr T t (adv T t τ2) with
      | inl b =>
        rw [hp] at kk
        exact fun h' e f => ifp rfl (kk h' e (f1.tr f))
      | inr d =>
        rw [hp] at kk
        refine fun h' P' A' f => ifn oz (kk h' P' ?_ (f1.tr f))
        show A9 h' 13 (app M n (nI (10 + w), p, q, d.1))
        rw [app_pace hw, ← eM]
        have v := pdr_v hp
        have nd : ¬ d.1 = -100 := fun z => by
          have : d.1.toInt = -100 := by rw [z]; rfl
          omega
        unfold told
        rw [if_neg nd]
        exact A'
    · rw [if_neg c] at kk ⊢
      refine ifp rfl (kk h1 P1 ?_ f1)
      show A9 h1 13 (app M n (nI (10 + w), p, q, -100))
      rw [app_pace hw, ← eM]
      unfold told
      rw [if_pos rfl]
      exact A1
  refine s_takeRule (by omega) P hM ?_
  rw [eL.1, eL.2.1]
  unfold ppace at k
  cases hp : pnum T t 1 99 (adv T t τ) with
  | inl b =>
    rw [hp] at k
    exact fun h' e f => ifp rfl (k h' e f)
  | inr p =>
    rw [hp] at k
    intro h1 P1 A1 f1
    have k : K9 T t h Q (pbd (popt T t 15 0 10 (-100) p.2) (fun q => pbd (pdo T t q.2) (fun d => .inr ((nI (10 + w), p.1, q.1, d.1), d.2)))) (app M n) := k
    refine ifn oz (s_isWord9 (by decide) P1.1 P1.2.1 P1.2.2 ?_)
    unfold popt at k
    by_cases c : isw T 15 p.2 = true
    · rw [if_pos c] at k ⊢
      refine ifn oz (s_takeRule (by omega) P1 A1 ?_)
      rw [eL.2.2.1, eL.2.2.2]
      cases hq : pnum T t 0 10 (adv T t p.2) with
      | inl b =>
        rw [hq] at k
        exact fun h' e f => ifp rfl (k h' e (f1.tr f))
      | inr q =>
        rw [hq] at k
        refine fun h' P' A' f => ifn oz (last p.1 q.1 q.2 h' _ P' A' (f1.tr f) ?_ k)
        unfold told
        rw [if_neg (ne100 (pnum_v hq).1)]
    · rw [if_neg c] at k ⊢
      refine ifp rfl (last p.1 (-100) p.2 h1 _ P1 A1 f1 ?_ k)
      unfold told
      rw [if_pos rfl]
theorem s_takeRuleI {r n : Nat} {h : Mem} {τ : Tok} {M : Row} {Q : Int32 → Mem → Prop} (hr : 6 ≤ r) (hr2 : r < 10) (P : P9 T t h τ) (hM : A9 h 13 M) (k : K9 T t h Q (prule T t r τ) (app M n)) : f_X3_takeRule (nI r) h Q := by
  refine s_takeRule hr2 P hM ?_
  unfold prule at k
  cases hp : pnum T t (ruleL r) (ruleH r) (adv T t τ) with
  | inl b => rw [hp] at k; exact k
  | inr p =>
    rw [hp] at k
    refine fun h' P' A' f => k h' P' ?_ f
    show A9 h' 13 (app M n (nI (10 + r), p.1, -100, -100))
    rw [app_rule hr hr2]
    exact A'
theorem s_takeLine {κ n : Nat} {h : Mem} {τ : Tok} {M : Row} {Q : Int32 → Mem → Prop} (hκ : κ < 7) (hn : n ≤ 12) (P : P9 T t h τ) (hM : A9 h 13 M) (h4 : M 4 = nI n) (k : K9 T t h Q (pline T t κ n τ) (app M n)) : f_X3_takeLine (nI κ) h Q := by
  unfold f_X3_takeLine f_X6_hasRoom
  refine ⟨P.1.2.2.2.2, ?_⟩
  rw [hM.1.2.2.2.2.1, h4]
  unfold pline at k
  by_cases c : 12 ≤ n
  · rw [if_pos c] at k
    exact ifp (nI_le (a := 12) c (by omega)) (ifp rfl (k h P.2.1.2.1 (fun _ _ => rfl)))
  · rw [if_neg c] at k
    refine ifn (nI_ge (b := 12) (by omega) (by decide)) (ifn oz ⟨P.1.2.2.2.2, s_addLine hM h4 (by omega) (fun h1 A1 f1 => ?_)⟩)
    have P1 : P9 T t h1 τ := P.fr (f1 30 (by omega) (by omega) (by omega) (by omega)) (f1 31 (by omega) (by omega) (by omega) (by omega)) (f1 32 (by omega) (by omega) (by omega) (by omega))
    have g1 : FrT h h1 := fun a q => f1 a (by omega) (by omega) (by omega) (by omega)
    refine s_adv9 P1 (fun h2 P2 f2 => ?_)
    have A2 : A9 h2 13 (n_add M n (nI κ) 5 0) := A1.fr (fun a _ _ => f2 a (by omega))
    have g2 : FrT h h2 := g1.tr f2.ft
    have e5 : n_add M n (nI κ) 5 0 (26 + 3 * n + 1) = 5 := by unfold n_add; rw [up_n (by omega), up_n (by omega), up_s]
    refine s_takeFeature (i := 13) (f := 1) (lo := 1) (hi := 20) (by decide) (Or.inl rfl) (by omega) rfl rfl e5 P2 A2 ?_
    cases hp : popt T t 13 1 20 5 (adv T t τ) with
    | inl b => rw [hp] at k; exact fun h' e f => ifp rfl (k h' e (g2.tr f))
    | inr p =>
      rw [hp] at k
      intro h3 P3 A3 f3
      have k : K9 T t h Q (pbd (popt T t 14 0 9 0 p.2) (fun q => .inr ((nI κ, p.1, q.1, 0), q.2))) (app M n) := k
      have e0 : upd (n_add M n (nI κ) 5 0) (26 + 3 * n + 1) p.1 (26 + 3 * n + 2) = 0 := by rw [up_n (by omega)]; unfold n_add; rw [up_n (by omega), up_s]
      refine ifn oz (s_takeFeature (i := 14) (f := 2) (lo := 0) (hi := 9) (by decide) (Or.inr rfl) (by omega) rfl rfl e0 P3 A3 ?_)
      cases hq : popt T t 14 0 9 0 p.2 with
      | inl b => rw [hq] at k; exact fun h' e f => ifp rfl (k h' e ((g2.tr f3).tr f))
      | inr q =>
        rw [hq] at k
        refine fun h' P' A' f => ifn oz (k h' P' ?_ ((g2.tr f3).tr f))
        show A9 h' 13 (app M n (nI κ, p.1, q.1, 0))
        rw [app_line hκ]
        refine A'.same (fun j _ => ?_)
        unfold n_add
        simp only [up_at]
        by_cases q1 : j = 4
        · have n2 : ¬ j = 26 + 3 * n + 2 := by omega
          have n1 : ¬ j = 26 + 3 * n + 1 := by omega
          simp only [if_pos q1, if_neg n2, if_neg n1]
        · by_cases q2 : j = 26 + 3 * n + 2
          · simp only [if_pos q2, if_neg q1]
          · by_cases q3 : j = 26 + 3 * n + 1
            · simp only [if_pos q3, if_neg q1, if_neg q2]
            · simp only [if_neg q3, if_neg q1, if_neg q2]
theorem kin_spec (τ : Tok) : kin T τ ≤ 7 ∧ (∀ κ, κ < kin T τ → ¬ isw T κ τ = true) ∧ (kin T τ < 7 → isw T (kin T τ) τ = true) := by
  unfold kin
  by_cases c0 : isw T 0 τ = true
  · rw [if_pos c0]; exact ⟨by decide, fun κ h => by omega, fun _ => c0⟩
  rw [if_neg c0]
  by_cases c1 : isw T 1 τ = true
  · rw [if_pos c1]; exact ⟨by decide, fun κ h => by have : κ = 0 := (by omega); subst this; exact c0, fun _ => c1⟩
  rw [if_neg c1]
  by_cases c2 : isw T 2 τ = true
  · rw [if_pos c2]; exact ⟨by decide, fun κ h => by have : κ = 0 ∨ κ = 1 := (by omega); rcases this with rfl | rfl <;> assumption, fun _ => c2⟩
  rw [if_neg c2]
  by_cases c3 : isw T 3 τ = true
  · rw [if_pos c3]; exact ⟨by decide, fun κ h => by have : κ = 0 ∨ κ = 1 ∨ κ = 2 := (by omega); rcases this with rfl | rfl | rfl <;> assumption, fun _ => c3⟩
  rw [if_neg c3]
  by_cases c4 : isw T 4 τ = true
  · rw [if_pos c4]; exact ⟨by decide, fun κ h => by have : κ = 0 ∨ κ = 1 ∨ κ = 2 ∨ κ = 3 := (by omega); rcases this with rfl | rfl | rfl | rfl <;> assumption, fun _ => c4⟩
  rw [if_neg c4]
  by_cases c5 : isw T 5 τ = true
  · rw [if_pos c5]; exact ⟨by decide, fun κ h => by have : κ = 0 ∨ κ = 1 ∨ κ = 2 ∨ κ = 3 ∨ κ = 4 := (by omega); rcases this with rfl | rfl | rfl | rfl | rfl <;> assumption, fun _ => c5⟩
  rw [if_neg c5]
  by_cases c6 : isw T 6 τ = true
  · rw [if_pos c6]; exact ⟨by decide, fun κ h => by have : κ = 0 ∨ κ = 1 ∨ κ = 2 ∨ κ = 3 ∨ κ = 4 ∨ κ = 5 := (by omega); rcases this with rfl | rfl | rfl | rfl | rfl | rfl <;> assumption, fun _ => c6⟩
  rw [if_neg c6]
  exact ⟨by decide, fun κ h => by have : κ = 0 ∨ κ = 1 ∨ κ = 2 ∨ κ = 3 ∨ κ = 4 ∨ κ = 5 ∨ κ = 6 := (by omega); rcases this with rfl | rfl | rfl | rfl | rfl | rfl | rfl <;> assumption, fun h => by omega⟩
theorem s_nameOf {κ : Nat} {h : Mem} {Q : Nat → Mem → Prop} (hκ : κ < 7) (k : Q (100 + κ) h) : f_X3_nameOf (nI κ) h Q := by
  unfold f_X3_nameOf
  have : κ = 0 ∨ κ = 1 ∨ κ = 2 ∨ κ = 3 ∨ κ = 4 ∨ κ = 5 ∨ κ = 6 := by omega
  rcases this with rfl | rfl | rfl | rfl | rfl | rfl | rfl
  · exact ifn (by decide) (ifn (by decide) (ifn (by decide) (ifn (by decide) (ifn (by decide) (ifn (by decide) k)))))
  · exact ifp (by decide) k
  · exact ifn (by decide) (ifp (by decide) k)
  · exact ifn (by decide) (ifn (by decide) (ifp (by decide) k))
  · exact ifn (by decide) (ifn (by decide) (ifn (by decide) (ifp (by decide) k)))
  · exact ifn (by decide) (ifn (by decide) (ifn (by decide) (ifn (by decide) (ifp (by decide) k))))
  · exact ifn (by decide) (ifn (by decide) (ifn (by decide) (ifn (by decide) (ifn (by decide) (ifp (by decide) k)))))
theorem isw_c {i : Nat} {τ : Tok} (h : isw T i τ = true) : τ.2.2.1 = 1 := (of_decide_eq_true h).1
theorem s_takeItem {n : Nat} {h : Mem} {τ : Tok} {M : Row} {Q : Int32 → Mem → Prop} (hn : n ≤ 12) (P : P9 T t h τ) (hM : A9 h 13 M) (h4 : M 4 = nI n) (k : K9 T t h Q (pitem T t n τ) (app M n)) : f_X3_takeItem h Q := by
  obtain ⟨k1, k2, k3⟩ := kin_spec (T := T) τ
  have isWd : ∀ (i : Nat) (Q' : Int32 → Mem → Prop), i < 17 → Q' (if isw T i τ = true then 1 else 0) h → f_X3_isWord i h Q' := fun i Q' hi q => s_isWord9 hi P.1 P.2.1 P.2.2 q
  unfold f_X3_takeItem
  rw [P.2.1.1]
  by_cases c1 : τ.2.2.1 = 1
  · refine ifp (by unfold tc; rw [c1]; rfl) ?_
    refine lo1 nI (kin T τ) (fun κ h' => h' = h) rfl (by omega) rfl ?_ ?_
    · rintro K h' rfl
      unfold f_X3_takeItem_b12
      unfold pitem at k
      by_cases c7 : kin T τ < 7
      · rw [if_pos c7] at k
        refine ifn (nI_nlt (a := 6) (by omega) (by decide)) (s_nameOf c7 ⟨kin T τ, ⟨by omega, rfl⟩, isWd _ _ (by omega) ?_⟩)
        rw [if_pos (k3 c7)]
        exact ifn oz (s_takeLine c7 hn P hM h4 k.b)
      · rw [if_neg c7] at k
        refine ifp (nI_lt (a := 6) (by omega) (by omega)) (isWd 7 _ (by decide) ?_)
        by_cases d7 : isw T 7 τ = true
        · rw [if_pos d7] at k ⊢
          exact ifn oz (s_takePace (w := 0) (n := n) (by decide) P hM k.b)
        · rw [if_neg d7] at k ⊢
          refine ifp rfl (isWd 8 _ (by decide) ?_)
          by_cases d8 : isw T 8 τ = true
          · rw [if_pos d8] at k ⊢
            exact ifn oz (s_takePace (w := 1) (n := n) (by decide) P hM k.b)
          · rw [if_neg d8] at k ⊢
            refine ifp rfl (isWd 9 _ (by decide) ?_)
            by_cases d9 : isw T 9 τ = true
            · rw [if_pos d9] at k ⊢
              exact ifn oz (s_takeRuleI (r := 7) (n := n) (by decide) (by decide) P hM k.b)
            · rw [if_neg d9] at k ⊢
              refine ifp rfl (isWd 10 _ (by decide) ?_)
              by_cases d10 : isw T 10 τ = true
              · rw [if_pos d10] at k ⊢
                exact ifn oz (s_takeRuleI (r := 6) (n := n) (by decide) (by decide) P hM k.b)
              · rw [if_neg d10] at k ⊢
                refine ifp rfl (isWd 11 _ (by decide) ?_)
                by_cases d11 : isw T 11 τ = true
                · rw [if_pos d11] at k ⊢
                  exact ifn oz (s_takeRuleI (r := 8) (n := n) (by decide) (by decide) P hM k.b)
                · rw [if_neg d11] at k ⊢
                  refine ifp rfl (isWd 12 _ (by decide) ?_)
                  by_cases d12 : isw T 12 τ = true
                  · rw [if_pos d12] at k ⊢
                    refine ifn oz (s_takeRuleI (r := 9) (n := n) (by decide) (by decide) P hM ?_)
                    cases hp : prule T t 9 τ with
                    | inl b => rw [hp] at k; exact fun h' e f => ifp rfl (k h' e f)
                    | inr x => rw [hp] at k; exact fun h' P' A' f => ifn oz (k h' P' A' f)
                  · rw [if_neg d12] at k ⊢
                    exact ifp rfl (k h' P.2.1.2.1 (fun _ _ => rfl))
    · rintro K κ h' hκ rfl hK
      unfold f_X3_takeItem_b12
      refine ifn (nI_nlt (a := 6) (b := κ) (by omega) (by decide)) (s_nameOf (by omega) ⟨κ, ⟨by omega, rfl⟩, isWd _ _ (by omega) ?_⟩)
      rw [if_neg (k2 κ hκ), nI_1]
      exact ifp rfl (nm (hK h' rfl))
  · have no : ∀ i, ¬ isw T i τ = true := fun i z => c1 (isw_c z)
    have e7 : ¬ kin T τ < 7 := fun z => no _ (k3 z)
    unfold pitem at k
    rw [if_neg e7, if_neg (no 7), if_neg (no 8), if_neg (no 9), if_neg (no 10), if_neg (no 11), if_neg (no 12)] at k
    refine ifn (fun z => c1 ?_) (k h P.2.1.2.1 (fun _ _ => rfl))
    unfold tc at z
    rcases P.2.2.2.2.2.1 with q | q | q | q
    · simp [q] at z
    · exact q
    · simp [q] at z
    · by_cases s1 : T τ.1 = 59
      · simp [q, s1] at z
      · by_cases s2 : T τ.1 = 45
        · simp [q, s1, s2] at z
        · simp [q, s1, s2] at z
end
