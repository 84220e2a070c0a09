/-! TEXT: all items -/
section
variable {T : Row} {t : Nat}
theorem adv_pos {τ : Tok} (ht : t ≤ 120) (x : TK t 0 τ) : τ.2.1 ≤ (adv T t τ).1 ∧ TK t 0 (adv T t τ) := ⟨(nx_TK (T := T) ht (p := τ.2.1) x.2.2.1).1, adv_TK ht x⟩
theorem pnum_pos {lo hi : Int32} {τ : Tok} {x : Int32 × Tok} (ht : t ≤ 120) (K : TK t 0 τ) (e : pnum T t lo hi τ = .inr x) : τ.2.1 ≤ x.2.1 ∧ TK t 0 x.2 := by
  unfold pnum at e
  by_cases c : isnb lo hi τ = true
  · rw [if_pos c] at e; cases e; exact adv_pos ht K
  · rw [if_neg c] at e; cases e
theorem popt_pos {i : Nat} {lo hi d : Int32} {τ : Tok} {x : Int32 × Tok} (ht : t ≤ 120) (K : TK t 0 τ) (e : popt T t i lo hi d τ = .inr x) : τ.1 ≤ x.2.1 ∧ TK t 0 x.2 := by
  unfold popt at e
  by_cases c : isw T i τ = true
  · rw [if_pos c] at e
    obtain ⟨a1, a2⟩ := adv_pos (T := T) ht K
    obtain ⟨b1, b2⟩ := pnum_pos ht a2 e
    have := K.2.1
    have := a2.2.1
    exact ⟨by omega, b2⟩
  · rw [if_neg c] at e; cases e; exact ⟨Nat.le_refl _, K⟩
theorem pdr_pos {τ : Tok} {x : Int32 × Tok} (ht : t ≤ 120) (K : TK t 0 τ) (e : pdr T t τ = .inr x) : τ.1 ≤ x.2.1 ∧ TK t 0 x.2 := by
  unfold pdr at e
  obtain ⟨a1, a2⟩ := adv_pos (T := T) ht K
  have h1 := K.2.1
  have h2 := a2.2.1
  by_cases c : mnb T τ = true
  · rw [if_pos c] at e
    cases hp : pnum T t 0 9 (adv T t τ) with
    | inl b => rw [hp] at e; cases e
    | inr y =>
      rw [hp] at e
      cases e
      obtain ⟨b1, b2⟩ := pnum_pos ht a2 hp
      exact ⟨by show τ.1 ≤ y.2.1; omega, b2⟩
  · rw [if_neg c] at e
    obtain ⟨b1, b2⟩ := pnum_pos ht K e
    exact ⟨by omega, b2⟩
theorem pdo_pos {τ : Tok} {x : Int32 × Tok} (ht : t ≤ 120) (K : TK t 0 τ) (e : pdo T t τ = .inr x) : τ.1 ≤ x.2.1 ∧ TK t 0 x.2 := by
  unfold pdo at e
  by_cases c : isw T 16 τ = true
  · rw [if_pos c] at e
    obtain ⟨a1, a2⟩ := adv_pos (T := T) ht K
    obtain ⟨b1, b2⟩ := pdr_pos ht a2 e
    have := K.2.1
    exact ⟨by omega, b2⟩
  · rw [if_neg c] at e; cases e; exact ⟨Nat.le_refl _, K⟩
theorem ppace_pos {w : Nat} {τ : Tok} {x : It × Tok} (ht : t ≤ 120) (K : TK t 0 τ) (e : ppace T t w τ = .inr x) : τ.2.1 ≤ x.2.1 ∧ TK t 0 x.2 := by
  unfold ppace at e
  obtain ⟨a1, a2⟩ := adv_pos (T := T) ht K
  have h2 := a2.2.1
  cases hp : pnum T t 1 99 (adv T t τ) with
  | inl b => rw [hp] at e; cases e
  | inr p =>
    rw [hp] at e
    have e : pbd (popt T t 15 0 10 (-100) p.2) (fun q => pbd (pdo T t q.2) (fun d => .inr ((nI (10 + w), p.1, q.1, d.1), d.2))) = .inr x := e
    obtain ⟨p1, p2⟩ := pnum_pos ht a2 hp
    cases hq : popt T t 15 0 10 (-100) p.2 with
    | inl b => rw [hq] at e; cases e
    | inr q =>
      rw [hq] at e
      have e : pbd (pdo T t q.2) (fun d => .inr ((nI (10 + w), p.1, q.1, d.1), d.2)) = .inr x := e
      obtain ⟨q1, q2⟩ := popt_pos ht p2 hq
      cases hd : pdo T t q.2 with
      | inl b => rw [hd] at e; cases e
      | inr d =>
        rw [hd] at e
        cases e
        obtain ⟨d1, d2⟩ := pdo_pos ht q2 hd
        exact ⟨by show τ.2.1 ≤ d.2.1; omega, d2⟩
theorem prule_pos {r : Nat} {τ : Tok} {x : It × Tok} (ht : t ≤ 120) (K : TK t 0 τ) (e : prule T t r τ = .inr x) : τ.2.1 ≤ x.2.1 ∧ TK t 0 x.2 := by
  unfold prule at e
  obtain ⟨a1, a2⟩ := adv_pos (T := T) ht K
  have h2 := a2.2.1
  cases hp : pnum T t (ruleL r) (ruleH r) (adv T t τ) with
  | inl b => rw [hp] at e; cases e
  | inr p =>
    rw [hp] at e
    cases e
    obtain ⟨p1, p2⟩ := pnum_pos ht a2 hp
    exact ⟨by show τ.2.1 ≤ p.2.1; omega, p2⟩
theorem pline_pos {κ n : Nat} {τ : Tok} {x : It × Tok} (ht : t ≤ 120) (K : TK t 0 τ) (e : pline T t κ n τ = .inr x) : τ.2.1 ≤ x.2.1 ∧ TK t 0 x.2 := by
  unfold pline at e
  obtain ⟨a1, a2⟩ := adv_pos (T := T) ht K
  by_cases c : 12 ≤ n
  · rw [if_pos c] at e; cases e
  · rw [if_neg c] at e
    cases hp : popt T t 13 1 20 5 (adv T t τ) with
    | inl b => rw [hp] at e; cases e
    | inr p =>
      rw [hp] at e
      have e : pbd (popt T t 14 0 9 0 p.2) (fun q => .inr ((nI κ, p.1, q.1, 0), q.2)) = .inr x := e
      obtain ⟨p1, p2⟩ := popt_pos ht a2 hp
      cases hq : popt T t 14 0 9 0 p.2 with
      | inl b => rw [hq] at e; cases e
      | inr q =>
        rw [hq] at e
        cases e
        obtain ⟨q1, q2⟩ := popt_pos ht p2 hq
        exact ⟨by show τ.2.1 ≤ q.2.1; omega, q2⟩
theorem pitem_pos {n : Nat} {τ : Tok} {x : It × Tok} (ht : t ≤ 120) (K : TK t 0 τ) (e : pitem T t n τ = .inr x) : τ.1 + 1 ≤ x.2.1 ∧ TK t 0 x.2 := by
  have go : ∀ i, isw T i τ = true → τ.2.1 ≤ x.2.1 ∧ TK t 0 x.2 → τ.1 + 1 ≤ x.2.1 ∧ TK t 0 x.2 := fun i hi z => by
    have := K.2.2.2.2.2 (by rw [isw_c hi]; decide)
    exact ⟨by omega, z.2⟩
  unfold pitem at e
  by_cases c7 : kin T τ < 7
  · rw [if_pos c7] at e; exact go _ ((kin_spec τ).2.2 c7) (pline_pos ht K e)
  rw [if_neg c7] at e
  by_cases d7 : isw T 7 τ = true
  · rw [if_pos d7] at e; exact go _ d7 (ppace_pos ht K e)
  rw [if_neg d7] at e
  by_cases d8 : isw T 8 τ = true
  · rw [if_pos d8] at e; exact go _ d8 (ppace_pos ht K e)
  rw [if_neg d8] at e
  by_cases d9 : isw T 9 τ = true
  · rw [if_pos d9] at e; exact go _ d9 (prule_pos ht K e)
  rw [if_neg d9] at e
  by_cases d10 : isw T 10 τ = true
  · rw [if_pos d10] at e; exact go _ d10 (prule_pos ht K e)
  rw [if_neg d10] at e
  by_cases d11 : isw T 11 τ = true
  · rw [if_pos d11] at e; exact go _ d11 (prule_pos ht K e)
  rw [if_neg d11] at e
  by_cases d12 : isw T 12 τ = true
  · rw [if_pos d12] at e; exact go _ d12 (prule_pos ht K e)
  rw [if_neg d12] at e
  cases e
theorem told_4 {M : Row} {r : Nat} {v : Int32} (h : 4 ≠ r) : told M r v 4 = M 4 := by
  unfold told
  by_cases c : v = -100
  · rw [if_pos c]
  · rw [if_neg c, up_n h]
theorem app_4 {M : Row} {n : Nat} {it : It} (h4 : M 4 = nI n) (hn : n ≤ 12) (hv : vit n it) : app M n it 4 = nI (nl n it) ∧ nl n it ≤ 12 := by
  rcases hv with ⟨κ, p, q, hκ, rfl, hn', -⟩ | ⟨w, p, q, d, hw, rfl, -⟩ | ⟨r, p, hr, hr2, rfl, -⟩
  · rw [app_line hκ, nl_l hκ]
    exact ⟨by unfold n_add; rw [up_s], by omega⟩
  · rw [app_pace hw, nl_p (by omega), told_4 (by omega), told_4 (by omega), up_n (by omega)]
    exact ⟨h4, hn⟩
  · rw [app_rule hr hr2, nl_p (by omega), up_n (by omega)]
    exact ⟨h4, hn⟩
theorem app_Dom {M : Row} {n : Nat} {it : It} (hD : Dom M) (h4 : M 4 = nI n) (hv : vit n it) : Dom (app M n it) := by
  rcases hv with ⟨κ, p, q, hκ, rfl, hn', hp, hq⟩ | ⟨w, p, q, d, hw, rfl, hp, hq, hd⟩ | ⟨r, p, hr, hr2, rfl, hp⟩
  · rw [app_line hκ]
    exact hD.add h4 hn' (by rw [nI_toInt (by omega)]; omega) ⟨(fa_le _ _).mp hp.1, (fa_le _ _).mp hp.2⟩ ⟨(fa_le _ _).mp hq.1, (fa_le _ _).mp hq.2⟩
  · rw [app_pace hw]
    have lo : ruleLo w = 1 ∧ ruleHi w = 99 ∧ ruleLo (2 + w) = 0 ∧ ruleHi (2 + w) = 10 ∧ ruleLo (4 + w) = -9 ∧ ruleHi (4 + w) = 9 := by
      have : w = 0 ∨ w = 1 := by omega
      rcases this with rfl | rfl <;> exact ⟨rfl, rfl, rfl, rfl, rfl, rfl⟩
    have D1' : Dom (upd M (6 + w) p) := hD.rule (by omega) (by rw [lo.1]; exact (fa_le _ _).mp hp.1) (by rw [lo.2.1]; exact (fa_le _ _).mp hp.2)
    have D2' : Dom (told (upd M (6 + w) p) (6 + (2 + w)) q) := by
      unfold told
      by_cases c : q = -100
      · rw [if_pos c]; exact D1'
      · rw [if_neg c]
        rcases hq with z | z
        · exact absurd z c
        · exact D1'.rule (by omega) (by rw [lo.2.2.1]; exact (fa_le _ _).mp z.1) (by rw [lo.2.2.2.1]; exact (fa_le _ _).mp z.2)
    unfold told
    by_cases c : d = -100
    · rw [if_pos c]; exact D2'
    · rw [if_neg c]
      rcases hd with z | z
      · exact absurd z c
      · exact D2'.rule (by omega) (by rw [lo.2.2.2.2.1]; exact z.1) (by rw [lo.2.2.2.2.2]; exact z.2)
  · rw [app_rule hr hr2]
    exact hD.rule hr2 (by rw [← ruleL_i r hr2]; exact (fa_le _ _).mp hp.1) (by rw [← ruleH_i r hr2]; exact (fa_le _ _).mp hp.2)
def scb (T : Row) (σ : Tok) : Bool := decide (σ.2.2.1 = 3 ∧ T σ.1 = 59)
/-- the items of a text from token τ on: k are done, M is the row, n its lines; inl: the fault's place -/
def prs (T : Row) (t : Nat) : Nat → Row → Nat → Nat → Tok → Nat ⊕ (Nat × Row)
  | 0, _, _, _, τ => .inl τ.1
  | f + 1, M, n, k, τ => pbd (pitem T t n τ) (fun x => if x.2.2.2.1 = 0 then .inr (k + 1, app M n x.1) else if scb T x.2 = true then prs T t f (app M n x.1) (nl n x.1) (k + 1) (adv T t x.2) else .inl x.2.1)
theorem prs_Dom : ∀ f M n k τ y, Dom M → M 4 = nI n → n ≤ 12 → prs T t f M n k τ = .inr y → Dom y.2 ∧ k < y.1 ∧ y.1 ≤ k + f := by
  intro f
  induction f with
  | zero => intro M n k τ y _ _ _ e; cases e
  | succ f ih =>
    intro M n k τ y hD h4 hn e
    unfold prs at e
    cases hp : pitem T t n τ with
    | inl b => rw [hp] at e; cases e
    | inr x =>
      rw [hp] at e
      have e : (if x.2.2.2.1 = 0 then Sum.inr (k + 1, app M n x.1) else if scb T x.2 = true then prs T t f (app M n x.1) (nl n x.1) (k + 1) (adv T t x.2) else .inl x.2.1) = .inr y := e
      have hv := pitem_v hp
      have a4 := app_4 h4 hn hv
      by_cases c0 : x.2.2.2.1 = 0
      · rw [if_pos c0] at e; cases e; exact ⟨app_Dom hD h4 hv, by show k < k + 1; omega, by show k + 1 ≤ _; omega⟩
      · rw [if_neg c0] at e
        by_cases c1 : scb T x.2 = true
        · rw [if_pos c1] at e
          have z := ih _ _ _ _ y (app_Dom hD h4 hv) a4.1 a4.2 e
          exact ⟨z.1, by omega, by omega⟩
        · rw [if_neg c1] at e; cases e
theorem tc_0 {τ : Tok} (K : TK t 0 τ) : tc T τ = 0 ↔ τ.2.2.1 = 0 := by
  unfold tc
  rcases K.2.2.2.1 with q | q | q | q
  · simp [q]
  · simp [q]
  · simp [q]
  · rw [q]
    by_cases s1 : T τ.1 = 59
    · simp [s1]
    · by_cases s2 : T τ.1 = 45
      · simp [s1, s2]
      · simp [s1, s2]
theorem tc_3 {τ : Tok} (K : TK t 0 τ) : tc T τ = 3 ↔ scb T τ = true := by
  unfold tc scb
  rcases K.2.2.2.1 with q | q | q | q
  · simp [q]
  · simp [q]
  · simp [q]
  · rw [q]
    by_cases s1 : T τ.1 = 59
    · simp [s1]
    · by_cases s2 : T τ.1 = 45
      · simp [s1, s2]
      · simp [s1, s2]
def KT (h0 : Mem) (Q : Int32 → Mem → Prop) (o : Nat ⊕ (Nat × Row)) : Prop := match o with
  | .inl b => ∀ h', FrT h0 h' → Q ((-1 : Int32) - nI b) h'
  | .inr y => ∀ h', A9 h' 13 y.2 → FrT h0 h' → Q (nI y.1) h'
theorem s_tell {h0 : Mem} {Q : Int32 → Mem → Prop} : ∀ f M n k τ g h, 61 ≤ f + k → 2 * k ≤ τ.1 → f < g → n ≤ 12 → M 4 = nI n → P9 T t h τ → A9 h 13 M → FrT h0 h → KT h0 Q (prs T t f M n k τ) → gm_it1 (f_X3_tellTo_b21 Q) g (nI (k + 1)) h := by
  intro f
  induction f with
  | zero =>
    intro M n k τ g h hf hk hg hn h4 P hM fr kk
    exfalso
    have := P.1.1
    have := P.2.2.2.1
    have := P.2.2.2.2.1
    omega
  | succ f ih =>
    intro M n k τ g h hf hk hg hn h4 P hM fr kk
    have ht := P.1.1
    have k1 := P.2.2.2.1
    have k2 := P.2.2.2.2.1
    obtain ⟨g, rfl⟩ : ∃ g', g = g' + 1 := ⟨g - 1, by omega⟩
    show f_X3_tellTo_b21 Q (gm_it1 (f_X3_tellTo_b21 Q) g) (nI (k + 1)) h
    have ihg := fun M n τ h => ih M n (k + 1) τ g h
    generalize gm_it1 (f_X3_tellTo_b21 Q) g = K at ihg ⊢
    unfold f_X3_tellTo_b21
    refine ifn (nI_nlt (a := 120) (b := k + 1) (by omega) (by decide)) (s_takeItem hn P hM h4 ?_)
    unfold prs at kk
    cases hp : pitem T t n τ with
    | inl b =>
      rw [hp] at kk
      refine fun h' e f' => ifp rfl ?_
      rw [e]
      exact kk h' (fr.tr f')
    | inr x =>
      rw [hp] at kk
      have kk : KT h0 Q (if x.2.2.2.1 = 0 then Sum.inr (k + 1, app M n x.1) else if scb T x.2 = true then prs T t f (app M n x.1) (nl n x.1) (k + 1) (adv T t x.2) else .inl x.2.1) := kk
      have hv := pitem_v hp
      have a4 := app_4 h4 hn hv
      have ps := pitem_pos ht P.2.2 hp
      intro h1 P1 A1 f1
      refine ifn oz ?_
      rw [P1.2.1.1]
      by_cases c0 : x.2.2.2.1 = 0
      · rw [if_pos c0] at kk
        exact ifp ((tc_0 P1.2.2).mpr c0) (kk h1 A1 (fr.tr f1))
      · rw [if_neg c0] at kk
        refine ifn (fun z => c0 ((tc_0 P1.2.2).mp z)) ?_
        by_cases c1 : scb T x.2 = true
        · rw [if_pos c1] at kk
          have ap := adv_pos (T := T) ht P1.2.2
          have lt := P1.2.2.2.2.2.2.2 c0
          refine ifp ((tc_3 P1.2.2).mpr c1) (s_adv9 P1 (fun h2 P2 f2 => ?_))
          rw [nI_1]
          exact nm (ihg _ _ _ h2 (by omega) (by omega) (by omega) a4.2 a4.1 P2 (A1.fr (fun a _ _ => f2 a (by omega))) ((fr.tr f1).tr f2.ft) kk)
        · rw [if_neg c1] at kk
          refine ifn (fun z => c1 ((tc_3 P1.2.2).mp z)) ?_
          rw [P1.2.1.2.1]
          exact kk h1 (fr.tr f1)
end
