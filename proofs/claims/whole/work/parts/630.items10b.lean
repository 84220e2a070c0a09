/-! TEXT: whole items of the reference; what an item may hold -/
theorem byt_diff : ∀ i, i < 17 → ∀ j, j < 17 → i ≠ j → (gm_byt i).length = (gm_byt j).length → ¬ ∀ k, k < (gm_byt i).length → (gm_byt i).getD k 0 = (gm_byt j).getD k 0 := by decide +kernel
section
variable {T : Row} {t : Nat}
theorem isw_one {i j : Nat} {τ : Tok} (hi : i < 17) (hj : j < 17) (x : isw T i τ = true) (y : isw T j τ = true) : i = j := by
  have a := of_decide_eq_true x
  have b := of_decide_eq_true y
  by_cases q : i = j
  · exact q
  · have el : (gm_byt i).length = (gm_byt j).length := by rw [← a.2.1, ← b.2.1]
    exact absurd (fun k hk => by rw [← a.2.2 k hk, b.2.2 k (by omega)]) (byt_diff i hi j hj q el)
theorem s_kindTold {h : Mem} {τ : Tok} {Q : Int32 → Mem → Prop} (P : P10 T t h τ) (k : Q (if kin T τ < 7 then nI (kin T τ) else -1) h) : f_X10_kindTold h Q := by
  obtain ⟨k1, k2, k3⟩ := kin_spec (T := T) τ
  unfold f_X10_kindTold
  refine lo2 nI 7 (fun i v h' => h' = h ∧ v = if kin T τ < i then nI (kin T τ) else -1) rfl (by decide) ⟨rfl, by rw [if_neg (Nat.not_lt_zero _)]⟩ ?_ ?_
  · rintro K v h' ⟨rfl, rfl⟩
    unfold f_X10_kindTold_b4
    exact ifp (by decide) k
  · rintro K i v h' hi ⟨rfl, rfl⟩ hK
    unfold f_X10_kindTold_b4
    rw [cl (by omega), nI_1]
    refine ifn (nI_ge (b := 7) hi (by decide)) ⟨vi hi (by decide), s_isWord10 (by omega) P.1 P.2.1 P.2.2.1 ?_⟩
    by_cases c : isw T i τ = true
    · rw [if_pos c]
      have e : kin T τ = i := by
        rcases Nat.lt_or_ge i (kin T τ) with q | q
        · exact absurd c (k2 i q)
        · exact isw_one (by omega) (by omega) (k3 (by omega)) c
      exact ifn oz (nm (hK _ _ ⟨rfl, by rw [if_pos (by omega), e]⟩))
    · rw [if_neg c]
      have e : kin T τ ≠ i := fun z => c (by rw [← z]; exact k3 (by omega))
      refine ifp rfl (nm (hK _ _ ⟨rfl, ?_⟩))
      by_cases q : kin T τ < i
      · rw [if_pos q, if_pos (by omega)]
      · rw [if_neg q, if_neg (by omega)]
def nl (n : Nat) (it : It) : Nat := if it.1 < 10 then n + 1 else n
theorem KI.w {k : Nat} {h h1 : Mem} {Q : Mem → Prop} {o : Nat ⊕ (It × Tok)} (f : Fw h h1) (kk : KI T t k h Q o) : KI T t k h1 Q o := by
  cases o with
  | inl b => exact fun h' w g => kk h' w (f.fi g)
  | inr x => exact fun h' P it e g => kk h' P it e (f.fi g)
theorem Fi.fl {k : Nat} {h h' : Mem} (f : Fi k h h') : Fl k h h' := ⟨f.1, fun j q => f.2.1 j (by omega), f.2.2⟩
theorem nl_p {n w : Nat} {p q d : Int32} (hw : w < 10) : nl n (nI (10 + w), p, q, d) = n := if_neg (nI_nlt (b := 10) (by omega) (by omega))
theorem nl_l {n κ : Nat} {p q d : Int32} (hκ : κ < 7) : nl n (nI κ, p, q, d) = n + 1 := if_pos (nI_lt (b := 10) (by omega) (by decide))
theorem pp_1 {w : Nat} {τ : Tok} {x : It × Tok} (e : ppace T t w τ = .inr x) : ∃ p q d, x.1 = (nI (10 + w), p, q, d) ∧ ((1 : Int32) ≤ p ∧ p ≤ 99) ∧ (q = -100 ∨ (0 : Int32) ≤ q ∧ q ≤ 10) ∧ (d = -100 ∨ -9 ≤ d.toInt ∧ d.toInt ≤ 9) := by
  unfold ppace at e
  cases hp : pnum T t 1 99 (adv T t τ) with
  | inl b => rw [hp] at e; cases e
  | inr p =>
    rw [hp] at e
    have e : pbd (popt T t 15 0 10 (-100) p.2) (fun q => pbd (pdo T t q.2) (fun d => .inr ((nI (10 + w), p.1, q.1, d.1), d.2))) = .inr x := e
    cases hq : popt T t 15 0 10 (-100) p.2 with
    | inl b => rw [hq] at e; cases e
    | inr q =>
      rw [hq] at e
      have e : pbd (pdo T t q.2) (fun d => .inr ((nI (10 + w), p.1, q.1, d.1), d.2)) = .inr x := e
      cases hd : pdo T t q.2 with
      | inl b => rw [hd] at e; cases e
      | inr d =>
        rw [hd] at e
        cases e
        refine ⟨p.1, q.1, d.1, rfl, pnum_v hp, ?_, ?_⟩
        · unfold popt at hq
          by_cases c : isw T 15 p.2 = true
          · rw [if_pos c] at hq; exact Or.inr (pnum_v hq)
          · rw [if_neg c] at hq; cases hq; exact Or.inl rfl
        · unfold pdo at hd
          by_cases c : isw T 16 q.2 = true
          · rw [if_pos c] at hd; exact Or.inr (pdr_v hd)
          · rw [if_neg c] at hd; cases hd; exact Or.inl rfl
theorem pr_1 {r : Nat} {τ : Tok} {x : It × Tok} (e : prule T t r τ = .inr x) : ∃ p, x.1 = (nI (10 + r), p, -100, -100) ∧ ruleL r ≤ p ∧ p ≤ ruleH r := by
  unfold prule at e
  cases hp : pnum T t (ruleL r) (ruleH r) (adv T t τ) with
  | inl b => rw [hp] at e; cases e
  | inr p => rw [hp] at e; cases e; exact ⟨p.1, rfl, pnum_v hp⟩
theorem pl_1 {κ n : Nat} {τ : Tok} {x : It × Tok} (e : pline T t κ n τ = .inr x) : ∃ p q, x.1 = (nI κ, p, q, 0) ∧ n < 12 ∧ ((1 : Int32) ≤ p ∧ p ≤ 20) ∧ ((0 : Int32) ≤ q ∧ q ≤ 9) := by
  unfold pline at e
  by_cases c : 12 ≤ n
  · rw [if_pos c] at e; cases e
  · rw [if_neg c] at e
    cases hp : popt T t 13 1 20 5 (adv T t τ) with
    | inl b => rw [hp] at e; cases e
    | inr p =>
      rw [hp] at e
      have e : pbd (popt T t 14 0 9 0 p.2) (fun q => .inr ((nI κ, p.1, q.1, 0), q.2)) = .inr x := e
      cases hq : popt T t 14 0 9 0 p.2 with
      | inl b => rw [hq] at e; cases e
      | inr q =>
        rw [hq] at e
        cases e
        refine ⟨p.1, q.1, rfl, by omega, ?_, ?_⟩
        · unfold popt at hp
          by_cases c : isw T 13 (adv T t τ) = true
          · rw [if_pos c] at hp; exact pnum_v hp
          · rw [if_neg c] at hp; cases hp; exact ⟨(by decide : (1 : Int32) ≤ 5), (by decide : (5 : Int32) ≤ 20)⟩
        · unfold popt at hq
          by_cases c : isw T 14 p.2 = true
          · rw [if_pos c] at hq; exact pnum_v hq
          · rw [if_neg c] at hq; cases hq; exact ⟨(by decide : (0 : Int32) ≤ 0), (by decide : (0 : Int32) ≤ 9)⟩
/-- what an item may hold -/
def vit (n : Nat) (it : It) : Prop := (∃ κ p q, κ < 7 ∧ it = (nI κ, p, q, 0) ∧ n < 12 ∧ ((1 : Int32) ≤ p ∧ p ≤ 20) ∧ ((0 : Int32) ≤ q ∧ q ≤ 9)) ∨ (∃ w p q d, w < 2 ∧ it = (nI (10 + w), p, q, d) ∧ ((1 : Int32) ≤ p ∧ p ≤ 99) ∧ (q = -100 ∨ (0 : Int32) ≤ q ∧ q ≤ 10) ∧ (d = -100 ∨ -9 ≤ d.toInt ∧ d.toInt ≤ 9)) ∨ (∃ r p, 6 ≤ r ∧ r < 10 ∧ it = (nI (10 + r), p, -100, -100) ∧ ruleL r ≤ p ∧ p ≤ ruleH r)
theorem pitem_v {n : Nat} {τ : Tok} {x : It × Tok} (e : pitem T t n τ = .inr x) : vit n x.1 := by
  unfold pitem at e
  by_cases c7 : kin T τ < 7
  · rw [if_pos c7] at e
    obtain ⟨p, q, z⟩ := pl_1 e
    exact Or.inl ⟨_, p, q, c7, z⟩
  rw [if_neg c7] at e
  by_cases d7 : isw T 7 τ = true
  · rw [if_pos d7] at e; obtain ⟨p, q, d, z⟩ := pp_1 e; exact Or.inr (Or.inl ⟨0, p, q, d, by decide, z⟩)
  rw [if_neg d7] at e
  by_cases d8 : isw T 8 τ = true
  · rw [if_pos d8] at e; obtain ⟨p, q, d, z⟩ := pp_1 e; exact Or.inr (Or.inl ⟨1, p, q, d, by decide, z⟩)
  rw [if_neg d8] at e
  by_cases d9 : isw T 9 τ = true
  · rw [if_pos d9] at e; obtain ⟨p, z⟩ := pr_1 e; exact Or.inr (Or.inr ⟨7, p, by decide, by decide, z⟩)
  rw [if_neg d9] at e
  by_cases d10 : isw T 10 τ = true
  · rw [if_pos d10] at e; obtain ⟨p, z⟩ := pr_1 e; exact Or.inr (Or.inr ⟨6, p, by decide, by decide, z⟩)
  rw [if_neg d10] at e
  by_cases d11 : isw T 11 τ = true
  · rw [if_pos d11] at e; obtain ⟨p, z⟩ := pr_1 e; exact Or.inr (Or.inr ⟨8, p, by decide, by decide, z⟩)
  rw [if_neg d11] at e
  by_cases d12 : isw T 12 τ = true
  · rw [if_pos d12] at e; obtain ⟨p, z⟩ := pr_1 e; exact Or.inr (Or.inr ⟨9, p, by decide, by decide, z⟩)
  rw [if_neg d12] at e
  cases e
theorem s_readItem {n k : Nat} {h : Mem} {τ : Tok} {Q : Mem → Prop} (hn : n ≤ 12) (h22 : h 43 22 = nI k) (h23 : h 43 23 = nI n) (hk : k < 120) (P : P10 T t h τ) (kl : ∀ b, pitem T t n τ = .inl b → ∀ h', W10 h' b → Fl k h h' → Q h') (kr : ∀ x, pitem T t n τ = .inr x → ∀ h', P10 T t h' x.2 → IT h' k x.1 → h' 43 22 = nI (k + 1) → h' 43 23 = nI (nl n x.1) → Fl k h h' → Q h') : f_X10_readItem h Q := by
  unfold f_X10_readItem
  refine s_kindTold P ?_
  -- an item that is no line
  have ki : ∀ o, pitem T t n τ = o → (∀ x, o = .inr x → nl n x.1 = n) → KI T t k h Q o := by
    intro o eo hnl
    cases o with
    | inl b => exact fun h' w f => kl b eo h' w f.fl
    | inr x => exact fun h' P' it e f => kr x eo h' P' it e (by rw [f.2.1 23 (by omega), hnl x rfl]; exact h23) f.fl
  unfold pitem at kl kr ki
  by_cases c7 : kin T τ < 7
  · rw [if_pos c7] at kl kr ⊢
    refine ifn (nI_pos (by omega)) ?_
    rw [h23]
    have kr' : ∀ x, pline T t (kin T τ) n τ = .inr x → ∀ h', P10 T t h' x.2 → IT h' k x.1 → h' 43 22 = nI (k + 1) → h' 43 23 = nI (n + 1) → Fl k h h' → Q h' := fun x ex h' P' it e22 e23 f => by
      obtain ⟨p, q, z, -⟩ := pl_1 ex
      exact kr x ex h' P' it e22 (by rw [e23, z, nl_l c7]) f
    by_cases c : 12 ≤ n
    · exact ifp (nI_le (a := 12) c (by omega)) (s_readLine hn (by rw [if_pos c]) h22 h23 hk P kl kr')
    · exact ifn (nI_ge (b := 12) (by omega) (by decide)) (s_readLine hn (by rw [if_neg c]) h22 h23 hk P kl kr')
  · rw [if_neg c7] at ki ⊢
    refine ifp (by decide) ?_
    have pc : ∀ w, w < 10 → ∀ x, ppace T t w τ = .inr x → nl n x.1 = n := fun w hw x ex => by
      obtain ⟨p, q, d, z, -⟩ := pp_1 ex; rw [z, nl_p hw]
    have rc : ∀ w, w < 10 → ∀ x, prule T t w τ = .inr x → nl n x.1 = n := fun w hw x ex => by
      obtain ⟨p, z, -⟩ := pr_1 ex; rw [z, nl_p hw]
    have g22 : ∀ {h1}, Fw h h1 → h1 43 22 = nI k := fun {h1} f => by rw [f.2 22 (by omega)]; exact h22
    refine s_isNext (by decide) P (fun c h1 P1 f1 => ?_) (fun d7 => ifp rfl ?_)
    · rw [if_pos c] at ki
      exact ifn oz (s_readPace (w := 0) (g22 f1) hk P1 ((ki _ rfl (pc 0 (by decide))).w f1))
    rw [if_neg d7] at ki
    refine s_isNext (by decide) P (fun c h1 P1 f1 => ?_) (fun d8 => ifp rfl ?_)
    · rw [if_pos c] at ki
      exact ifn oz (s_readPace (w := 1) (g22 f1) hk P1 ((ki _ rfl (pc 1 (by decide))).w f1))
    rw [if_neg d8] at ki
    refine s_isNext (by decide) P (fun c h1 P1 f1 => ?_) (fun d9 => ifp rfl ?_)
    · rw [if_pos c] at ki
      exact ifn oz (s_readRule (r := 7) (by decide) (g22 f1) hk P1 ((ki _ rfl (rc 7 (by decide))).w f1))
    rw [if_neg d9] at ki
    refine s_isNext (by decide) P (fun c h1 P1 f1 => ?_) (fun d10 => ifp rfl ?_)
    · rw [if_pos c] at ki
      exact ifn oz (s_readRule (r := 6) (by decide) (g22 f1) hk P1 ((ki _ rfl (rc 6 (by decide))).w f1))
    rw [if_neg d10] at ki
    refine s_isNext (by decide) P (fun c h1 P1 f1 => ?_) (fun d11 => ifp rfl ?_)
    · rw [if_pos c] at ki
      exact ifn oz (s_readRule (r := 8) (by decide) (g22 f1) hk P1 ((ki _ rfl (rc 8 (by decide))).w f1))
    rw [if_neg d11] at ki
    refine s_isWord10 (by decide) P.1 P.2.1 P.2.2.1 ?_
    by_cases d12 : isw T 12 τ = true
    · rw [if_pos d12] at ki ⊢
      exact s_must1 P (fun h1 P1 f1 => s_readRule (r := 9) (by decide) (g22 f1) hk P1 ((ki _ rfl (rc 9 (by decide))).w f1))
    · rw [if_neg d12] at ki ⊢
      have kk := ki _ rfl (fun x z => by cases z)
      exact s_must0 P (fun h1 w1 f1 => w_readRule (r := 9) (by decide) h22 hk w1 f1 kk)
/-! the items, done -/
theorem s_told {r : Nat} {v : Int32} {h : Mem} {M : Row} {Q : Mem → Prop} (hB : A10 h 44 M) (hr : r < 62) (k : ∀ h', A10 h' 44 (told M r v) → Fr1 44 h h' → Q h') : f_X10_becomesTold (nI r) v h Q := by
  unfold f_X10_becomesTold
  rw [cl (by omega)]
  unfold told at k
  by_cases c : v = -100
  · rw [if_pos c] at k
    refine ifp c ⟨vi hr (by decide), vi hr (by decide), nm (k _ (hB.st.same (fun j _ => ?_)) (Fr1.st Fr1.rf))⟩
    rw [up_at, hB r hr]
    by_cases q : j = r
    · rw [if_pos q, q]
    · rw [if_neg q]
  · rw [if_neg c] at k
    exact ifn c ⟨vi hr (by decide), nm (k _ hB.st (Fr1.st Fr1.rf))⟩
theorem s_isSo {k n : Nat} {it : It} {h : Mem} {M : Row} {Q : Int32 → Mem → Prop} (hk : k < 120) (hI : IT h k it) (hB : A10 h 44 M) (h4 : M 4 = nI n) (hv : vit n it) (kk : ∀ h' r, (0 : Int32) ≤ r → A10 h' 44 (app M n it) → Fr1 44 h h' → Q r h') : f_X10_isSo (nI (4 * k)) h Q := by
  unfold f_X10_isSo
  obtain ⟨i0', i1', i2', i3'⟩ := hI
  have a1 : nI (4 * k) + (1 : Int32) = nI (4 * k + 1) := nI_1 _
  have a2 : nI (4 * k) + (2 : Int32) = nI (4 * k + 2) := nI_add _ 2
  have a3 : nI (4 * k) + (3 : Int32) = nI (4 * k + 3) := nI_add _ 3
  rw [a1, a2, cl (k := 4 * k) (by omega), cl (k := 4 * k + 1) (by omega), cl (k := 4 * k + 2) (by omega), i0', i1', i2']
  refine ⟨vi (by omega) (by decide), nm ⟨vi (by omega) (by decide), nm ?_⟩⟩
  have rl : ∀ (r : Nat), r < 10 → it.1 = nI (10 + r) → (∀ M', M' = told (told (upd M (6 + r) it.2.1) (if r < 2 then 6 + (2 + r) else 6 + r) it.2.2.1) (if r < 2 then 6 + (4 + r) else 6 + r) it.2.2.2 → ∀ h', A10 h' 44 M' → Fr1 44 h h' → Q 0 h') → if (10 : Int32) ≤ it.1 then (∀ v_6 : Int32, v_6 = ((6 : Int32) + it.1) - (10 : Int32) → vp_in v_6 62 ∧ ∀ h_8 : Mem, h_8 = gm_st h 44 v_6.toNatClampNeg it.2.1 → if (8 : Int32) ≤ v_6 then f_X10_isSo_b71 (nI (4 * k)) Q v_6 v_6 h_8 else f_X10_isSo_b71 (nI (4 * k)) Q v_6 (v_6 + (2 : Int32)) h_8) else (vp_in (nI (4 * k + 2)) 480 ∧ f_X10_comes it.1 it.2.1 it.2.2.1 h fun r_19 h_18 => Q r_19 h_18) := by
    intro r hr e1 fin
    rw [e1]
    have e6 : ((6 : Int32) + nI (10 + r)) - (10 : Int32) = nI (6 + r) := by
      have z : (6 : Int32) + nI (10 + r) = nI (6 + (10 + r)) := nI_add 6 _
      rw [z]
      have := pk_sub (a := 6 + (10 + r)) (b := 10) (by omega)
      rw [show 6 + (10 + r) - 10 = 6 + r by omega] at this
      exact this
    refine ifp (nI_le (a := 10) (by omega) (by omega)) ?_
    rw [e6]
    refine nm ⟨vi (by omega) (by decide), ?_⟩
    rw [cl (by omega)]
    refine nm ?_
    have b8 := hB.st (j := 6 + r) (v := it.2.1)
    by_cases c : r < 2
    · rw [if_pos c, if_pos c] at fin
      refine ifn (nI_ge (b := 8) (by omega) (by decide)) ?_
      unfold f_X10_isSo_b71
      have z2 : nI (6 + r) + (2 : Int32) = nI (6 + (2 + r)) := by rw [show 6 + (2 + r) = 6 + r + 2 by omega]; exact nI_add _ 2
      have z4 : nI (6 + r) + (4 : Int32) = nI (6 + (4 + r)) := by rw [show 6 + (4 + r) = 6 + r + 4 by omega]; exact nI_add _ 4
      rw [a2, a3, z2, z4, cl (k := 4 * k + 2) (by omega), cl (k := 4 * k + 3) (by omega), st_k (by decide), i2']
      refine ⟨vi (by omega) (by decide), s_told b8 (by omega) (fun h1 b1 f1 => ifn (nI_ge (b := 8) (by omega) (by decide)) ⟨vi (by omega) (by decide), ?_⟩)⟩
      rw [f1 52 (by decide), st_k (by decide), i3']
      exact s_told b1 (by omega) (fun h2 b2 f2 => fin _ rfl h2 b2 ((Fr1.st Fr1.rf).tr (f1.tr f2)))
    · rw [if_neg c, if_neg c] at fin
      refine ifp (nI_le (a := 8) (by omega) (by omega)) ?_
      unfold f_X10_isSo_b71
      rw [a2, a3, cl (k := 4 * k + 2) (by omega), cl (k := 4 * k + 3) (by omega), st_k (by decide), i2']
      refine ⟨vi (by omega) (by decide), s_told b8 (by omega) (fun h1 b1 f1 => ifp (nI_le (a := 8) (by omega) (by omega)) ⟨vi (by omega) (by decide), ?_⟩)⟩
      rw [f1 52 (by decide), st_k (by decide), i3']
      exact s_told b1 (by omega) (fun h2 b2 f2 => fin _ rfl h2 b2 ((Fr1.st Fr1.rf).tr (f1.tr f2)))
  rcases hv with ⟨κ, p, q, hκ, rfl, hn, -⟩ | ⟨w, p, q, d, hw, rfl, -⟩ | ⟨r, p, hr, hr2, rfl, -⟩
  · refine ifn (nI_ge (b := 10) (by omega) (by decide)) ⟨vi (by omega) (by decide), s_comes hB h4 hn (fun h' b f => kk h' _ (nI_pos' (by omega)) ?_ f)⟩
    rw [app_line hκ]
    exact b
  · refine rl w (by omega) rfl (fun M' eM h' b f => kk h' 0 (by decide) ?_ f)
    rw [app_pace hw]
    rw [if_pos hw, if_pos hw] at eM
    rw [← eM]
    exact b
  · refine rl r hr2 rfl (fun M' eM h' b f => kk h' 0 (by decide) ?_ f)
    rw [app_rule hr hr2]
    have e : told (told (upd M (6 + r) p) (if r < 2 then 6 + (2 + r) else 6 + r) (-100)) (if r < 2 then 6 + (4 + r) else 6 + r) (-100) = upd M (6 + r) p := by
      unfold told
      rw [if_pos rfl, if_pos rfl]
    rw [← e, ← eM]
    exact b
end
