/-! TEXT: a fault's place lies within the tape -/
section
variable {T : Row} {t : Nat}
theorem tk_b {τ : Tok} (K : TK t 0 τ) : τ.1 ≤ t := Nat.le_trans K.2.1 K.2.2.1
theorem pnum_b {lo hi : Int32} {τ : Tok} {b : Nat} (K : TK t 0 τ) (e : pnum T t lo hi τ = .inl b) : b ≤ t := by
  unfold pnum at e
  by_cases c : isnb lo hi τ = true
  · rw [if_pos c] at e; cases e
  · rw [if_neg c] at e; cases e; exact tk_b K
theorem popt_b {i : Nat} {lo hi d : Int32} {τ : Tok} {b : Nat} (ht : t ≤ 120) (K : TK t 0 τ) (e : popt T t i lo hi d τ = .inl b) : b ≤ t := by
  unfold popt at e
  by_cases c : isw T i τ = true
  · rw [if_pos c] at e; exact pnum_b (adv_TK ht K) e
  · rw [if_neg c] at e; cases e
theorem pdr_b {τ : Tok} {b : Nat} (ht : t ≤ 120) (K : TK t 0 τ) (e : pdr T t τ = .inl b) : b ≤ t := by
  unfold pdr at e
  by_cases c : mnb T τ = true
  · rw [if_pos c] at e
    cases hp : pnum T t 0 9 (adv T t τ) with
    | inl b' => rw [hp] at e; cases e; exact pnum_b (adv_TK ht K) hp
    | inr y => rw [hp] at e; cases e
  · rw [if_neg c] at e; exact pnum_b K e
theorem pdo_b {τ : Tok} {b : Nat} (ht : t ≤ 120) (K : TK t 0 τ) (e : pdo T t τ = .inl b) : b ≤ t := by
  unfold pdo at e
  by_cases c : isw T 16 τ = true
  · rw [if_pos c] at e; exact pdr_b ht (adv_TK ht K) e
  · rw [if_neg c] at e; cases e
theorem ppace_b {w : Nat} {τ : Tok} {b : Nat} (ht : t ≤ 120) (K : TK t 0 τ) (e : ppace T t w τ = .inl b) : b ≤ t := by
  unfold ppace at e
  have K1 := adv_TK (T := T) ht K
  cases hp : pnum T t 1 99 (adv T t τ) with
  | inl b' => rw [hp] at e; cases e; exact pnum_b K1 hp
  | inr p =>
    rw [hp] at e
    have e : pbd (popt T t 15 0 10 (-100) p.2) (fun q => pbd (pdo T t q.2) (fun d => (.inr ((nI (10 + w), p.1, q.1, d.1), d.2) : Nat ⊕ (It × Tok)))) = .inl b := e
    have K2 := (pnum_pos ht K1 hp).2
    cases hq : popt T t 15 0 10 (-100) p.2 with
    | inl b' => rw [hq] at e; cases e; exact popt_b ht K2 hq
    | inr q =>
      rw [hq] at e
      have e : pbd (pdo T t q.2) (fun d => (.inr ((nI (10 + w), p.1, q.1, d.1), d.2) : Nat ⊕ (It × Tok))) = .inl b := e
      have K3 := (popt_pos ht K2 hq).2
      cases hd : pdo T t q.2 with
      | inl b' => rw [hd] at e; cases e; exact pdo_b ht K3 hd
      | inr d => rw [hd] at e; cases e
theorem prule_b {r : Nat} {τ : Tok} {b : Nat} (ht : t ≤ 120) (K : TK t 0 τ) (e : prule T t r τ = .inl b) : b ≤ t := by
  unfold prule at e
  cases hp : pnum T t (ruleL r) (ruleH r) (adv T t τ) with
  | inl b' => rw [hp] at e; cases e; exact pnum_b (adv_TK ht K) hp
  | inr p => rw [hp] at e; cases e
theorem pline_b {κ n : Nat} {τ : Tok} {b : Nat} (ht : t ≤ 120) (K : TK t 0 τ) (e : pline T t κ n τ = .inl b) : b ≤ t := by
  unfold pline at e
  have K1 := adv_TK (T := T) ht K
  by_cases c : 12 ≤ n
  · rw [if_pos c] at e; cases e; exact tk_b K
  · rw [if_neg c] at e
    cases hp : popt T t 13 1 20 5 (adv T t τ) with
    | inl b' => rw [hp] at e; cases e; exact popt_b ht K1 hp
    | inr p =>
      rw [hp] at e
      have e : pbd (popt T t 14 0 9 0 p.2) (fun q => (.inr ((nI κ, p.1, q.1, 0), q.2) : Nat ⊕ (It × Tok))) = .inl b := e
      have K2 := (popt_pos ht K1 hp).2
      cases hq : popt T t 14 0 9 0 p.2 with
      | inl b' => rw [hq] at e; cases e; exact popt_b ht K2 hq
      | inr q => rw [hq] at e; cases e
theorem pitem_b {n : Nat} {τ : Tok} {b : Nat} (ht : t ≤ 120) (K : TK t 0 τ) (e : pitem T t n τ = .inl b) : b ≤ t := by
  unfold pitem at e
  by_cases c7 : kin T τ < 7
  · rw [if_pos c7] at e; exact pline_b ht K e
  rw [if_neg c7] at e
  by_cases d7 : isw T 7 τ = true
  · rw [if_pos d7] at e; exact ppace_b ht K e
  rw [if_neg d7] at e
  by_cases d8 : isw T 8 τ = true
  · rw [if_pos d8] at e; exact ppace_b ht K e
  rw [if_neg d8] at e
  by_cases d9 : isw T 9 τ = true
  · rw [if_pos d9] at e; exact prule_b ht K e
  rw [if_neg d9] at e
  by_cases d10 : isw T 10 τ = true
  · rw [if_pos d10] at e; exact prule_b ht K e
  rw [if_neg d10] at e
  by_cases d11 : isw T 11 τ = true
  · rw [if_pos d11] at e; exact prule_b ht K e
  rw [if_neg d11] at e
  by_cases d12 : isw T 12 τ = true
  · rw [if_pos d12] at e; exact prule_b ht K e
  rw [if_neg d12] at e
  cases e
  exact tk_b K
theorem prs_b (ht : t ≤ 120) : ∀ f M n k τ b, TK t 0 τ → prs T t f M n k τ = .inl b → b ≤ t := by
  intro f
  induction f with
  | zero => intro M n k τ b K e; cases e; exact tk_b K
  | succ f ih =>
    intro M n k τ b K e
    unfold prs at e
    cases hp : pitem T t n τ with
    | inl b' => rw [hp] at e; cases e; exact pitem_b ht K hp
    | inr x =>
      rw [hp] at e
      have e : (if x.2.2.2.1 = 0 then Sum.inr (k + 1, app M n x.1) else if scb T x.2 = true then prs T t f (app M n x.1) (nl n x.1) (k + 1) (adv T t x.2) else .inl x.2.1) = .inl b := e
      have K1 := (pitem_pos ht K hp).2
      by_cases c0 : x.2.2.2.1 = 0
      · rw [if_pos c0] at e; cases e
      · rw [if_neg c0] at e
        by_cases c1 : scb T x.2 = true
        · rw [if_pos c1] at e; exact ih _ _ _ _ b (adv_TK ht K1) e
        · rw [if_neg c1] at e; cases e; exact tk_b K1
end
/-! TEXT: the pair -/
set_option maxRecDepth 20000 in
theorem pair_text (h : Mem) (hI : Inv h) : f_X9_text h (fun r h1 => f_X10_text h1 (fun r2 h2 => r = r2 ∧ Inv h2)) := by
  obtain ⟨N, hD, hA, hB, ⟨hk, ⟨t, t1, t2, t3, t4⟩, hs⟩, hf⟩ := hI
  obtain ⟨a, n, han, hn, h0, h4, -, -⟩ := id hD.1
  obtain ⟨T, eT⟩ : ∃ T, T = h 31 := ⟨_, rfl⟩
  -- the end: both sides done, the tape wiped
  have fin : ∀ (M : Row) (h1 h2 : Mem), Dom M → A9 h1 1 M → (∀ b, b = 0 ∨ (7 ≤ b ∧ b ≤ 12) ∨ b = 31 ∨ 33 ≤ b → h1 b = h b) → h1 30 1 = 0 → A10 h2 44 M → G11 h1 h2 → Inv h2 := by
    intro M h1 h2 hDM A1 f1 e30 B2 g
    have g' : ∀ b, b ≠ 43 → b ≠ 44 → b ≠ 52 → (b = 0 ∨ (7 ≤ b ∧ b ≤ 12) ∨ b = 31 ∨ 33 ≤ b) → h2 b = h b := fun b q1 q2 q3 q4 => (g.1 b q1 q2 q3).trans (f1 b q4)
    refine ⟨M, hDM, A1.fr (fun b _ _ => g.1 b (by omega) (by omega) (by omega)), B2, ⟨?_, ⟨0, by decide, ?_, ?_, ?_⟩, ?_⟩, ?_⟩
    · exact hk.fr (by rw [g' 0 (by decide) (by decide) (by decide) (by omega)]) (by rw [g.2.1, f1 43 (by omega)]) (fun b _ _ => g' b (by omega) (by omega) (by omega) (by omega)) (g' 45 (by decide) (by decide) (by decide) (by omega))
    · rw [g.1 30 (by decide) (by decide) (by decide), e30]; rfl
    · rw [g.2.2]; rfl
    · intro i hi
      rw [g' 50 (by decide) (by decide) (by decide) (by omega), g' 31 (by decide) (by decide) (by decide) (by omega)]
      exact t4 i hi
    · exact hs.fr (fun b _ _ => g' b (by omega) (by omega) (by omega) (by omega)) (g' 53 (by decide) (by decide) (by decide) (by omega)) (g' 54 (by decide) (by decide) (by decide) (by omega)) (g' 55 (by decide) (by decide) (by decide) (by omega))
    · exact hf.fr (g' 34 (by decide) (by decide) (by decide) (by omega)) (g' 47 (by decide) (by decide) (by decide) (by omega))
  have c10 : ∀ h1 : Mem, (∀ b, 33 ≤ b → h1 b = h b) → C10 T t h1 := fun h1 f1 => ⟨t1, by rw [f1 43 (by decide)]; exact t3, fun i hi => by rw [f1 50 (by decide), eT]; exact t4 i hi⟩
  unfold f_X9_text
  refine s_become9 hA (by omega) (fun h1 A1 f1 => ?_)
  unfold f_X3_tellTo
  refine nm (nm (nm ?_))
  have C3 : C9 T t (gm_st (gm_st (gm_st h1 32 1 1) 32 0 1) 32 4 0) := by
    refine ⟨t1, ?_, fun i hi => ?_, ?_, ?_⟩
    · rw [st_k (by decide), st_k (by decide), st_k (by decide), f1 30 (by omega)]; exact t2
    · rw [st_k (by decide), st_k (by decide), st_k (by decide), f1 31 (by omega), eT]
    · rw [st_j (by decide), st_s]; decide
    · rw [st_j (by decide), st_j (by decide), st_s]; decide
  have g3 : FrT h (gm_st (gm_st (gm_st h1 32 1 1) 32 0 1) 32 4 0) := fun b q => by rw [st_k (by omega), st_k (by omega), st_k (by omega), f1 b (by omega)]
  have A3 : A9 (gm_st (gm_st (gm_st h1 32 1 1) 32 0 1) 32 4 0) 13 N := A1.fr (fun b _ _ => by rw [st_k (by omega), st_k (by omega), st_k (by omega)])
  refine s_look9 (p := 0) C3 (Nat.zero_le _) (by rw [st_s]; rfl) (fun h5 C5 S5 f5 => ?_)
  refine s_tell (h0 := h) 61 N n 0 (nx T t 0) gm_F h5 (by decide) (by omega) (Nat.lt_of_lt_of_le (by decide : 61 < 62) (gm_F_ge (by decide))) hn h4 ⟨C5, S5, nx_TK t1 (Nat.zero_le _)⟩ (A3.fr (fun b _ _ => f5 b (by omega))) (g3.tr f5.ft) ?_
  cases hp : prs T t 61 N n 0 (nx T t 0) with
  | inl b =>
    intro h6 f6
    have hb := prs_b (T := T) t1 61 N n 0 (nx T t 0) b (nx_TK t1 (Nat.zero_le _)) hp
    have hneg : ((-1 : Int32) - nI b) ≤ 0 := by
      rw [fa_le, fb_subI (by rw [nI_toInt (by omega), im1]; omega) (by rw [nI_toInt (by omega), im1]; omega), nI_toInt (by omega), im1, i0]
      omega
    rw [if_pos hneg]
    refine nm ?_
    have g7 : ∀ c, c = 0 ∨ (7 ≤ c ∧ c ≤ 12) ∨ c = 31 ∨ 33 ≤ c → gm_st h6 30 1 0 c = h c := fun c q => by rw [st_k (by omega), f6 c (by omega)]
    refine s_text10 (N := N) (n0 := n) (T := T) (t := t) (hB.fr (g7 44 (by omega))) h4 hn (c10 _ (fun c q => g7 c (by omega))) ?_
    rw [hp]
    exact fun h8 B8 g8 => ⟨rfl, fin N _ h8 hD (hA.fr (fun c _ _ => by rw [st_k (by omega), f6 c (by omega)])) g7 st_s B8 g8⟩
  | inr y =>
    obtain ⟨yD, y1, y2⟩ := prs_Dom 61 N n 0 (nx T t 0) y hD h4 hn hp
    intro h6 A6 f6
    refine ifn (nI_nle y1 (by omega)) (s_become9 A6 (by omega) (fun h7 A7 f7 => nm ?_))
    have g7 : ∀ b, b = 0 ∨ (7 ≤ b ∧ b ≤ 12) ∨ b = 31 ∨ 33 ≤ b → gm_st h7 30 1 0 b = h b := fun b q => by rw [st_k (by omega), f7 b (by omega), f6 b (by omega)]
    refine s_text10 (N := N) (n0 := n) (T := T) (t := t) (hB.fr (g7 44 (by omega))) h4 hn (c10 _ (fun b q => g7 b (by omega))) ?_
    rw [hp]
    exact fun h8 B8 g8 => ⟨rfl, fin y.2 _ h8 yD (A7.fr (fun b _ _ => st_k (by omega))) g7 st_s B8 g8⟩
