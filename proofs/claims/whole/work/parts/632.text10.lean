/-! TEXT: the reference's whole text, the pair -/
section
variable {T : Row} {t : Nat} {N : Row} {n0 : Nat}
/-- the items that are stored lead from N to M -/
def SQ (N : Row) (n0 : Nat) (h : Mem) (k : Nat) (M : Row) (n : Nat) : Prop := ∃ (its : Nat → It) (rw : Nat → Row) (nn : Nat → Nat), rw 0 = N ∧ nn 0 = n0 ∧ rw k = M ∧ nn k = n ∧ ∀ j, j < k → IT h j (its j) ∧ rw (j + 1) = app (rw j) (nn j) (its j) ∧ nn (j + 1) = nl (nn j) (its j) ∧ vit (nn j) (its j)
theorem SQ.fr {h h' : Mem} {k n : Nat} {M : Row} (x : SQ N n0 h k M n) (f : ∀ i, i < 4 * k → h' 52 i = h 52 i) : SQ N n0 h' k M n := by
  obtain ⟨its, rw', nn, a, b, c, d, e⟩ := x
  refine ⟨its, rw', nn, a, b, c, d, fun j hj => ?_⟩
  obtain ⟨⟨e1, e2, e3, e4⟩, e5⟩ := e j hj
  exact ⟨⟨by rw [f _ (by omega)]; exact e1, by rw [f _ (by omega)]; exact e2, by rw [f _ (by omega)]; exact e3, by rw [f _ (by omega)]; exact e4⟩, e5⟩
theorem SQ.push {h h' : Mem} {k n : Nat} {M : Row} {it : It} (x : SQ N n0 h k M n) (f : ∀ i, i < 4 * k → h' 52 i = h 52 i) (hi : IT h' k it) (hv : vit n it) : SQ N n0 h' (k + 1) (app M n it) (nl n it) := by
  obtain ⟨its, rw', nn, a, b, c, d, e⟩ := x.fr f
  refine ⟨fun j => if j = k then it else its j, fun j => if j = k + 1 then app M n it else rw' j, fun j => if j = k + 1 then nl n it else nn j, ?_, ?_, ?_, ?_, fun j hj => ?_⟩
  · show (if 0 = k + 1 then _ else _) = _
    rw [if_neg (by omega)]; exact a
  · show (if 0 = k + 1 then _ else _) = _
    rw [if_neg (by omega)]; exact b
  · show (if k + 1 = k + 1 then _ else _) = _
    rw [if_pos rfl]
  · show (if k + 1 = k + 1 then _ else _) = _
    rw [if_pos rfl]
  · show IT h' j (if j = k then it else its j) ∧ (if j + 1 = k + 1 then app M n it else rw' (j + 1)) = app (if j = k + 1 then app M n it else rw' j) (if j = k + 1 then nl n it else nn j) (if j = k then it else its j) ∧ (if j + 1 = k + 1 then nl n it else nn (j + 1)) = nl (if j = k + 1 then nl n it else nn j) (if j = k then it else its j) ∧ vit (if j = k + 1 then nl n it else nn j) (if j = k then it else its j)
    rw [if_neg (show ¬ j = k + 1 by omega), if_neg (show ¬ j = k + 1 by omega)]
    by_cases q : j = k
    · subst q
      rw [if_pos rfl, if_pos rfl, if_pos rfl, c, d]
      exact ⟨hi, rfl, rfl, hv⟩
    · rw [if_neg q, if_neg (by omega), if_neg (by omega)]
      exact e j (by omega)
def G11 (h h' : Mem) : Prop := (∀ a, a ≠ 43 → a ≠ 44 → a ≠ 52 → h' a = h a) ∧ h' 43 3 = h 43 3 ∧ h' 43 14 = 0
def KX (N : Row) (h0 : Mem) (Q : Int32 → Mem → Prop) (o : Nat ⊕ (Nat × Row)) : Prop := match o with
  | .inl b => ∀ h', A10 h' 44 N → G11 h0 h' → Q ((-1 : Int32) - nI b) h'
  | .inr y => ∀ h', A10 h' 44 y.2 → G11 h0 h' → Q (nI y.1) h'
/-- so far: nothing but the scratch has changed -/
def Ft (h h' : Mem) : Prop := (∀ a, a ≠ 43 → a ≠ 52 → h' a = h a) ∧ h' 43 3 = h 43 3
theorem Ft.l {h h1 h2 : Mem} {k : Nat} (x : Ft h h1) (y : Fl k h1 h2) : Ft h h2 := ⟨fun a q1 q2 => (y.1 a q1 q2).trans (x.1 a q1 q2), (y.2.1 3 (by omega)).trans x.2⟩
theorem Ft.w {h h1 h2 : Mem} (x : Ft h h1) (y : Fw h1 h2) : Ft h h2 := ⟨fun a q1 q2 => (y.1 a q1).trans (x.1 a q1 q2), (y.2 3 (by omega)).trans x.2⟩
theorem w_end {h0 h : Mem} {b : Nat} {Q : Int32 → Mem → Prop} (hB : A10 h0 44 N) (w : W10 h b) (f : Ft h0 h) (kk : KX N h0 Q (.inl b)) : f_X10_text_b74 Q h := by
  have go : ∀ s, f_X10_text_b87 Q s h := by
    intro s
    unfold f_X10_text_b87
    refine w_must w (fun h1 w1 f1 => nm ?_)
    rw [st_j (by decide), w1.2, st_j (by decide), w1.1]
    have f2 := f.w f1
    exact ifn oz (kk _ (hB.fr (by rw [st_k (by decide), f2.1 44 (by decide) (by decide)])) ⟨fun a q1 q2 q3 => by rw [st_k q1, f2.1 a q1 q3], by rw [st_j (by decide), f2.2], st_s⟩)
  unfold f_X10_text_b74
  by_cases c : h 43 17 = 0
  · exact ifp c (go 1)
  · exact ifn c (go 0)
theorem s_rd {h0 : Mem} {Q : Int32 → Mem → Prop} (hB : A10 h0 44 N) : ∀ f M n k σ g h, 61 ≤ f + k → 2 * k ≤ σ.1 + 1 → 0 < k → f + 1 < g → n ≤ 12 → M 4 = nI n → P10 T t h σ → h 43 22 = nI k → h 43 23 = nI n → SQ N n0 h k M n → N 4 = nI n0 → n0 ≤ 12 → Ft h0 h → KX N h0 Q (if σ.2.2.1 = 0 then .inr (k, M) else if scb T σ = true then prs T t f M n k (adv T t σ) else .inl σ.1) → gm_it0 (f_X10_text_b33 Q) g h := by
  intro f
  induction f with
  | zero =>
    intro M n k σ g h hf hk hk0 hg hn h4 P h22 h23 sq hN4 hn0 fr kk
    exfalso
    have := P.1.1
    have := P.2.2.1.2.1
    have := P.2.2.1.2.2.1
    omega
  | succ f ih =>
    intro M n k σ g h hf hk hk0 hg hn h4 P h22 h23 sq hN4 hn0 fr kk
    have ht := P.1.1
    have k1 := P.2.2.1.2.1
    have k2 := P.2.2.1.2.2.1
    have hc := P.2.2.1.2.2.2.1
    obtain ⟨g, rfl⟩ : ∃ g', g = g' + 1 := ⟨g - 1, by omega⟩
    show f_X10_text_b33 Q (gm_it0 (f_X10_text_b33 Q) g) h
    have ihg := fun M n σ h => ih M n (k + 1) σ g h
    have wr : ∀ h1 b, W10 h1 b → Ft h0 h1 → KX N h0 Q (.inl b) → gm_it0 (f_X10_text_b33 Q) g h1 := by
      intro h1 b w1 f1 k3
      obtain ⟨g, rfl⟩ : ∃ g', g = g' + 1 := ⟨g - 1, by omega⟩
      show f_X10_text_b33 Q (gm_it0 (f_X10_text_b33 Q) g) h1
      generalize gm_it0 (f_X10_text_b33 Q) g = K
      unfold f_X10_text_b33
      rw [w1.2]
      exact ifn oz (w_end hB w1 f1 k3)
    generalize gm_it0 (f_X10_text_b33 Q) g = K at ihg wr ⊢
    unfold f_X10_text_b33
    rw [P.2.2.2, P.2.1.2.2.1, P.2.1.1]
    refine ifp rfl ?_
    -- no semicolon
    have nosc : ¬ scb T σ = true → f_X10_text_b74 Q h := by
      intro nc
      unfold f_X10_text_b74
      rw [P.2.1.2.2.1]
      by_cases c0 : σ.2.2.1 = 0
      · rw [if_pos c0] at kk
        rw [c0]
        refine ifp rfl ?_
        unfold f_X10_text_b87
        refine s_must1 P (fun h1 P1 f1 => nm ?_)
        rw [st_j (by decide), P1.2.2.2]
        refine ifp rfl ?_
        have f2 := fr.w f1
        have sq1 : SQ N n0 (gm_st h1 43 14 0) k M n := sq.fr (fun i _ => by rw [st_k (by decide), f1.1 52 (by decide)])
        obtain ⟨its, rw', nn, r0, n0', rk, nk', steps⟩ := sq1
        have rows : ∀ j, j ≤ k → (rw' j) 4 = nI (nn j) ∧ nn j ≤ 12 := by
          intro j
          induction j with
          | zero => intro _; rw [r0, n0']; exact ⟨hN4, hn0⟩
          | succ j ihj =>
            intro hj
            obtain ⟨-, s2, s3, s4⟩ := steps j (by omega)
            rw [s2, s3]
            exact app_4 (ihj (by omega)).1 (ihj (by omega)).2 s4
        have e22 : gm_st h1 43 14 0 43 22 = nI k := by rw [st_j (by decide), f1.2 22 (by omega)]; exact h22
        have b0 : A10 (gm_st h1 43 14 0) 44 N := hB.fr (by rw [st_k (by decide), f2.1 44 (by decide) (by decide)])
        have hk60 : k ≤ 61 := by omega
        generalize eh : gm_st h1 43 14 0 = h3 at steps e22 b0
        refine lo2 nI k (fun j v h' => v = nI j ∧ A10 h' 44 (rw' j) ∧ Fr1 44 h3 h') rfl (by omega) ⟨rfl, by rw [r0]; exact b0, Fr1.rf⟩ ?_ ?_
        · rintro K2 v h' ⟨rfl, b, fq⟩
          unfold f_X10_text_b113
          rw [fq 43 (by decide), e22]
          refine ifp (nI_le (Nat.le_refl _) (by omega)) (kk h' (by rw [rk] at b; exact b) ⟨fun a q1 q2 q3 => ?_, ?_, ?_⟩)
          · rw [fq a q2, ← eh, st_k q1, f2.1 a q1 q3]
          · rw [fq 43 (by decide), ← eh, st_j (by decide), f2.2]
          · rw [fq 43 (by decide), ← eh, st_s]
        · rintro K2 j v h' hj ⟨rfl, b, fq⟩ hK2
          unfold f_X10_text_b113
          have e4 : (4 : Int32) * nI j = nI (4 * j) := pk_mul 4 j
          rw [fq 43 (by decide), e22, e4, nI_1]
          obtain ⟨⟨s1a, s1b, s1c, s1d⟩, s2, s3, s4⟩ := steps j hj
          refine ifn (nI_ge hj (by omega)) (s_isSo (by omega) (it := its j) ⟨by rw [fq 52 (by decide)]; exact s1a, by rw [fq 52 (by decide)]; exact s1b, by rw [fq 52 (by decide)]; exact s1c, by rw [fq 52 (by decide)]; exact s1d⟩ b (rows j (by omega)).1 s4 (fun h4' r hr b4 f4 => ifp hr (nm (nm (hK2 _ _ ⟨rfl, by rw [s2]; exact b4, fq.tr f4⟩)))))
      · rw [if_neg c0, if_neg nc] at kk
        refine ifn (nI_ne0 (by omega) (by omega)) ?_
        unfold f_X10_text_b87
        refine s_must0 P (fun h1 w1 f1 => nm ?_)
        rw [st_j (by decide), w1.2, st_j (by decide), w1.1]
        have f2 := fr.w f1
        exact ifn oz (kk _ (hB.fr (by rw [st_k (by decide), f2.1 44 (by decide) (by decide)])) ⟨fun a q1 q2 q3 => by rw [st_k q1, f2.1 a q1 q3], by rw [st_j (by decide), f2.2], st_s⟩)
    by_cases c3 : σ.2.2.1 = 3
    · have lt := P.2.2.1.2.2.2.2.2 (by omega)
      rw [c3]
      refine ifp rfl ⟨vi (by omega) (by decide), ?_⟩
      rw [cl (by omega), (P.1.2.2 _ (by omega)).1]
      by_cases c59 : T σ.1 = 59
      · have sc : scb T σ = true := decide_eq_true ⟨c3, c59⟩
        rw [if_neg (by omega), if_pos sc] at kk
        refine ifp c59 (s_must1 P (fun h1 P1 f1 => ?_))
        have ap := adv_pos (T := T) ht P.2.2.1
        have g22 : h1 43 22 = nI k := by rw [f1.2 22 (by omega)]; exact h22
        have g23 : h1 43 23 = nI n := by rw [f1.2 23 (by omega)]; exact h23
        have a1 := P1.2.2.1.2.1
        have a2 := P1.2.2.1.2.2.1
        unfold prs at kk
        refine s_readItem hn g22 g23 (by omega) P1 (fun b eb h2 w2 fl2 => ?_) (fun x ex h2 P2 it2 e22 e23 fl2 => ?_)
        · rw [eb] at kk
          exact wr h2 b w2 ((fr.w f1).l fl2) kk
        · rw [ex] at kk
          have hv := pitem_v ex
          have a4 := app_4 h4 hn hv
          have ps := pitem_pos ht P1.2.2.1 ex
          exact ihg _ _ _ h2 (by omega) (by omega) (by omega) (by omega) a4.2 a4.1 P2 e22 e23 (sq.push (fun i hi => by rw [fl2.2.2 i hi, f1.1 52 (by decide)]) it2 hv) hN4 hn0 ((fr.w f1).l fl2) kk
      · exact ifn c59 (nosc (fun z => c59 (of_decide_eq_true z).2))
    · exact ifn (fun z => c3 ((nI_eq (b := 3) (by omega) (by decide)).mp z)) (nosc (fun z => c3 (of_decide_eq_true z).1))
theorem s_text10 {h : Mem} {Q : Int32 → Mem → Prop} (hB : A10 h 44 N) (hN4 : N 4 = nI n0) (hn0 : n0 ≤ 12) (C : C10 T t h) (kk : KX N h Q (prs T t 61 N n0 0 (nx T t 0))) : f_X10_text h Q := by
  have ht := C.1
  unfold f_X10_text
  refine nm (nm (nm (nm ?_)))
  have e4 : gm_st (gm_st (gm_st h 43 16 0) 43 19 0) 43 22 0 44 4 = nI n0 := by rw [st_k (by decide), st_k (by decide), st_k (by decide), hB 4 (by decide), hN4]
  rw [e4]
  have C4 : C10 T t (gm_st (gm_st (gm_st (gm_st h 43 16 0) 43 19 0) 43 22 0) 43 23 (nI n0)) := (((C.st (by decide)).st (by decide)).st (by decide)).st (by decide)
  have x19 : gm_st (gm_st (gm_st (gm_st h 43 16 0) 43 19 0) 43 22 0) 43 23 (nI n0) 43 19 = 0 := by rw [st_j (by decide), st_j (by decide), st_s]
  have x16 : gm_st (gm_st (gm_st (gm_st h 43 16 0) 43 19 0) 43 22 0) 43 23 (nI n0) 43 16 = nI 0 := by rw [st_j (by decide), st_j (by decide), st_j (by decide), st_s]; rfl
  have x22 : gm_st (gm_st (gm_st (gm_st h 43 16 0) 43 19 0) 43 22 0) 43 23 (nI n0) 43 22 = nI 0 := by rw [st_j (by decide), st_s]; rfl
  have x23 : gm_st (gm_st (gm_st (gm_st h 43 16 0) 43 19 0) 43 22 0) 43 23 (nI n0) 43 23 = nI n0 := st_s
  have ft : Ft h (gm_st (gm_st (gm_st (gm_st h 43 16 0) 43 19 0) 43 22 0) 43 23 (nI n0)) := ⟨fun a q1 q2 => by rw [st_k q1, st_k q1, st_k q1, st_k q1], by rw [st_j (by decide), st_j (by decide), st_j (by decide), st_j (by decide)]⟩
  generalize gm_st (gm_st (gm_st (gm_st h 43 16 0) 43 19 0) 43 22 0) 43 23 (nI n0) = h4 at C4 x19 x16 x22 x23 ft
  refine s_next (p := 0) C4 (Nat.zero_le _) x16 (fun h5 C5 S5 f5 => ?_)
  have P5 : P10 T t h5 (nx T t 0) := ⟨C5, S5, nx_TK ht (Nat.zero_le _), by rw [f5.2 19 (by omega)]; exact x19⟩
  have ft5 : Ft h h5 := ⟨fun a q1 q2 => (f5.1 a q1).trans (ft.1 a q1 q2), (f5.2 3 (by omega)).trans ft.2⟩
  unfold prs at kk
  refine s_readItem (k := 0) hn0 (by rw [f5.2 22 (by omega)]; exact x22) (by rw [f5.2 23 (by omega)]; exact x23) (by decide) P5 (fun b eb h6 w6 fl6 => ?_) (fun x ex h6 P6 it6 e22 e23 fl6 => ?_)
  · rw [eb] at kk
    show f_X10_text_b33 Q (gm_it0 (f_X10_text_b33 Q) 999999) h6
    generalize gm_it0 (f_X10_text_b33 Q) 999999 = K
    unfold f_X10_text_b33
    rw [w6.2]
    exact ifn oz (w_end hB w6 (ft5.l fl6) kk)
  · rw [ex] at kk
    have hv := pitem_v ex
    have a4 := app_4 hN4 hn0 hv
    have ps := pitem_pos ht P5.2.2.1 ex
    have sq0 : SQ N n0 h5 0 N n0 := ⟨fun _ => (0, 0, 0, 0), fun _ => N, fun _ => n0, rfl, rfl, rfl, rfl, fun j hj => absurd hj (Nat.not_lt_zero j)⟩
    exact s_rd (n0 := n0) hB 60 _ _ 1 _ gm_F h6 (by decide) (by omega) (by decide) (Nat.lt_of_lt_of_le (by decide : 61 < 62) (gm_F_ge (by decide))) a4.2 a4.1 P6 e22 e23 (sq0.push fl6.2.2 it6 hv) hN4 hn0 (ft5.l fl6) kk
end
