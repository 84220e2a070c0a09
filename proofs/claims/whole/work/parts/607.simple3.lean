/-! SPOTS, KEPT STUDIOS, COUNTS -/
theorem pair_hold (a1 a2 : Int32) (h : Mem) (hI : Inv h) : f_X9_hold a1 a2 h (fun r h1 => f_X10_hold a1 a2 h1 (fun r2 h2 => r = r2 ∧ Inv h2)) := by
  obtain ⟨N, hV⟩ := hI
  obtain ⟨a, n, han, hn, h0, h4, hw, hs⟩ := hV.1.1
  have hA := hV.2.1
  have en : (nI n - (1 : Int32)).toInt = (n : Int) - 1 := n_sub1 (by omega)
  by_cases hk : (0 : Int32) ≤ a1 ∧ a1 ≤ 9
  · obtain ⟨i, hi, rfl⟩ := sm (m := 9) (by decide) hk.1 hk.2
    by_cases hv : (-1 : Int32) ≤ a2 ∧ a2 ≤ nI n - 1
    · have hv2 := hv.2
      rw [fa_le, en] at hv2
      refine pr_ok (f9 := f_X9_hold _ _) (f10 := f_X10_hold _ _) (r := 1) (N' := upd N (16 + i) a2) hV (hV.1.spot h4 hn (by omega) (by omega)) (fun Q k => ?_) (fun h Q hB _ k => ?_)
      · unfold f_X9_hold
        refine win9 hk.1 hk.2 (ifn oz ?_)
        rw [hA.1.2.2.2.2.1, h4]
        refine win9 hv.1 hv.2 (ifn oz ⟨vi (by omega) (by decide), nm ?_⟩)
        rw [cl (by omega)]
        exact k _ (hA.spot (by omega)) (fun a q => st_k (by omega))
      · unfold f_X10_hold f_X10_isSpot
        rw [add16, cl (by omega)]
        refine win10 hk.1 hk.2 ⟨gm_b1, ifn oz ?_⟩
        by_cases e : a2 = -1
        · exact ifp e ⟨vi (by omega) (by decide), nm (k _ hB.st (Fr1.g10 (Fr1.st Fr1.rf)))⟩
        · refine ifn e ?_
          have hl : (0 : Int32) ≤ a2 ∧ ¬ nI n ≤ a2 := by
            have e' : a2.toInt ≠ -1 := fun q => e ((fa_eq _ _).mpr q)
            have hv1 := hv.1
            rw [fa_le, im1] at hv1
            rw [fa_le, fa_le, nI_toInt (by omega), i0]
            omega
          obtain ⟨l, hL, rfl⟩ := ln_nI hn hl
          exact isLine10_y hB h4 hn hL (ifn oz ⟨vi (by omega) (by decide), nm (k _ hB.st (Fr1.g10 (Fr1.st Fr1.rf)))⟩)
    · refine pr_no (f9 := f_X9_hold _ _) (f10 := f_X10_hold _ _) (w := id) 0 (by decide) hV (fun Q k => ?_) (fun h Q hB _ k => ?_)
      · unfold f_X9_hold
        refine win9 hk.1 hk.2 (ifn oz ?_)
        rw [hA.1.2.2.2.2.1, h4]
        exact wout9 hv (ifp rfl (k h hA G9.rf))
      · unfold f_X10_hold f_X10_isSpot
        refine win10 hk.1 hk.2 ⟨gm_b1, ifn oz (ifn (fun e => hv ?_) (isLine10_n hB h4 hn (fun q => hv ?_) (ifp rfl (k h hB G10.rf))))⟩
        · rw [e]; refine ⟨by decide, ?_⟩; rw [fa_le, en, im1]; omega
        · have q1 := q.1
          have q2 := q.2
          rw [fa_le, i0] at q1
          rw [fa_le, nI_toInt (by omega)] at q2
          rw [fa_le, fa_le, en, im1]
          omega
  · refine pr_no (f9 := f_X9_hold _ _) (f10 := f_X10_hold _ _) (w := id) 0 (by decide) hV (fun Q k => ?_) (fun h Q hB _ k => ?_)
    · unfold f_X9_hold
      exact wout9 hk (ifp rfl (k h hA G9.rf))
    · unfold f_X10_hold f_X10_isSpot
      exact wout10 hk ⟨gm_b0, ifp rfl (k h hB G10.rf)⟩
def ab (k : Nat) : Nat := [0, 0, 0, 2, 0, 4, 5].getD k 0
def und (k a : Nat) : Bool := ([[0], [1, 0], [2, 0], [3, 2, 0], [4, 0], [5, 4, 0], [6, 5, 4, 0]].getD k []).contains a
theorem und_eq : ∀ k, k < 7 → ∀ a, a < 7 → und k a = (decide (k = a) || (decide (k ≠ 0) && und (ab k) a)) := by decide
theorem ab_lt : ∀ k, k < 7 → k ≠ 0 → ab k < k := by decide
theorem tab1 : ∀ k, k < 7 → (gm_tab 1).getD (nI k).toNatClampNeg 0 = if k = 0 then -1 else nI (ab k) := by decide +kernel
theorem und9 {a : Nat} {x : Int32} {h : Mem} {Q : Int32 → Mem → Prop} (ha : a < 7) : ∀ (k m d : Nat), k < 7 → k + d ≤ 6 → k + 2 ≤ m → Q (if und k a then 1 else 0) h → gm_it2 (f_X0_isOrIsUnder_b4 x (nI a) Q) m (nI k) (nI d) h := by
  intro k
  induction k using Nat.strongRecOn with
  | ind k ih =>
    intro m d hk hd hm kQ
    obtain ⟨m, rfl⟩ : ∃ m', m = m' + 1 := ⟨m - 1, by omega⟩
    show f_X0_isOrIsUnder_b4 x (nI a) Q (gm_it2 (f_X0_isOrIsUnder_b4 x (nI a) Q) m) (nI k) (nI d) h
    unfold f_X0_isOrIsUnder_b4
    refine ifn (nI_ge (b := 7) (by omega) (by decide)) (ifn (nI_pos (by omega)) (ifn (nI_ge (b := 7) hk (by decide)) ?_))
    rw [und_eq k hk a ha] at kQ
    by_cases e : k = a
    · rw [decide_eq_true e] at kQ
      exact ifp (by rw [e]) kQ
    · refine ifn (fun q => e ((nI_eq (by omega) (by omega)).mp q)) ⟨vi hk (by decide), nm (nm ?_)⟩
      rw [tab1 k hk, nI_1]
      rw [decide_eq_false e] at kQ
      by_cases e0 : k = 0
      · rw [if_pos e0]
        obtain ⟨m, rfl⟩ : ∃ m', m = m' + 1 := ⟨m - 1, by omega⟩
        show f_X0_isOrIsUnder_b4 x (nI a) Q (gm_it2 (f_X0_isOrIsUnder_b4 x (nI a) Q) m) (-1) (nI (d + 1)) h
        unfold f_X0_isOrIsUnder_b4
        rw [e0] at kQ
        by_cases q : (7 : Int32) ≤ nI (d + 1)
        · exact ifp q kQ
        · exact ifn q (ifp (by decide) kQ)
      · rw [if_neg e0]
        have := ab_lt k hk e0
        rw [decide_eq_true e0] at kQ
        exact ih (ab k) this m (d + 1) (by omega) (by omega) (by omega) kQ
theorem und10 {a : Nat} {x : Int32} {h : Mem} {Q : Int32 → Mem → Prop} (ha : a < 7) : ∀ (k m : Nat), k < 7 → k + 2 ≤ m → Q (if und k a then 1 else 0) h → gm_it1 (f_X10_isUnder_b2 x (nI a) Q) m (nI k) h := by
  intro k
  induction k using Nat.strongRecOn with
  | ind k ih =>
    intro m hk hm kQ
    obtain ⟨m, rfl⟩ : ∃ m', m = m' + 1 := ⟨m - 1, by omega⟩
    show f_X10_isUnder_b2 x (nI a) Q (gm_it1 (f_X10_isUnder_b2 x (nI a) Q) m) (nI k) h
    unfold f_X10_isUnder_b2 f_X10_isUnder_b19
    refine ifn (nI_pos (by omega)) ?_
    rw [und_eq k hk a ha] at kQ
    by_cases e : k = a
    · rw [decide_eq_true e] at kQ
      exact ifp (by rw [e]) (ifn (nI_pos (by omega)) kQ)
    · refine ifn (fun q => e ((nI_eq (by omega) (by omega)).mp q)) ?_
      rw [decide_eq_false e] at kQ
      by_cases e0 : k = 0
      · subst e0
        unfold f_X10_above
        refine ifp rfl ?_
        obtain ⟨m, rfl⟩ : ∃ m', m = m' + 1 := ⟨m - 1, by omega⟩
        show f_X10_isUnder_b2 x (nI a) Q (gm_it1 (f_X10_isUnder_b2 x (nI a) Q) m) (-1) h
        unfold f_X10_isUnder_b2 f_X10_isUnder_b19
        exact ifp (by decide) (ifp (by decide) kQ)
      · have hlt := ab_lt k hk e0
        rw [decide_eq_true e0] at kQ
        have hk' := ih (ab k) hlt m (by omega) (by omega) kQ
        unfold f_X10_above
        have : k = 1 ∨ k = 2 ∨ k = 3 ∨ k = 4 ∨ k = 5 ∨ k = 6 := by omega
        rcases this with rfl | rfl | rfl | rfl | rfl | rfl
        · exact ifn (by decide) (ifn (by decide) (ifn (by decide) (ifn (by decide) hk')))
        · exact ifn (by decide) (ifn (by decide) (ifn (by decide) (ifn (by decide) hk')))
        · exact ifn (by decide) (ifp (by decide) hk')
        · exact ifn (by decide) (ifn (by decide) (ifn (by decide) (ifn (by decide) hk')))
        · exact ifn (by decide) (ifn (by decide) (ifp (by decide) hk'))
        · exact ifn (by decide) (ifn (by decide) (ifn (by decide) (ifp (by decide) hk')))
theorem gm_F_ge {m : Nat} (h : m ≤ 1000000) : m ≤ gm_F := h
theorem pair_as (a1 a2 : Int32) (h : Mem) (hI : Inv h) : f_X9_as a1 a2 h (fun r h1 => f_X10_as a1 a2 h1 (fun r2 h2 => r = r2 ∧ Inv h2)) := by
  obtain ⟨N, hV⟩ := hI
  obtain ⟨a, n, han, hn, h0, h4, hw, hs⟩ := hV.1.1
  have hA := hV.2.1
  by_cases hk : (0 : Int32) ≤ a1 ∧ a1 ≤ 9
  · obtain ⟨i, hi, rfl⟩ := sm (m := 9) (by decide) hk.1 hk.2
    by_cases hv : (0 : Int32) ≤ a2 ∧ a2 ≤ 6
    · obtain ⟨b, hb, rfl⟩ := sm (m := 6) (by decide) hv.1 hv.2
      have hsp := hs i (by omega)
      by_cases hc : (0 : Int32) ≤ N (16 + i)
      · have hl : (0 : Int32) ≤ N (16 + i) ∧ ¬ nI n ≤ N (16 + i) := ⟨hc, by rw [fa_le, nI_toInt (by omega)]; omega⟩
        obtain ⟨l, hL, el⟩ := ln_nI hn hl
        have hkd := (hV.1.2.2.1 l (by omega)).1
        obtain ⟨kd, hkd6, ekd⟩ := sm (a := N (26 + 3 * l)) (m := 6) (by decide) ((fa_le _ _).mpr hkd.1) ((fa_le _ _).mpr hkd.2)
        have d0 := (hA.2.2.2 l (by omega)).1
        cases hu : und kd b with
        | true =>
          refine pr_ok (f9 := f_X9_as _ _) (f10 := f_X10_as _ _) (r := nI l) (N' := N) hV hV.1 (fun Q k => ?_) (fun h Q hB _ k => ?_)
          · unfold f_X9_as
            refine win9 hk.1 hk.2 (ifn oz (win9 hv.1 hv.2 (ifn oz ⟨vi (by omega) (by decide), ?_⟩)))
            rw [cl (by omega), hA.2.2.1 i (by omega), el]
            refine nm (isLine9_y hA h4 hn hL (ifn oz ⟨vi (by omega) (by decide), ?_⟩))
            rw [cl (by omega), d0, ekd]
            unfold f_X0_isOrIsUnder
            refine und9 (by omega) kd gm_F 0 (by omega) (by omega) (gm_F_ge (by omega)) ?_
            rw [hu]
            exact ifn oz (k h hA G9.rf)
          · unfold f_X10_as f_X10_isSpot f_X10_isKind
            rw [add16, cl (by omega)]
            refine win10 hk.1 hk.2 ⟨gm_b1, ifn oz (win10 hv.1 hv.2 ⟨gm_b1, ifn oz ⟨vi (by omega) (by decide), ?_⟩⟩)⟩
            rw [hB _ (by omega), el]
            refine nm (ifp (nI_pos' (by omega)) (s_lineIs (f := 0) hB (by omega) (by decide) ?_))
            rw [Nat.add_zero, ekd]
            unfold f_X10_isUnder
            refine und10 (by omega) kd gm_F (by omega) (gm_F_ge (by omega)) ?_
            rw [hu]
            exact ifn oz (k h hB G10.rf)
        | false =>
          refine pr_no (f9 := f_X9_as _ _) (f10 := f_X10_as _ _) (w := id) 2 (by decide) hV (fun Q k => ?_) (fun h Q hB _ k => ?_)
          · unfold f_X9_as
            refine win9 hk.1 hk.2 (ifn oz (win9 hv.1 hv.2 (ifn oz ⟨vi (by omega) (by decide), ?_⟩)))
            rw [cl (by omega), hA.2.2.1 i (by omega), el]
            refine nm (isLine9_y hA h4 hn hL (ifn oz ⟨vi (by omega) (by decide), ?_⟩))
            rw [cl (by omega), d0, ekd]
            unfold f_X0_isOrIsUnder
            refine und9 (by omega) kd gm_F 0 (by omega) (by omega) (gm_F_ge (by omega)) ?_
            rw [hu]
            exact ifp rfl (k h hA G9.rf)
          · unfold f_X10_as f_X10_isSpot f_X10_isKind
            rw [add16, cl (by omega)]
            refine win10 hk.1 hk.2 ⟨gm_b1, ifn oz (win10 hv.1 hv.2 ⟨gm_b1, ifn oz ⟨vi (by omega) (by decide), ?_⟩⟩)⟩
            rw [hB _ (by omega), el]
            refine nm (ifp (nI_pos' (by omega)) (s_lineIs (f := 0) hB (by omega) (by decide) ?_))
            rw [Nat.add_zero, ekd]
            unfold f_X10_isUnder
            refine und10 (by omega) kd gm_F (by omega) (gm_F_ge (by omega)) ?_
            rw [hu]
            exact ifp rfl (k h hB G10.rf)
      · refine pr_no (f9 := f_X9_as _ _) (f10 := f_X10_as _ _) (w := id) 5 (by decide) hV (fun Q k => ?_) (fun h Q hB _ k => ?_)
        · unfold f_X9_as
          refine win9 hk.1 hk.2 (ifn oz (win9 hv.1 hv.2 (ifn oz ⟨vi (by omega) (by decide), ?_⟩)))
          rw [cl (by omega), hA.2.2.1 i (by omega)]
          exact nm (isLine9_n hA h4 (fun q => hc q.1) (ifp rfl (k h hA G9.rf)))
        · unfold f_X10_as f_X10_isSpot f_X10_isKind
          rw [add16, cl (by omega)]
          refine win10 hk.1 hk.2 ⟨gm_b1, ifn oz (win10 hv.1 hv.2 ⟨gm_b1, ifn oz ⟨vi (by omega) (by decide), ?_⟩⟩)⟩
          rw [hB _ (by omega)]
          exact nm (ifn hc (k h hB G10.rf))
    · refine pr_no (f9 := f_X9_as _ _) (f10 := f_X10_as _ _) (w := id) 0 (by decide) hV (fun Q k => ?_) (fun h Q hB _ k => ?_)
      · unfold f_X9_as
        exact win9 hk.1 hk.2 (ifn oz (wout9 hv (ifp rfl (k h hA G9.rf))))
      · unfold f_X10_as f_X10_isSpot f_X10_isKind
        exact win10 hk.1 hk.2 ⟨gm_b1, ifn oz (wout10 hv ⟨gm_b0, ifp rfl (k h hB G10.rf)⟩)⟩
  · refine pr_no (f9 := f_X9_as _ _) (f10 := f_X10_as _ _) (w := id) 0 (by decide) hV (fun Q k => ?_) (fun h Q hB _ k => ?_)
    · unfold f_X9_as
      exact wout9 hk (ifp rfl (k h hA G9.rf))
    · unfold f_X10_as f_X10_isSpot
      exact wout10 hk ⟨gm_b0, ifp rfl (k h hB G10.rf)⟩
/-! a studio becomes another -/
theorem cpy_k {h : Mem} {a b sp dp n q : Nat} (e : q ≠ b) : gm_cpy h a b sp dp n q = h q := if_neg e
theorem cpy_b {h : Mem} {a b n j : Nat} (e : j < n) : gm_cpy h a b 0 0 n b j = h a j := by
  unfold gm_cpy
  rw [if_pos rfl]
  exact sb_cpy0 e
theorem s_become9 {k0 q : Nat} {h : Mem} {N : Row} {Q : Mem → Prop} (hA : A9 h q N) (hq : q + 5 < k0 ∨ k0 + 5 < q) (k : ∀ h', A9 h' k0 N → (∀ a, a < k0 ∨ k0 + 5 < a → h' a = h a) → Q h') : f_X6_become k0 q h Q := by
  unfold f_X6_become
  intro h1 e1 h2 e2 h3 e3 h4 e4 h5 e5 h6 e6 h7 e7 h8 e8 h9 e9 h10 e10 h11 e11
  have c1 : ∀ a, a ≠ k0 + 1 → h1 a = h a := fun a w => by rw [e1, cpy_k w]
  have c2 : ∀ a, a ≠ k0 + 2 → h2 a = h1 a := fun a w => by rw [e2, cpy_k w]
  have c3 : ∀ a, a ≠ k0 + 3 → h3 a = h2 a := fun a w => by rw [e3, cpy_k w]
  have c4 : ∀ a, a ≠ k0 + 4 → h4 a = h3 a := fun a w => by rw [e4, cpy_k w]
  have c5 : ∀ a, a ≠ k0 + 5 → h5 a = h4 a := fun a w => by rw [e5, cpy_k w]
  have c6 : ∀ a, a ≠ k0 → h6 a = h5 a := fun a w => by rw [e6, st_k w]
  have c7 : ∀ a, a ≠ k0 → h7 a = h6 a := fun a w => by rw [e7, st_k w]
  have c8 : ∀ a, a ≠ k0 → h8 a = h7 a := fun a w => by rw [e8, st_k w]
  have c9 : ∀ a, a ≠ k0 → h9 a = h8 a := fun a w => by rw [e9, st_k w]
  have c10 : ∀ a, a ≠ k0 → h10 a = h9 a := fun a w => by rw [e10, st_k w]
  have c11 : ∀ a, a ≠ k0 → h11 a = h10 a := fun a w => by rw [e11, st_k w]
  have z5 : ∀ a, a ≠ k0 → h11 a = h5 a := fun a w => by rw [c11 a w, c10 a w, c9 a w, c8 a w, c7 a w, c6 a w]
  obtain ⟨⟨a0, a1, a2, a3, a4, a5⟩, b, c, d⟩ := hA
  have q5 : h5 q = h q := by rw [c5 q (by omega), c4 q (by omega), c3 q (by omega), c2 q (by omega), c1 q (by omega)]
  refine k h11 ⟨⟨?_, ?_, ?_, ?_, ?_, ?_⟩, fun j hj => ?_, fun j hj => ?_, fun l hl => ?_⟩ (fun a w => ?_)
  · rw [e11, st_j (by decide), e10, st_j (by decide), e9, st_j (by decide), e8, st_j (by decide), e7, st_s, e6, st_k (by omega), q5]; exact a0
  · rw [e11, st_j (by decide), e10, st_j (by decide), e9, st_j (by decide), e8, st_s, c7 q (by omega), c6 q (by omega), q5]; exact a1
  · rw [e11, st_j (by decide), e10, st_j (by decide), e9, st_s, c8 q (by omega), c7 q (by omega), c6 q (by omega), q5]; exact a2
  · rw [e11, st_j (by decide), e10, st_s, c9 q (by omega), c8 q (by omega), c7 q (by omega), c6 q (by omega), q5]; exact a3
  · rw [e11, st_j (by decide), e10, st_j (by decide), e9, st_j (by decide), e8, st_j (by decide), e7, st_j (by decide), e6, st_s, q5]; exact a4
  · rw [e11, st_s, c10 q (by omega), c9 q (by omega), c8 q (by omega), c7 q (by omega), c6 q (by omega), q5]; exact a5
  · rw [z5 _ (by omega), c5 _ (by omega), e4, cpy_b hj, c3 _ (by omega), c2 _ (by omega), c1 _ (by omega)]; exact b j hj
  · rw [z5 _ (by omega), e5, cpy_b hj, c4 _ (by omega), c3 _ (by omega), c2 _ (by omega), c1 _ (by omega)]; exact c j hj
  · rw [z5 (k0 + 1) (by omega), z5 (k0 + 2) (by omega), z5 (k0 + 3) (by omega), c5 (k0 + 1) (by omega), c5 (k0 + 2) (by omega), c5 (k0 + 3) (by omega), c4 (k0 + 1) (by omega), c4 (k0 + 2) (by omega), c4 (k0 + 3) (by omega), c3 (k0 + 1) (by omega), c3 (k0 + 2) (by omega), c2 (k0 + 1) (by omega), e3, cpy_b hl, c2 (q + 3) (by omega), c1 (q + 3) (by omega), e2, cpy_b hl, c1 (q + 2) (by omega), e1, cpy_b hl]
    exact d l hl
  · rw [z5 a (by omega), c5 a (by omega), c4 a (by omega), c3 a (by omega), c2 a (by omega), c1 a (by omega)]
theorem pair_image (h : Mem) (hI : Inv h) : f_X9_image h (fun r h1 => f_X10_image h1 (fun r2 h2 => r = r2 ∧ Inv h2)) := by
  obtain ⟨N, hD, hA, hB, ⟨hk, ht, hs⟩, hf⟩ := hI
  unfold f_X9_image f_X10_image
  refine s_become9 hA (by omega) (fun h1 b1 f1 => nm ?_)
  refine s_copyRow (N := N) (by decide) (hB.fr (by rw [st_k (by decide), f1 44 (by omega)])) (fun h2 a2 f2 => nm ⟨rfl, N, hD, ?_, ?_, ⟨⟨?_, fun _ => ⟨N, hD, ?_, ?_⟩⟩, ?_, ?_⟩, ?_⟩)
  · refine hA.fr (fun a x y => ?_)
    rw [st_k (by omega), f2 a (by omega), st_k (by omega), f1 a (by omega)]
  · refine hB.fr ?_
    rw [st_k (by omega), f2 44 (by omega), st_k (by omega), f1 44 (by omega)]
  · rw [st_k (by omega), f2 0 (by omega), st_s, st_s]
  · refine b1.fr (fun a x y => ?_)
    rw [st_k (by omega), f2 a (by omega), st_k (by omega)]
  · exact a2.fr (st_k (by omega))
  · refine ht.fr ?_ ?_ ?_ ?_
    · rw [st_k (by omega), f2 30 (by omega), st_k (by omega), f1 30 (by omega)]
    · rw [st_j (by omega), f2 43 (by omega), st_k (by omega), f1 43 (by omega)]
    · rw [st_k (by omega), f2 31 (by omega), st_k (by omega), f1 31 (by omega)]
    · rw [st_k (by omega), f2 50 (by omega), st_k (by omega), f1 50 (by omega)]
  · refine hs.fr (fun a x y => ?_) ?_ ?_ ?_
    · rw [st_k (by omega), f2 a (by omega), st_k (by omega), f1 a (by omega)]
    · rw [st_k (by omega), f2 53 (by omega), st_k (by omega), f1 53 (by omega)]
    · rw [st_k (by omega), f2 54 (by omega), st_k (by omega), f1 54 (by omega)]
    · rw [st_k (by omega), f2 55 (by omega), st_k (by omega), f1 55 (by omega)]
  · refine hf.fr ?_ ?_
    · rw [st_k (by omega), f2 34 (by omega), st_k (by omega), f1 34 (by omega)]
    · rw [st_k (by omega), f2 47 (by omega), st_k (by omega), f1 47 (by omega)]
/-- the same, where the reference's side reads what else stands -/
def E9 (h h' : Mem) : Prop := ∀ a, a = 0 ∨ (7 ≤ a ∧ a ≤ 12) ∨ a = 30 ∨ a = 31 ∨ 35 ≤ a → h' a = h a
theorem pr_ok2 {α : Type} {f9 f10 : Mem → (α → Mem → Prop) → Prop} {r : α} {N N' : Row} {h : Mem} (hI : IV h N) (hD : Dom N') (h9 : ∀ Q : α → Mem → Prop, (∀ h', A9 h' 1 N' → G9 h h' → Q r h') → f9 h Q) (h10 : ∀ (h2 : Mem) (Q : α → Mem → Prop), A10 h2 44 N → IQ h2 → E9 h h2 → (∀ h', A10 h' 44 N' → G10 h2 h' → Q r h') → f10 h2 Q) : f9 h (fun r h1 => f10 h1 (fun r2 h2 => r = r2 ∧ Inv h2)) := by
  obtain ⟨d, a9, a10, ir⟩ := hI
  refine h9 _ (fun h1 b9 g9 => ?_)
  refine h10 h1 _ (a10.g9 g9) (ir.g9 g9).1 (fun a q => g9 a (by omega)) (fun h2 b10 g10 => ⟨rfl, N', hD, b9.g10 g10, b10, (ir.g9 g9).g10 g10⟩)
theorem pr_no2 {α : Type} {f9 f10 : Mem → (α → Mem → Prop) → Prop} {w : Int32 → α} {N : Row} {h : Mem} (c : Nat) (hc : c < 7) (hI : IV h N) (h9 : ∀ Q : α → Mem → Prop, (∀ h', A9 h' 1 N → G9 h h' → f_X9_finding (nI c) h' (fun r h2 => Q (w r) h2)) → f9 h Q) (h10 : ∀ (h2 : Mem) (Q : α → Mem → Prop), A10 h2 44 N → IQ h2 → E9 h h2 → (∀ h', A10 h' 44 N → G10 h2 h' → f_X10_finding ((-1000001 : Int32) - nI c) h' (fun r h2 => Q (w r) h2)) → f10 h2 Q) : f9 h (fun r h1 => f10 h1 (fun r2 h2 => r = r2 ∧ Inv h2)) := by
  obtain ⟨d, a9, a10, ir⟩ := hI
  refine h9 _ (fun h1 b9 g9 => ?_)
  refine s_find9 hc ?_
  have ir1 := ir.g9 g9
  generalize eh : gm_st h1 34 c (h1 34 c + 1) = h2
  have hr : h2 34 = upd (h1 34) c (h1 34 c + 1) := by rw [← eh, st_row]
  have hf : ∀ a, a ≠ 34 → h2 a = h1 a := fun a q => by rw [← eh, st_k q]
  refine h10 h2 _ ((a10.g9 g9).fr (hf 44 (by decide))) (ir1.1.ff (fun a q _ => hf a q)) (fun a q => (hf a (by omega)).trans (g9 a (by omega))) (fun h3 b10 g10 => ?_)
  refine s_find10 hc ⟨rfl, N, d, ?_, ?_, ?_, ?_⟩
  · exact ((b9.fr (fun a _ _ => hf a (by omega))).g10 g10).fr (fun a _ _ => by rw [st_k (by omega), st_k (by omega)])
  · exact b10.fr (by rw [st_k (by omega), st_k (by omega)])
  · exact ((ir1.1.ff (fun a q _ => hf a q)).g10 g10).ff (fun a _ q => by rw [st_k q, st_k q])
  · refine ir1.2.inc hc _ ?_ ?_
    · rw [st_k (by omega), st_k (by omega), g10.1 34 (by omega), hr]
    · rw [st_row, st_row, g10.1 47 (by omega), hf 47 (by omega)]
theorem pair_undo (h : Mem) (hI : Inv h) : f_X9_undo h (fun r h1 => f_X10_undo h1 (fun r2 h2 => r = r2 ∧ Inv h2)) := by
  obtain ⟨N, hV⟩ := hI
  have hA := hV.2.1
  have hk := hV.2.2.2.1.1
  by_cases e : h 43 3 = 0
  · refine pr_no2 (f9 := f_X9_undo) (f10 := f_X10_undo) (w := id) 3 (by decide) hV (fun Q k => ?_) (fun h2 Q hB hq hE k => ?_)
    · unfold f_X9_undo
      exact ifp (by rw [hk.1]; exact e) (k h hA G9.rf)
    · unfold f_X10_undo
      exact ifp (by rw [hE 43 (by omega)]; exact e) (k h2 hB G10.rf)
  · obtain ⟨M, m1, m2, m3⟩ := hk.2 e
    refine pr_ok2 (f9 := f_X9_undo) (f10 := f_X10_undo) (r := M 1) (N' := M) hV m1 (fun Q k => ?_) (fun h2 Q hB hq hE k => ?_)
    · unfold f_X9_undo
      refine ifn (by rw [hk.1]; exact e) (s_become9 m2 (by omega) (fun h1 b f => ?_))
      rw [b.1.2.1]
      exact k h1 b (fun a q => f a (by omega))
    · unfold f_X10_undo
      refine ifn (by rw [hE 43 (by omega)]; exact e) (s_copyRow (by decide) (m3.fr (hE 45 (by omega))) (fun h3 b f => ?_))
      rw [b 1 (by decide)]
      exact k h3 b f.g10
theorem pair_tear (h : Mem) (hI : Inv h) : f_X9_tear h (fun r h1 => f_X10_tear h1 (fun r2 h2 => r = r2 ∧ Inv h2)) := by
  obtain ⟨N, hD, hA, hB, ⟨hk, ht, hs⟩, hf⟩ := hI
  have fin : ∀ r : Int32, r = r ∧ Inv (gm_st (gm_st h 0 11 0) 43 3 0) := by
    intro r
    refine ⟨rfl, N, hD, ?_, ?_, ⟨⟨?_, fun q => absurd st_s q⟩, ?_, ?_⟩, ?_⟩
    · exact hA.fr (fun a _ _ => by rw [st_k (by omega), st_k (by omega)])
    · exact hB.fr (by rw [st_k (by omega), st_k (by omega)])
    · rw [st_k (by omega), st_s, st_s]
    · exact ht.fr (by rw [st_k (by omega), st_k (by omega)]) (by rw [st_j (by omega), st_k (by omega)]) (by rw [st_k (by omega), st_k (by omega)]) (by rw [st_k (by omega), st_k (by omega)])
    · exact hs.fr (fun a _ _ => by rw [st_k (by omega), st_k (by omega)]) (by rw [st_k (by omega), st_k (by omega)]) (by rw [st_k (by omega), st_k (by omega)]) (by rw [st_k (by omega), st_k (by omega)])
    · exact hf.fr (by rw [st_k (by omega), st_k (by omega)]) (by rw [st_k (by omega), st_k (by omega)])
  unfold f_X9_tear f_X10_tear
  have e : ∀ v : Int32, gm_st h 0 11 v 43 3 = h 43 3 := fun v => by rw [st_k (by omega)]
  by_cases q : h 43 3 = 0
  · refine ifp (by rw [hk.1]; exact q) (nm ?_)
    exact ifp (by rw [e]; exact q) (nm (fin 0))
  · refine ifn (by rw [hk.1]; exact q) (nm ?_)
    exact ifn (by rw [e]; exact q) (nm (fin 1))
theorem pair_wipe (h : Mem) (hI : Inv h) : f_X9_wipe h (fun r h1 => f_X10_wipe h1 (fun r2 h2 => r = r2 ∧ Inv h2)) := by
  obtain ⟨N, hD, hA, hB, ⟨hk, ⟨t, t1, t2, t3, t4⟩, hs⟩, hf⟩ := hI
  unfold f_X9_wipe f_X10_wipe
  refine nm (nm (nm (nm ⟨?_, N, hD, ?_, ?_, ⟨?_, ⟨0, by omega, ?_, ?_, ?_⟩, ?_⟩, ?_⟩)))
  · rw [st_k (by omega), t2, t3]
  · exact hA.fr (fun a _ _ => by rw [st_k (by omega), st_k (by omega)])
  · exact hB.fr (by rw [st_k (by omega), st_k (by omega)])
  · exact hk.fr (by rw [st_k (by omega), st_k (by omega)]) (by rw [st_j (by omega), st_k (by omega)]) (fun a _ _ => by rw [st_k (by omega), st_k (by omega)]) (by rw [st_k (by omega), st_k (by omega)])
  · rw [st_k (by omega), st_s]; rfl
  · rw [st_s]; rfl
  · intro i hi; rw [st_k (by omega), st_k (by omega), st_k (by omega), st_k (by omega)]; exact t4 i hi
  · exact hs.fr (fun a _ _ => by rw [st_k (by omega), st_k (by omega)]) (by rw [st_k (by omega), st_k (by omega)]) (by rw [st_k (by omega), st_k (by omega)]) (by rw [st_k (by omega), st_k (by omega)])
  · exact hf.fr (by rw [st_k (by omega), st_k (by omega)]) (by rw [st_k (by omega), st_k (by omega)])
