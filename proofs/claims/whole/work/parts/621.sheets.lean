/-! SHEETS -/
theorem fin_s {h h2 : Mem} {N : Row} (hV : IV h N) (f : ∀ a, a < 35 ∨ 43 ≤ a → a ≠ 53 → a ≠ 54 → a ≠ 55 → a ≠ 56 → h2 a = h a) (hs : IRs h2) : Inv h2 := by
  obtain ⟨hD, hA, hB, ⟨hk, ht, -⟩, hf⟩ := hV
  have g : ∀ a, a < 35 ∨ (43 ≤ a ∧ a ≤ 52) → h2 a = h a := fun a q => f a (by omega) (by omega) (by omega) (by omega) (by omega)
  exact ⟨N, hD, hA.fr (fun a _ _ => g a (by omega)), hB.fr (g 44 (by omega)), ⟨hk.fr (by rw [g 0 (by omega)]) (by rw [g 43 (by omega)]) (fun a _ _ => g a (by omega)) (g 45 (by omega)), ht.fr (by rw [g 30 (by omega)]) (by rw [g 43 (by omega)]) (g 31 (by omega)) (g 50 (by omega)), hs⟩, hf.fr (g 34 (by omega)) (g 47 (by omega))⟩
theorem sheet9_y {s : Nat} {h : Mem} {Q : Int32 → Mem → Prop} (hs : s < 4) (k : Q 1 h) : f_X9_isSheet (nI s) h Q := by
  unfold f_X9_isSheet
  exact win9 (nI_pos' (by omega)) (nI_le (b := 3) (by omega) (by decide)) ⟨gm_b1, k⟩
theorem sheet9_n {a : Int32} {h : Mem} {Q : Int32 → Mem → Prop} (hs : ¬ ((0 : Int32) ≤ a ∧ a ≤ 3)) (k : Q 0 h) : f_X9_isSheet a h Q := by
  unfold f_X9_isSheet
  exact wout9 hs ⟨gm_b0, k⟩
theorem sheet10_y {s : Nat} {h : Mem} {Q : Int32 → Mem → Prop} (hs : s < 4) (k : Q 1 h) : f_X10_isSheet (nI s) h Q := by
  unfold f_X10_isSheet
  exact win10 (nI_pos' (by omega)) (nI_le (b := 3) (by omega) (by decide)) ⟨gm_b1, k⟩
theorem sheet10_n {a : Int32} {h : Mem} {Q : Int32 → Mem → Prop} (hs : ¬ ((0 : Int32) ≤ a ∧ a ≤ 3)) (k : Q 0 h) : f_X10_isSheet a h Q := by
  unfold f_X10_isSheet
  exact wout10 hs ⟨gm_b0, k⟩
theorem sheet_nI {a : Int32} (h : (0 : Int32) ≤ a ∧ a ≤ 3) : ∃ s : Nat, s < 4 ∧ a = nI s := by
  obtain ⟨s, hs, e⟩ := sm (m := 3) (by decide) h.1 h.2
  exact ⟨s, by omega, e⟩
theorem s_fill {b n : Nat} {v : Int32} {h : Mem} {Q : Mem → Prop} (hn : n < 1000) (k : ∀ h', Fr1 b h h' → (∀ j, j < n → h' b j = v) → Q h') : f_J7_fill_53178 b n v h Q := by
  unfold f_J7_fill_53178
  refine nm (lo1 nI n (fun i h' => Fr1 b h h' ∧ ∀ j, j < i → h' b j = v) rfl (by omega) ⟨Fr1.rf, fun j hj => absurd hj (Nat.not_lt_zero j)⟩ ?_ ?_)
  · rintro K h' ⟨f, e⟩
    unfold f_J7_fill_53178_b5
    exact ifp (nI_le (Nat.le_refl _) (by omega)) (k h' f e)
  · rintro K i h' hi ⟨f, e⟩ hK
    unfold f_J7_fill_53178_b5
    rw [nI_1, cl (by omega)]
    refine ifn (nI_ge hi (by omega)) ⟨vi hi (by omega), nm (nm (hK _ ⟨f.st, fun j hj => ?_⟩))⟩
    by_cases q : j = i
    · subst q; rw [st_s]
    · rw [st_j q]; exact e j (by omega)
theorem i40 {s k : Nat} : ((40 : Int32) * nI s) + nI k = nI (40 * s + k) := by
  show nI 40 * nI s + nI k = _
  rw [pk_mul, nI_add]
theorem s_begin {s : Nat} {b n : Int32} {h : Mem} {Q : Mem → Prop} (hs : s < 4) (k : ∀ h', (∀ a, a ≠ 35 + 2 * s → a ≠ 35 + 2 * s + 1 → h' a = h a) → h' (35 + 2 * s) 1 = b → h' (35 + 2 * s) 2 = (if b = 0 then 0 else n) → (∀ j, j < 40 → h' (35 + 2 * s + 1) j = 0) → Q h') : f_X5_begin (35 + 2 * s) b n h Q := by
  unfold f_X5_begin
  refine nm ?_
  by_cases c : b = 0
  · refine ifp c (nm (s_fill (by decide) (fun h' f e => k h' (fun a x y => by rw [f a y, st_k x, st_k x]) ?_ ?_ e)))
    · rw [f _ (by omega), st_j (by decide), st_s]
    · rw [f _ (by omega), st_s, if_pos c]
  · refine ifn c (nm (s_fill (by decide) (fun h' f e => k h' (fun a x y => by rw [f a y, st_k x, st_k x]) ?_ ?_ e)))
    · rw [f _ (by omega), st_j (by decide), st_s]
    · rw [f _ (by omega), st_s, if_neg c]
theorem s_sheetL {s : Nat} {a2 a3 : Int32} {h : Mem} {Q : Int32 → Mem → Prop} (hs : s < 4) (k : ∀ h', Fr1 55 h h' → (∀ j, j < 40 → h' 55 (40 * s + j) = 0) → (∀ i, i < 40 * s ∨ 40 * s + 40 ≤ i → h' 55 i = h 55 i) → Q (h 54 s) h') : gm_it1 (f_X10_sheet_b86 (nI s) a2 a3 Q) gm_F (0 : Int32) h := by
  refine lo1 nI 40 (fun i h' => Fr1 55 h h' ∧ (∀ j, j < i → h' 55 (40 * s + j) = 0) ∧ (∀ j, j < 40 * s ∨ 40 * s + 40 ≤ j → h' 55 j = h 55 j)) rfl (by decide) ⟨Fr1.rf, fun j hj => absurd hj (Nat.not_lt_zero j), fun _ _ => rfl⟩ ?_ ?_
  · rintro K h' ⟨f, e1, e2⟩
    unfold f_X10_sheet_b86
    rw [cl (by omega), f 54 (by decide)]
    exact ifp (by decide) ⟨vi hs (by decide), k h' f e1 e2⟩
  · rintro K i h' hi ⟨f, e1, e2⟩ hK
    unfold f_X10_sheet_b86
    rw [i40, cl (k := 40 * s + i) (by omega), nI_1]
    refine ifn (nI_ge (b := 40) hi (by decide)) ⟨vi (by omega) (by decide), nm (nm (hK _ ⟨f.st, fun j hj => ?_, fun j hj => ?_⟩))⟩
    · by_cases q : j = i
      · subst q; rw [st_s]
      · rw [st_j (by omega)]; exact e1 j (by omega)
    · rw [st_j (by omega)]; exact e2 j hj
def okB (b : Int32) : Prop := b = 0 ∨ b = 8 ∨ b = 16 ∨ b = 32
theorem pair_sheet (a1 a2 a3 : Int32) (h : Mem) (hI : Inv h) : f_X9_sheet a1 a2 a3 h (fun r h1 => f_X10_sheet a1 a2 a3 h1 (fun r2 h2 => r = r2 ∧ Inv h2)) := by
  obtain ⟨N, hV⟩ := hI
  have hA := hV.2.1
  have can_y : ∀ (h : Mem) (Q : Int32 → Mem → Prop), okB a2 → Q 1 h → f_X5_canHave a2 h Q := by
    intro h Q ho kQ
    unfold f_X5_canHave
    by_cases c0 : a2 = 0
    · exact ifp c0 kQ
    · refine ifn c0 ?_
      by_cases c1 : a2 = 8
      · exact ifp c1 kQ
      · refine ifn c1 ?_
        by_cases c2 : a2 = 16
        · exact ifp c2 kQ
        · refine ifn c2 ?_
          by_cases c3 : a2 = 32
          · exact ifp c3 kQ
          · exact absurd ho (by unfold okB; rintro (z | z | z | z) <;> contradiction)
  have can_n : ∀ (h : Mem) (Q : Int32 → Mem → Prop), ¬ okB a2 → Q 0 h → f_X5_canHave a2 h Q := by
    intro h Q ho kQ
    unfold f_X5_canHave
    exact ifn (fun z => ho (Or.inl z)) (ifn (fun z => ho (Or.inr (Or.inl z))) (ifn (fun z => ho (Or.inr (Or.inr (Or.inl z)))) (ifn (fun z => ho (Or.inr (Or.inr (Or.inr z)))) kQ)))
  have can10_y : ∀ (h : Mem) (Q : Int32 → Mem → Prop) (X : Prop), okB a2 → X → (if a2 = 0 then X else (if a2 = 8 then X else (if a2 = 16 then X else (if a2 = 32 then X else f_X10_finding (-1000001 : Int32) h Q)))) := by
    intro h Q X ho kQ
    by_cases c0 : a2 = 0
    · exact ifp c0 kQ
    · refine ifn c0 ?_
      by_cases c1 : a2 = 8
      · exact ifp c1 kQ
      · refine ifn c1 ?_
        by_cases c2 : a2 = 16
        · exact ifp c2 kQ
        · refine ifn c2 ?_
          by_cases c3 : a2 = 32
          · exact ifp c3 kQ
          · exact absurd ho (by unfold okB; rintro (z | z | z | z) <;> contradiction)
  by_cases hk : (0 : Int32) ≤ a1 ∧ a1 ≤ 3
  · obtain ⟨s, hs, rfl⟩ := sheet_nI hk
    by_cases hb : okB a2
    · by_cases h3 : (0 : Int32) ≤ a3
      · by_cases h40 : a3 ≤ 40
        · obtain ⟨z, hz, rfl⟩ := sm (m := 40) (by decide) h3 h40
          unfold f_X9_sheet
          rw [cl (by omega)]
          refine sheet9_y hs (ifn oz (can_y _ _ hb (ifn oz (ifp h3 (ifp h40 ⟨vi hs (by decide), s_begin hs (fun h1 f1 e1 e2 e3 => ⟨vi hs (by decide), ?_⟩)⟩)))))
          unfold f_X10_sheet f_X10_sheet_b36
          rw [cl (by omega)]
          refine sheet10_y hs (ifn oz (can10_y _ _ _ hb (ifp h3 (ifp h40 ⟨vi hs (by decide), nm ?_⟩))))
          have hI2 := hV.2.2.2.1.2.2
          have fin : ∀ (x : Int32), x = (if a2 = 0 then 0 else nI z) → ∀ (h2 : Mem), Fr1 55 (gm_st (gm_st h1 53 s a2) 54 s x) h2 → (∀ j, j < 40 → h2 55 (40 * s + j) = 0) → (∀ i, i < 40 * s ∨ 40 * s + 40 ≤ i → h2 55 i = (gm_st (gm_st h1 53 s a2) 54 s x) 55 i) → h1 (35 + 2 * s) 2 = (gm_st (gm_st h1 53 s a2) 54 s x) 54 s ∧ Inv h2 := by
            intro x ex h2 f2 g1 g2
            refine ⟨by rw [st_s, e2, ex], fin_s hV (fun a q1 q2 q3 q4 q5 => by rw [f2 a q4, st_k q3, st_k q2, f1 a (by omega) (by omega)]) (fun u hu => ?_)⟩
            have y := hI2 u hu
            by_cases q : u = s
            · subst q
              refine ⟨?_, ?_, ?_, fun i hi => ?_⟩
              · rw [f2 53 (by decide), st_k (by decide), st_s, f2 _ (by omega), st_k (by omega), st_k (by omega), e1]
              · rw [f2 54 (by decide), st_s, f2 _ (by omega), st_k (by omega), st_k (by omega), e2, ex]
              · rw [f2 _ (by omega), st_k (by omega), st_k (by omega), e2]
                by_cases c : a2 = 0
                · rw [if_pos c]; exact ⟨0, by omega, rfl⟩
                · rw [if_neg c]; exact ⟨z, hz, rfl⟩
              · rw [g1 i hi, f2 _ (by omega), st_k (by omega), st_k (by omega), e3 i hi]
            · rw [f2 53 (by decide), st_k (by decide), st_j q, f2 54 (by decide), st_j q, st_k (by decide), f2 (35 + 2 * u) (by omega), st_k (by omega), st_k (by omega), f2 (35 + 2 * u + 1) (by omega), st_k (by omega), st_k (by omega), f1 53 (by omega) (by omega), f1 54 (by omega) (by omega), f1 (35 + 2 * u) (by omega) (by omega), f1 (35 + 2 * u + 1) (by omega) (by omega)]
              refine ⟨y.1, y.2.1, y.2.2.1, fun i hi => ?_⟩
              rw [g2 _ (by omega), st_k (by omega), st_k (by omega), f1 55 (by omega) (by omega)]
              exact y.2.2.2 i hi
          by_cases c : a2 = 0
          · refine ifp c ⟨vi hs (by decide), nm (s_sheetL hs (fun h2 f2 g1 g2 => fin _ (by rw [if_pos c]) h2 f2 g1 g2))⟩
          · refine ifn c ⟨vi hs (by decide), nm (s_sheetL hs (fun h2 f2 g1 g2 => fin _ (by rw [if_neg c]) h2 f2 g1 g2))⟩
        · refine pr_no (f9 := f_X9_sheet _ _ _) (f10 := f_X10_sheet _ _ _) (w := id) 0 (by decide) hV (fun Q k => ?_) (fun h Q hB _ k => ?_)
          · unfold f_X9_sheet
            exact sheet9_y hs (ifn oz (can_y _ _ hb (ifn oz (ifp h3 (ifn h40 (k h hA G9.rf))))))
          · unfold f_X10_sheet f_X10_sheet_b36
            exact sheet10_y hs (ifn oz (can10_y _ _ _ hb (ifp h3 (ifn h40 (k h hB G10.rf)))))
      · refine pr_no (f9 := f_X9_sheet _ _ _) (f10 := f_X10_sheet _ _ _) (w := id) 6 (by decide) hV (fun Q k => ?_) (fun h Q hB _ k => ?_)
        · unfold f_X9_sheet
          exact sheet9_y hs (ifn oz (can_y _ _ hb (ifn oz (ifn h3 (k h hA G9.rf)))))
        · unfold f_X10_sheet f_X10_sheet_b36
          exact sheet10_y hs (ifn oz (can10_y _ _ _ hb (ifn h3 (k h hB G10.rf))))
    · refine pr_no (f9 := f_X9_sheet _ _ _) (f10 := f_X10_sheet _ _ _) (w := id) 0 (by decide) hV (fun Q k => ?_) (fun h Q hB _ k => ?_)
      · unfold f_X9_sheet
        exact sheet9_y hs (ifn oz (can_n _ _ hb (ifp rfl (k h hA G9.rf))))
      · unfold f_X10_sheet
        exact sheet10_y hs (ifn oz (ifn (fun z => hb (Or.inl z)) (ifn (fun z => hb (Or.inr (Or.inl z))) (ifn (fun z => hb (Or.inr (Or.inr (Or.inl z)))) (ifn (fun z => hb (Or.inr (Or.inr (Or.inr z)))) (k h hB G10.rf))))))
  · refine pr_no (f9 := f_X9_sheet _ _ _) (f10 := f_X10_sheet _ _ _) (w := id) 0 (by decide) hV (fun Q k => ?_) (fun h Q hB _ k => ?_)
    · unfold f_X9_sheet
      exact sheet9_n hk (ifp rfl (k h hA G9.rf))
    · unfold f_X10_sheet
      exact sheet10_n hk (ifp rfl (k h hB G10.rf))
/-! write -/
def cut (v b : Int32) : Int32 := if b = 8 then v.toInt8.toInt32 else if b = 16 then v.toInt16.toInt32 else v
theorem s_put {q i : Nat} {v b : Int32} {h : Mem} {Q : Mem → Prop} (hb : h q 1 = b) (hi : i < 40) (k : Q (gm_st h (q + 1) i (cut v b))) : f_X5_put q (nI i) v h Q := by
  unfold f_X5_put
  rw [hb, cl (by omega)]
  unfold cut at k
  by_cases c : b = 8
  · rw [if_pos c] at k; exact ifp c ⟨vi hi (by decide), nm k⟩
  · rw [if_neg c] at k
    refine ifn c ?_
    by_cases c2 : b = 16
    · rw [if_pos c2] at k; exact ifp c2 ⟨vi hi (by decide), nm k⟩
    · rw [if_neg c2] at k; exact ifn c2 ⟨vi hi (by decide), nm k⟩
theorem s_cut {v b : Int32} {h : Mem} {Q : Int32 → Mem → Prop} (k : Q (cut v b) h) : f_X10_cutTo v b h Q := by
  unfold f_X10_cutTo
  unfold cut at k
  by_cases c : b = 8
  · rw [if_pos c] at k; exact ifp c k
  · rw [if_neg c] at k
    refine ifn c ?_
    by_cases c2 : b = 16
    · rw [if_pos c2] at k; exact ifp c2 k
    · rw [if_neg c2] at k; exact ifn c2 k
theorem miss_y {q : Nat} {h : Mem} {Q : Int32 → Mem → Prop} (hb : h q 1 = 0) (k : Q 1 h) : f_X5_isMissing q h Q := by unfold f_X5_isMissing; exact ifp hb k
theorem miss_n {q : Nat} {h : Mem} {Q : Int32 → Mem → Prop} (hb : ¬ h q 1 = 0) (k : Q 0 h) : f_X5_isMissing q h Q := by unfold f_X5_isMissing; exact ifn hb k
theorem pair_write (a1 a2 a3 : Int32) (h : Mem) (hI : Inv h) : f_X9_write a1 a2 a3 h (fun r h1 => f_X10_write a1 a2 a3 h1 (fun r2 h2 => r = r2 ∧ Inv h2)) := by
  obtain ⟨N, hV⟩ := hI
  have hA := hV.2.1
  have hI2 := hV.2.2.2.1.2.2
  by_cases hk : (0 : Int32) ≤ a1 ∧ a1 ≤ 3
  · obtain ⟨s, hs, rfl⟩ := sheet_nI hk
    obtain ⟨y1, y2, ⟨z, hz, y3⟩, y4⟩ := hI2 s hs
    by_cases hm : h (35 + 2 * s) 1 = 0
    · refine pr_no2 (f9 := f_X9_write _ _ _) (f10 := f_X10_write _ _ _) (w := id) 5 (by decide) hV (fun Q k => ?_) (fun h2 Q hB _ hE k => ?_)
      · unfold f_X9_write
        rw [cl (by omega)]
        exact sheet9_y hs (ifn oz ⟨vi hs (by decide), miss_y hm (ifn oz (k h hA G9.rf))⟩)
      · unfold f_X10_write
        rw [cl (by omega)]
        exact sheet10_y hs (ifn oz ⟨vi hs (by decide), ifp (by rw [hE 53 (by omega), y1]; exact hm) (k h2 hB G10.rf)⟩)
    · by_cases hr : (0 : Int32) ≤ a2 ∧ a2 ≤ nI z - 1
      · have hr2 := hr.2
        rw [fa_le, n_sub1 (by omega)] at hr2
        have hr1 := hr.1
        rw [fa_le, i0] at hr1
        obtain ⟨i, hi, rfl⟩ := sm (a := a2) (m := z - 1) (by omega) hr.1 (by rw [fa_le, nI_toInt (by omega)]; omega)
        rw [nI_toInt (by omega)] at hr2
        have hiz : i < z := by omega
        unfold f_X9_write
        rw [cl (by omega)]
        refine sheet9_y hs (ifn oz ⟨vi hs (by decide), miss_n hm (ifp rfl ⟨vi hs (by decide), ?_⟩)⟩)
        rw [y3]
        refine win9 hr.1 hr.2 (ifn oz ⟨vi hs (by decide), s_put rfl (by omega) ?_⟩)
        unfold f_X10_write
        rw [cl (by omega)]
        refine sheet10_y hs (ifn oz ⟨vi hs (by decide), ifn (by rw [st_k (by omega), y1]; exact hm) ⟨vi hs (by decide), ?_⟩⟩)
        rw [st_k (by omega), y2, y3]
        refine win10 hr.1 hr.2 (ifn oz ⟨vi hs (by decide), ?_⟩)
        rw [st_k (by omega), y1]
        refine s_cut ⟨by rw [i40]; exact vi (by omega) (by decide), ?_⟩
        rw [i40, cl (by omega)]
        refine nm ⟨rfl, fin_s hV (fun a q1 q2 q3 q4 q5 => by rw [st_k q4, st_k (by omega)]) (fun u hu => ?_)⟩
        have y := hI2 u hu
        rw [st_k (by omega), st_k (by omega), st_k (a := 54) (by omega), st_k (a := 54) (by omega), st_k (a := 35 + 2 * u) (by omega), st_k (a := 35 + 2 * u) (by omega)]
        refine ⟨y.1, y.2.1, y.2.2.1, fun j hj => ?_⟩
        rw [st_k (a := 35 + 2 * u + 1) (by omega)]
        by_cases q : u = s
        · subst q
          by_cases q2 : j = i
          · subst q2; rw [st_s, st_s]
          · rw [st_j (by omega), st_j q2, st_k (by omega)]; exact y.2.2.2 j hj
        · rw [st_j (by omega), st_k (by omega), st_k (by omega)]; exact y.2.2.2 j hj
      · refine pr_no2 (f9 := f_X9_write _ _ _) (f10 := f_X10_write _ _ _) (w := id) 0 (by decide) hV (fun Q k => ?_) (fun h2 Q hB _ hE k => ?_)
        · unfold f_X9_write
          rw [cl (by omega)]
          refine sheet9_y hs (ifn oz ⟨vi hs (by decide), miss_n hm (ifp rfl ⟨vi hs (by decide), ?_⟩)⟩)
          rw [y3]
          exact wout9 hr (ifp rfl (k h hA G9.rf))
        · unfold f_X10_write
          rw [cl (by omega)]
          refine sheet10_y hs (ifn oz ⟨vi hs (by decide), ifn (by rw [hE 53 (by omega), y1]; exact hm) ⟨vi hs (by decide), ?_⟩⟩)
          rw [hE 54 (by omega), y2, y3]
          exact wout10 hr (ifp rfl (k h2 hB G10.rf))
  · refine pr_no (f9 := f_X9_write _ _ _) (f10 := f_X10_write _ _ _) (w := id) 0 (by decide) hV (fun Q k => ?_) (fun h Q hB _ k => ?_)
    · unfold f_X9_write
      exact sheet9_n hk (ifp rfl (k h hA G9.rf))
    · unfold f_X10_write
      exact sheet10_n hk (ifp rfl (k h hB G10.rf))
