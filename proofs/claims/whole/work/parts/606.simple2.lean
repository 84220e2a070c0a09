/-! MORE SIMPLE CALLS -/
theorem tab2 : ∀ j, j < 3 → (gm_tab 2).getD (nI j).toNatClampNeg 0 = [0, 1, 0].getD j 0 := by decide +kernel
theorem tab3 : ∀ j, j < 3 → (gm_tab 3).getD (nI j).toNatClampNeg 0 = [6, 20, 9].getD j 0 := by decide +kernel
theorem ch_out {a1 a2 a3 : Int32} {h : Mem} {N : Row} {n : Nat} {Q : Int32 → Mem → Prop} (hB : A10 h 44 N) (h4 : N 4 = nI n) (hn : n ≤ 12) (s : Int32) (hs : s = 0 ∨ ¬ ((0 : Int32) ≤ a1 ∧ ¬ nI n ≤ a1)) (k : f_X10_finding (-1000001 : Int32) h Q) : f_X10_change_b46 a1 a2 a3 Q s h := by
  unfold f_X10_change_b46
  rcases ln (a := a1) hn with hl | hl
  · obtain ⟨l, hL, rfl⟩ := ln_nI hn hl
    refine isLine10_y hB h4 hn hL (ifn oz (ifp ?_ k))
    rcases hs with q | q
    · exact q
    · exact absurd hl q
  · exact isLine10_n hB h4 hn hl (ifp rfl k)
/-- the reference's change: whether the value fits its feature, told as 0 or 1 -/
theorem ch_sel {a1 a2 a3 : Int32} {h : Mem} {Q : Int32 → Mem → Prop} (k0 : ¬ ((a2 = 0 ∧ (0 : Int32) ≤ a3 ∧ a3 ≤ 6) ∨ (a2 = 1 ∧ (1 : Int32) ≤ a3 ∧ a3 ≤ 20) ∨ (a2 = 2 ∧ (0 : Int32) ≤ a3 ∧ a3 ≤ 9)) → f_X10_change_b46 a1 a2 a3 Q 0 h) (k1 : ((a2 = 0 ∧ (0 : Int32) ≤ a3 ∧ a3 ≤ 6) ∨ (a2 = 1 ∧ (1 : Int32) ≤ a3 ∧ a3 ≤ 20) ∨ (a2 = 2 ∧ (0 : Int32) ≤ a3 ∧ a3 ≤ 9)) → f_X10_change_b46 a1 a2 a3 Q 1 h) : f_X10_change a1 a2 a3 h Q := by
  unfold f_X10_change f_X10_isKind f_X10_change_b11 f_X10_change_b26 f_X10_change_b41 f_X10_change_b45
  by_cases e0 : a2 = 0
  · refine ifp e0 ?_
    have n1 : ¬ a2 = 1 := by rw [e0]; decide
    have n2 : ¬ a2 = 2 := by rw [e0]; decide
    by_cases q : (0 : Int32) ≤ a3 ∧ a3 ≤ 6
    · exact win10 q.1 q.2 ⟨gm_b1, ifn oz (k1 (Or.inl ⟨e0, q⟩))⟩
    · refine wout10 q ⟨gm_b0, ifp rfl (ifn n1 (ifn n2 (k0 ?_)))⟩
      rintro (z | z | z)
      · exact q z.2
      · exact n1 z.1
      · exact n2 z.1
  · refine ifn e0 ?_
    by_cases e1 : a2 = 1
    · refine ifp e1 ?_
      have n2 : ¬ a2 = 2 := by rw [e1]; decide
      by_cases q : (1 : Int32) ≤ a3 ∧ a3 ≤ 20
      · exact win10 q.1 q.2 (ifn oz (k1 (Or.inr (Or.inl ⟨e1, q⟩))))
      · refine wout10 q (ifp rfl (ifn n2 (k0 ?_)))
        rintro (z | z | z)
        · exact e0 z.1
        · exact q z.2
        · exact n2 z.1
    · refine ifn e1 ?_
      by_cases e2 : a2 = 2
      · refine ifp e2 ?_
        by_cases q : (0 : Int32) ≤ a3 ∧ a3 ≤ 9
        · exact win10 q.1 q.2 (ifn oz (k1 (Or.inr (Or.inr ⟨e2, q⟩))))
        · refine wout10 q (ifp rfl (k0 ?_))
          rintro (z | z | z)
          · exact e0 z.1
          · exact e1 z.1
          · exact q z.2
      · refine ifn e2 (k0 ?_)
        rintro (z | z | z)
        · exact e0 z.1
        · exact e1 z.1
        · exact e2 z.1
theorem ch9 {l n j : Nat} {v lo hi : Int32} {h : Mem} {N : Row} {Q : Int32 → Mem → Prop} (hA : A9 h 1 N) (h4 : N 4 = nI n) (hn : n ≤ 12) (hl : l < n) (hj : j < 3) (elo : [0, 1, 0].getD j 0 = lo) (ehi : [6, 20, 9].getD j 0 = hi) (h1 : lo ≤ v) (h2 : v ≤ hi) (k : ∀ h', A9 h' 1 (upd N (26 + 3 * l + j) v) → G9 h h' → Q (N (26 + 3 * l + j)) h') : f_X9_change (nI l) (nI j) v h Q := by
  unfold f_X9_change
  refine isLine9_y hA h4 hn hl (ifn oz (win9 (nI_pos' (by omega)) (nI_le (b := 2) (by omega) (by decide)) (ifn oz ⟨vi hj (by decide), vi hj (by decide), ?_⟩)))
  rw [tab2 j hj, tab3 j hj, elo, ehi]
  refine win9 h1 h2 (ifn oz ?_)
  obtain ⟨d0, d1, d2⟩ := hA.2.2.2 l (by omega)
  have hj : j = 0 ∨ j = 1 ∨ j = 2 := by omega
  unfold f_X6_features
  rcases hj with rfl | rfl | rfl
  · refine ifp rfl ⟨rfl, vi (by show l < 12; omega) (by decide), nm ⟨vi (by show l < 12; omega) (by decide), nm ?_⟩⟩
    rw [cl (by omega), d0]
    exact k _ (hA.feature (f := 0) (by omega) (by decide)) (fun a q => st_k (by omega))
  · refine ifn (by decide) (ifp rfl ⟨rfl, vi (by show l < 12; omega) (by decide), nm ⟨vi (by show l < 12; omega) (by decide), nm ?_⟩⟩)
    rw [cl (by omega), d1]
    exact k _ (hA.feature (f := 1) (by omega) (by decide)) (fun a q => st_k (by omega))
  · refine ifn (by decide) (ifn (by decide) ⟨rfl, vi (by show l < 12; omega) (by decide), nm ⟨vi (by show l < 12; omega) (by decide), nm ?_⟩⟩)
    rw [cl (by omega), d2]
    exact k _ (hA.feature (f := 2) (by omega) (by decide)) (fun a q => st_k (by omega))
theorem ch10 {l n j : Nat} {v : Int32} {h : Mem} {N : Row} {Q : Int32 → Mem → Prop} (hB : A10 h 44 N) (h4 : N 4 = nI n) (hn : n ≤ 12) (hl : l < n) (hj : j < 3) (k : ∀ h', A10 h' 44 (upd N (26 + 3 * l + j) v) → G10 h h' → Q (N (26 + 3 * l + j)) h') : f_X10_change_b46 (nI l) (nI j) v Q 1 h := by
  unfold f_X10_change_b46 f_X10_at
  refine isLine10_y hB h4 hn hl (ifn oz (ifn oz ?_))
  rw [at_nI]
  exact s_become10 hB (by omega) (fun h' a f => k h' a f.g10)
theorem pair_change (a1 a2 a3 : Int32) (h : Mem) (hI : Inv h) : f_X9_change a1 a2 a3 h (fun r h1 => f_X10_change a1 a2 a3 h1 (fun r2 h2 => r = r2 ∧ Inv h2)) := by
  obtain ⟨N, hV⟩ := hI
  obtain ⟨a, n, han, hn, h0, h4, hw, hs⟩ := hV.1.1
  have hA := hV.2.1
  by_cases hg : ((a2 = 0 ∧ (0 : Int32) ≤ a3 ∧ a3 ≤ 6) ∨ (a2 = 1 ∧ (1 : Int32) ≤ a3 ∧ a3 ≤ 20) ∨ (a2 = 2 ∧ (0 : Int32) ≤ a3 ∧ a3 ≤ 9))
  · rcases ln (a := a1) hn with hl | hl
    · obtain ⟨l, hL, rfl⟩ := ln_nI hn hl
      rcases id hg with ⟨rfl, q⟩ | ⟨rfl, q⟩ | ⟨rfl, q⟩
      · exact pr_ok (f9 := f_X9_change _ _ _) (f10 := f_X10_change _ _ _) (r := N (26 + 3 * l + 0)) (N' := upd N (26 + 3 * l + 0) a3) hV (hV.1.kind ((fa_le _ _).mp q.1) ((fa_le _ _).mp q.2)) (fun Q k => ch9 (j := 0) hA h4 hn hL (by decide) rfl rfl q.1 q.2 k) (fun h Q hB _ k => ch_sel (fun z => absurd hg z) (fun _ => ch10 (j := 0) hB h4 hn hL (by decide) k))
      · exact pr_ok (f9 := f_X9_change _ _ _) (f10 := f_X10_change _ _ _) (r := N (26 + 3 * l + 1)) (N' := upd N (26 + 3 * l + 1) a3) hV (hV.1.words ((fa_le _ _).mp q.1) ((fa_le _ _).mp q.2)) (fun Q k => ch9 (j := 1) hA h4 hn hL (by decide) rfl rfl q.1 q.2 k) (fun h Q hB _ k => ch_sel (fun z => absurd hg z) (fun _ => ch10 (j := 1) hB h4 hn hL (by decide) k))
      · exact pr_ok (f9 := f_X9_change _ _ _) (f10 := f_X10_change _ _ _) (r := N (26 + 3 * l + 2)) (N' := upd N (26 + 3 * l + 2) a3) hV (hV.1.hard ((fa_le _ _).mp q.1) ((fa_le _ _).mp q.2)) (fun Q k => ch9 (j := 2) hA h4 hn hL (by decide) rfl rfl q.1 q.2 k) (fun h Q hB _ k => ch_sel (fun z => absurd hg z) (fun _ => ch10 (j := 2) hB h4 hn hL (by decide) k))
    · refine pr_no (f9 := f_X9_change _ _ _) (f10 := f_X10_change _ _ _) (w := id) 0 (by decide) hV (fun Q k => ?_) (fun h Q hB _ k => ?_)
      · unfold f_X9_change
        exact isLine9_n hA h4 hl (ifp rfl (k h hA G9.rf))
      · exact ch_sel (fun z => absurd hg z) (fun _ => ch_out hB h4 hn 1 (Or.inr hl) (k h hB G10.rf))
  · refine pr_no (f9 := f_X9_change _ _ _) (f10 := f_X10_change _ _ _) (w := id) 0 (by decide) hV (fun Q k => ?_) (fun h Q hB _ k => ?_)
    · unfold f_X9_change
      rcases ln (a := a1) hn with hl | hl
      · obtain ⟨l, hL, rfl⟩ := ln_nI hn hl
        refine isLine9_y hA h4 hn hL (ifn oz ?_)
        by_cases q : (0 : Int32) ≤ a2 ∧ a2 ≤ 2
        · obtain ⟨j, hj, rfl⟩ := sm (m := 2) (by decide) q.1 q.2
          refine win9 q.1 q.2 (ifn oz ⟨vi (by omega) (by decide), vi (by omega) (by decide), ?_⟩)
          rw [tab2 j (by omega), tab3 j (by omega)]
          refine wout9 (fun z => hg ?_) (ifp rfl (k h hA G9.rf))
          have hj : j = 0 ∨ j = 1 ∨ j = 2 := by omega
          rcases hj with rfl | rfl | rfl
          · exact Or.inl ⟨rfl, z⟩
          · exact Or.inr (Or.inl ⟨rfl, z⟩)
          · exact Or.inr (Or.inr ⟨rfl, z⟩)
        · exact wout9 q (ifp rfl (k h hA G9.rf))
      · exact isLine9_n hA h4 hl (ifp rfl (k h hA G9.rf))
    · exact ch_sel (fun _ => ch_out hB h4 hn 0 (Or.inl rfl) (k h hB G10.rf)) (fun z => absurd z hg)
/-! rules -/
theorem tab4 : ∀ j, j < 10 → (gm_tab 4).getD (nI j).toNatClampNeg 0 = [1, 1, 0, 0, -9, -9, 0, 1, 0, 0].getD j 0 := by decide +kernel
theorem tab5 : ∀ j, j < 10 → (gm_tab 5).getD (nI j).toNatClampNeg 0 = [99, 99, 10, 10, 9, 9, 9, 6, 10, 99999].getD j 0 := by decide +kernel
def ruleL (i : Nat) : Int32 := [1, 1, 0, 0, -9, -9, 0, 1, 0, 0].getD i 0
def ruleH (i : Nat) : Int32 := [99, 99, 10, 10, 9, 9, 9, 6, 10, 99999].getD i 0
theorem ruleL_i : ∀ j, j < 10 → (ruleL j).toInt = ruleLo j := by decide +kernel
theorem ruleH_i : ∀ j, j < 10 → (ruleH j).toInt = ruleHi j := by decide +kernel
theorem s_least {i : Nat} {h : Mem} {Q : Int32 → Mem → Prop} (hi : i < 10) (k : Q (ruleL i) h) : f_X10_least (nI i) h Q := by
  have : i = 0 ∨ i = 1 ∨ i = 2 ∨ i = 3 ∨ i = 4 ∨ i = 5 ∨ i = 6 ∨ i = 7 ∨ i = 8 ∨ i = 9 := by omega
  unfold f_X10_least
  rcases this with rfl | rfl | rfl | rfl | rfl | rfl | rfl | rfl | rfl | rfl
  · exact ifp (by decide) k
  · exact ifp (by decide) k
  · exact ifn (by decide) (ifn (by decide) (ifn (by decide) (ifn (by decide) k)))
  · exact ifn (by decide) (ifn (by decide) (ifn (by decide) (ifn (by decide) k)))
  · exact ifn (by decide) (ifn (by decide) (ifp (by decide) k))
  · exact ifn (by decide) (ifn (by decide) (ifn (by decide) (ifp (by decide) k)))
  · exact ifn (by decide) (ifn (by decide) (ifn (by decide) (ifn (by decide) k)))
  · exact ifn (by decide) (ifp (by decide) k)
  · exact ifn (by decide) (ifn (by decide) (ifn (by decide) (ifn (by decide) k)))
  · exact ifn (by decide) (ifn (by decide) (ifn (by decide) (ifn (by decide) k)))
theorem s_most {i : Nat} {h : Mem} {Q : Int32 → Mem → Prop} (hi : i < 10) (k : Q (ruleH i) h) : f_X10_most (nI i) h Q := by
  have : i = 0 ∨ i = 1 ∨ i = 2 ∨ i = 3 ∨ i = 4 ∨ i = 5 ∨ i = 6 ∨ i = 7 ∨ i = 8 ∨ i = 9 := by omega
  unfold f_X10_most
  rcases this with rfl | rfl | rfl | rfl | rfl | rfl | rfl | rfl | rfl | rfl
  · exact ifp (by decide) k
  · exact ifn (by decide) (ifp (by decide) k)
  · exact ifn (by decide) (ifn (by decide) (ifp (by decide) k))
  · exact ifn (by decide) (ifn (by decide) (ifn (by decide) (ifp (by decide) k)))
  · exact ifn (by decide) (ifn (by decide) (ifn (by decide) (ifn (by decide) (ifp (by decide) k))))
  · exact ifn (by decide) (ifn (by decide) (ifn (by decide) (ifn (by decide) (ifn (by decide) (ifp (by decide) k)))))
  · exact ifn (by decide) (ifn (by decide) (ifn (by decide) (ifn (by decide) (ifn (by decide) (ifn (by decide) (ifp (by decide) k))))))
  · exact ifn (by decide) (ifn (by decide) (ifn (by decide) (ifn (by decide) (ifn (by decide) (ifn (by decide) (ifn (by decide) (ifp (by decide) k)))))))
  · exact ifn (by decide) (ifn (by decide) (ifn (by decide) (ifn (by decide) (ifn (by decide) (ifn (by decide) (ifn (by decide) (ifn (by decide) (ifp (by decide) k))))))))
  · exact ifn (by decide) (ifn (by decide) (ifn (by decide) (ifn (by decide) (ifn (by decide) (ifn (by decide) (ifn (by decide) (ifn (by decide) (ifn (by decide) (ifp (by decide) k)))))))))
theorem add6 {i : Nat} : (6 : Int32) + nI i = nI (6 + i) := nI_add 6 i
theorem add16 {i : Nat} : (16 : Int32) + nI i = nI (16 + i) := nI_add 16 i
theorem pair_rule (a1 a2 : Int32) (h : Mem) (hI : Inv h) : f_X9_rule a1 a2 h (fun r h1 => f_X10_rule a1 a2 h1 (fun r2 h2 => r = r2 ∧ Inv h2)) := by
  obtain ⟨N, hV⟩ := hI
  have hA := hV.2.1
  by_cases hk : (0 : Int32) ≤ a1 ∧ a1 ≤ 9
  · obtain ⟨i, hi, rfl⟩ := sm (m := 9) (by decide) hk.1 hk.2
    by_cases hv : ruleL i ≤ a2 ∧ a2 ≤ ruleH i
    · refine pr_ok (f9 := f_X9_rule _ _) (f10 := f_X10_rule _ _) (r := N (6 + i)) (N' := upd N (6 + i) a2) hV (hV.1.rule (by omega) (by rw [← ruleL_i i (by omega)]; exact (fa_le _ _).mp hv.1) (by rw [← ruleH_i i (by omega)]; exact (fa_le _ _).mp hv.2)) (fun Q k => ?_) (fun h Q hB _ k => ?_)
      · unfold f_X9_rule
        refine win9 hk.1 hk.2 (ifn oz ⟨vi (by omega) (by decide), vi (by omega) (by decide), ?_⟩)
        rw [tab4 i (by omega), tab5 i (by omega)]
        refine win9 hv.1 hv.2 (ifn oz ⟨vi (by omega) (by decide), nm ⟨vi (by omega) (by decide), nm ?_⟩⟩)
        rw [cl (by omega), hA.2.1 i (by omega)]
        exact k _ (hA.rule (by omega)) (fun a q => st_k (by omega))
      · unfold f_X10_rule f_X10_isRule
        refine win10 hk.1 hk.2 ⟨gm_b1, ifn oz (s_least (by omega) (s_most (by omega) (win10 hv.1 hv.2 (ifn oz ?_))))⟩
        rw [add6]
        exact s_become10 hB (by omega) (fun h' a f => k h' a f.g10)
    · refine pr_no (f9 := f_X9_rule _ _) (f10 := f_X10_rule _ _) (w := id) 0 (by decide) hV (fun Q k => ?_) (fun h Q hB _ k => ?_)
      · unfold f_X9_rule
        refine win9 hk.1 hk.2 (ifn oz ⟨vi (by omega) (by decide), vi (by omega) (by decide), ?_⟩)
        rw [tab4 i (by omega), tab5 i (by omega)]
        exact wout9 hv (ifp rfl (k h hA G9.rf))
      · unfold f_X10_rule f_X10_isRule
        exact win10 hk.1 hk.2 ⟨gm_b1, ifn oz (s_least (by omega) (s_most (by omega) (wout10 hv (ifp rfl (k h hB G10.rf)))))⟩
  · refine pr_no (f9 := f_X9_rule _ _) (f10 := f_X10_rule _ _) (w := id) 0 (by decide) hV (fun Q k => ?_) (fun h Q hB _ k => ?_)
    · unfold f_X9_rule
      exact wout9 hk (ifp rfl (k h hA G9.rf))
    · unfold f_X10_rule f_X10_isRule
      exact wout10 hk ⟨gm_b0, ifp rfl (k h hB G10.rf)⟩
theorem pair_ruled (a1 : Int32) (h : Mem) (hI : Inv h) : f_X9_ruled a1 h (fun r h1 => f_X10_ruled a1 h1 (fun r2 h2 => r = r2 ∧ Inv h2)) := by
  obtain ⟨N, hV⟩ := hI
  have hA := hV.2.1
  by_cases hk : (0 : Int32) ≤ a1 ∧ a1 ≤ 9
  · obtain ⟨i, hi, rfl⟩ := sm (m := 9) (by decide) hk.1 hk.2
    refine pr_ok (f9 := f_X9_ruled _) (f10 := f_X10_ruled _) (r := N (6 + i)) (N' := N) hV hV.1 (fun Q k => ?_) (fun h Q hB _ k => ?_)
    · unfold f_X9_ruled
      refine win9 hk.1 hk.2 (ifn oz ⟨vi (by omega) (by decide), ?_⟩)
      rw [cl (by omega), hA.2.1 i (by omega)]
      exact k h hA G9.rf
    · unfold f_X10_ruled f_X10_isRule
      rw [add6, cl (by omega)]
      refine win10 hk.1 hk.2 ⟨gm_b1, ifn oz ⟨vi (by omega) (by decide), ?_⟩⟩
      rw [hB _ (by omega)]
      exact k h hB G10.rf
  · refine pr_no (f9 := f_X9_ruled _) (f10 := f_X10_ruled _) (w := id) 0 (by decide) hV (fun Q k => ?_) (fun h Q hB _ k => ?_)
    · unfold f_X9_ruled
      exact wout9 hk (ifp rfl (k h hA G9.rf))
    · unfold f_X10_ruled f_X10_isRule
      exact wout10 hk ⟨gm_b0, ifp rfl (k h hB G10.rf)⟩
theorem pair_go (a1 : Int32) (h : Mem) (hI : Inv h) : f_X9_go a1 h (fun r h1 => f_X10_go a1 h1 (fun r2 h2 => r = r2 ∧ Inv h2)) := by
  obtain ⟨N, hV⟩ := hI
  obtain ⟨a, n, han, hn, h0, h4, hw, hs⟩ := hV.1.1
  have hA := hV.2.1
  by_cases hk : (0 : Int32) ≤ a1 ∧ a1 ≤ nI n
  · obtain ⟨i, hi, rfl⟩ := sm (m := n) (by omega) hk.1 hk.2
    refine pr_ok (f9 := f_X9_go _) (f10 := f_X10_go _) (r := N 0) (N' := upd N 0 (nI i)) hV (hV.1.at_ h4 hi hn) (fun Q k => ?_) (fun h Q hB _ k => ?_)
    · unfold f_X9_go
      rw [hA.1.2.2.2.2.1, h4]
      refine win9 hk.1 hk.2 (ifn oz (nm (nm ?_)))
      rw [hA.1.1]
      exact k _ hA.at_ (fun a q => st_k (by omega))
    · unfold f_X10_go
      rw [hB 4 (by decide), h4]
      exact win10 hk.1 hk.2 (ifn oz (s_become10 (i := 0) hB (by decide) (fun h' a f => k h' a f.g10)))
  · refine pr_no (f9 := f_X9_go _) (f10 := f_X10_go _) (w := id) 0 (by decide) hV (fun Q k => ?_) (fun h Q hB _ k => ?_)
    · unfold f_X9_go
      rw [hA.1.2.2.2.2.1, h4]
      exact wout9 hk (ifp rfl (k h hA G9.rf))
    · unfold f_X10_go
      rw [hB 4 (by decide), h4]
      exact wout10 hk (ifp rfl (k h hB G10.rf))
theorem pair_turn (h : Mem) (hI : Inv h) : f_X9_turn h (fun r h1 => f_X10_turn h1 (fun r2 h2 => r = r2 ∧ Inv h2)) := by
  obtain ⟨N, hV⟩ := hI
  have hA := hV.2.1
  refine pr_ok (f9 := f_X9_turn) (f10 := f_X10_turn) (r := n_turn N 6) (N' := n_turn N) hV hV.1.turn (fun Q k => ?_) (fun h Q hB _ k => ?_)
  · unfold f_X9_turn
    refine s_turnPaces hA (by omega) (fun h' b f => ?_)
    rw [b.2.1 0 (by decide)]
    exact k h' b (fun a q => f a (by omega) (by omega))
  · unfold f_X10_turn
    exact s_turns10 hB (fun h' b f => k h' b f.g10)
theorem pair_seed (a1 : Int32) (h : Mem) (hI : Inv h) : f_X9_seed a1 h (fun r h1 => f_X10_seed a1 h1 (fun r2 h2 => r = r2 ∧ Inv h2)) := by
  obtain ⟨N, hV⟩ := hI
  have hA := hV.2.1
  refine pr_ok (f9 := f_X9_seed a1) (f10 := f_X10_seed a1) (r := N 5) (N' := upd N 5 a1) hV (hV.1.free (by omega)) (fun Q k => ?_) (fun h Q hB _ k => ?_)
  · unfold f_X9_seed
    rw [hA.1.2.2.2.2.2]
    exact nm (nm (k _ hA.z (fun a q => st_k (by omega))))
  · unfold f_X10_seed
    exact s_become10 (i := 5) hB (by decide) (fun h' a f => k h' a f.g10)
theorem pair_now (a1 : Int32) (h : Mem) (hI : Inv h) : f_X9_now a1 h (fun r h1 => f_X10_now a1 h1 (fun r2 h2 => r = r2 ∧ Inv h2)) := by
  obtain ⟨N, hV⟩ := hI
  have hA := hV.2.1
  have aux : ∀ r : Int32, (∀ Q : Int32 → Mem → Prop, Q r h → f_X9_now a1 h Q) → (∀ (h : Mem) (Q : Int32 → Mem → Prop), A10 h 44 N → Q r h → f_X10_now a1 h Q) → f_X9_now a1 h (fun r h1 => f_X10_now a1 h1 (fun r2 h2 => r = r2 ∧ Inv h2)) := fun r x y => pr_ok (f9 := f_X9_now a1) (f10 := f_X10_now a1) (r := r) (N' := N) hV hV.1 (fun Q k => x Q (k h hA G9.rf)) (fun h Q hB _ k => y h Q hB (k h hB G10.rf))
  by_cases e0 : a1 = 0
  · refine aux (N 0) (fun Q k => ?_) (fun h Q hB k => ?_)
    · unfold f_X9_now; exact ifp e0 (by rw [hA.1.1]; exact k)
    · unfold f_X10_now; exact ifp e0 (by rw [hB 0 (by decide)]; exact k)
  · by_cases e1 : a1 = 1
    · refine aux (N 1) (fun Q k => ?_) (fun h Q hB k => ?_)
      · unfold f_X9_now; exact ifn e0 (ifp e1 (by rw [hA.1.2.1]; exact k))
      · unfold f_X10_now; exact ifn e0 (ifp e1 (by rw [hB 1 (by decide)]; exact k))
    · by_cases e2 : a1 = 2
      · refine aux (N 2) (fun Q k => ?_) (fun h Q hB k => ?_)
        · unfold f_X9_now; exact ifn e0 (ifn e1 (ifp e2 (by rw [hA.1.2.2.1]; exact k)))
        · unfold f_X10_now; exact ifn e0 (ifn e1 (ifp e2 (by rw [hB 2 (by decide)]; exact k)))
      · by_cases e3 : a1 = 3
        · refine aux (N 3) (fun Q k => ?_) (fun h Q hB k => ?_)
          · unfold f_X9_now; exact ifn e0 (ifn e1 (ifn e2 (ifp e3 (by rw [hA.1.2.2.2.1]; exact k))))
          · unfold f_X10_now; exact ifn e0 (ifn e1 (ifn e2 (ifp e3 (by rw [hB 3 (by decide)]; exact k))))
        · refine pr_no (f9 := f_X9_now a1) (f10 := f_X10_now a1) (w := id) 0 (by decide) hV (fun Q k => ?_) (fun h Q hB _ k => ?_)
          · unfold f_X9_now; exact ifn e0 (ifn e1 (ifn e2 (ifn e3 (k h hA G9.rf))))
          · unfold f_X10_now; exact ifn e0 (ifn e1 (ifn e2 (ifn e3 (k h hB G10.rf))))
