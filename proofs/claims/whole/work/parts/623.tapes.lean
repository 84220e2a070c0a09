/-! JUDGE -/
theorem NR_c {N : Row} {a : Nat} (h0 : N 0 = nI a) {i : Nat} (hi : a + i < 12) : NR (i + 1) N 1 = NR i N 1 + tk N (a + i) (PI i N 6) := by
  rw [NR, read1, NR_0 h0 i, cl (by omega), NR_hi N i 6 (by decide)]
  congr 1
  exact tk_cong (fun j hj => by rw [NR_hi N i j (by omega), PI_O N (by omega) (by omega)])
def wrg (N U : Row) (a n i : Nat) : Prop := n ≤ a + i ∨ ¬ U i = NR (i + 1) N 1
theorem pair_judge (a1 : Int32) (h : Mem) (hI : Inv h) : f_X9_judge a1 h (fun r h1 => f_X10_judge a1 h1 (fun r2 h2 => r = r2 ∧ Inv h2)) := by
  obtain ⟨N, hV⟩ := hI
  obtain ⟨a, n, han, hn, h0, h4, hw, hsp⟩ := hV.1.1
  have hA := hV.2.1
  have hI2 := hV.2.2.2.1.2.2
  by_cases hk : (0 : Int32) ≤ a1 ∧ a1 ≤ 3
  · obtain ⟨s, hs, rfl⟩ := sheet_nI hk
    obtain ⟨y1, y2, ⟨z, hz, y3⟩, y4⟩ := hI2 s hs
    by_cases hm : h (35 + 2 * s) 1 = 0
    · refine pr_no2 (f9 := f_X9_judge _) (f10 := f_X10_judge _) (w := id) 5 (by decide) hV (fun Q k => ?_) (fun h2 Q hB _ hE k => ?_)
      · unfold f_X9_judge
        rw [cl (by omega)]
        exact sheet9_y hs (ifn oz ⟨vi hs (by decide), miss_y hm (ifn oz (k h hA G9.rf))⟩)
      · unfold f_X10_judge
        rw [cl (by omega)]
        exact sheet10_y hs (ifn oz ⟨vi hs (by decide), ifp (by rw [hE 53 (by omega), y1]; exact hm) (k h2 hB G10.rf)⟩)
    · obtain ⟨U, eU⟩ : ∃ U, U = h (35 + 2 * s + 1) := ⟨_, rfl⟩
      obtain ⟨c, hc, hc2⟩ := pk_least (fun i => i = z ∨ wrg N U a n i) ⟨z, Or.inl rfl⟩
      have hcz : c ≤ z := by
        rcases Nat.lt_or_ge z c with q | q
        · exact absurd (Or.inl rfl) (hc2 z q)
        · exact q
      have good : ∀ j, j < c → j < z ∧ a + j < n ∧ U j = NR (j + 1) N 1 := fun j hj => by
        have g := hc2 j hj
        refine ⟨by omega, ?_, ?_⟩
        · rcases Nat.lt_or_ge (a + j) n with q | q
          · exact q
          · exact absurd (Or.inr (Or.inl q)) g
        · by_cases q : U j = NR (j + 1) N 1
          · exact q
          · exact absurd (Or.inr (Or.inr q)) g
      have hacn : a + c ≤ n ∨ c = 0 := by
        rcases Nat.eq_zero_or_pos c with q | q
        · exact Or.inr q
        · have := (good (c - 1) (by omega)).2.1; exact Or.inl (by omega)
      refine pr_ok2 (f9 := f_X9_judge _) (f10 := f_X10_judge _) (r := if c = z then 0 else nI (1 + c)) (N' := N) hV hV.1 (fun Q k => ?_) (fun h2 Q hB _ hE k => ?_)
      · unfold f_X9_judge f_X9_firstWrongTime
        rw [cl (by omega)]
        refine sheet9_y hs (ifn oz ⟨vi hs (by decide), miss_n hm (ifp rfl ⟨vi hs (by decide), s_from19 hA (fun h1 f1 p1 => ?_)⟩)⟩)
        rw [(f1.a9 (by decide) hA).1.2.1]
        refine nm (lo2 nI c (fun i v h' => v = NR i N 1 ∧ PcR h' 19 (PI i N) ∧ Fr1 19 h h') rfl (by omega) ⟨rfl, p1, f1⟩ ?_ ?_)
        · rintro K v h' ⟨rfl, p, f⟩
          have b := f.a9 (by decide) hA
          have kk := k h' b (f.g9 (by decide) (by decide))
          have one : ∀ x : Nat, (1 : Int32) + nI x = nI (1 + x) := fun x => nI_add 1 x
          unfold f_X9_firstWrongTime_b24
          rw [f (35 + 2 * s) (by omega), y3, b.1.1, h0, nI_add, one]
          by_cases c1 : c = z
          · rw [if_pos c1] at kk
            exact ifp (nI_le (by omega) (by omega)) kk
          · rw [if_neg c1] at kk
            refine ifn (nI_ge (by omega) (by omega)) (nm ?_)
            by_cases c2 : n ≤ a + c
            · exact isLine9_n b h4 (fun q => q.2 (nI_le c2 (by omega))) (ifp rfl kk)
            · refine isLine9_y b h4 hn (by omega) (ifn oz (s_takesOf b (by omega) (nm ⟨vi (by omega) (by decide), ?_⟩)))
              rw [cl (by omega), f (35 + 2 * s + 1) (by omega), ← eU, p.1, ← NR_c h0 (by omega)]
              refine ifn (fun q => ?_) kk
              rcases hc with w | w | w
              · exact c1 w
              · exact c2 w
              · exact w q
        · rintro K i v h' hi ⟨rfl, p, f⟩ hK
          obtain ⟨g1, g2, g3⟩ := good i hi
          have b := f.a9 (by decide) hA
          unfold f_X9_firstWrongTime_b24
          rw [f (35 + 2 * s) (by omega), y3, b.1.1, h0, nI_add, nI_1]
          refine ifn (nI_ge (by omega) (by omega)) (nm (isLine9_y b h4 hn (by omega) (ifn oz (s_takesOf b (by omega) (nm ⟨vi (by omega) (by decide), ?_⟩)))))
          rw [cl (by omega), f (35 + 2 * s + 1) (by omega), ← eU, p.1, ← NR_c h0 (by omega)]
          exact ifp g3 (s_step (m := 1) (by decide) p (fun h3 f3 p3 => nm (hK _ _ ⟨rfl, p3, f.tr f3⟩)))
      · unfold f_X10_judge
        rw [cl (by omega)]
        have e54 : h2 54 s = nI z := by rw [hE 54 (by omega), y2, y3]
        have e55 : ∀ i, i < 40 → h2 55 (40 * s + i) = U i := fun i hi => by rw [hE 55 (by omega), y4 i hi, eU]
        have one : ∀ x : Nat, (1 : Int32) + nI x = nI (1 + x) := fun x => nI_add 1 x
        refine sheet10_y hs (ifn oz ⟨vi hs (by decide), ifn (by rw [hE 53 (by omega), y1]; exact hm) (s_copyRow (by decide) hB (fun h6 b6 f6 => ?_))⟩)
        -- the end, told wrong
        have fin0 : ∀ (g : Nat) (h' : Mem), c ≠ z → A10 h' 46 N → Fr2 44 46 h2 h' → gm_it2 (f_X10_judge_b45 (nI s) Q) (g + 1) (nI c) 0 h' := by
          intro g h' hne b46 fr
          show f_X10_judge_b45 (nI s) Q (gm_it2 (f_X10_judge_b45 (nI s) Q) g) (nI c) 0 h'
          generalize gm_it2 (f_X10_judge_b45 (nI s) Q) g = K
          unfold f_X10_judge_b45 f_X10_judge_b114
          rw [if_neg hne] at k
          rw [cl (k := s) (by omega), fr 54 (by decide) (by decide), e54, one]
          exact ⟨vi hs (by decide), ifn (nI_ge (by omega) (by omega)) (ifp rfl (ifp rfl (s_putBack b46 (fun h3 b3 f3 => k h3 b3 (Fr2.g10 (fun a x y => (f3 a x).trans (fr a x y)))))))⟩
        have main : ∀ (d g i : Nat) (h' : Mem), i + d = c → d + 1 < g → A10 h' 44 (NR i N) → A10 h' 46 N → Fr2 44 46 h2 h' → gm_it2 (f_X10_judge_b45 (nI s) Q) g (nI i) 1 h' := by
          intro d
          induction d with
          | zero =>
            intro g i h' hid hg b b46 fr
            have : i = c := by omega
            subst this
            obtain ⟨g, rfl⟩ : ∃ g', g = g' + 1 + 1 := ⟨g - 2, by omega⟩
            show f_X10_judge_b45 (nI s) Q (gm_it2 (f_X10_judge_b45 (nI s) Q) (g + 1)) (nI i) 1 h'
            have f0 := fin0 g
            generalize gm_it2 (f_X10_judge_b45 (nI s) Q) (g + 1) = K at f0 ⊢
            unfold f_X10_judge_b45 f_X10_judge_b114 f_X10_judge_b97 f_X10_judge_b98
            rw [cl (k := s) (by omega), fr 54 (by decide) (by decide), e54]
            refine ⟨vi hs (by decide), ?_⟩
            by_cases c1 : i = z
            · rw [if_pos c1] at k
              exact ifp (nI_le (by omega) (by omega)) (ifn oz (s_putBack b46 (fun h3 b3 f3 => k h3 b3 (Fr2.g10 (fun a x y => (f3 a x).trans (fr a x y))))))
            · refine ifn (nI_ge (by omega) (by omega)) (ifn oz ?_)
              rw [Int32.add_zero]
              by_cases c2 : n ≤ a + i
              · have hai : a + i ≤ n ∨ i = 0 := hacn
                refine s_left10 (a := a + i) (n := n) b (NR_0 h0 i) (by rw [NR_4]; exact h4) (by omega) ?_
                rw [show n - (a + i) = 0 by omega]
                exact ifp (by decide) (ifp rfl (nm (f0 h' c1 b46 fr)))
              · refine s_left10 (a := a + i) (n := n) b (NR_0 h0 i) (by rw [NR_4]; exact h4) (by omega) (ifn (nI_nle (by omega) (by omega)) (s_reads10 b (NR_0 h0 i) (by omega) (fun h3 b3 f3 => ?_)))
                have tg := (tk_rng (N := NR i N) (l := a + i) (p := NR i N 6) (DX.NR ⟨hV.1.1, hV.1.2.2.1, hV.1.2.2.2⟩ h0 h4 hn i (by omega)).2.1 (by omega) (DX.NR ⟨hV.1.1, hV.1.2.2.1, hV.1.2.2.2⟩ h0 h4 hn i (by omega)).2.2.1).2 (by rw [NR_hi N i _ (by omega), PI_O N (by omega) (by omega)]; exact hw _ (by omega))
                have fr3 : Fr2 44 46 h2 h3 := fun a x y => (f3 a x).trans (fr a x y)
                have b3 : A10 h3 44 (NR (i + 1) N) := b3
                rw [i40, cl (k := 40 * s + i) (by omega), b3 1 (by decide), fr3 55 (by decide) (by decide), e55 i (by omega)]
                refine ifn (by rw [fa_le, i0]; omega) ⟨vi (by omega) (by decide), ifn (fun q => ?_) (ifp rfl (nm (f0 h3 c1 (b46.fr (f3 46 (by decide))) fr3)))⟩
                rcases hc with w | w | w
                · exact c1 w
                · exact c2 w
                · exact w q.symm
          | succ d ih =>
            intro g i h' hid hg b b46 fr
            obtain ⟨g1, g2, g3⟩ := good i (by omega)
            obtain ⟨g, rfl⟩ : ∃ g', g = g' + 1 := ⟨g - 1, by omega⟩
            show f_X10_judge_b45 (nI s) Q (gm_it2 (f_X10_judge_b45 (nI s) Q) g) (nI i) 1 h'
            have ihg := ih g (i + 1)
            generalize gm_it2 (f_X10_judge_b45 (nI s) Q) g = K at ihg ⊢
            unfold f_X10_judge_b45 f_X10_judge_b98
            rw [cl (k := s) (by omega), fr 54 (by decide) (by decide), e54, nI_1]
            refine ⟨vi hs (by decide), ifn (nI_ge (by omega) (by omega)) (ifn oz (s_left10 (a := a + i) (n := n) b (NR_0 h0 i) (by rw [NR_4]; exact h4) (by omega) (ifn (nI_nle (by omega) (by omega)) (s_reads10 b (NR_0 h0 i) (by omega) (fun h3 b3 f3 => ?_)))))⟩
            have x := DX.NR ⟨hV.1.1, hV.1.2.2.1, hV.1.2.2.2⟩ h0 h4 hn i (by omega)
            have tg := (tk_rng (N := NR i N) (l := a + i) (p := NR i N 6) x.2.1 (by omega) x.2.2.1).2 (by rw [NR_hi N i _ (by omega), PI_O N (by omega) (by omega)]; exact hw _ (by omega))
            have fr3 : Fr2 44 46 h2 h3 := fun a x y => (f3 a x).trans (fr a x y)
            have b3 : A10 h3 44 (NR (i + 1) N) := b3
            rw [i40, cl (k := 40 * s + i) (by omega), b3 1 (by decide), fr3 55 (by decide) (by decide), e55 i (by omega)]
            exact ifn (by rw [fa_le, i0]; omega) ⟨vi (by omega) (by decide), ifp g3.symm (ifn oz (nm (ihg h3 (by omega) (by omega) b3 (b46.fr (f3 46 (by decide))) fr3)))⟩
        exact main c gm_F 0 h6 (by omega) (Nat.lt_of_lt_of_le (by omega : c + 1 < 43) (gm_F_ge (by decide))) (hB.fr (f6 44 (by decide))) b6 (fun a x y => f6 a y)
  · refine pr_no (f9 := f_X9_judge _) (f10 := f_X10_judge _) (w := id) 0 (by decide) hV (fun Q k => ?_) (fun h Q hB _ k => ?_)
    · unfold f_X9_judge
      exact sheet9_n hk (ifp rfl (k h hA G9.rf))
    · unfold f_X10_judge
      exact sheet10_n hk (ifp rfl (k h hB G10.rf))
