/-! COPY, LOAD, JUDGE -/
theorem cmp_gt {x y : Int64} : (0 : Int32) < lg_cmp x y ↔ y < x := by
  unfold lg_cmp
  by_cases c : x > y
  · rw [if_pos c]; exact ⟨fun _ => c, fun _ => by decide⟩
  · rw [if_neg c]
    by_cases c2 : x = y
    · rw [if_pos c2]; exact ⟨fun z => absurd z (by decide), fun z => absurd z c⟩
    · rw [if_neg c2]; exact ⟨fun z => absurd z (by decide), fun z => absurd z c⟩
theorem cmp_le {x y : Int64} : lg_cmp x y ≤ (0 : Int32) ↔ ¬ y < x := by
  rw [← cmp_gt, fa_le, fa_lt]
  omega
theorem wide_gt {x y z : Int32} (hx : 0 ≤ x.toInt) (hy : 0 ≤ y.toInt) : z.toInt64 < x.toInt64 + y.toInt64 ↔ z.toInt < x.toInt + y.toInt := by
  have rx := fb_rng x
  have ry := fb_rng y
  rw [fa_lt64, fb_addL (by rw [Int32.toInt_toInt64, Int32.toInt_toInt64]; omega) (by rw [Int32.toInt_toInt64, Int32.toInt_toInt64]; omega), Int32.toInt_toInt64, Int32.toInt_toInt64, Int32.toInt_toInt64]
/-- a part of a sheet -/
def prt (z : Nat) (f n : Int32) : Prop := (0 : Int32) ≤ f ∧ (0 : Int32) ≤ n ∧ f.toInt + n.toInt ≤ z
theorem part_nI {z : Nat} {f n : Int32} (hz : z ≤ 40) (h : prt z f n) : ∃ a m : Nat, a + m ≤ z ∧ f = nI a ∧ n = nI m := by
  obtain ⟨h1, h2, h3⟩ := h
  rw [fa_le, i0] at h1 h2
  obtain ⟨a, ha, rfl⟩ := sm (a := f) (m := 40) (by decide) (by rw [fa_le, i0]; exact h1) (by rw [fa_le, nI_toInt (by omega)]; omega)
  obtain ⟨m, hm, rfl⟩ := sm (a := n) (m := 40) (by decide) (by rw [fa_le, i0]; exact h2) (by rw [fa_le, nI_toInt (by omega)]; omega)
  rw [nI_toInt (by omega), nI_toInt (by omega)] at h3
  exact ⟨a, m, by omega, rfl, rfl⟩
theorem part9 {q z : Nat} {f n : Int32} {h : Mem} {Q : Int32 → Mem → Prop} (hz : z ≤ 40) (e : h q 2 = nI z) (k1 : prt z f n → Q 1 h) (k0 : ¬ prt z f n → Q 0 h) : f_X5_hasPart q f n h Q := by
  unfold f_X5_hasPart
  rw [e]
  by_cases c1 : f < 0
  · exact ifp c1 (k0 (fun z => by have := z.1; rw [fa_le] at this; rw [fa_lt] at c1; omega))
  · refine ifn c1 ?_
    by_cases c2 : n < 0
    · exact ifp c2 (k0 (fun z => by have := z.2.1; rw [fa_le] at this; rw [fa_lt] at c2; omega))
    · refine ifn c2 ?_
      have d1 := fa_of_nlt c1
      have d2 := fa_of_nlt c2
      have d1' := (fa_le _ _).mp d1
      have d2' := (fa_le _ _).mp d2
      rw [i0] at d1' d2'
      have rn := fb_rng n
      have sb : (nI z - n).toInt = (z : Int) - n.toInt := by rw [fb_subI (by rw [nI_toInt (by omega)]; omega) (by rw [nI_toInt (by omega)]; omega), nI_toInt (by omega)]
      by_cases c3 : nI z - n < f
      · refine ifp c3 (k0 (fun w => ?_))
        have := w.2.2
        rw [fa_lt, sb] at c3
        omega
      · refine ifn c3 (k1 ⟨d1, d2, ?_⟩)
        rw [fa_lt, sb] at c3
        omega
theorem copy10_n {s t zs zt : Nat} {a2 a4 a5 : Int32} {h : Mem} {X Y : Prop} (hs : s < 4) (ht : t < 4) (es : h 54 s = nI zs) (et : h 54 t = nI zt) (hzs : zs ≤ 40) (hzt : zt ≤ 40) (hc : ¬ (prt zs a2 a5 ∧ prt zt a4 a5)) (k : X) : if a2 < 0 then X else (if a4 < 0 then X else (if a5 < 0 then X else (vp_in (nI s) 4 ∧ if 0 < lg_cmp (a2.toInt64 + a5.toInt64) ((h 54 s).toInt64) then X else (vp_in (nI t) 4 ∧ if lg_cmp (a4.toInt64 + a5.toInt64) ((h 54 t).toInt64) ≤ 0 then Y else X)))) := by
  by_cases c2 : a2 < 0
  · exact ifp c2 k
  · refine ifn c2 ?_
    by_cases c4 : a4 < 0
    · exact ifp c4 k
    · refine ifn c4 ?_
      by_cases c5 : a5 < 0
      · exact ifp c5 k
      · have d2 := fa_of_nlt c2
        have d4 := fa_of_nlt c4
        have d5 := fa_of_nlt c5
        have d2' := (fa_le _ _).mp d2
        have d4' := (fa_le _ _).mp d4
        have d5' := (fa_le _ _).mp d5
        rw [i0] at d2' d4' d5'
        refine ifn c5 ⟨vi hs (by decide), ?_⟩
        rw [es, et]
        by_cases c6 : 0 < lg_cmp (a2.toInt64 + a5.toInt64) ((nI zs).toInt64)
        · exact ifp c6 k
        · refine ifn c6 ⟨vi ht (by decide), ifn (fun z => hc ?_) k⟩
          rw [cmp_gt, wide_gt d2' d5', nI_toInt (by omega)] at c6
          rw [cmp_le, wide_gt d4' d5', nI_toInt (by omega)] at z
          exact ⟨⟨d2, d5, by omega⟩, ⟨d4, d5, by omega⟩⟩
theorem copy10_y {s t zs zt : Nat} {a2 a4 a5 : Int32} {h : Mem} {X Y : Prop} (hs : s < 4) (ht : t < 4) (es : h 54 s = nI zs) (et : h 54 t = nI zt) (hzs : zs ≤ 40) (hzt : zt ≤ 40) (hc1 : prt zs a2 a5) (hc2 : prt zt a4 a5) (k : Y) : if a2 < 0 then X else (if a4 < 0 then X else (if a5 < 0 then X else (vp_in (nI s) 4 ∧ if 0 < lg_cmp (a2.toInt64 + a5.toInt64) ((h 54 s).toInt64) then X else (vp_in (nI t) 4 ∧ if lg_cmp (a4.toInt64 + a5.toInt64) ((h 54 t).toInt64) ≤ 0 then Y else X)))) := by
  have d2' := (fa_le _ _).mp hc1.1
  have d4' := (fa_le _ _).mp hc2.1
  have d5' := (fa_le _ _).mp hc1.2.1
  have p1 := hc1.2.2
  have p2 := hc2.2.2
  rw [i0] at d2' d4' d5'
  refine ifn (by rw [fa_lt, i0]; omega) (ifn (by rw [fa_lt, i0]; omega) (ifn (by rw [fa_lt, i0]; omega) ⟨vi hs (by decide), ?_⟩))
  rw [es, et]
  refine ifn ?_ ⟨vi ht (by decide), ifp ?_ k⟩
  · rw [cmp_gt, wide_gt d2' d5', nI_toInt (by omega)]; omega
  · rw [cmp_le, wide_gt d4' d5', nI_toInt (by omega)]; omega
theorem s_copyL {s t f g m : Nat} {h : Mem} {Q : Int32 → Mem → Prop} (hs : s < 4) (ht : t < 4) (hf : f + m ≤ 40) (hg : g + m ≤ 40) (k : ∀ h', (∀ a, a ≠ 55 → a ≠ 56 → h' a = h a) → (∀ j, j < m → h' 55 (40 * t + g + j) = h 55 (40 * s + f + j)) → (∀ i, i < 40 * t + g ∨ 40 * t + g + m ≤ i → h' 55 i = h 55 i) → Q (nI m) h') : gm_it1 (f_X10_copy_b128 (nI s) (nI f) (nI t) (nI g) (nI m) Q) gm_F (0 : Int32) h := by
  have ix : ∀ u f k : Nat, (((40 : Int32) * nI u) + nI f) + nI k = nI (40 * u + f + k) := fun u f k => by rw [i40, nI_add]
  refine lo1 nI m (fun i h' => Fr1 56 h h' ∧ ∀ j, j < i → h' 56 j = h 55 (40 * s + f + j)) rfl (by omega) ⟨Fr1.rf, fun j hj => absurd hj (Nat.not_lt_zero j)⟩ ?_ ?_
  · rintro K h1 ⟨f1, e1⟩
    unfold f_X10_copy_b128
    refine ifp (nI_le (Nat.le_refl _) (by omega)) ?_
    refine lo1 nI m (fun i h' => (∀ a, a ≠ 55 → a ≠ 56 → h' a = h a) ∧ h' 56 = h1 56 ∧ (∀ j, j < i → h' 55 (40 * t + g + j) = h 55 (40 * s + f + j)) ∧ (∀ j, j < 40 * t + g ∨ 40 * t + g + m ≤ j → h' 55 j = h 55 j)) rfl (by omega) ⟨fun a x y => f1 a y, rfl, fun j hj => absurd hj (Nat.not_lt_zero j), fun j _ => by rw [f1 55 (by decide)]⟩ ?_ ?_
    · rintro K2 h2 ⟨g1, g2, g3, g4⟩
      unfold f_X10_copy_b165
      exact ifp (nI_le (Nat.le_refl _) (by omega)) (k h2 g1 g3 g4)
    · rintro K2 i h2 hi ⟨g1, g2, g3, g4⟩ hK2
      unfold f_X10_copy_b165
      rw [ix, nI_1, cl (k := i) (by omega), cl (k := 40 * t + g + i) (by omega), g2, e1 i hi]
      refine ifn (nI_ge hi (by omega)) ⟨vi (by omega) (by decide), vi (by omega) (by decide), nm (nm (hK2 _ ⟨fun a x y => by rw [st_k x, g1 a x y], by rw [st_k (by decide), g2], fun j hj => ?_, fun j hj => ?_⟩))⟩
      · by_cases q : j = i
        · subst q; rw [st_s]
        · rw [st_j (by omega)]; exact g3 j (by omega)
      · rw [st_j (by omega)]; exact g4 j hj
  · rintro K i h' hi ⟨f1, e1⟩ hK
    unfold f_X10_copy_b128
    rw [ix, nI_1, cl (k := i) (by omega), cl (k := 40 * s + f + i) (by omega), f1 55 (by decide)]
    refine ifn (nI_ge hi (by omega)) ⟨vi (by omega) (by decide), vi (by omega) (by decide), nm (nm (hK _ ⟨f1.st, fun j hj => ?_⟩))⟩
    by_cases q : j = i
    · subst q; rw [st_s]
    · rw [st_j q]; exact e1 j (by omega)
theorem pair_copy (a1 a2 a3 a4 a5 : Int32) (h : Mem) (hI : Inv h) : f_X9_copy a1 a2 a3 a4 a5 h (fun r h1 => f_X10_copy a1 a2 a3 a4 a5 h1 (fun r2 h2 => r = r2 ∧ Inv h2)) := by
  obtain ⟨N, hV⟩ := hI
  have hA := hV.2.1
  have hI2 := hV.2.2.2.1.2.2
  by_cases hk : (0 : Int32) ≤ a1 ∧ a1 ≤ 3
  · obtain ⟨s, hs, rfl⟩ := sheet_nI hk
    by_cases hk3 : (0 : Int32) ≤ a3 ∧ a3 ≤ 3
    · obtain ⟨t, ht, rfl⟩ := sheet_nI hk3
      obtain ⟨y1, y2, ⟨z, hz, y3⟩, y4⟩ := hI2 s hs
      obtain ⟨w1, w2, ⟨u, hu, w3⟩, w4⟩ := hI2 t ht
      by_cases hm : h (35 + 2 * s) 1 = 0
      · refine pr_no2 (f9 := f_X9_copy _ _ _ _ _) (f10 := f_X10_copy _ _ _ _ _) (w := id) 5 (by decide) hV (fun Q k => ?_) (fun h2 Q hB _ hE k => ?_)
        · unfold f_X9_copy
          rw [cl (k := s) (by omega), cl (k := t) (by omega)]
          exact sheet9_y hs (ifn oz (sheet9_y ht (ifn oz ⟨vi hs (by decide), vi ht (by decide), miss_y hm (ifn oz (k h hA G9.rf))⟩)))
        · unfold f_X10_copy
          rw [cl (k := s) (by omega), cl (k := t) (by omega)]
          exact sheet10_y hs (ifn oz (sheet10_y ht (ifn oz ⟨vi hs (by decide), ifp (by rw [hE 53 (by omega), y1]; exact hm) (k h2 hB G10.rf)⟩)))
      · by_cases hm2 : h (35 + 2 * t) 1 = 0
        · refine pr_no2 (f9 := f_X9_copy _ _ _ _ _) (f10 := f_X10_copy _ _ _ _ _) (w := id) 5 (by decide) hV (fun Q k => ?_) (fun h2 Q hB _ hE k => ?_)
          · unfold f_X9_copy
            rw [cl (k := s) (by omega), cl (k := t) (by omega)]
            exact sheet9_y hs (ifn oz (sheet9_y ht (ifn oz ⟨vi hs (by decide), vi ht (by decide), miss_n hm (ifp rfl (miss_y hm2 (ifn oz (k h hA G9.rf))))⟩)))
          · unfold f_X10_copy
            rw [cl (k := s) (by omega), cl (k := t) (by omega)]
            exact sheet10_y hs (ifn oz (sheet10_y ht (ifn oz ⟨vi hs (by decide), ifn (by rw [hE 53 (by omega), y1]; exact hm) ⟨vi ht (by decide), ifp (by rw [hE 53 (by omega), w1]; exact hm2) (k h2 hB G10.rf)⟩⟩)))
        · by_cases he : h (35 + 2 * s) 1 = h (35 + 2 * t) 1
          · by_cases hc : prt z a2 a5 ∧ prt u a4 a5
            · obtain ⟨f, m, hfm, rfl, rfl⟩ := part_nI hz hc.1
              obtain ⟨g, m', hgm, rfl, em⟩ := part_nI hu hc.2
              have em : m' = m := ((nI_eq (by omega) (by omega)).mp em).symm
              subst em
              unfold f_X9_copy
              rw [cl (k := s) (by omega), cl (k := t) (by omega), cl (k := f) (by omega), cl (k := g) (by omega), cl (k := m') (by omega)]
              refine sheet9_y hs (ifn oz (sheet9_y ht (ifn oz ⟨vi hs (by decide), vi ht (by decide), miss_n hm (ifp rfl (miss_n hm2 (ifp rfl (ifp he (part9 hz y3 (fun _ => ifn oz (part9 hu w3 (fun _ => ifn oz ⟨nI_pos (by omega), nI_pos (by omega), nI_pos (by omega), by omega, by omega, nm ?_⟩) (fun z => absurd hc.2 z))) (fun z => absurd hc.1 z))))))⟩)))
              have cp : ∀ a, a ≠ 35 + 2 * t + 1 → gm_cpy h (35 + 2 * s + 1) (35 + 2 * t + 1) f g m' a = h a := fun a q => cpy_k q
              have cb : ∀ j, gm_cpy h (35 + 2 * s + 1) (35 + 2 * t + 1) f g m' (35 + 2 * t + 1) j = va_cpy (h (35 + 2 * s + 1)) (h (35 + 2 * t + 1)) f g m' j := fun j => by unfold gm_cpy; rw [if_pos rfl]
              generalize gm_cpy h (35 + 2 * s + 1) (35 + 2 * t + 1) f g m' = h1 at cp cb ⊢
              unfold f_X10_copy
              rw [cl (k := s) (by omega), cl (k := t) (by omega)]
              refine sheet10_y hs (ifn oz (sheet10_y ht (ifn oz ⟨vi hs (by decide), ifn (by rw [cp 53 (by omega), y1]; exact hm) ⟨vi ht (by decide), ifn (by rw [cp 53 (by omega), w1]; exact hm2) ⟨vi hs (by decide), vi ht (by decide), ifp (by rw [cp 53 (by omega), y1, w1]; exact he) ?_⟩⟩⟩)))
              refine copy10_y hs ht (by rw [cp 54 (by omega), y2, y3]) (by rw [cp 54 (by omega), w2, w3]) hz hu hc.1 hc.2 (s_copyL hs ht (by omega) (by omega) (fun h2 g1 g2 g3 => ⟨rfl, fin_s hV (fun a q1 q2 q3 q4 q5 => by rw [g1 a q4 q5, cp a (by omega)]) (fun v hv => ?_)⟩))
              have y := hI2 v hv
              rw [g1 53 (by decide) (by decide), g1 54 (by decide) (by decide), g1 (35 + 2 * v) (by omega) (by omega), g1 (35 + 2 * v + 1) (by omega) (by omega), cp 53 (by omega), cp 54 (by omega), cp (35 + 2 * v) (by omega)]
              refine ⟨y.1, y.2.1, y.2.2.1, fun j hj => ?_⟩
              by_cases q : v = t
              · subst q
                rw [cb]
                by_cases q2 : g ≤ j ∧ j < g + m'
                · have e := g2 (j - g) (by omega)
                  rw [show 40 * v + g + (j - g) = 40 * v + j by omega] at e
                  rw [e, cp 55 (by omega), pk_cpy_in q2.1 q2.2]
                  have := y4 (f + (j - g)) (by omega)
                  rw [show 40 * s + (f + (j - g)) = 40 * s + f + (j - g) by omega] at this
                  exact this
                · rw [g3 _ (by omega), cp 55 (by omega), pk_cpy_out (by omega)]
                  exact y.2.2.2 j hj
              · rw [g3 _ (by omega), cp 55 (by omega), cp _ (by omega)]
                exact y.2.2.2 j hj
            · refine pr_no2 (f9 := f_X9_copy _ _ _ _ _) (f10 := f_X10_copy _ _ _ _ _) (w := id) 0 (by decide) hV (fun Q k => ?_) (fun h2 Q hB _ hE k => ?_)
              · unfold f_X9_copy
                rw [cl (k := s) (by omega), cl (k := t) (by omega)]
                exact sheet9_y hs (ifn oz (sheet9_y ht (ifn oz ⟨vi hs (by decide), vi ht (by decide), miss_n hm (ifp rfl (miss_n hm2 (ifp rfl (ifp he (part9 hz y3 (fun p1 => ifn oz (part9 hu w3 (fun p2 => absurd ⟨p1, p2⟩ hc) (fun _ => ifp rfl (k h hA G9.rf)))) (fun _ => ifp rfl (k h hA G9.rf)))))))⟩)))
              · unfold f_X10_copy
                rw [cl (k := s) (by omega), cl (k := t) (by omega)]
                refine sheet10_y hs (ifn oz (sheet10_y ht (ifn oz ⟨vi hs (by decide), ifn (by rw [hE 53 (by omega), y1]; exact hm) ⟨vi ht (by decide), ifn (by rw [hE 53 (by omega), w1]; exact hm2) ⟨vi hs (by decide), vi ht (by decide), ifp (by rw [hE 53 (by omega), y1, w1]; exact he) ?_⟩⟩⟩)))
                exact copy10_n hs ht (by rw [hE 54 (by omega), y2, y3]) (by rw [hE 54 (by omega), w2, w3]) hz hu hc (k h2 hB G10.rf)
          · refine pr_no2 (f9 := f_X9_copy _ _ _ _ _) (f10 := f_X10_copy _ _ _ _ _) (w := id) 2 (by decide) hV (fun Q k => ?_) (fun h2 Q hB _ hE k => ?_)
            · unfold f_X9_copy
              rw [cl (k := s) (by omega), cl (k := t) (by omega)]
              exact sheet9_y hs (ifn oz (sheet9_y ht (ifn oz ⟨vi hs (by decide), vi ht (by decide), miss_n hm (ifp rfl (miss_n hm2 (ifp rfl (ifn he (k h hA G9.rf)))))⟩)))
            · unfold f_X10_copy
              rw [cl (k := s) (by omega), cl (k := t) (by omega)]
              exact sheet10_y hs (ifn oz (sheet10_y ht (ifn oz ⟨vi hs (by decide), ifn (by rw [hE 53 (by omega), y1]; exact hm) ⟨vi ht (by decide), ifn (by rw [hE 53 (by omega), w1]; exact hm2) ⟨vi hs (by decide), vi ht (by decide), ifn (by rw [hE 53 (by omega), y1, w1]; exact he) (k h2 hB G10.rf)⟩⟩⟩)))
    · refine pr_no (f9 := f_X9_copy _ _ _ _ _) (f10 := f_X10_copy _ _ _ _ _) (w := id) 0 (by decide) hV (fun Q k => ?_) (fun h Q hB _ k => ?_)
      · unfold f_X9_copy
        exact sheet9_y hs (ifn oz (sheet9_n hk3 (ifp rfl (k h hA G9.rf))))
      · unfold f_X10_copy
        exact sheet10_y hs (ifn oz (sheet10_n hk3 (ifp rfl (k h hB G10.rf))))
  · refine pr_no (f9 := f_X9_copy _ _ _ _ _) (f10 := f_X10_copy _ _ _ _ _) (w := id) 0 (by decide) hV (fun Q k => ?_) (fun h Q hB _ k => ?_)
    · unfold f_X9_copy
      exact sheet9_n hk (ifp rfl (k h hA G9.rf))
    · unfold f_X10_copy
      exact sheet10_n hk (ifp rfl (k h hB G10.rf))
/-! load -/
def ldr (N U : Row) : Nat → Row
  | 0 => N
  | i + 1 => upd (ldr N U i) (26 + 3 * i + 1) (U i)
def stp (U : Row) (z n i : Nat) : Prop := z ≤ i ∨ n ≤ i ∨ ¬ ((1 : Int32) ≤ U i ∧ U i ≤ 20)
theorem ldr_lo {N U : Row} {j : Nat} (hj : j < 26) : ∀ i, ldr N U i j = N j
  | 0 => rfl
  | i + 1 => by rw [ldr, up_n (by omega), ldr_lo hj i]
theorem ldr_Dom {N U : Row} (hD : Dom N) : ∀ i, (∀ j, j < i → (1 : Int32) ≤ U j ∧ U j ≤ 20) → Dom (ldr N U i)
  | 0, _ => hD
  | i + 1, h => (ldr_Dom hD i (fun j hj => h j (by omega))).words ((fa_le _ _).mp (h i (by omega)).1) ((fa_le _ _).mp (h i (by omega)).2)
theorem pair_load (a1 : Int32) (h : Mem) (hI : Inv h) : f_X9_load a1 h (fun r h1 => f_X10_load a1 h1 (fun r2 h2 => r = r2 ∧ Inv h2)) := by
  obtain ⟨N, hV⟩ := hI
  obtain ⟨a, n, han, hn, h0, h4, hw, hsp⟩ := hV.1.1
  have hA := hV.2.1
  have hI2 := hV.2.2.2.1.2.2
  by_cases hk : (0 : Int32) ≤ a1 ∧ a1 ≤ 3
  · obtain ⟨s, hs, rfl⟩ := sheet_nI hk
    obtain ⟨y1, y2, ⟨z, hz, y3⟩, y4⟩ := hI2 s hs
    by_cases hm : h (35 + 2 * s) 1 = 0
    · refine pr_no2 (f9 := f_X9_load _) (f10 := f_X10_load _) (w := id) 5 (by decide) hV (fun Q k => ?_) (fun h2 Q hB _ hE k => ?_)
      · unfold f_X9_load
        rw [cl (by omega)]
        exact sheet9_y hs (ifn oz ⟨vi hs (by decide), miss_y hm (ifn oz (k h hA G9.rf))⟩)
      · unfold f_X10_load
        rw [cl (by omega)]
        exact sheet10_y hs (ifn oz ⟨vi hs (by decide), ifp (by rw [hE 53 (by omega), y1]; exact hm) (k h2 hB G10.rf)⟩)
    · obtain ⟨U, eU⟩ : ∃ U, U = h (35 + 2 * s + 1) := ⟨_, rfl⟩
      obtain ⟨c, hc, hc2⟩ := pk_least (stp U z n) ⟨n, Or.inr (Or.inl (Nat.le_refl _))⟩
      have good : ∀ j, j < c → j < z ∧ j < n ∧ (1 : Int32) ≤ U j ∧ U j ≤ 20 := fun j hj => by
        have := hc2 j hj
        unfold stp at this
        by_cases q : (1 : Int32) ≤ U j ∧ U j ≤ 20
        · exact ⟨by omega, by omega, q⟩
        · exact absurd (Or.inr (Or.inr q)) this
      have hcn : c ≤ n := by
        rcases Nat.lt_or_ge n c with q | q
        · have := (good n q).2.1; omega
        · exact q
      refine pr_ok2 (f9 := f_X9_load _) (f10 := f_X10_load _) (r := nI c) (N' := ldr N U c) hV (ldr_Dom hV.1 c (fun j hj => (good j hj).2.2)) (fun Q k => ?_) (fun h2 Q hB _ hE k => ?_)
      · unfold f_X9_load f_X6_takeWords
        rw [cl (by omega)]
        refine sheet9_y hs (ifn oz ⟨vi hs (by decide), miss_n hm (ifp rfl ⟨vi hs (by decide), ?_⟩)⟩)
        refine lo1 nI c (fun i h' => A9 h' 1 (ldr N U i) ∧ ∀ b, (b < 1 ∨ 6 < b) → h' b = h b) rfl (by omega) ⟨hA, fun _ _ => rfl⟩ ?_ ?_
        · rintro K h' ⟨b, f⟩
          have kk := k h' b (fun a q => f a (by omega))
          unfold f_X6_takeWords_b2
          rw [f (35 + 2 * s) (by omega), y3, b.1.2.2.2.2.1, ldr_lo (by decide), h4]
          by_cases c1 : z ≤ c
          · exact ifp (nI_le c1 (by omega)) kk
          · refine ifn (nI_ge (by omega) (by omega)) ?_
            by_cases c2 : n ≤ c
            · exact ifp (nI_le c2 (by omega)) kk
            · refine ifn (nI_ge (by omega) (by omega)) ⟨vi (by omega) (by decide), ?_⟩
              rw [cl (by omega), f _ (by omega), ← eU]
              refine wout9 (fun q => ?_) (ifp rfl kk)
              rcases hc with w | w | w
              · exact c1 w
              · exact c2 w
              · exact w q
        · rintro K i h' hi ⟨b, f⟩ hK
          obtain ⟨g1, g2, g3⟩ := good i hi
          unfold f_X6_takeWords_b2
          rw [f (35 + 2 * s) (by omega), y3, b.1.2.2.2.2.1, ldr_lo (by decide), h4, nI_1, cl (by omega), f (35 + 2 * s + 1) (by omega), ← eU]
          refine ifn (nI_ge (by omega) (by omega)) (ifn (nI_ge (by omega) (by omega)) ⟨vi (by omega) (by decide), win9 g3.1 g3.2 (ifn oz ⟨vi (by omega) (by decide), vi (by omega) (by decide), ?_⟩)⟩)
          rw [f (35 + 2 * s + 1) (by omega), ← eU]
          exact nm (nm (hK _ ⟨b.feature (i := i) (f := 1) (by omega) (by decide), fun b q => by rw [st_k (by omega), f b q]⟩))
      · unfold f_X10_load
        rw [cl (by omega)]
        refine sheet10_y hs (ifn oz ⟨vi hs (by decide), ifn (by rw [hE 53 (by omega), y1]; exact hm) ?_⟩)
        have e54 : h2 54 s = nI z := by rw [hE 54 (by omega), y2, y3]
        have e55 : ∀ i, i < 40 → h2 55 (40 * s + i) = U i := fun i hi => by rw [hE 55 (by omega), y4 i hi, eU]
        refine lo1 nI c (fun i h' => A10 h' 44 (ldr N U i) ∧ Fr1 44 h2 h') rfl (by omega) ⟨hB, Fr1.rf⟩ ?_ ?_
        · rintro K h' ⟨b, f⟩
          have kk := k h' b f.g10
          unfold f_X10_load_b32
          rw [cl (k := s) (by omega), f 54 (by decide), e54]
          refine ⟨vi hs (by decide), ?_⟩
          by_cases c1 : z ≤ c
          · exact ifp (nI_le c1 (by omega)) kk
          · refine ifn (nI_ge (by omega) (by omega)) ?_
            by_cases c2 : n ≤ c
            · exact isLine10_n b (by rw [ldr_lo (by decide)]; exact h4) hn (fun q => q.2 (nI_le c2 (by omega))) (ifp rfl kk)
            · refine isLine10_y b (by rw [ldr_lo (by decide)]; exact h4) hn (by omega) (ifn oz ?_)
              rw [i40, cl (by omega), f 55 (by decide), e55 c (by omega)]
              refine ⟨vi (by omega) (by decide), wout10 (fun q => ?_) (ifp rfl kk)⟩
              rcases hc with w | w | w
              · exact c1 w
              · exact c2 w
              · exact w q
        · rintro K i h' hi ⟨b, f⟩ hK
          obtain ⟨g1, g2, g3⟩ := good i hi
          unfold f_X10_load_b32
          rw [cl (k := s) (by omega), f 54 (by decide), e54, nI_1]
          refine ⟨vi hs (by decide), ifn (nI_ge (by omega) (by omega)) (isLine10_y b (by rw [ldr_lo (by decide)]; exact h4) hn (by omega) (ifn oz ?_))⟩
          rw [i40, cl (by omega), f 55 (by decide), e55 i (by omega)]
          refine ⟨vi (by omega) (by decide), win10 g3.1 g3.2 (ifn oz ?_)⟩
          unfold f_X10_at
          dsimp only
          have x1 : ((26 : Int32) + ((3 : Int32) * nI i)) + (1 : Int32) = nI (26 + 3 * i + 1) := at_nI (f := 1)
          rw [x1, f 55 (by decide), e55 i (by omega), cl (by omega)]
          exact ⟨vi (by omega) (by decide), vi (by omega) (by decide), nm (nm (hK _ ⟨b.st, f.st⟩))⟩
  · refine pr_no (f9 := f_X9_load _) (f10 := f_X10_load _) (w := id) 0 (by decide) hV (fun Q k => ?_) (fun h Q hB _ k => ?_)
    · unfold f_X9_load
      exact sheet9_n hk (ifp rfl (k h hA G9.rf))
    · unfold f_X10_load
      exact sheet10_n hk (ifp rfl (k h hB G10.rf))
