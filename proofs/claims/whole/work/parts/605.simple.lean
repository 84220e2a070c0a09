/-! SIMPLE CALLS -/
theorem nm {α : Sort _} {e : α} {P : α → Prop} (k : P e) : ∀ x, x = e → P x := nm_e k
theorem win9 {a b c : Int32} {h : Mem} {Q : Int32 → Mem → Prop} (h1 : b ≤ a) (h2 : a ≤ c) (k : Q 1 h) : f_X9_isWithin a b c h Q := by
  unfold f_X9_isWithin
  exact ifn (by rw [fa_lt]; rw [fa_le] at h1; omega) (ifn (by rw [fa_lt]; rw [fa_le] at h2; omega) k)
theorem wout9 {a b c : Int32} {h : Mem} {Q : Int32 → Mem → Prop} (h1 : ¬ (b ≤ a ∧ a ≤ c)) (k : Q 0 h) : f_X9_isWithin a b c h Q := by
  unfold f_X9_isWithin
  by_cases g : a < b
  · exact ifp g k
  · refine ifn g (ifp ?_ k)
    rw [fa_le, fa_le] at h1
    rw [fa_lt] at g ⊢
    omega
theorem win10 {a b c : Int32} {h : Mem} {Q : Int32 → Mem → Prop} (h1 : b ≤ a) (h2 : a ≤ c) (k : Q 1 h) : f_X10_within a b c h Q := by
  unfold f_X10_within
  exact ifn (by rw [fa_lt]; rw [fa_le] at h1; omega) (ifn (by rw [fa_lt]; rw [fa_le] at h2; omega) k)
theorem wout10 {a b c : Int32} {h : Mem} {Q : Int32 → Mem → Prop} (h1 : ¬ (b ≤ a ∧ a ≤ c)) (k : Q 0 h) : f_X10_within a b c h Q := by
  unfold f_X10_within
  by_cases g : a < b
  · exact ifp g k
  · refine ifn g (ifp ?_ k)
    rw [fa_le, fa_le] at h1
    rw [fa_lt] at g ⊢
    omega
/-- a number within small bounds is a small number -/
theorem sm {a : Int32} {m : Nat} (hm : m < 2147483648) (h1 : (0 : Int32) ≤ a) (h2 : a ≤ nI m) : ∃ j : Nat, j ≤ m ∧ a = nI j := nI_of2 (M := nI m) (nI_toInt hm) (by rw [fa_lt]; rw [fa_le] at h1; omega) h2
theorem i0 : (0 : Int32).toInt = 0 := rfl
theorem i1 : (1 : Int32).toInt = 1 := rfl
theorem im1 : (-1 : Int32).toInt = -1 := rfl
/-- a line's number -/
theorem ln {a : Int32} {n : Nat} (hn : n ≤ 12) : ((0 : Int32) ≤ a ∧ ¬ nI n ≤ a) ∨ ¬ ((0 : Int32) ≤ a ∧ ¬ nI n ≤ a) := by
  by_cases h : (0 : Int32) ≤ a ∧ ¬ nI n ≤ a
  · exact Or.inl h
  · exact Or.inr h
theorem ln_nI {a : Int32} {n : Nat} (hn : n ≤ 12) (h : (0 : Int32) ≤ a ∧ ¬ nI n ≤ a) : ∃ l : Nat, l < n ∧ a = nI l := by
  rcases pk_ix a (n := n) (by omega) with q | q | q
  · exact absurd h.1 (by rw [fa_le]; rw [fa_lt] at q; omega)
  · exact absurd q h.2
  · exact q
theorem isLine9_y {k0 n l : Nat} {h : Mem} {N : Row} {Q : Int32 → Mem → Prop} (hA : A9 h k0 N) (h4 : N 4 = nI n) (hn : n ≤ 12) (hl : l < n) (k : Q 1 h) : f_X6_isLine k0 (nI l) h Q := by
  unfold f_X6_isLine
  refine ifn (nI_pos (by omega)) ?_
  rw [hA.1.2.2.2.2.1, h4]
  exact ifn (nI_ge hl (by omega)) k
theorem isLine9_n {k0 n : Nat} {a : Int32} {h : Mem} {N : Row} {Q : Int32 → Mem → Prop} (hA : A9 h k0 N) (h4 : N 4 = nI n) (hl : ¬ ((0 : Int32) ≤ a ∧ ¬ nI n ≤ a)) (k : Q 0 h) : f_X6_isLine k0 a h Q := by
  unfold f_X6_isLine
  rw [hA.1.2.2.2.2.1, h4]
  by_cases q : a < 0
  · exact ifp q k
  · refine ifn q (ifp ?_ k)
    by_cases g : nI n ≤ a
    · exact g
    · exact absurd ⟨fa_of_nlt q, g⟩ hl
theorem isLine10_y {n l : Nat} {h : Mem} {N : Row} {Q : Int32 → Mem → Prop} (hA : A10 h 44 N) (h4 : N 4 = nI n) (hn : n ≤ 12) (hl : l < n) (k : Q 1 h) : f_X10_isLine (nI l) h Q := by
  unfold f_X10_isLine
  rw [hA 4 (by decide), h4]
  refine win10 (nI_pos' (by omega)) ?_ ⟨gm_b1, k⟩
  rw [show nI n - (1 : Int32) = nI (n - 1) from pk_sub (b := 1) (by omega)]
  exact nI_le (by omega) (by omega)
theorem n_sub1 {n : Nat} (hn : n ≤ 120) : (nI n - (1 : Int32)).toInt = (n : Int) - 1 := by
  rw [fb_subI (by rw [nI_toInt (by omega), i1]; omega) (by rw [nI_toInt (by omega), i1]; omega), nI_toInt (by omega), i1]
theorem isLine10_n {n : Nat} {a : Int32} {h : Mem} {N : Row} {Q : Int32 → Mem → Prop} (hA : A10 h 44 N) (h4 : N 4 = nI n) (hn : n ≤ 12) (hl : ¬ ((0 : Int32) ≤ a ∧ ¬ nI n ≤ a)) (k : Q 0 h) : f_X10_isLine a h Q := by
  unfold f_X10_isLine
  rw [hA 4 (by decide), h4]
  refine wout10 (fun q => hl ⟨q.1, ?_⟩) ⟨gm_b0, k⟩
  have q2 := q.2
  rw [fa_le, n_sub1 (by omega)] at q2
  rw [fa_le, nI_toInt (by omega)]
  omega
theorem s_become10 {i : Nat} {v : Int32} {h : Mem} {N : Row} {Q : Int32 → Mem → Prop} (hA : A10 h 44 N) (hi : i < 62) (k : ∀ h', A10 h' 44 (upd N i v) → Fr1 44 h h' → Q (N i) h') : f_X10_become (nI i) v h Q := by
  unfold f_X10_become
  rw [cl (by omega), hA i hi]
  exact ⟨vi hi (by decide), nm ⟨vi hi (by decide), nm (k _ hA.st (Fr1.st Fr1.rf))⟩⟩
theorem Fr1.g10 {h h' : Mem} (f : Fr1 44 h h') : G10 h h' := ⟨fun a q => f a (by omega), by rw [f 43 (by decide)], by rw [f 43 (by decide)]⟩
theorem Fr2.g10 {h h' : Mem} (f : Fr2 44 46 h h') : G10 h h' := ⟨fun a q => f a (by omega) (by omega), by rw [f 43 (by decide) (by decide)], by rw [f 43 (by decide) (by decide)]⟩
/-- finding, as the reference calls it -/
theorem fc {c : Nat} (hc : c < 7) : ∀ x : Int32, x = (-1000001 : Int32) - nI c → ((-1000001 : Int32) - nI c) = x := fun x e => e.symm
theorem s_addLine {k0 n : Nat} {a1 : Int32} {h : Mem} {N : Row} {Q : Int32 → Mem → Prop} (hA : A9 h k0 N) (h4 : N 4 = nI n) (hn : n < 12) (k : ∀ h', A9 h' k0 (n_add N n a1 5 0) → (∀ b, b ≠ k0 → b ≠ k0 + 1 → b ≠ k0 + 2 → b ≠ k0 + 3 → h' b = h b) → Q (nI n) h') : f_X6_addLine k0 a1 h Q := by
  unfold f_X6_addLine
  rw [hA.1.2.2.2.2.1, h4]
  have b1 := hA.feature (i := n) (f := 0) (v := a1) (by omega) (by decide)
  have b2 := b1.feature (i := n) (f := 1) (v := 5) (by omega) (by decide)
  have b3 := b2.feature (i := n) (f := 2) (v := 0) (by omega) (by decide)
  have e1 : ∀ (x y z : Nat) (u v w : Int32), gm_st (gm_st (gm_st h (k0 + 1) x u) (k0 + 2) y v) (k0 + 3) z w k0 5 = nI n := fun x y z u v w => by rw [st_k (by omega), st_k (by omega), st_k (by omega), hA.1.2.2.2.2.1, h4]
  have e2 : ∀ (x y : Nat) (u v : Int32), gm_st (gm_st h (k0 + 1) x u) (k0 + 2) y v k0 5 = nI n := fun x y u v => by rw [st_k (by omega), st_k (by omega), hA.1.2.2.2.2.1, h4]
  have e3 : ∀ (x : Nat) (u : Int32), gm_st h (k0 + 1) x u k0 5 = nI n := fun x u => by rw [st_k (by omega), hA.1.2.2.2.2.1, h4]
  refine ⟨vi (by omega) (by decide), nm ?_⟩
  rw [cl (by omega), e3]
  refine ⟨vi (by omega) (by decide), nm ?_⟩
  rw [cl (by omega), e2]
  refine ⟨vi (by omega) (by decide), nm (nm ?_)⟩
  rw [cl (by omega), e1, st_s, nI_1, show nI (n + 1) - (1 : Int32) = nI n from nI_pred n]
  exact k _ b3.lines (fun a q q1 q2 q3 => by rw [st_k q, st_k q3, st_k q2, st_k q1])
theorem s_comes {n : Nat} {a b c : Int32} {h : Mem} {N : Row} {Q : Int32 → Mem → Prop} (hB : A10 h 44 N) (h4 : N 4 = nI n) (hn : n < 12) (k : ∀ h', A10 h' 44 (n_add N n a b c) → Fr1 44 h h' → Q (nI n) h') : f_X10_comes a b c h Q := by
  unfold f_X10_comes f_X10_at
  rw [hB 4 (by decide), h4]
  refine nm ?_
  have x0 : ((26 : Int32) + ((3 : Int32) * nI n)) + (0 : Int32) = nI (26 + 3 * n) := at_nI (f := 0)
  have x1 : ((26 : Int32) + ((3 : Int32) * nI n)) + (1 : Int32) = nI (26 + 3 * n + 1) := at_nI (f := 1)
  have x2 : ((26 : Int32) + ((3 : Int32) * nI n)) + (2 : Int32) = nI (26 + 3 * n + 2) := at_nI (f := 2)
  dsimp only
  rw [x0, x1, x2, cl (k := 26 + 3 * n) (by omega), cl (k := 26 + 3 * n + 1) (by omega), cl (k := 26 + 3 * n + 2) (by omega)]
  refine ⟨vi (by omega) (by decide), nm ⟨vi (by omega) (by decide), nm ⟨vi (by omega) (by decide), nm (nm ?_)⟩⟩⟩
  rw [st_j (by omega), st_j (by omega), st_j (by omega), hB 4 (by decide), h4, nI_1]
  exact k _ hB.st.st.st.st (Fr1.st (Fr1.st (Fr1.st (Fr1.st Fr1.rf))))
theorem pair_line (a1 : Int32) (h : Mem) (hI : Inv h) : f_X9_line a1 h (fun r h1 => f_X10_line a1 h1 (fun r2 h2 => r = r2 ∧ Inv h2)) := by
  obtain ⟨N, hV⟩ := hI
  obtain ⟨a, n, han, hn, h0, h4, hw, hs⟩ := hV.1.1
  have hA := hV.2.1
  by_cases hk : (0 : Int32) ≤ a1 ∧ a1 ≤ 6
  · by_cases hf : n = 12
    · refine pr_no (f9 := f_X9_line a1) (f10 := f_X10_line a1) (w := id) 1 (by decide) hV (fun Q k => ?_) (fun h Q hB _ k => ?_)
      · unfold f_X9_line f_X6_hasRoom
        refine win9 hk.1 hk.2 (ifn oz ?_)
        rw [hA.1.2.2.2.2.1, h4, hf]
        exact ifp (by decide) (ifp rfl (k h hA G9.rf))
      · unfold f_X10_line f_X10_isKind
        refine win10 hk.1 hk.2 ⟨gm_b1, ifn oz ?_⟩
        rw [hB 4 (by decide), h4, hf]
        exact ifp rfl (k h hB G10.rf)
    · refine pr_ok (f9 := f_X9_line a1) (f10 := f_X10_line a1) (r := nI n) (N' := n_add N n a1 5 0) hV (hV.1.add h4 (by omega) ⟨(fa_le _ _).mp hk.1, (fa_le _ _).mp hk.2⟩ ⟨by decide, by decide⟩ ⟨by decide, by decide⟩) (fun Q k => ?_) (fun h Q hB _ k => ?_)
      · unfold f_X9_line f_X6_hasRoom
        refine win9 hk.1 hk.2 (ifn oz ?_)
        rw [hA.1.2.2.2.2.1, h4]
        refine ifn (nI_ge (b := 12) (by omega) (by decide)) (ifn oz ?_)
        exact s_addLine hA h4 (by omega) (fun h' b f => k h' b (fun a q => f a (by omega) (by omega) (by omega) (by omega)))
      · unfold f_X10_line f_X10_isKind
        refine win10 hk.1 hk.2 ⟨gm_b1, ifn oz ?_⟩
        rw [hB 4 (by decide), h4]
        exact ifn (fun q => hf ((nI_eq (by omega) (by decide)).mp q)) (s_comes hB h4 (by omega) (fun h' b f => k h' b f.g10))
  · refine pr_no (f9 := f_X9_line a1) (f10 := f_X10_line a1) (w := id) 0 (by decide) hV (fun Q k => ?_) (fun h Q hB _ k => ?_)
    · unfold f_X9_line
      exact wout9 hk (ifp rfl (k h hA G9.rf))
    · unfold f_X10_line f_X10_isKind
      exact wout10 hk ⟨gm_b0, ifp rfl (k h hB G10.rf)⟩
theorem pair_of (a1 a2 : Int32) (h : Mem) (hI : Inv h) : f_X9_of a1 a2 h (fun r h1 => f_X10_of a1 a2 h1 (fun r2 h2 => r = r2 ∧ Inv h2)) := by
  obtain ⟨N, hV⟩ := hI
  obtain ⟨a, n, han, hn, h0, h4, hw, hs⟩ := hV.1.1
  have hA := hV.2.1
  rcases ln (a := a1) hn with hl | hl
  · obtain ⟨l, hL, rfl⟩ := ln_nI hn hl
    by_cases hk : (0 : Int32) ≤ a2 ∧ a2 ≤ 5
    · obtain ⟨j, hj, rfl⟩ := sm (m := 5) (by decide) hk.1 hk.2
      have hj : j = 0 ∨ j = 1 ∨ j = 2 ∨ j = 3 ∨ j = 4 ∨ j = 5 := by omega
      have d := hA.2.2.2 l (by omega)
      rcases hj with rfl | rfl | rfl | rfl | rfl | rfl
      · refine pr_ok (f9 := f_X9_of _ _) (f10 := f_X10_of _ _) (r := N (26 + 3 * l)) (N' := N) hV hV.1 (fun Q k => ?_) (fun h Q hB _ k => ?_)
        · unfold f_X9_of f_X6_features
          refine isLine9_y hA h4 hn hL (ifn oz (win9 hk.1 hk.2 (ifn oz (ifn (by decide) (ifn (by decide) (ifn (by decide) (ifp rfl ⟨rfl, vi (by show l < 12; omega) (by decide), ?_⟩)))))))
          rw [cl (by omega), d.1]
          exact k h hA G9.rf
        · unfold f_X10_of
          exact isLine10_y hB h4 hn hL (ifn oz (win10 hk.1 hk.2 (ifn oz (ifn (by decide) (s_lineIs (f := 0) hB (by omega) (by decide) (k h hB G10.rf))))))
      · refine pr_ok (f9 := f_X9_of _ _) (f10 := f_X10_of _ _) (r := N (26 + 3 * l + 1)) (N' := N) hV hV.1 (fun Q k => ?_) (fun h Q hB _ k => ?_)
        · unfold f_X9_of f_X6_features
          refine isLine9_y hA h4 hn hL (ifn oz (win9 hk.1 hk.2 (ifn oz (ifn (by decide) (ifn (by decide) (ifn (by decide) (ifn (by decide) (ifp rfl ⟨rfl, vi (by show l < 12; omega) (by decide), ?_⟩))))))))
          rw [cl (by omega), d.2.1]
          exact k h hA G9.rf
        · unfold f_X10_of
          exact isLine10_y hB h4 hn hL (ifn oz (win10 hk.1 hk.2 (ifn oz (ifn (by decide) (s_lineIs (f := 1) hB (by omega) (by decide) (k h hB G10.rf))))))
      · refine pr_ok (f9 := f_X9_of _ _) (f10 := f_X10_of _ _) (r := N (26 + 3 * l + 2)) (N' := N) hV hV.1 (fun Q k => ?_) (fun h Q hB _ k => ?_)
        · unfold f_X9_of f_X6_features
          refine isLine9_y hA h4 hn hL (ifn oz (win9 hk.1 hk.2 (ifn oz (ifn (by decide) (ifn (by decide) (ifn (by decide) (ifn (by decide) (ifn (by decide) ⟨rfl, vi (by show l < 12; omega) (by decide), ?_⟩))))))))
          rw [cl (by omega), d.2.2]
          exact k h hA G9.rf
        · unfold f_X10_of
          exact isLine10_y hB h4 hn hL (ifn oz (win10 hk.1 hk.2 (ifn oz (ifn (by decide) (s_lineIs (f := 2) hB (by omega) (by decide) (k h hB G10.rf))))))
      · refine pr_ok (f9 := f_X9_of _ _) (f10 := f_X10_of _ _) (r := tk N l (N 6)) (N' := N) hV hV.1 (fun Q k => ?_) (fun h Q hB _ k => ?_)
        · unfold f_X9_of
          refine isLine9_y hA h4 hn hL (ifn oz (win9 hk.1 hk.2 (ifn oz (ifp rfl ?_))))
          rw [hA.2.1 0 (by decide)]
          exact s_takesOf hA (by omega) (k h hA G9.rf)
        · unfold f_X10_of
          exact isLine10_y hB h4 hn hL (ifn oz (win10 hk.1 hk.2 (ifn oz (ifp (by decide) (ifp rfl (s_takes10 hB (by omega) (k h hB G10.rf)))))))
      · refine pr_ok (f9 := f_X9_of _ _) (f10 := f_X10_of _ _) (r := tr N l) (N' := N) hV hV.1 (fun Q k => ?_) (fun h Q hB _ k => ?_)
        · unfold f_X9_of
          exact isLine9_y hA h4 hn hL (ifn oz (win9 hk.1 hk.2 (ifn oz (ifn (by decide) (ifp rfl (s_tripsOf hA (by omega) (k h hA G9.rf)))))))
        · unfold f_X10_of
          exact isLine10_y hB h4 hn hL (ifn oz (win10 hk.1 hk.2 (ifn oz (ifp (by decide) (ifn (by decide) (ifp rfl (s_trips10 hB (by omega) (k h hB G10.rf))))))))
      · refine pr_ok (f9 := f_X9_of _ _) (f10 := f_X10_of _ _) (r := se N l) (N' := N) hV hV.1 (fun Q k => ?_) (fun h Q hB _ k => ?_)
        · unfold f_X9_of
          exact isLine9_y hA h4 hn hL (ifn oz (win9 hk.1 hk.2 (ifn oz (ifn (by decide) (ifn (by decide) (ifp rfl (s_seenOf hA (by omega) (k h hA G9.rf))))))))
        · unfold f_X10_of
          exact isLine10_y hB h4 hn hL (ifn oz (win10 hk.1 hk.2 (ifn oz (ifp (by decide) (ifn (by decide) (ifn (by decide) (s_seen10 hB (by omega) (k h hB G10.rf))))))))
    · refine pr_no (f9 := f_X9_of _ _) (f10 := f_X10_of _ _) (w := id) 0 (by decide) hV (fun Q k => ?_) (fun h Q hB _ k => ?_)
      · unfold f_X9_of
        exact isLine9_y hA h4 hn hL (ifn oz (wout9 hk (ifp rfl (k h hA G9.rf))))
      · unfold f_X10_of
        exact isLine10_y hB h4 hn hL (ifn oz (wout10 hk (ifp rfl (k h hB G10.rf))))
  · refine pr_no (f9 := f_X9_of _ _) (f10 := f_X10_of _ _) (w := id) 0 (by decide) hV (fun Q k => ?_) (fun h Q hB _ k => ?_)
    · unfold f_X9_of
      exact isLine9_n hA h4 hl (ifp rfl (k h hA G9.rf))
    · unfold f_X10_of
      exact isLine10_n hB h4 hn hl (ifp rfl (k h hB G10.rf))
