/-! COUNTS, STATUS, THE TAPE FED -/
def fsum (f : Row) : Nat → Int32
  | 0 => 0
  | i + 1 => fsum f i + f i
theorem s_stat9 {a1 : Int32} {h : Mem} {Q : Int32 → Mem → Prop} (k : Q (fsum (h 34) 7) h) : gm_it2 (f_X9_status_b31 a1 Q) gm_F (0 : Int32) (0 : Int32) h := by
  refine lo2 nI 7 (fun i v h' => h' = h ∧ v = fsum (h 34) i) rfl (by decide) ⟨rfl, rfl⟩ ?_ ?_
  · rintro K v h' ⟨rfl, rfl⟩
    unfold f_X9_status_b31
    exact ifp (by decide) k
  · rintro K i v h' hi ⟨rfl, rfl⟩ hK
    unfold f_X9_status_b31
    refine ifn (nI_ge (b := 7) hi (by decide)) ⟨vi hi (by decide), nm (nm ?_)⟩
    rw [nI_1, cl (by omega)]
    exact hK _ _ ⟨rfl, rfl⟩
theorem pair_status (a1 : Int32) (h : Mem) (hI : Inv h) : f_X9_status a1 h (fun r h1 => f_X10_status a1 h1 (fun r2 h2 => r = r2 ∧ Inv h2)) := by
  obtain ⟨N, hV⟩ := hI
  have hA := hV.2.1
  have hF := hV.2.2.2.2
  by_cases hk : (-1 : Int32) ≤ a1 ∧ a1 ≤ 6
  · by_cases e : a1 < 0
    · have ea : a1 = -1 := by
        have h1 := hk.1
        rw [fa_le, im1] at h1
        rw [fa_lt, i0] at e
        rw [fa_eq, im1]
        omega
      refine pr_ok2 (f9 := f_X9_status a1) (f10 := f_X10_status a1) (r := h 47 0) (N' := N) hV hV.1 (fun Q k => ?_) (fun h2 Q hB _ hE k => ?_)
      · unfold f_X9_status
        refine win9 hk.1 hk.2 (ifn oz (ifp e (s_stat9 ?_)))
        have : fsum (h 34) 7 = h 47 0 := by
          rw [hF.2]
          simp only [fsum]
          rw [Int32.zero_add]
        rw [this]
        exact k h hA G9.rf
      · unfold f_X10_status
        refine win10 hk.1 hk.2 (ifn oz ?_)
        have z : (-1 : Int32) + 1 = nI 0 := by decide
        rw [ea, z]
        refine ⟨vi (by decide) (by decide), ?_⟩
        rw [cl (by decide), hE 47 (by omega)]
        exact k h2 hB G10.rf
    · obtain ⟨c, hc, rfl⟩ := sm (m := 6) (by decide) (fa_of_nlt e) hk.2
      refine pr_ok2 (f9 := f_X9_status _) (f10 := f_X10_status _) (r := h 34 c) (N' := N) hV hV.1 (fun Q k => ?_) (fun h2 Q hB _ hE k => ?_)
      · unfold f_X9_status
        refine win9 hk.1 hk.2 (ifn oz (ifn e ⟨vi (by omega) (by decide), ?_⟩))
        rw [cl (by omega)]
        exact k h hA G9.rf
      · unfold f_X10_status
        rw [nI_1, cl (by omega)]
        refine win10 hk.1 hk.2 (ifn oz ⟨vi (by omega) (by decide), ?_⟩)
        rw [hE 47 (by omega), hF.1 c (by omega)]
        exact k h2 hB G10.rf
  · refine pr_no (f9 := f_X9_status _) (f10 := f_X10_status _) (w := id) 0 (by decide) hV (fun Q k => ?_) (fun h Q hB _ k => ?_)
    · unfold f_X9_status
      exact wout9 hk (ifp rfl (k h hA G9.rf))
    · unfold f_X10_status
      exact wout10 hk (ifp rfl (k h hB G10.rf))
def lsum (N : Row) (f : Nat) : Nat → Int32
  | 0 => 0
  | i + 1 => lsum N f i + N (26 + 3 * i + f)
def hsum (N : Row) : Nat → Int32
  | 0 => 0
  | i + 1 => if N (16 + i) < 0 then hsum N i else hsum N i + 1
theorem s_sumOf {n f : Nat} {h : Mem} {N : Row} {Q : Int32 → Mem → Prop} (hA : A9 h 1 N) (h4 : N 4 = nI n) (hn : n ≤ 12) (hf : f < 3) (k : Q (lsum N f n) h) : f_X6_sumOf 1 (1 + 1 + f) 12 h Q := by
  unfold f_X6_sumOf
  refine lo2 nI n (fun i v h' => h' = h ∧ v = lsum N f i) rfl (by omega) ⟨rfl, rfl⟩ ?_ ?_
  · rintro K v h' ⟨rfl, rfl⟩
    unfold f_X6_sumOf_b4
    rw [hA.1.2.2.2.2.1, h4]
    exact ifp (nI_le (Nat.le_refl _) (by omega)) k
  · rintro K i v h' hi ⟨rfl, rfl⟩ hK
    unfold f_X6_sumOf_b4
    rw [hA.1.2.2.2.2.1, h4]
    refine ifn (nI_ge hi (by omega)) ⟨vi (by omega) (by decide), nm (nm ?_)⟩
    rw [nI_1, cl (by omega)]
    refine hK _ _ ⟨rfl, ?_⟩
    obtain ⟨d0, d1, d2⟩ := hA.2.2.2 i (by omega)
    have : f = 0 ∨ f = 1 ∨ f = 2 := by omega
    rcases this with rfl | rfl | rfl
    · show _ = lsum N 0 i + N (26 + 3 * i)
      rw [← d0]
    · rw [lsum, ← d1]
    · rw [lsum, ← d2]
theorem s_cnt10 {n f : Nat} {a1 : Int32} {h : Mem} {N : Row} {Q : Int32 → Mem → Prop} (hB : A10 h 44 N) (h4 : N 4 = nI n) (hn : n ≤ 12) (hf : f < 3) (ha : a1 - (2 : Int32) = nI f) (k : Q (lsum N f n) h) : gm_it2 (f_X10_count_b71 a1 Q) gm_F (0 : Int32) (0 : Int32) h := by
  refine lo2 nI n (fun i v h' => h' = h ∧ v = lsum N f i) rfl (by omega) ⟨rfl, rfl⟩ ?_ ?_
  · rintro K v h' ⟨rfl, rfl⟩
    unfold f_X10_count_b71
    rw [hB 4 (by decide), h4]
    exact ifp (nI_le (Nat.le_refl _) (by omega)) k
  · rintro K i v h' hi ⟨rfl, rfl⟩ hK
    unfold f_X10_count_b71
    rw [hB 4 (by decide), h4, ha]
    refine ifn (nI_ge hi (by omega)) (s_lineIs hB (by omega) hf (nm (nm ?_)))
    rw [nI_1]
    exact hK _ _ ⟨rfl, rfl⟩
theorem s_held {h : Mem} {N : Row} {Q : Int32 → Mem → Prop} (hA : A9 h 1 N) (k : Q (hsum N 10) h) : f_X6_spotsHeld 1 h Q := by
  unfold f_X6_spotsHeld
  refine lo2 nI 10 (fun i v h' => h' = h ∧ v = hsum N i) rfl (by decide) ⟨rfl, rfl⟩ ?_ ?_
  · rintro K v h' ⟨rfl, rfl⟩
    unfold f_X6_spotsHeld_b4
    exact ifp (by decide) k
  · rintro K i v h' hi ⟨rfl, rfl⟩ hK
    unfold f_X6_spotsHeld_b4
    refine ifn (nI_ge (b := 10) hi (by decide)) ⟨vi hi (by decide), ?_⟩
    rw [nI_1, cl (by omega), hA.2.2.1 i hi]
    by_cases q : N (16 + i) < 0
    · exact ifp q (nm (hK _ _ ⟨rfl, by rw [hsum, if_pos q]⟩))
    · exact ifn q (nm (nm (hK _ _ ⟨rfl, by rw [hsum, if_neg q]⟩)))
theorem s_held10' {a1 : Int32} {h : Mem} {N : Row} {Q : Int32 → Mem → Prop} (hB : A10 h 44 N) (k : Q (hsum N 10) h) : gm_it2 (f_X10_count_b114 a1 Q) gm_F (0 : Int32) (0 : Int32) h := by
  refine lo2 nI 10 (fun i v h' => h' = h ∧ v = hsum N i) rfl (by decide) ⟨rfl, rfl⟩ ?_ ?_
  · rintro K v h' ⟨rfl, rfl⟩
    unfold f_X10_count_b114
    exact ifp (by decide) k
  · rintro K i v h' hi ⟨rfl, rfl⟩ hK
    unfold f_X10_count_b114
    rw [add16, nI_1, cl (by omega), hB _ (by omega)]
    refine ifn (nI_ge (b := 10) hi (by decide)) ⟨vi (by omega) (by decide), ?_⟩
    by_cases q : N (16 + i) < 0
    · refine ifn (by rw [fa_le]; rw [fa_lt] at q; omega) (nm (nm (hK _ _ ⟨rfl, ?_⟩)))
      rw [hsum, if_pos q, Int32.add_zero]
    · exact ifp (fa_of_nlt q) (nm (nm (hK _ _ ⟨rfl, by rw [hsum, if_neg q]⟩)))
theorem pair_count (a1 : Int32) (h : Mem) (hI : Inv h) : f_X9_count a1 h (fun r h1 => f_X10_count a1 h1 (fun r2 h2 => r = r2 ∧ Inv h2)) := by
  obtain ⟨N, hV⟩ := hI
  obtain ⟨a, n, han, hn, h0, h4, hw, hs⟩ := hV.1.1
  have hA := hV.2.1
  obtain ⟨t, t1, t2, t3, t4⟩ := hV.2.2.2.1.2.1
  have aux : ∀ r : Int32, (∀ Q : Int32 → Mem → Prop, Q r h → f_X9_count a1 h Q) → (∀ (h2 : Mem) (Q : Int32 → Mem → Prop), A10 h2 44 N → E9 h h2 → Q r h2 → f_X10_count a1 h2 Q) → f_X9_count a1 h (fun r h1 => f_X10_count a1 h1 (fun r2 h2 => r = r2 ∧ Inv h2)) := fun r x y => pr_ok2 (f9 := f_X9_count a1) (f10 := f_X10_count a1) (r := r) (N' := N) hV hV.1 (fun Q k => x Q (k h hA G9.rf)) (fun h Q hB _ hE k => y h Q hB hE (k h hB G10.rf))
  by_cases e0 : a1 = 0
  · refine aux (N 1) (fun Q k => ?_) (fun h Q hB hE k => ?_)
    · unfold f_X9_count; exact ifp e0 (by rw [hA.1.2.1]; exact k)
    · unfold f_X10_count; exact ifp e0 (by rw [hB 1 (by decide)]; exact k)
  by_cases e1 : a1 = 1
  · refine aux (N 4) (fun Q k => ?_) (fun h Q hB hE k => ?_)
    · unfold f_X9_count; exact ifn e0 (ifp e1 (by rw [hA.1.2.2.2.2.1]; exact k))
    · unfold f_X10_count; exact ifn e0 (ifp e1 (by rw [hB 4 (by decide)]; exact k))
  by_cases e2 : a1 = 2
  · refine aux (N 0) (fun Q k => ?_) (fun h Q hB hE k => ?_)
    · unfold f_X9_count; exact ifn e0 (ifn e1 (ifp e2 (by rw [hA.1.1]; exact k)))
    · unfold f_X10_count; exact ifn e0 (ifn e1 (ifp e2 (by rw [hB 0 (by decide)]; exact k)))
  by_cases e3 : a1 = 3
  · refine aux (lsum N 1 n) (fun Q k => ?_) (fun h Q hB hE k => ?_)
    · unfold f_X9_count; exact ifn e0 (ifn e1 (ifn e2 (ifp e3 (s_sumOf (f := 1) hA h4 hn (by decide) k))))
    · unfold f_X10_count; exact ifn e0 (ifn e1 (ifn e2 (ifp e3 (s_cnt10 (f := 1) hB h4 hn (by decide) (by rw [e3]; decide) k))))
  by_cases e4 : a1 = 4
  · refine aux (lsum N 2 n) (fun Q k => ?_) (fun h Q hB hE k => ?_)
    · unfold f_X9_count; exact ifn e0 (ifn e1 (ifn e2 (ifn e3 (ifp e4 (s_sumOf (f := 2) hA h4 hn (by decide) k)))))
    · unfold f_X10_count; exact ifn e0 (ifn e1 (ifn e2 (ifn e3 (ifp e4 (s_cnt10 (f := 2) hB h4 hn (by decide) (by rw [e4]; decide) k)))))
  by_cases e5 : a1 = 5
  · refine aux (nI t) (fun Q k => ?_) (fun h Q hB hE k => ?_)
    · unfold f_X9_count; exact ifn e0 (ifn e1 (ifn e2 (ifn e3 (ifn e4 (ifp e5 (by rw [t2]; exact k))))))
    · unfold f_X10_count; exact ifn e0 (ifn e1 (ifn e2 (ifn e3 (ifn e4 (ifp e5 (by rw [hE 43 (by omega), t3]; exact k))))))
  by_cases e6 : a1 = 6
  · refine aux (N 5) (fun Q k => ?_) (fun h Q hB hE k => ?_)
    · unfold f_X9_count; exact ifn e0 (ifn e1 (ifn e2 (ifn e3 (ifn e4 (ifn e5 (ifp e6 (by rw [hA.1.2.2.2.2.2]; exact k)))))))
    · unfold f_X10_count; exact ifn e0 (ifn e1 (ifn e2 (ifn e3 (ifn e4 (ifn e5 (ifp e6 (by rw [hB 5 (by decide)]; exact k)))))))
  by_cases e7 : a1 = 7
  · refine aux (hsum N 10) (fun Q k => ?_) (fun h Q hB hE k => ?_)
    · unfold f_X9_count; exact ifn e0 (ifn e1 (ifn e2 (ifn e3 (ifn e4 (ifn e5 (ifn e6 (ifp e7 (s_held hA k))))))))
    · unfold f_X10_count; exact ifn e0 (ifn e1 (ifn e2 (ifn e3 (ifn e4 (ifn e5 (ifn e6 (ifp e7 (s_held10' hB k))))))))
  · refine pr_no (f9 := f_X9_count a1) (f10 := f_X10_count a1) (w := id) 0 (by decide) hV (fun Q k => ?_) (fun h Q hB _ k => ?_)
    · unfold f_X9_count; exact ifn e0 (ifn e1 (ifn e2 (ifn e3 (ifn e4 (ifn e5 (ifn e6 (ifn e7 (k h hA G9.rf))))))))
    · unfold f_X10_count; exact ifn e0 (ifn e1 (ifn e2 (ifn e3 (ifn e4 (ifn e5 (ifn e6 (ifn e7 (k h hB G10.rf))))))))
/-! feed -/
def fb1 (x : Int32) (j : Nat) : Int32 := (x >>> (((8 : Int32) * nI j) &&& 31)) &&& (255 : Int32)
/-- the tape behind i of m bytes of x, from place t on -/
def fdr (x : Int32) (m t : Nat) (T : Row) : Nat → Row
  | 0 => T
  | i + 1 => upd (fdr x m t T i) (t + i) (fb1 x (m - 1 - i))
theorem fdr_ok {x : Int32} {m t : Nat} {T S : Row} (h : ∀ i, i < 120 → S i = T i ∧ 0 ≤ (T i).toInt) : ∀ c i, i < 120 → fdr x m t S c i = fdr x m t T c i ∧ 0 ≤ (fdr x m t T c i).toInt
  | 0, i, hi => h i hi
  | c + 1, i, hi => by
    unfold fdr
    rw [up_at, up_at]
    by_cases e : i = t + c
    · rw [if_pos e, if_pos e]
      refine ⟨rfl, ?_⟩
      unfold fb1
      obtain ⟨j, hj, ej⟩ := pk_andE (x >>> (((8 : Int32) * nI (m - 1 - c)) &&& 31)) (m := 255) 8 (by decide)
      rw [ej, nI_toInt (by omega)]
      omega
    · rw [if_neg e, if_neg e]
      exact fdr_ok h c i hi
theorem dn1 {m i : Nat} (h : i < m) : nI (m - i) - 1 = nI (m - 1 - i) := by
  rw [show m - i = (m - 1 - i) + 1 by omega]
  exact nI_pred _
theorem dn2 {m i : Nat} (h : i < m) : nI (m - 1 - i) + (-1 : Int32) = nI (m - (i + 1)) - 1 := by
  rw [show m - (i + 1) = m - 1 - i by omega]
  exact (Int32.sub_eq_add_neg _ _).symm
theorem dn0 {m i : Nat} (h : m = i) : nI (m - i) - 1 < (0 : Int32) := by
  rw [h, Nat.sub_self]
  decide
theorem s_append {x : Int32} {m t : Nat} {h : Mem} {Q : Mem → Prop} (h0 : h 30 1 = nI t) (hm : m + t ≤ 120) (k : ∀ h', h' 30 1 = nI (t + m) → h' 31 = fdr x m t (h 31) m → (∀ a, a ≠ 30 → a ≠ 31 → h' a = h a) → Q h') : f_X7_append x (nI m) h Q := by
  unfold f_X7_append
  refine nm (lo1 (fun i => nI (m - i) - 1) m (fun i h' => h' 30 1 = nI (t + i) ∧ h' 31 = fdr x m t (h 31) i ∧ ∀ a, a ≠ 30 → a ≠ 31 → h' a = h a) rfl (by omega) ⟨h0, rfl, fun _ _ _ => rfl⟩ ?_ ?_)
  · rintro K h' ⟨e1, e2, e3⟩
    unfold f_X7_append_b4
    exact ifp (dn0 rfl) (k h' e1 e2 e3)
  · rintro K i h' hi ⟨e1, e2, e3⟩ hK
    unfold f_X7_append_b4
    rw [dn1 hi, e1]
    refine ifn (nI_pos (by omega)) ⟨vi (by omega) (by decide), nm (nm (nm ?_))⟩
    rw [dn2 hi, cl (by omega), st_k (by omega), e1, nI_1]
    refine hK _ ⟨?_, ?_, fun a q1 q2 => ?_⟩
    · rw [st_s]; rfl
    · rw [st_k (by omega), st_row, e2]; rfl
    · rw [st_k q1, st_k q2, e3 a q1 q2]
theorem s_feed10 {x y : Int32} {m t : Nat} {h : Mem} {Q : Int32 → Mem → Prop} (h0 : h 43 14 = nI t) (hm : m + t ≤ 120) (k : ∀ h', h' 43 14 = nI (t + m) → h' 50 = fdr x m t (h 50) m → (∀ a i, ¬ (a = 43 ∧ i = 14) → a ≠ 50 → h' a i = h a i) → Q (nI (t + m)) h') : gm_it1 (f_X10_feed_b38 x y Q) gm_F (nI m - 1) h := by
  refine lo1 (fun i => nI (m - i) - 1) m (fun i h' => h' 43 14 = nI (t + i) ∧ h' 50 = fdr x m t (h 50) i ∧ ∀ a i, ¬ (a = 43 ∧ i = 14) → a ≠ 50 → h' a i = h a i) rfl (by omega) ⟨h0, rfl, fun _ _ _ _ => rfl⟩ ?_ ?_
  · rintro K h' ⟨e1, e2, e3⟩
    unfold f_X10_feed_b38
    rw [e1]
    exact ifp (dn0 rfl) (k h' e1 e2 e3)
  · rintro K i h' hi ⟨e1, e2, e3⟩ hK
    unfold f_X10_feed_b38
    rw [dn1 hi, e1]
    refine ifn (nI_pos (by omega)) ⟨vi (by omega) (by decide), nm (nm (nm ?_))⟩
    rw [dn2 hi, cl (by omega), st_k (by omega), e1, nI_1]
    refine hK _ ⟨?_, ?_, fun a j q1 q2 => ?_⟩
    · rw [st_s]; rfl
    · rw [st_k (by omega), st_row, e2]; rfl
    · rw [st_at, if_neg q1, st_k q2, e3 a j q1 q2]
theorem pair_feed (a1 a2 : Int32) (h : Mem) (hI : Inv h) : f_X9_feed a1 a2 h (fun r h1 => f_X10_feed a1 a2 h1 (fun r2 h2 => r = r2 ∧ Inv h2)) := by
  obtain ⟨N, hV⟩ := hI
  have hA := hV.2.1
  obtain ⟨t, t1, t2, t3, t4⟩ := hV.2.2.2.1.2.1
  by_cases hk : (1 : Int32) ≤ a2 ∧ a2 ≤ 4
  · obtain ⟨m, hm, rfl⟩ := sm (m := 4) (by decide) (by have := hk.1; rw [fa_le, i1] at this; rw [fa_le, i0]; omega) hk.2
    have hm1 : 1 ≤ m := by have := hk.1; rw [fa_le, i1, nI_toInt (by omega)] at this; omega
    have e120 : (120 : Int32) - nI m = nI (120 - m) := pk_sub (a := 120) (by omega)
    by_cases hf : t + m ≤ 120
    · obtain ⟨hD, -, hB, ⟨hk', ht, hs⟩, hf'⟩ := hV
      unfold f_X9_feed
      refine win9 hk.1 hk.2 (ifn oz ?_)
      rw [t2, e120]
      refine ifp (nI_le (by omega) (by omega)) (s_append t2 (by omega) (fun h1 e1 e2 e3 => ?_))
      unfold f_X10_feed
      refine win10 hk.1 hk.2 (ifn oz ?_)
      rw [e3 43 (by omega) (by omega), t3, nI_add]
      refine ifp (nI_le (b := 120) (by omega) (by decide)) (nm ?_)
      refine s_feed10 (t := t) (by rw [e3 43 (by omega) (by omega), t3]) (by omega) (fun h2 g1 g2 g3 => ?_)
      have g4 : ∀ a, a ≠ 43 → a ≠ 50 → h2 a = h1 a := fun a q1 q2 => funext (fun i => g3 a i (fun z => q1 z.1) q2)
      refine ⟨e1, N, hD, ?_, ?_, ⟨?_, ⟨t + m, hf, ?_, g1, ?_⟩, ?_⟩, ?_⟩
      · exact hA.fr (fun a _ _ => by rw [g4 a (by omega) (by omega), e3 a (by omega) (by omega)])
      · exact hB.fr (by rw [g4 44 (by omega) (by omega), e3 44 (by omega) (by omega)])
      · exact hk'.fr (by rw [g4 0 (by omega) (by omega), e3 0 (by omega) (by omega)]) (by rw [g3 43 3 (by omega) (by omega), e3 43 (by omega) (by omega)]) (fun a _ _ => by rw [g4 a (by omega) (by omega), e3 a (by omega) (by omega)]) (by rw [g4 45 (by omega) (by omega), e3 45 (by omega) (by omega)])
      · rw [g4 30 (by omega) (by omega), e1]
      · intro i hi
        rw [g2, g4 31 (by omega) (by omega), e2, e3 50 (by omega) (by omega)]
        exact fdr_ok t4 m i hi
      · exact hs.fr (fun a _ _ => by rw [g4 a (by omega) (by omega), e3 a (by omega) (by omega)]) (by rw [g4 53 (by omega) (by omega), e3 53 (by omega) (by omega)]) (by rw [g4 54 (by omega) (by omega), e3 54 (by omega) (by omega)]) (by rw [g4 55 (by omega) (by omega), e3 55 (by omega) (by omega)])
      · exact hf'.fr (by rw [g4 34 (by omega) (by omega), e3 34 (by omega) (by omega)]) (by rw [g4 47 (by omega) (by omega), e3 47 (by omega) (by omega)])
    · refine pr_no2 (f9 := f_X9_feed _ _) (f10 := f_X10_feed _ _) (w := id) 1 (by decide) hV (fun Q k => ?_) (fun h2 Q hB _ hE k => ?_)
      · unfold f_X9_feed
        refine win9 hk.1 hk.2 (ifn oz ?_)
        rw [t2, e120]
        exact ifn (nI_ge (by omega) (by omega)) (k h hA G9.rf)
      · unfold f_X10_feed
        refine win10 hk.1 hk.2 (ifn oz ?_)
        rw [hE 43 (by omega), t3, nI_add]
        exact ifn (nI_ge (a := 120) (by omega) (by omega)) (k h2 hB G10.rf)
  · refine pr_no (f9 := f_X9_feed _ _) (f10 := f_X10_feed _ _) (w := id) 0 (by decide) hV (fun Q k => ?_) (fun h Q hB _ k => ?_)
    · unfold f_X9_feed
      exact wout9 hk (ifp rfl (k h hA G9.rf))
    · unfold f_X10_feed
      exact wout10 hk (ifp rfl (k h hB G10.rf))
