/-! FIT, KEPT -/
def Ww (N : Row) (a t : Nat) : Nat → Int32
  | 0 => 0
  | i + 1 => if t / 2 ^ (a + i) % 2 = 0 then Ww N a t i + N (26 + 3 * (a + i) + 1) else Ww N a t i
def TW (N : Row) (a t : Nat) : Nat → Int32 × Row
  | 0 => (0, N)
  | i + 1 => if t / 2 ^ (a + i) % 2 = 0 then ((TW N a t i).1 + tk N (a + i) ((TW N a t i).2 6), n_turn (TW N a t i).2) else TW N a t i
section
variable {N : Row} {a n t : Nat}
theorem TW_y {i : Nat} (c : t / 2 ^ (a + i) % 2 = 0) : TW N a t (i + 1) = ((TW N a t i).1 + tk N (a + i) ((TW N a t i).2 6), n_turn (TW N a t i).2) := if_pos c
theorem TW_n {i : Nat} (c : ¬ t / 2 ^ (a + i) % 2 = 0) : TW N a t (i + 1) = TW N a t i := if_neg c
theorem Ww_y {i : Nat} (c : t / 2 ^ (a + i) % 2 = 0) : Ww N a t (i + 1) = Ww N a t i + N (26 + 3 * (a + i) + 1) := if_pos c
theorem Ww_n {i : Nat} (c : ¬ t / 2 ^ (a + i) % 2 = 0) : Ww N a t (i + 1) = Ww N a t i := if_neg c
theorem TW_O {j : Nat} (h6 : j ≠ 6) (h7 : j ≠ 7) : ∀ i, (TW N a t i).2 j = N j
  | 0 => rfl
  | i + 1 => by
    by_cases c : t / 2 ^ (a + i) % 2 = 0
    · rw [TW_y c]
      show n_turn (TW N a t i).2 j = _
      rw [turnO _ h6 h7, TW_O h6 h7 i]
    · rw [TW_n c, TW_O h6 h7 i]
theorem TW_pr (h : 1 ≤ (N 6).toInt ∧ (N 6).toInt ≤ 99) : ∀ i, 1 ≤ ((TW N a t i).2 6).toInt ∧ ((TW N a t i).2 6).toInt ≤ 99
  | 0 => h
  | i + 1 => by
    by_cases c : t / 2 ^ (a + i) % 2 = 0
    · rw [TW_y c]
      exact (turn_rng _).1
    · rw [TW_n c]
      exact TW_pr h i
theorem TW_rng (hD : Dom N) : ∀ i, a + i ≤ 12 → 0 ≤ (TW N a t i).1.toInt ∧ (TW N a t i).1.toInt ≤ 2100 * i
  | 0, _ => by show _ ≤ (0 : Int32).toInt ∧ (0 : Int32).toInt ≤ _; rw [i0]; omega
  | i + 1, hi => by
    have ih := TW_rng hD i (by omega)
    have r := (tk_rng hD.2.2.1 (l := a + i) (by omega) (TW_pr (a := a) (t := t) hD.2.2.2.1 i)).1
    by_cases c : t / 2 ^ (a + i) % 2 = 0
    · rw [TW_y c]
      show 0 ≤ ((TW N a t i).1 + _).toInt ∧ ((TW N a t i).1 + _).toInt ≤ _
      rw [add_i (by omega) (by omega) (by omega)]
      omega
    · rw [TW_n c]; omega
theorem TW_mono (hD : Dom N) {i : Nat} : ∀ j, a + (i + j) ≤ 12 → (TW N a t i).1.toInt ≤ (TW N a t (i + j)).1.toInt
  | 0, _ => Int.le_refl _
  | j + 1, hj => by
    have ih := TW_mono (i := i) hD j (by omega)
    have r0 := TW_rng (a := a) (t := t) hD (i + j) (by omega)
    have r := (tk_rng hD.2.2.1 (l := a + (i + j)) (by omega) (TW_pr (a := a) (t := t) hD.2.2.2.1 (i + j))).1
    rw [← Nat.add_assoc]
    by_cases c : t / 2 ^ (a + (i + j)) % 2 = 0
    · rw [TW_y c]
      show _ ≤ ((TW N a t (i + j)).1 + _).toInt
      rw [add_i (by omega) (by omega) (by omega)]
      omega
    · rw [TW_n c]; exact ih
theorem Ww_rng (hD : Dom N) : ∀ i, a + i ≤ 12 → 0 ≤ (Ww N a t i).toInt ∧ (Ww N a t i).toInt ≤ 20 * i
  | 0, _ => by show _ ≤ (0 : Int32).toInt ∧ (0 : Int32).toInt ≤ _; rw [i0]; omega
  | i + 1, hi => by
    have ih := Ww_rng hD i (by omega)
    have r := (hD.2.2.1 (a + i) (by omega)).2.1
    by_cases c : t / 2 ^ (a + i) % 2 = 0
    · rw [Ww_y c, add_i (by omega) (by omega) (by omega)]
      omega
    · rw [Ww_n c]; omega
def fs (N : Row) (a m t : Nat) : Prop := (TW N a t m).1.toInt ≤ (N 15).toInt
theorem s_words {h : Mem} {Q : Int32 → Mem → Prop} (hA : A9 h 1 N) (h0 : N 0 = nI a) (h4 : N 4 = nI n) (han : a ≤ n) (hn : n ≤ 12) (ht : t < 4096) (k : Q (Ww N a t (n - a)) h) : f_X6_wordsAheadWithout 1 (nI t) h Q := by
  unfold f_X6_wordsAheadWithout
  rw [hA.1.1, h0]
  refine nm (lo2 (fun i => nI (a + i)) (n - a) (fun i v h' => h' = h ∧ v = Ww N a t i) rfl (by omega) ⟨rfl, rfl⟩ ?_ ?_)
  · rintro K v h' ⟨rfl, rfl⟩
    unfold f_X6_wordsAheadWithout_b7
    rw [hA.1.2.2.2.2.1, h4]
    exact ifp (nI_le (by omega) (by omega)) k
  · rintro K i v h' hi ⟨rfl, rfl⟩ hK
    unfold f_X6_wordsAheadWithout_b7
    rw [hA.1.2.2.2.2.1, h4, nI_1, cl (by omega)]
    refine ifn (nI_ge (by omega) (by omega)) ?_
    by_cases c : t / 2 ^ (a + i) % 2 = 0
    · refine ifp ((bit_0 (by omega) (by omega)).mpr c) ⟨vi (by omega) (by decide), nm (nm (hK _ _ ⟨rfl, ?_⟩))⟩
      rw [Ww_y c, ← (hA.2.2.2 (a + i) (by omega)).2.1]
    · exact ifn (fun z => c ((bit_0 (by omega) (by omega)).mp z)) (nm (hK _ _ ⟨rfl, (Ww_n c).symm⟩))
theorem s_fits {h : Mem} {Q : Int32 → Mem → Prop} (hD : Dom N) (hA : A9 h 1 N) (h0 : N 0 = nI a) (h4 : N 4 = nI n) (han : a ≤ n) (hn : n ≤ 12) (ht : t < 4096) (k1 : fs N a (n - a) t → ∀ h', Fr1 24 h h' → Q 1 h') (k0 : ¬ fs N a (n - a) t → ∀ h', Fr1 24 h h' → Q 0 h') : f_X4_fitsHourWithout (nI t) h Q := by
  unfold f_X4_fitsHourWithout
  have y15 := hD.2.2.2.2.2.2.2.2
  refine s_from24 hA (fun h1 f1 p1 => ?_)
  have b1 := f1.a9 (by decide) hA
  rw [b1.2.1 9 (by decide), b1.1.1, h0]
  have sb : ∀ i, a + i ≤ 12 → (N 15 - (TW N a t i).1).toInt = (N 15).toInt - (TW N a t i).1.toInt := fun i hi => by
    have r := TW_rng (a := a) (t := t) hD i hi
    exact fb_subI (by omega) (by omega)
  have fin : ∀ (v : Int32) (h' : Mem) (i : Nat), i ≤ n - a → v = N 15 - (TW N a t i).1 → (v < 0 ∨ i = n - a) → Fr1 24 h h' → f_X4_fitsHourWithout_b77 (nI t) Q v h' := by
    intro v h' i hi ev hc f
    unfold f_X4_fitsHourWithout_b77
    by_cases c : v < 0
    · refine ifp c (k0 (fun z => ?_) h' f)
      have m := TW_mono (a := a) (t := t) hD (i := i) (n - a - i) (by omega)
      rw [show i + (n - a - i) = n - a by omega] at m
      unfold fs at z
      rw [ev, fa_lt, sb i (by omega), i0] at c
      omega
    · refine ifn c (k1 ?_ h' f)
      rcases hc with q | q
      · exact absurd q c
      · subst q
        unfold fs
        rw [ev, fa_lt, sb _ (by omega), i0] at c
        omega
  refine nm (nm (lo2 (fun i => nI (a + i)) (n - a) (fun i v h' => Fr1 24 h h' ∧ PcR h' 24 (TW N a t i).2 ∧ v = N 15 - (TW N a t i).1) rfl (by omega) ⟨f1, p1, (Int32.sub_zero _).symm⟩ ?_ ?_))
  · rintro K v h' ⟨f, p, e⟩
    unfold f_X4_fitsHourWithout_b25
    have b := f.a9 (by decide) hA
    rw [b.1.2.2.2.2.1, h4]
    exact ifp (nI_le (by omega) (by omega)) (fin v h' (n - a) (Nat.le_refl _) e (Or.inr rfl) f)
  · rintro K i v h' hi ⟨f, p, e⟩ hK
    unfold f_X4_fitsHourWithout_b25
    have b := f.a9 (by decide) hA
    rw [b.1.2.2.2.2.1, h4, nI_1]
    refine ifn (nI_ge (by omega) (by omega)) ?_
    by_cases c : v < 0
    · exact ifp c (fin v h' i (by omega) e (Or.inl c) f)
    · refine ifn c ?_
      by_cases d : t / 2 ^ (a + i) % 2 = 0
      · refine ifp ((bit_0 (by omega) (by omega)).mpr d) (s_takesOf b (by omega) (nm (s_step (m := 1) (by decide) p (fun h2 f2 p2 => nm (hK _ _ ⟨f.tr f2, ?_, ?_⟩)))))
        · rw [TW_y d]; exact p2
        · rw [TW_y d, e, p.1]
          exact (i_sa _ _ _).symm
      · refine ifn (fun z => d ((bit_0 (by omega) (by omega)).mp z)) (nm (hK _ _ ⟨f, ?_, ?_⟩))
        · rw [TW_n d]; exact p
        · rw [TW_n d]; exact e
theorem s_without {h : Mem} {Q : Int32 → Mem → Prop} (hB : A10 h 44 N) (h0 : N 0 = nI a) (h4 : N 4 = nI n) (han : a ≤ n) (hn : n ≤ 12) (ht : t < 4096) (k : ∀ h', A10 h' 44 N → h' 43 8 = Ww N a t (n - a) → (∀ b, b ≠ 43 → b ≠ 44 → h' b = h b) → (∀ j, j ≠ 8 → h' 43 j = h 43 j) → Q (TW N a t (n - a)).1 h') : f_X10_takesWithout (nI t) h Q := by
  unfold f_X10_takesWithout
  rw [hB 6 (by decide), hB 7 (by decide)]
  refine nm (nm (nm ?_))
  rw [st_k (by decide), hB 0 (by decide), h0]
  refine nm (lo2 (fun i => nI (a + i)) (n - a) (fun i v h' => A10 h' 44 (TW N a t i).2 ∧ v = (TW N a t i).1 ∧ h' 43 8 = Ww N a t i ∧ (∀ b, b ≠ 43 → b ≠ 44 → h' b = h b) ∧ (∀ j, j ≠ 8 → h' 43 j = h 43 j)) rfl (by omega) ⟨hB.fr (st_k (by decide)), rfl, st_s, fun b x _ => st_k x, fun j x => st_j x⟩ ?_ ?_)
  · rintro K v h' ⟨b, e, w, f, g⟩
    unfold f_X10_takesWithout_b32
    rw [b 4 (by decide), TW_O (by decide) (by decide), h4]
    refine ifp (nI_le (by omega) (by omega)) (nm (nm ?_))
    rw [e]
    refine k _ (b.st.st.same (fun i _ => ?_)) (by rw [st_k (by decide), st_k (by decide)]; exact w) (fun x y z => by rw [st_k z, st_k z, f x y z]) (fun j y => by rw [st_k (by decide), st_k (by decide), g j y])
    rw [up_at, up_at]
    by_cases q7 : i = 7
    · rw [if_pos q7, q7]
    · rw [if_neg q7]
      by_cases q6 : i = 6
      · rw [if_pos q6, q6]
      · rw [if_neg q6, TW_O q6 q7]
  · rintro K i v h' hi ⟨b, e, w, f, g⟩ hK
    unfold f_X10_takesWithout_b32
    rw [b 4 (by decide), TW_O (by decide) (by decide), h4, nI_1]
    refine ifn (nI_ge (by omega) (by omega)) (s_has ht (by omega) ?_)
    by_cases c : t / 2 ^ (a + i) % 2 = 0
    · rw [if_neg (by omega : ¬ t / 2 ^ (a + i) % 2 = 1)]
      refine ifp rfl (s_takes10 b (by omega) (nm (s_lineIs (f := 1) b (by omega) (by decide) (nm ?_))))
      rw [w]
      refine s_turns10 (N := (TW N a t i).2) (b.fr (st_k (by decide))) (fun h2 b2 f2 => nm (nm (hK _ _ ⟨?_, ?_, ?_, fun x y z => ?_, fun j y => ?_⟩)))
      · have := b2.st (j := 6) (v := n_turn (TW N a t i).2 6)
        rw [turn_again] at this
        rw [TW_y c]
        exact this
      · rw [TW_y c, e]
        show _ = (TW N a t i).1 + _
        rw [tk_cong (N := (TW N a t i).2) (M := N) (fun j hj => TW_O (by omega) (by omega) i)]
      · rw [st_k (by decide), f2 43 (by decide), st_s, Ww_y c, TW_O (by omega) (by omega)]
      · rw [st_k z, f2 x z, st_k y, f x y z]
      · rw [st_k (by decide), f2 43 (by decide), st_j y, g j y]
    · rw [if_pos (by omega : t / 2 ^ (a + i) % 2 = 1)]
      refine ifn oz (nm (hK _ _ ⟨by rw [TW_n c]; exact b, by rw [TW_n c]; exact e, by rw [Ww_n c]; exact w, f, g⟩))
end
/-! the best of all sets -/
def fsb (N : Row) (a m t : Nat) : Bool := decide ((TW N a t m).1.toInt ≤ (N 15).toInt)
theorem fsb_t {N : Row} {a m t : Nat} : fsb N a m t = true ↔ fs N a m t := decide_eq_true_iff
def upb (N : Row) (a m : Nat) (w : Int32) (s : Nat) : Prop := fs N a m (s * 2 ^ a) ∧ w < Ww N a (s * 2 ^ a) m
def mo (N : Row) (a m : Nat) : Nat → Int32
  | 0 => -1
  | s + 1 => if fsb N a m (s * 2 ^ a) = true ∧ mo N a m s < Ww N a (s * 2 ^ a) m then Ww N a (s * 2 ^ a) m else mo N a m s
def bo (N : Row) (a m : Nat) (v0 : Int32) : Nat → Int32
  | 0 => v0
  | s + 1 => if fsb N a m (s * 2 ^ a) = true ∧ mo N a m s < Ww N a (s * 2 ^ a) m then nI (s * 2 ^ a) else bo N a m v0 s
section
variable {N : Row} {a n m s : Nat} {v0 : Int32}
theorem mo_y (h : upb N a m (mo N a m s) s) : mo N a m (s + 1) = Ww N a (s * 2 ^ a) m := if_pos ⟨fsb_t.mpr h.1, h.2⟩
theorem mo_n (h : ¬ upb N a m (mo N a m s) s) : mo N a m (s + 1) = mo N a m s := if_neg (fun z => h ⟨fsb_t.mp z.1, z.2⟩)
theorem bo_y (h : upb N a m (mo N a m s) s) : bo N a m v0 (s + 1) = nI (s * 2 ^ a) := if_pos ⟨fsb_t.mpr h.1, h.2⟩
theorem bo_n (h : ¬ upb N a m (mo N a m s) s) : bo N a m v0 (s + 1) = bo N a m v0 s := if_neg (fun z => h ⟨fsb_t.mp z.1, z.2⟩)
theorem mb (N : Row) (a m : Nat) : ∀ s, mo N a m s = -1 ∨ ∃ u, u < s ∧ mo N a m s = Ww N a (u * 2 ^ a) m ∧ ∀ v0, bo N a m v0 s = nI (u * 2 ^ a)
  | 0 => Or.inl rfl
  | s + 1 => by
    by_cases c : upb N a m (mo N a m s) s
    · exact Or.inr ⟨s, by omega, mo_y c, fun v0 => bo_y c⟩
    · rcases mb N a m s with h | ⟨u, h1, h2, h3⟩
      · exact Or.inl (by rw [mo_n c]; exact h)
      · exact Or.inr ⟨u, by omega, by rw [mo_n c]; exact h2, fun v0 => by rw [bo_n c]; exact h3 v0⟩
theorem ones : ∀ m, m ≤ 12 → ∀ i, i < m → (2 ^ m - 1) / 2 ^ i % 2 = 1 := by decide
theorem mo_end (hD : Dom N) (hm : a + m ≤ 12) : ∃ u, u < 2 ^ m ∧ mo N a m (2 ^ m) = Ww N a (u * 2 ^ a) m ∧ ∀ v0, bo N a m v0 (2 ^ m) = nI (u * 2 ^ a) := by
  rcases mb N a m (2 ^ m) with h | h
  · exfalso
    have hp : 0 < 2 ^ m := Nat.two_pow_pos m
    have e : 2 ^ m - 1 + 1 = 2 ^ m := by omega
    have hbit : ∀ i, i < m → ¬ (2 ^ m - 1) * 2 ^ a / 2 ^ (a + i) % 2 = 0 := by
      intro i hi
      rw [Nat.pow_add, ← Nat.div_div_eq_div_mul, Nat.mul_div_cancel _ (Nat.two_pow_pos a), ones m (by omega) i hi]
      decide
    have ht : ∀ i, i ≤ m → TW N a ((2 ^ m - 1) * 2 ^ a) i = (0, N) := by
      intro i
      induction i with
      | zero => intro _; rfl
      | succ i ih => intro hi; rw [TW_n (hbit i (by omega)), ih (by omega)]
    have hf : fs N a m ((2 ^ m - 1) * 2 ^ a) := by
      unfold fs
      rw [ht m (Nat.le_refl _)]
      show (0 : Int32).toInt ≤ _
      rw [i0]
      exact hD.2.2.2.2.2.2.2.2.1
    have hw := Ww_rng (N := N) (a := a) (t := (2 ^ m - 1) * 2 ^ a) hD m hm
    by_cases c : upb N a m (mo N a m (2 ^ m - 1)) (2 ^ m - 1)
    · have z := mo_y c
      rw [e, h] at z
      have z2 := congrArg Int32.toInt z
      rw [im1] at z2
      omega
    · have z := mo_n c
      rw [e, h] at z
      refine c ⟨hf, ?_⟩
      rw [← z, fa_lt, im1]
      omega
  · exact h
theorem s_bestOut {h : Mem} {Q : Int32 → Mem → Prop} (hD : Dom N) (hA : A9 h 1 N) (h0 : N 0 = nI a) (h4 : N 4 = nI n) (han : a ≤ n) (hn : n ≤ 12) (k : ∀ h', Fr1 24 h h' → Q (bo N a (n - a) 0 (2 ^ (n - a))) h') : f_X4_bestLeftOut h Q := by
  unfold f_X4_bestLeftOut
  have hp := p2 (m := n) (by omega)
  have hpm := p2 (m := n - a) (by omega)
  have hpn : 2 ^ n = 2 ^ (n - a) * 2 ^ a := by rw [← Nat.pow_add]; congr 1; omega
  refine s_left9 hA h0 h4 han ?_
  refine lo3 nI (2 ^ (n - a)) (fun s v3 v4 h' => Fr1 24 h h' ∧ v3 = bo N a (n - a) 0 s ∧ v4 = mo N a (n - a) s) rfl (by omega) ⟨Fr1.rf, rfl, rfl⟩ ?_ ?_
  · rintro K v3 v4 h' ⟨f, rfl, rfl⟩
    unfold f_X4_bestLeftOut_b13
    rw [one_shl (by omega)]
    exact ifp (nI_le (Nat.le_refl _) (by omega)) (k h' f)
  · rintro K s v3 v4 h' hs ⟨f, rfl, rfl⟩ hK
    unfold f_X4_bestLeftOut_b13
    have b := f.a9 (by decide) hA
    have ht : s * 2 ^ a < 2 ^ n := by rw [hpn]; exact Nat.mul_lt_mul_of_pos_right hs (Nat.two_pow_pos a)
    rw [one_shl (by omega), nI_1, b.1.1, h0, shl_nI (by omega) (by omega)]
    refine ifn (nI_ge hs (by omega)) (nm (s_words b h0 h4 han hn (by omega) ?_))
    by_cases c : Ww N a (s * 2 ^ a) (n - a) ≤ mo N a (n - a) s
    · have nc : ¬ upb N a (n - a) (mo N a (n - a) s) s := fun z => by have := z.2; rw [fa_lt] at this; rw [fa_le] at c; omega
      exact ifp c (nm (hK _ _ _ ⟨f, (bo_n nc).symm, (mo_n nc).symm⟩))
    · refine ifn c (s_fits hD b h0 h4 han hn (by omega) (fun hf h2 f2 => ?_) (fun hf h2 f2 => ?_))
      · have yc : upb N a (n - a) (mo N a (n - a) s) s := ⟨hf, fa_of_nle c⟩
        exact ifn oz (nm (hK _ _ _ ⟨f.tr f2, (bo_y yc).symm, (mo_y yc).symm⟩))
      · have nc : ¬ upb N a (n - a) (mo N a (n - a) s) s := fun z => hf z.1
        exact ifp rfl (nm (hK _ _ _ ⟨f.tr f2, (bo_n nc).symm, (mo_n nc).symm⟩))
theorem s_findFit {h : Mem} {Q : Int32 → Mem → Prop} (hD : Dom N) (hB : A10 h 44 N) (h0 : N 0 = nI a) (h4 : N 4 = nI n) (han : a ≤ n) (hn : n ≤ 12) (k : ∀ h', A10 h' 44 N → G10 h h' → h' 43 9 = mo N a (n - a) (2 ^ (n - a)) → Q (bo N a (n - a) (-1) (2 ^ (n - a))) h') : f_X10_findFit h Q := by
  unfold f_X10_findFit
  have hp := p2 (m := n) (by omega)
  have hpm := p2 (m := n - a) (by omega)
  have hpn : 2 ^ n = 2 ^ (n - a) * 2 ^ a := by rw [← Nat.pow_add]; congr 1; omega
  refine nm (lo2 (fun s => nI (s * 2 ^ a)) (2 ^ (n - a)) (fun s v h' => A10 h' 44 N ∧ G10 h h' ∧ v = bo N a (n - a) (-1) s ∧ h' 43 9 = mo N a (n - a) s) (by show nI (0 * 2 ^ a) = _; rw [Nat.zero_mul]; rfl) (by omega) ⟨hB.fr (st_k (by decide)), ⟨fun b q => st_k (by omega), st_j (by decide), st_j (by decide)⟩, rfl, st_s⟩ ?_ ?_)
  · rintro K v h' ⟨b, g, rfl, e⟩
    unfold f_X10_findFit_b9
    rw [b 4 (by decide), h4, one_shl (by omega), ← hpn]
    exact ifp (nI_le (Nat.le_refl _) (by omega)) (k h' b g e)
  · rintro K s v h' hs ⟨b, g, rfl, e⟩ hK
    unfold f_X10_findFit_b9
    have ht : s * 2 ^ a < 2 ^ n := by rw [hpn]; exact Nat.mul_lt_mul_of_pos_right hs (Nat.two_pow_pos a)
    rw [b 4 (by decide), h4, one_shl (by omega)]
    refine ifn (nI_ge ht (by omega)) (s_without b h0 h4 han hn (by omega) (fun h3 b3 w3 f3 g3 => ?_))
    have g10 : G10 h h3 := g.tr ⟨fun x q => f3 x (by omega) (by omega), g3 3 (by decide), g3 14 (by decide)⟩
    have e3 : h3 43 9 = mo N a (n - a) s := by rw [g3 9 (by decide)]; exact e
    have fin : ∀ x y : Int32, x = bo N a (n - a) (-1) (s + 1) → y = mo N a (n - a) (s + 1) → f_X10_findFit_b86 Q K x (nI (s * 2 ^ a)) y h3 := by
      intro x y ex ey
      unfold f_X10_findFit_b86
      refine nm ?_
      rw [st_k (by decide), b3 0 (by decide), h0, one_shl (by omega), nI_add, ← Nat.succ_mul]
      exact nm (hK _ _ ⟨b3.fr (st_k (by decide)), g10.tr ⟨fun x q => st_k (by omega), st_j (by decide), st_j (by decide)⟩, ex, by rw [st_s]; exact ey⟩)
    rw [b3 15 (by decide)]
    unfold f_X10_findFit_b41 f_X10_findFit_b61 f_X10_findFit_b62
    rw [w3, e3]
    by_cases hf : fs N a (n - a) (s * 2 ^ a)
    · refine ifn (by unfold fs at hf; rw [fa_lt]; omega) (ifn oz ?_)
      by_cases c : Ww N a (s * 2 ^ a) (n - a) ≤ mo N a (n - a) s
      · have nc : ¬ upb N a (n - a) (mo N a (n - a) s) s := fun z => by have := z.2; rw [fa_lt] at this; rw [fa_le] at c; omega
        exact ifp c (ifn oz (nm (fin _ _ (bo_n nc).symm (by rw [max_l c, mo_n nc]))))
      · have yc : upb N a (n - a) (mo N a (n - a) s) s := ⟨hf, fa_of_nle c⟩
        exact ifn c (ifn oz (nm (fin _ _ (bo_y yc).symm (by rw [max_r c, mo_y yc]))))
    · have nc : ¬ upb N a (n - a) (mo N a (n - a) s) s := fun z => hf z.1
      exact ifp (by unfold fs at hf; rw [fa_lt]; omega) (ifp rfl (ifp rfl (fin _ _ (bo_n nc).symm (mo_n nc).symm)))
end
theorem pair_fit (h : Mem) (hI : Inv h) : f_X9_fit h (fun r h1 => f_X10_fit h1 (fun r2 h2 => r = r2 ∧ Inv h2)) := by
  obtain ⟨N, hV⟩ := hI
  obtain ⟨a, n, han, hn, h0, h4, hw, hs⟩ := hV.1.1
  have hA := hV.2.1
  obtain ⟨u, hu, e1, e2⟩ := mo_end (N := N) (a := a) (m := n - a) hV.1 (by omega)
  refine pr_ok (f9 := f_X9_fit) (f10 := f_X10_fit) (r := nI (u * 2 ^ a)) (N' := N) hV hV.1 (fun Q k => ?_) (fun h Q hB _ k => ?_)
  · unfold f_X9_fit
    refine s_bestOut hV.1 hA h0 h4 han hn (fun h1 f1 => ?_)
    rw [e2]
    exact k h1 (f1.a9 (by decide) hA) (f1.g9 (by decide) (by decide))
  · unfold f_X10_fit
    refine s_findFit hV.1 hB h0 h4 han hn (fun h1 b1 g1 _ => ?_)
    rw [e2]
    exact k h1 b1 g1
theorem pair_kept (h : Mem) (hI : Inv h) : f_X9_kept h (fun r h1 => f_X10_kept h1 (fun r2 h2 => r = r2 ∧ Inv h2)) := by
  obtain ⟨N, hV⟩ := hI
  obtain ⟨a, n, han, hn, h0, h4, hw, hs⟩ := hV.1.1
  have hA := hV.2.1
  obtain ⟨u, hu, e1, e2⟩ := mo_end (N := N) (a := a) (m := n - a) hV.1 (by omega)
  have hp := p2 (m := n) (by omega)
  have hpn : 2 ^ n = 2 ^ (n - a) * 2 ^ a := by rw [← Nat.pow_add]; congr 1; omega
  have ht : u * 2 ^ a < 2 ^ n := by rw [hpn]; exact Nat.mul_lt_mul_of_pos_right hu (Nat.two_pow_pos a)
  refine pr_ok (f9 := f_X9_kept) (f10 := f_X10_kept) (r := Ww N a (u * 2 ^ a) (n - a)) (N' := N) hV hV.1 (fun Q k => ?_) (fun h Q hB _ k => ?_)
  · unfold f_X9_kept
    refine s_bestOut hV.1 hA h0 h4 han hn (fun h1 f1 => ?_)
    rw [e2]
    exact s_words (f1.a9 (by decide) hA) h0 h4 han hn (by omega) (k h1 (f1.a9 (by decide) hA) (f1.g9 (by decide) (by decide)))
  · unfold f_X10_kept
    refine s_findFit hV.1 hB h0 h4 han hn (fun h1 b1 g1 z1 => ?_)
    rw [e2]
    refine ifp (nI_pos' (by omega)) ?_
    rw [z1, e1]
    exact k h1 b1 g1
