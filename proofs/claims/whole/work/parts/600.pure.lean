/-! THE PURE SIDE: loops by a measure, loops by a counter -/
abbrev Row : Type := Nat → Int32
theorem it0_mu {B : (Mem → Prop) → Mem → Prop} (I : Mem → Prop) (μ : Mem → Nat) (hs : ∀ K h, I h → (∀ h', I h' → μ h' < μ h → K h') → B K h) : ∀ n h, I h → μ h < n → gm_it0 B n h
  | 0, _, _, q => absurd q (Nat.not_lt_zero _)
  | n + 1, h, hI, q => hs (gm_it0 B n) h hI (fun h' hI' hl => it0_mu I μ hs n h' hI' (by omega))
theorem it1_mu {T0 : Type} {B : (T0 → Mem → Prop) → T0 → Mem → Prop} (I : T0 → Mem → Prop) (μ : T0 → Mem → Nat) (hs : ∀ K a h, I a h → (∀ a' h', I a' h' → μ a' h' < μ a h → K a' h') → B K a h) : ∀ n a h, I a h → μ a h < n → gm_it1 B n a h
  | 0, _, _, _, q => absurd q (Nat.not_lt_zero _)
  | n + 1, a, h, hI, q => hs (gm_it1 B n) a h hI (fun a' h' hI' hl => it1_mu I μ hs n a' h' hI' (by omega))
theorem it2_mu {T0 T1 : Type} {B : (T0 → T1 → Mem → Prop) → T0 → T1 → Mem → Prop} (I : T0 → T1 → Mem → Prop) (μ : T0 → T1 → Mem → Nat) (hs : ∀ K a b h, I a b h → (∀ a' b' h', I a' b' h' → μ a' b' h' < μ a b h → K a' b' h') → B K a b h) : ∀ n a b h, I a b h → μ a b h < n → gm_it2 B n a b h
  | 0, _, _, _, _, q => absurd q (Nat.not_lt_zero _)
  | n + 1, a, b, h, hI, q => hs (gm_it2 B n) a b h hI (fun a' b' h' hI' hl => it2_mu I μ hs n a' b' h' hI' (by omega))
theorem it3_mu {T0 T1 T2 : Type} {B : (T0 → T1 → T2 → Mem → Prop) → T0 → T1 → T2 → Mem → Prop} (I : T0 → T1 → T2 → Mem → Prop) (μ : T0 → T1 → T2 → Mem → Nat) (hs : ∀ K a b c h, I a b c h → (∀ a' b' c' h', I a' b' c' h' → μ a' b' c' h' < μ a b c h → K a' b' c' h') → B K a b c h) : ∀ n a b c h, I a b c h → μ a b c h < n → gm_it3 B n a b c h
  | 0, _, _, _, _, _, q => absurd q (Nat.not_lt_zero _)
  | n + 1, a, b, c, h, hI, q => hs (gm_it3 B n) a b c h hI (fun a' b' c' h' hI' hl => it3_mu I μ hs n a' b' c' h' hI' (by omega))
theorem it1_c {B : (Int32 → Mem → Prop) → Int32 → Mem → Prop} (cnt : Nat → Int32) (e : Nat) (I : Nat → Mem → Prop) (hx : ∀ K h, I e h → B K (cnt e) h) (hs : ∀ K i h, i < e → I i h → (∀ h', I (i + 1) h' → K (cnt (i + 1)) h') → B K (cnt i) h) : ∀ n i h, i ≤ e → e < n + i → I i h → gm_it1 B n (cnt i) h
  | 0, i, h, a, b, _ => absurd b (by omega)
  | n + 1, i, h, a, b, c => by
    rcases Nat.lt_or_ge i e with q | q
    · exact hs (gm_it1 B n) i h q c (fun h' c' => it1_c cnt e I hx hs n (i + 1) h' q (by omega) c')
    · have : i = e := by omega
      subst this
      exact hx _ h c
theorem it2_c {T0 : Type} {B : (T0 → Int32 → Mem → Prop) → T0 → Int32 → Mem → Prop} (cnt : Nat → Int32) (e : Nat) (I : Nat → T0 → Mem → Prop) (hx : ∀ K a h, I e a h → B K a (cnt e) h) (hs : ∀ K i a h, i < e → I i a h → (∀ a' h', I (i + 1) a' h' → K a' (cnt (i + 1)) h') → B K a (cnt i) h) : ∀ n i a h, i ≤ e → e < n + i → I i a h → gm_it2 B n a (cnt i) h
  | 0, i, a, h, _, b, _ => absurd b (by omega)
  | n + 1, i, a, h, _, b, c => by
    rcases Nat.lt_or_ge i e with q | q
    · exact hs (gm_it2 B n) i a h q c (fun a' h' c' => it2_c cnt e I hx hs n (i + 1) a' h' q (by omega) c')
    · have : i = e := by omega
      subst this
      exact hx _ a h c
theorem it3_c {T0 T1 : Type} {B : (T0 → T1 → Int32 → Mem → Prop) → T0 → T1 → Int32 → Mem → Prop} (cnt : Nat → Int32) (e : Nat) (I : Nat → T0 → T1 → Mem → Prop) (hx : ∀ K a b h, I e a b h → B K a b (cnt e) h) (hs : ∀ K i a b h, i < e → I i a b h → (∀ a' b' h', I (i + 1) a' b' h' → K a' b' (cnt (i + 1)) h') → B K a b (cnt i) h) : ∀ n i a b h, i ≤ e → e < n + i → I i a b h → gm_it3 B n a b (cnt i) h
  | 0, i, a, b, h, _, q, _ => absurd q (by omega)
  | n + 1, i, a, b, h, _, w, c => by
    rcases Nat.lt_or_ge i e with q | q
    · exact hs (gm_it3 B n) i a b h q c (fun a' b' h' c' => it3_c cnt e I hx hs n (i + 1) a' b' h' q (by omega) c')
    · have : i = e := by omega
      subst this
      exact hx _ a b h c
theorem lo1 {B : (Int32 → Mem → Prop) → Int32 → Mem → Prop} {c0 : Int32} {h : Mem} (cnt : Nat → Int32) (e : Nat) (I : Nat → Mem → Prop) (h0 : cnt 0 = c0) (he : e < 1000000) (hI : I 0 h) (hx : ∀ K h, I e h → B K (cnt e) h) (hs : ∀ K i h, i < e → I i h → (∀ h', I (i + 1) h' → K (cnt (i + 1)) h') → B K (cnt i) h) : gm_it1 B gm_F c0 h :=
  h0 ▸ it1_c cnt e I hx hs gm_F 0 h (Nat.zero_le _) he hI
theorem lo2 {T0 : Type} {B : (T0 → Int32 → Mem → Prop) → T0 → Int32 → Mem → Prop} {a : T0} {c0 : Int32} {h : Mem} (cnt : Nat → Int32) (e : Nat) (I : Nat → T0 → Mem → Prop) (h0 : cnt 0 = c0) (he : e < 1000000) (hI : I 0 a h) (hx : ∀ K a h, I e a h → B K a (cnt e) h) (hs : ∀ K i a h, i < e → I i a h → (∀ a' h', I (i + 1) a' h' → K a' (cnt (i + 1)) h') → B K a (cnt i) h) : gm_it2 B gm_F a c0 h :=
  h0 ▸ it2_c cnt e I hx hs gm_F 0 a h (Nat.zero_le _) he hI
theorem lo3 {T0 T1 : Type} {B : (T0 → T1 → Int32 → Mem → Prop) → T0 → T1 → Int32 → Mem → Prop} {a : T0} {b : T1} {c0 : Int32} {h : Mem} (cnt : Nat → Int32) (e : Nat) (I : Nat → T0 → T1 → Mem → Prop) (h0 : cnt 0 = c0) (he : e < 1000000) (hI : I 0 a b h) (hx : ∀ K a b h, I e a b h → B K a b (cnt e) h) (hs : ∀ K i a b h, i < e → I i a b h → (∀ a' b' h', I (i + 1) a' b' h' → K a' b' (cnt (i + 1)) h') → B K a b (cnt i) h) : gm_it3 B gm_F a b c0 h :=
  h0 ▸ it3_c cnt e I hx hs gm_F 0 a b h (Nat.zero_le _) he hI
/-! memory -/
theorem st_s {h : Mem} {k j : Nat} {v : Int32} : gm_st h k j v k j = v := by unfold gm_st upd; rw [if_pos rfl, if_pos rfl]
theorem st_k {h : Mem} {k j a : Nat} {v : Int32} (q : a ≠ k) : gm_st h k j v a = h a := if_neg q
theorem st_j {h : Mem} {k j a i : Nat} {v : Int32} (q : i ≠ j) : gm_st h k j v a i = h a i := by
  unfold gm_st upd
  by_cases e : a = k
  · rw [if_pos e, if_neg q]
  · rw [if_neg e]
theorem st_at {h : Mem} {k j a i : Nat} {v : Int32} : gm_st h k j v a i = if a = k ∧ i = j then v else h a i := by
  unfold gm_st upd
  by_cases e : a = k
  · by_cases e2 : i = j
    · rw [if_pos e, if_pos e2, if_pos ⟨e, e2⟩]
    · rw [if_pos e, if_neg e2, if_neg (fun q => e2 q.2)]
  · rw [if_neg e, if_neg (fun q => e q.1)]
theorem st_row {h : Mem} {k j : Nat} {v : Int32} : gm_st h k j v k = upd (h k) j v := if_pos rfl
theorem up_s {f : Row} {j : Nat} {v : Int32} : upd f j v j = v := if_pos rfl
theorem up_n {f : Row} {j i : Nat} {v : Int32} (q : i ≠ j) : upd f j v i = f i := if_neg q
theorem up_at {f : Row} {j i : Nat} {v : Int32} : upd f j v i = if i = j then v else f i := rfl
/-- nothing but key q has changed -/
def Fr1 (q : Nat) (h h' : Mem) : Prop := ∀ a, a ≠ q → h' a = h a
theorem Fr1.rf {q : Nat} {h : Mem} : Fr1 q h h := fun _ _ => rfl
theorem Fr1.tr {q : Nat} {h h1 h2 : Mem} (x : Fr1 q h h1) (y : Fr1 q h1 h2) : Fr1 q h h2 := fun a e => (y a e).trans (x a e)
theorem Fr1.st {q j : Nat} {v : Int32} {h h1 : Mem} (x : Fr1 q h h1) : Fr1 q h (gm_st h1 q j v) := fun a e => (st_k e).trans (x a e)
/-! small numbers -/
theorem ifp {c A B : Prop} {d : Decidable c} (h : c) (a : A) : @ite Prop c d A B := by rw [if_pos h]; exact a
theorem ifn {c A B : Prop} {d : Decidable c} (h : ¬ c) (b : B) : @ite Prop c d A B := by rw [if_neg h]; exact b
theorem oz : ¬ (1 : Int32) = 0 := by decide
theorem vi {k n : Nat} (h : k < n) (hn : n < 2147483648) : vp_in (nI k) n := vp_in_nI h hn
theorem cl {k : Nat} (h : k < 2147483648) : (nI k).toNatClampNeg = k := nI_clamp h
theorem lit {k : Nat} : (OfNat.ofNat k : Int32) = nI k := rfl
/-! paces -/
def p_held (x : Int32) : Int32 := if (1 : Int32) < (if x < (99 : Int32) then x else (99 : Int32)) then (if x < (99 : Int32) then x else (99 : Int32)) else (1 : Int32)
def p_next (r k w d : Int32) : Int32 := p_held ((r + ((w * (k - r)) / (10 : Int32))) + d)
def n_turn (N : Row) : Row := upd (upd N 6 (p_next (N 6) (N 7) (N 8) (N 10))) 7 (p_next (N 7) (N 6) (N 9) (N 11))
def PI : Nat → Row → Row
  | 0, P => P
  | m + 1, P => n_turn (PI m P)
def PcR (h : Mem) (q : Nat) (P : Row) : Prop := h q 0 = P 6 ∧ h q 1 = P 7 ∧ h q 2 = P 8 ∧ h q 3 = P 9 ∧ h q 4 = P 10 ∧ h q 5 = P 11
theorem PcR.fr {h h' : Mem} {q : Nat} {P : Row} (x : PcR h q P) (e : h' q = h q) : PcR h' q P := by unfold PcR at *; rw [e]; exact x
theorem held_rng (x : Int32) : 1 ≤ (p_held x).toInt ∧ (p_held x).toInt ≤ 99 := by
  unfold p_held
  have e1 : (1 : Int32).toInt = 1 := rfl
  have e2 : (99 : Int32).toInt = 99 := rfl
  by_cases h : x < 99
  · rw [if_pos h]
    rw [fa_lt, e2] at h
    by_cases g : (1 : Int32) < x
    · rw [if_pos g]
      rw [fa_lt, e1] at g
      omega
    · rw [if_neg g, e1]
      omega
  · rw [if_neg h, if_pos (by decide), e2]
    omega
theorem s_held9 {x : Int32} {h : Mem} {Q : Int32 → Mem → Prop} (k : Q (p_held x) h) : f_X1_held x h Q := by
  unfold f_X1_held
  intro v1 e1 v2 e2
  subst e1
  subst e2
  exact k
theorem s_held10 {x : Int32} {h : Mem} {Q : Int32 → Mem → Prop} (k : Q (p_held x) h) : f_X10_held x h Q := by
  unfold f_X10_held
  intro v1 e1 v2 e2
  subst e1
  subst e2
  exact k
theorem s_takeFrom {q b n : Nat} {h : Mem} {Q : Mem → Prop} {P : Row} (hn : 6 ≤ n) (hn2 : n < 2147483648) (hqb : b ≠ q) (hb : ∀ j, j < 6 → h b j = P (6 + j)) (k : ∀ h', Fr1 q h h' → PcR h' q P → Q h') : f_X1_takeFrom q b n h Q := by
  unfold f_X1_takeFrom
  refine ⟨vi (k := 0) (by omega) hn2, fun h1 e1 => ⟨vi (k := 1) (by omega) hn2, fun h2 e2 => ⟨vi (k := 2) (by omega) hn2, fun h3 e3 => ⟨vi (k := 3) (by omega) hn2, fun h4 e4 => ⟨vi (k := 4) (by omega) hn2, fun h5 e5 => ⟨vi (k := 5) (by omega) hn2, fun h6 e6 => ?_⟩⟩⟩⟩⟩⟩
  have c0 : (0 : Int32).toNatClampNeg = 0 := rfl
  have c1 : (1 : Int32).toNatClampNeg = 1 := rfl
  have c2 : (2 : Int32).toNatClampNeg = 2 := rfl
  have c3 : (3 : Int32).toNatClampNeg = 3 := rfl
  have c4 : (4 : Int32).toNatClampNeg = 4 := rfl
  have c5 : (5 : Int32).toNatClampNeg = 5 := rfl
  rw [c0, hb 0 (by decide)] at e1
  rw [c1, e1, st_k hqb, hb 1 (by decide)] at e2
  rw [c2, e2, st_k hqb, st_k hqb, hb 2 (by decide)] at e3
  rw [c3, e3, st_k hqb, st_k hqb, st_k hqb, hb 3 (by decide)] at e4
  rw [c4, e4, st_k hqb, st_k hqb, st_k hqb, st_k hqb, hb 4 (by decide)] at e5
  rw [c5, e5, st_k hqb, st_k hqb, st_k hqb, st_k hqb, st_k hqb, hb 5 (by decide)] at e6
  subst e6
  refine k _ (Fr1.st (Fr1.st (Fr1.st (Fr1.st (Fr1.st (Fr1.st Fr1.rf)))))) ?_
  refine ⟨?_, ?_, ?_, ?_, ?_, ?_⟩ <;> simp [st_at]
theorem s_step {q m : Nat} {h : Mem} {Q : Mem → Prop} {P : Row} (hm : m < 1000000) (hP : PcR h q P) (k : ∀ h', Fr1 q h h' → PcR h' q (PI m P) → Q h') : f_X1_step q (nI m) h Q := by
  unfold f_X1_step
  refine lo1 nI m (fun i h' => Fr1 q h h' ∧ PcR h' q (PI i P)) rfl hm ⟨Fr1.rf, hP⟩ ?_ ?_
  · intro K h' hI
    unfold f_X1_step_b2
    rw [if_pos (nI_le (Nat.le_refl _) (by omega))]
    exact k _ hI.1 hI.2
  · intro K i h' hi hI hK
    unfold f_X1_step_b2
    rw [if_neg (nI_ge hi (by omega))]
    refine s_held9 (s_held9 ?_)
    intro h6 e6 h7 e7 v e
    subst e6
    subst e7
    subst e
    rw [nI_1]
    obtain ⟨hF, p0, p1, p2, p3, p4, p5⟩ := hI
    refine hK _ ⟨Fr1.st (Fr1.st hF), ?_⟩
    rw [p0, p1, p2, p3, p4, p5]
    refine ⟨?_, ?_, ?_, ?_, ?_, ?_⟩ <;> simp [st_at, PI, n_turn, up_at, p_next, p2, p3, p4, p5]
