/-! ROUND: where the paces come again -/
def cd (N : Row) (i : Nat) : Nat := 100 * (PI i N 6).toNatClampNeg + (PI i N 7).toNatClampNeg
theorem pc_nI {x : Int32} (h : 1 ≤ x.toInt ∧ x.toInt ≤ 99) : ∃ j : Nat, 1 ≤ j ∧ j ≤ 99 ∧ x = nI j := by
  obtain ⟨j, hj, e⟩ := sm (a := x) (m := 99) (by decide) ((fa_le _ _).mpr (by rw [i0]; omega)) ((fa_le _ _).mpr (by show x.toInt ≤ 99; omega))
  refine ⟨j, ?_, hj, e⟩
  rw [e, nI_toInt (by omega)] at h
  omega
def RG (N : Row) : Prop := (1 ≤ (N 6).toInt ∧ (N 6).toInt ≤ 99) ∧ (1 ≤ (N 7).toInt ∧ (N 7).toInt ≤ 99)
theorem cd_at {N : Row} (h : RG N) (i : Nat) : ∃ r k : Nat, r ≤ 99 ∧ k ≤ 99 ∧ PI i N 6 = nI r ∧ PI i N 7 = nI k ∧ cd N i = 100 * r + k := by
  obtain ⟨r, r1, r2, r3⟩ := pc_nI (PI_rng h.1 i)
  obtain ⟨k, k1, k2, k3⟩ := pc_nI (PI_rng7 h.2 i)
  refine ⟨r, k, r2, k2, r3, k3, ?_⟩
  unfold cd
  rw [r3, k3, cl (by omega), cl (by omega)]
theorem cd_lt {N : Row} (h : RG N) (i : Nat) : cd N i < 10000 := by
  obtain ⟨r, k, h1, h2, -, -, e⟩ := cd_at h i
  omega
theorem cd_iff {N : Row} (h : RG N) (i j : Nat) : (PI i N 6 = PI j N 6 ∧ PI i N 7 = PI j N 7) ↔ cd N i = cd N j := by
  obtain ⟨r, k, h1, h2, e1, e2, e⟩ := cd_at h i
  obtain ⟨r', k', h1', h2', e1', e2', e'⟩ := cd_at h j
  rw [e1, e2, e1', e2', e, e', nI_eq (by omega) (by omega), nI_eq (by omega) (by omega)]
  omega
theorem cd_s {N : Row} (h : RG N) {i j : Nat} (e : cd N i = cd N j) : cd N (i + 1) = cd N (j + 1) := by
  rw [← cd_iff h] at e ⊢
  rw [PI, PI, turn6, turn6, turn7, turn7, e.1, e.2]
  simp only [PI_O N (i := 8) (by decide) (by decide), PI_O N (i := 9) (by decide) (by decide), PI_O N (i := 10) (by decide) (by decide), PI_O N (i := 11) (by decide) (by decide), and_self]
theorem cd_add {N : Row} (h : RG N) {i j : Nat} (e : cd N i = cd N j) : ∀ m, cd N (i + m) = cd N (j + m)
  | 0 => e
  | m + 1 => cd_s h (cd_add h e m)
/-- the first that comes again, and where it stood -/
def Rho (N : Row) (μ n : Nat) : Prop := μ < n ∧ n ≤ 10000 ∧ cd N μ = cd N n ∧ ∀ i j, i < j → j < n → cd N i ≠ cd N j
theorem rho_is {N : Row} (h : RG N) : ∃ μ n, Rho N μ n := by
  obtain ⟨i, j, hij, hj, e⟩ := fb_twice (m := 10000) (n := 10001) (f := cd N) (fun i _ => cd_lt h i) (by decide)
  obtain ⟨n, ⟨m, hm, en⟩, hn⟩ := pk_least (fun j => ∃ i, i < j ∧ cd N i = cd N j) ⟨j, i, hij, e⟩
  refine ⟨m, n, hm, ?_, en, fun a b hab hb e2 => hn b hb ⟨a, hab, e2⟩⟩
  rcases Nat.lt_or_ge 10000 n with q | q
  · exact absurd ⟨i, hij, e⟩ (hn j (by omega))
  · exact q
section
variable {N : Row} {μ n : Nat}
theorem rho_per (h : RG N) (hR : Rho N μ n) : ∀ i, μ ≤ i → cd N (i + (n - μ)) = cd N i := by
  intro i hi
  have := cd_add h hR.2.2.1 (i - μ)
  rw [show μ + (i - μ) = i by omega, show n + (i - μ) = i + (n - μ) by have := hR.1; omega] at this
  exact this.symm
theorem rho_mod (h : RG N) (hR : Rho N μ n) : ∀ t, cd N (μ + t) = cd N (μ + t % (n - μ)) := by
  intro t
  induction t using Nat.strongRecOn with
  | ind t ih =>
    have hl : 0 < n - μ := by have := hR.1; omega
    rcases Nat.lt_or_ge t (n - μ) with q | q
    · rw [Nat.mod_eq_of_lt q]
    · have := rho_per h hR (μ + (t - (n - μ))) (by omega)
      rw [show μ + (t - (n - μ)) + (n - μ) = μ + t by omega] at this
      rw [this, ih (t - (n - μ)) (by omega), ← Nat.mod_eq_sub_mod q]
theorem rho_mul (h : RG N) {s m : Nat} (e : cd N (s + m) = cd N s) : ∀ k, cd N (s + k * m) = cd N s
  | 0 => by rw [Nat.zero_mul]; rfl
  | k + 1 => by
    have := cd_add h (rho_mul h e k) m
    rw [show s + k * m + m = s + (k + 1) * m by rw [Nat.succ_mul]; omega] at this
    rw [this, e]
theorem rho_len (h : RG N) (hR : Rho N μ n) {s m : Nat} (hm : 0 < m) (e : cd N (s + m) = cd N s) (hmin : ∀ m', 0 < m' → m' < m → cd N (s + m') ≠ cd N s) : m = n - μ := by
  have hl : 0 < n - μ := by have := hR.1; omega
  have c1 : cd N (s + (n - μ)) = cd N s := by
    have k1 := rho_mul h e μ
    have ge : μ ≤ s + μ * m := by have := Nat.le_mul_of_pos_right μ hm; omega
    have k2 := cd_add h k1 (n - μ)
    rw [← k2, rho_per h hR _ ge, k1]
  have le1 : m ≤ n - μ := by
    rcases Nat.lt_or_ge (n - μ) m with q | q
    · exact absurd c1 (hmin _ hl q)
    · exact q
  rcases Nat.lt_or_ge m (n - μ) with q | q
  · exfalso
    have e2 := cd_add h e μ
    rw [show s + m + μ = μ + (s + m) by omega, show s + μ = μ + s by omega, rho_mod h hR (s + m), rho_mod h hR s] at e2
    have l1 := Nat.mod_lt (s + m) hl
    have l2 := Nat.mod_lt s hl
    have ne : (s + m) % (n - μ) ≠ s % (n - μ) := by
      intro z
      have a1 := Nat.div_add_mod s (n - μ)
      have a2 := Nat.div_add_mod (s + m) (n - μ)
      rw [z] at a2
      rcases Nat.lt_or_ge (s / (n - μ)) ((s + m) / (n - μ)) with w | w
      · have := Nat.mul_le_mul_left (n - μ) (Nat.succ_le_of_lt w)
        rw [Nat.mul_succ] at this
        omega
      · have := Nat.mul_le_mul_left (n - μ) w
        omega
    rcases Nat.lt_or_ge ((s + m) % (n - μ)) (s % (n - μ)) with w | w
    · exact hR.2.2.2 _ _ (Nat.add_lt_add_left w μ) (by omega) e2
    · exact hR.2.2.2 _ _ (Nat.add_lt_add_left (Nat.lt_of_le_of_ne w (Ne.symm ne)) μ) (by omega) e2.symm
  · omega
/-! the reference -/
theorem idx_cd (h : RG N) (i : Nat) : ((100 : Int32) * PI i N 6) + PI i N 7 = nI (cd N i) := by
  obtain ⟨r, k, h1, h2, e1, e2, e⟩ := cd_at h i
  rw [e1, e2, e]
  show nI 100 * nI r + nI k = _
  rw [pk_mul, nI_add]
theorem s_round10 {w : Nat} {h : Mem} {Q : Int32 → Mem → Prop} (hg : RG N) (hR : Rho N μ n) (hw : w < 2) (hB : A10 h 44 N) (k : ∀ h', A10 h' 44 N → Fr2 44 48 h h' → Q (if w = 0 then nI μ else nI (n - μ)) h') : f_X10_round (nI w) h Q := by
  unfold f_X10_round
  refine win10 (nI_pos' (by omega)) (nI_le (b := 1) (by omega) (by decide)) (ifn oz ?_)
  rw [hB 6 (by decide), hB 7 (by decide)]
  refine nm (nm (lo1 nI 10000 (fun i h' => Fr1 48 h h' ∧ ∀ c, c < i → h' 48 c = 0) rfl (by decide) ⟨Fr1.rf, fun c hc => absurd hc (Nat.not_lt_zero c)⟩ ?_ ?_))
  · rintro K h1 ⟨f1, z1⟩
    unfold f_X10_round_b35
    refine ifp (by decide) ?_
    have hb1 : A10 h1 44 N := hB.fr (f1 44 (by decide))
    refine lo1 nI n (fun m h' => A10 h' 44 (PI m N) ∧ Fr2 44 48 h h' ∧ (∀ i, i < m → h' 48 (cd N i) = nI (i + 1)) ∧ ∀ c, c < 10000 → (∀ i, i < m → cd N i ≠ c) → h' 48 c = 0) rfl (by have := hR.2.1; omega) ⟨hb1, fun a _ y => f1 a y, fun i hi => absurd hi (Nat.not_lt_zero i), fun c hc _ => z1 c hc⟩ ?_ ?_
    · rintro K2 h' ⟨b, f, t1, t2⟩
      unfold f_X10_round_b62
      have hlt := cd_lt hg n
      have hn1 := hR.1
      have hn2 := hR.2.1
      rw [b 6 (by decide), b 7 (by decide), idx_cd hg, cl (by omega), ← hR.2.2.1, t1 μ hR.1]
      refine ⟨vi (by rw [hR.2.2.1]; exact hlt) (by decide), ifn (nI_ne0 (by omega) (by omega)) ⟨vi (by rw [hR.2.2.1]; exact hlt) (by decide), ?_⟩⟩
      rw [show nI (μ + 1) - (1 : Int32) = nI μ from nI_pred μ]
      refine nm (nm (nm ?_))
      have k' := k _ (b.st.st.same (fun i _ => (PI_back i).symm)) (fun a x y => by rw [st_k x, st_k x, f a x y])
      have hw' : w = 0 ∨ w = 1 := by omega
      rcases hw' with rfl | rfl
      · exact ifp rfl k'
      · refine ifn (by decide) ?_
        rw [pk_sub (by omega)]
        exact k'
    · rintro K2 m h' hm ⟨b, f, t1, t2⟩ hK
      unfold f_X10_round_b62
      have hlt := cd_lt hg m
      rw [b 6 (by decide), b 7 (by decide), idx_cd hg, cl (by omega), t2 (cd N m) hlt (fun i hi => hR.2.2.2 i m hi hm)]
      refine ⟨vi hlt (by decide), ifp rfl (nm ⟨vi hlt (by decide), nm ?_⟩)⟩
      rw [nI_1]
      refine s_turns10 (N := PI m N) (b.fr (st_k (by decide))) (fun h2 b2 f2 => nm ?_)
      refine hK _ ⟨?_, fun a x y => by rw [st_k x, f2 a x, st_k y, f a x y], fun i hi => ?_, fun c hc hi => ?_⟩
      · have := b2.st (j := 6) (v := n_turn (PI m N) 6)
        rw [turn_again] at this
        exact this
      · rw [st_k (by decide), f2 48 (by decide)]
        by_cases q : i = m
        · subst q; rw [st_s]
        · rw [st_j (hR.2.2.2 i m (by omega) hm)]; exact t1 i (by omega)
      · rw [st_k (by decide), f2 48 (by decide), st_j (fun z => hi m (by omega) z.symm)]
        exact t2 c hc (fun i h1 => hi i (by omega))
  · rintro K i h' hi ⟨f1, z1⟩ hK
    unfold f_X10_round_b35
    refine ifn (nI_ge (b := 10000) hi (by decide)) ⟨vi hi (by decide), nm (nm ?_)⟩
    rw [nI_1, cl (by omega)]
    refine hK _ ⟨f1.st, fun c hc => ?_⟩
    by_cases q : c = i
    · subst q; rw [st_s]
    · rw [st_j q]; exact z1 c (by omega)
/-! the class -/
def Fr3 (q r : Nat) (h h' : Mem) : Prop := ∀ a, a ≠ q → a ≠ r → h' a = h a
theorem s_are2 {i j : Nat} {h : Mem} {Q : Int32 → Mem → Prop} (hg : RG N) (p1 : PcR h 22 (PI i N)) (p2 : PcR h 21 (PI j N)) (k1 : cd N i = cd N j → Q 1 h) (k0 : cd N i ≠ cd N j → Q 0 h) : f_X1_are 22 (h 21 0) (h 21 1) h Q := by
  refine s_are p1 ?_
  rw [p2.1, p2.2.1]
  by_cases c : PI i N 6 = PI j N 6 ∧ PI i N 7 = PI j N 7
  · rw [if_pos c]; exact k1 ((cd_iff hg i j).mp c)
  · rw [if_neg c]; exact k0 (fun z => c ((cd_iff hg i j).mpr z))
theorem PcR.of {h : Mem} {q i : Nat} (h0 : h q 0 = PI i N 6) (h1 : h q 1 = PI i N 7) (h2 : h q 2 = N 8) (h3 : h q 3 = N 9) (h4 : h q 4 = N 10) (h5 : h q 5 = N 11) : PcR h q (PI i N) :=
  ⟨h0, h1, by rw [h2, PI_O N (by decide) (by decide)], by rw [h3, PI_O N (by decide) (by decide)], by rw [h4, PI_O N (by decide) (by decide)], by rw [h5, PI_O N (by decide) (by decide)]⟩
theorem PcR.ws {h : Mem} {q i : Nat} (p : PcR h q (PI i N)) : h q 2 = N 8 ∧ h q 3 = N 9 ∧ h q 4 = N 10 ∧ h q 5 = N 11 := by
  obtain ⟨p0, p1, p2, p3, p4, p5⟩ := p
  rw [PI_O N (by decide) (by decide)] at p2 p3 p4 p5
  exact ⟨p2, p3, p4, p5⟩
theorem s_froms {h : Mem} {Q : Mem → Prop} (hA : A9 h 1 N) (k : ∀ h', Fr3 21 22 h h' → PcR h' 21 N → PcR h' 22 N → Q h') : f_X1_takeFrom 21 5 10 h fun h_1 => f_X1_takeFrom 22 5 10 h_1 Q := by
  refine s_takeFrom (P := N) (by decide) (by decide) (by decide) (fun j hj => hA.2.1 j (by omega)) (fun h1 f1 p1 => ?_)
  refine s_takeFrom (P := N) (by decide) (by decide) (by decide) (fun j hj => by rw [f1 5 (by decide)]; exact hA.2.1 j (by omega)) (fun h2 f2 p2 => ?_)
  exact k h2 (fun a x y => (f2 a y).trans (f1 a x)) (p1.fr (f2 21 (by decide))) p2
theorem s_length9 {h : Mem} {Q : Int32 → Mem → Prop} (hg : RG N) (hR : Rho N μ n) (hA : A9 h 1 N) (k : ∀ h', Fr3 21 22 h h' → Q (nI (n - μ)) h') : f_X2_lengthFrom 5 10 h Q := by
  unfold f_X2_lengthFrom
  refine s_froms hA (fun h2 f2 p1 p2 => ?_)
  refine lo3 nI 30000 (fun i v2 v3 h' => ∃ p len : Nat, v2 = nI len ∧ v3 = nI (2 ^ p) ∧ len < 2 ^ p ∧ i + 1 = 2 ^ p + len ∧ p ≤ 14 ∧ PcR h' 21 (PI (2 ^ p - 1) N) ∧ PcR h' 22 (PI i N) ∧ (∀ m, 0 < m → m ≤ len → cd N (2 ^ p - 1 + m) ≠ cd N (2 ^ p - 1)) ∧ Fr3 21 22 h h') rfl (by decide) ⟨0, 0, rfl, rfl, by decide, rfl, by decide, p1, p2, fun m h1 h2 => by omega, f2⟩ ?_ ?_
  · rintro K v2 v3 h' ⟨p, len, e2, e3, l1, l2, l3, -, -, hm, -⟩
    exfalso
    have hp : 2 ^ p ≤ 2 ^ 14 := Nat.pow_le_pow_right (by decide) l3
    have hp2 : ¬ p < 14 := fun z => by
      have : 2 ^ p ≤ 2 ^ 13 := Nat.pow_le_pow_right (by decide) (by omega)
      omega
    have : p = 14 := by omega
    subst this
    have r1 := hR.1
    have r2 := hR.2.1
    exact hm (n - μ) (by omega) (by omega) (rho_per hg hR _ (by omega))
  · rintro K i v2 v3 h' hi ⟨p, len, rfl, rfl, l1, l2, l3, q1, q2, hm, fr⟩ hK
    unfold f_X2_lengthFrom_b23
    have hp : 2 ^ p ≤ 2 ^ 14 := Nat.pow_le_pow_right (by decide) l3
    have es : 2 ^ p - 1 + (len + 1) = i + 1 := by omega
    refine ifn (nI_ge (b := 100000) (by omega) (by decide)) (s_step (m := 1) (by decide) q2 (fun h4 f4 p4 => nm ?_))
    have p4 : PcR h4 22 (PI (i + 1) N) := p4
    have q4 : PcR h4 21 (PI (2 ^ p - 1) N) := q1.fr (f4 21 (by decide))
    have fr4 : Fr3 21 22 h h4 := fun a x y => (f4 a y).trans (fr a x y)
    rw [nI_1, nI_1]
    refine s_are2 hg p4 q4 (fun c => ?_) (fun c => ?_)
    · refine ifn oz ?_
      have : len + 1 = n - μ := rho_len hg hR (s := 2 ^ p - 1) (by omega) (by rw [es]; exact c) (fun m' m1 m2 => hm m' m1 (by omega))
      rw [this]
      exact k h4 fr4
    · refine ifp rfl ?_
      by_cases e : len + 1 = 2 ^ p
      · refine ifp (by rw [e]) (nm (nm (nm (nm ?_))))
        have hp14 : p < 14 := by
          rcases Nat.lt_or_ge p 14 with z | z
          · exact z
          · have : 2 ^ 14 ≤ 2 ^ p := Nat.pow_le_pow_right (by decide) z
            omega
        have e2 : nI (2 ^ p) * (2 : Int32) = nI (2 ^ (p + 1)) := by
          show nI (2 ^ p) * nI 2 = _
          rw [pk_mul, Nat.pow_succ]
        rw [e2]
        refine hK _ _ _ ⟨p + 1, 0, rfl, rfl, Nat.two_pow_pos _, ?_, by omega, ?_, ?_, fun m h1 h2 => by omega, fun a x y => by rw [st_k x, st_k x, fr4 a x y]⟩
        · rw [Nat.pow_succ]; omega
        · have ei : 2 ^ (p + 1) - 1 = i + 1 := by rw [Nat.pow_succ]; omega
          rw [ei]
          have w := q4.ws
          refine PcR.of ?_ ?_ ?_ ?_ ?_ ?_
          · rw [st_j (by decide), st_s, p4.1]
          · rw [st_s, st_k (by decide), p4.2.1]
          · rw [st_j (by decide), st_j (by decide), w.1]
          · rw [st_j (by decide), st_j (by decide), w.2.1]
          · rw [st_j (by decide), st_j (by decide), w.2.2.1]
          · rw [st_j (by decide), st_j (by decide), w.2.2.2]
        · exact p4.fr (by rw [st_k (by decide), st_k (by decide)])
      · refine ifn (fun z => e ((nI_eq (by omega) (by omega)).mp z)) (nm ?_)
        refine hK _ _ _ ⟨p, len + 1, rfl, rfl, by omega, by omega, l3, q4, p4, fun m h1 h2 => ?_, fr4⟩
        by_cases z : m = len + 1
        · subst z
          rw [es]
          exact c
        · exact hm m h1 (by omega)
theorem PI_add (P : Row) (i : Nat) : ∀ m, PI m (PI i P) = PI (i + m) P
  | 0 => rfl
  | m + 1 => by rw [PI, PI_add P i m]; rfl
theorem s_begin9 {h : Mem} {Q : Int32 → Mem → Prop} (hg : RG N) (hR : Rho N μ n) (hA : A9 h 1 N) (k : ∀ h', Fr3 21 22 h h' → Q (nI μ) h') : f_X2_beginFrom 5 10 (nI (n - μ)) h Q := by
  unfold f_X2_beginFrom
  have r1 := hR.1
  have r2 := hR.2.1
  refine s_froms hA (fun h2 f2 p1 p2 => s_step (by omega) p2 (fun h3 f3 p3 => ?_))
  refine lo1 nI μ (fun b h' => PcR h' 21 (PI b N) ∧ PcR h' 22 (PI (n - μ + b) N) ∧ Fr3 21 22 h h') rfl (by omega) ⟨p1.fr (f3 21 (by decide)), p3, fun a x y => (f3 a y).trans (f2 a x y)⟩ ?_ ?_
  · rintro K h' ⟨q1, q2, fr⟩
    unfold f_X2_beginFrom_b26
    refine ifn (nI_ge (b := 100000) (by omega) (by decide)) (s_are2 hg q2 q1 (fun _ => ifn oz (k h' fr)) (fun c => ?_))
    exact absurd (by have := rho_per hg hR μ (Nat.le_refl _); rw [Nat.add_comm] at this; exact this) c
  · rintro K b h' hb ⟨q1, q2, fr⟩ hK
    unfold f_X2_beginFrom_b26
    refine ifn (nI_ge (b := 100000) (by omega) (by decide)) (s_are2 hg q2 q1 (fun c => ?_) (fun _ => ifp rfl ?_))
    · exact absurd c.symm (hR.2.2.2 b (n - μ + b) (by omega) (by omega))
    · refine s_step (m := 1) (by decide) q1 (fun h4 f4 p4 => s_step (m := 1) (by decide) (q2.fr (f4 22 (by decide))) (fun h5 f5 p5 => nm ?_))
      rw [nI_1]
      exact hK h5 ⟨(show PcR h4 21 (PI (b + 1) N) from p4).fr (f5 21 (by decide)), p5, fun a x y => (f5 a y).trans ((f4 a x).trans (fr a x y))⟩
end
theorem pair_round (a1 : Int32) (h : Mem) (hI : Inv h) : f_X9_round a1 h (fun r h1 => f_X10_round a1 h1 (fun r2 h2 => r = r2 ∧ Inv h2)) := by
  obtain ⟨N, hV⟩ := hI
  have hA := hV.2.1
  by_cases hk : (0 : Int32) ≤ a1 ∧ a1 ≤ 1
  · obtain ⟨w, hw, rfl⟩ := sm (m := 1) (by decide) hk.1 hk.2
    have hg : RG N := ⟨hV.1.2.2.2.1, hV.1.2.2.2.2.1⟩
    obtain ⟨μ, n, hR⟩ := rho_is hg
    refine pr_ok (f9 := f_X9_round _) (f10 := f_X10_round _) (r := if w = 0 then nI μ else nI (n - μ)) (N' := N) hV hV.1 (fun Q k => ?_) (fun h Q hB _ k => ?_)
    · unfold f_X9_round
      refine win9 hk.1 hk.2 (ifn oz (s_length9 hg hR hA (fun h1 f1 => ?_)))
      have b1 : A9 h1 1 N := hA.fr (fun a _ _ => f1 a (by omega) (by omega))
      have hw' : w = 0 ∨ w = 1 := by omega
      rcases hw' with rfl | rfl
      · refine ifn (by decide) (s_begin9 hg hR b1 (fun h2 f2 => k h2 (b1.fr (fun a _ _ => f2 a (by omega) (by omega))) (fun a q => (f2 a (by omega) (by omega)).trans (f1 a (by omega) (by omega)))))
      · exact ifp rfl (k h1 b1 (fun a q => f1 a (by omega) (by omega)))
    · exact s_round10 hg hR (by omega) hB (fun h1 b1 f1 => k h1 b1 ⟨fun a q => f1 a (by omega) (by omega), by rw [f1 43 (by decide) (by decide)], by rw [f1 43 (by decide) (by decide)]⟩)
  · refine pr_no (f9 := f_X9_round _) (f10 := f_X10_round _) (w := id) 0 (by decide) hV (fun Q k => ?_) (fun h Q hB _ k => ?_)
    · unfold f_X9_round
      exact wout9 hk (ifp rfl (k h hA G9.rf))
    · unfold f_X10_round
      exact wout10 hk (ifp rfl (k h hB G10.rf))
