/-! BITS of small sets -/
theorem sh31 : ∀ i, i < 13 → ((nI i &&& 31).toBitVec.smod 32).toNat = i := by decide
theorem shl_nI {s a : Nat} (ha : a < 13) (hs : s * 2 ^ a < 4294967296) : nI s <<< (nI a &&& 31) = nI (s * 2 ^ a) := pk_shlN _ a (sh31 a ha) hs
theorem one_shl {a : Nat} (ha : a < 13) : (1 : Int32) <<< (nI a &&& 31) = nI (2 ^ a) := by
  have : 2 ^ a ≤ 2 ^ 12 := Nat.pow_le_pow_right (by decide) (by omega)
  have := shl_nI (s := 1) ha (by omega)
  rw [Nat.one_mul] at this
  exact this
theorem bit_nI {s i : Nat} (hs : s < 2147483648) (hi : i < 13) : (nI s >>> (nI i &&& 31)) &&& (1 : Int32) = nI (s / 2 ^ i % 2) := by
  rw [pk_shrN hs _ i (sh31 i hi)]
  have : s / 2 ^ i ≤ s := Nat.div_le_self _ _
  exact pk_andN (n := s / 2 ^ i) (by omega) 1 (by decide)
theorem bit_1 {s i : Nat} (hs : s < 2147483648) (hi : i < 13) : (nI s >>> (nI i &&& 31)) &&& (1 : Int32) = 1 ↔ s / 2 ^ i % 2 = 1 := by
  rw [bit_nI hs hi]
  exact nI_eq (b := 1) (by omega) (by decide)
theorem bit_0 {s i : Nat} (hs : s < 2147483648) (hi : i < 13) : (nI s >>> (nI i &&& 31)) &&& (1 : Int32) = 0 ↔ s / 2 ^ i % 2 = 0 := by
  rw [bit_nI hs hi]
  exact nI_eq (b := 0) (by omega) (by decide)
/-- how many of the first k bits are set -/
def pcn : Nat → Nat → Nat
  | 0, _ => 0
  | k + 1, s => s % 2 + pcn k (s / 2)
theorem pcn_add (b : Nat) : ∀ a t, pcn (a + b) t = pcn a t + pcn b (t / 2 ^ a)
  | 0, t => by rw [Nat.zero_add, pcn, Nat.pow_zero, Nat.div_one, Nat.zero_add]
  | a + 1, t => by
    rw [show a + 1 + b = (a + b) + 1 by omega, pcn, pcn, pcn_add b a (t / 2), Nat.div_div_eq_div_mul, Nat.pow_succ, Nat.mul_comm 2 (2 ^ a)]
    omega
theorem pcn_0 : ∀ k, pcn k 0 = 0
  | 0 => rfl
  | k + 1 => by rw [pcn, Nat.zero_div, pcn_0 k]
theorem pcn_mul : ∀ a s, pcn a (s * 2 ^ a) = 0
  | 0, _ => rfl
  | a + 1, s => by
    rw [pcn, Nat.pow_succ, ← Nat.mul_assoc, Nat.mul_mod_left, Nat.mul_div_cancel _ (by decide), pcn_mul a s]
theorem pcn_pos : ∀ a t, t % 2 ^ a ≠ 0 → 0 < pcn a t
  | 0, t, h => absurd (Nat.mod_one t) h
  | a + 1, t, h => by
    rw [pcn]
    rcases Nat.eq_zero_or_pos (t % 2) with q | q
    · have : (t / 2) % 2 ^ a ≠ 0 := by
        intro z
        apply h
        have e1 := Nat.div_add_mod (t / 2) (2 ^ a)
        rw [z] at e1
        have e2 : t = 2 ^ (a + 1) * (t / 2 / 2 ^ a) := by rw [Nat.pow_succ, Nat.mul_comm (2 ^ a) 2, Nat.mul_assoc]; omega
        rw [e2, Nat.mul_mod_right]
      have := pcn_pos a (t / 2) this
      omega
    · omega
theorem pcn_le : ∀ k s, pcn k s ≤ k
  | 0, _ => Nat.le_refl _
  | k + 1, s => by
    have := pcn_le k (s / 2)
    rw [pcn]
    omega
def pc (s : Nat) : Nat := pcn 12 s
theorem pc_sh {a s : Nat} (ha : a ≤ 12) (hs : s * 2 ^ a < 4096) : pc (s * 2 ^ a) = pc s := by
  have h1 := pcn_add (12 - a) a (s * 2 ^ a)
  rw [show a + (12 - a) = 12 by omega, pcn_mul, Nat.zero_add, Nat.mul_div_cancel _ (Nat.two_pow_pos a)] at h1
  have hlt : s < 2 ^ (12 - a) := by
    have : 2 ^ (12 - a) * 2 ^ a = 4096 := by rw [← Nat.pow_add, show 12 - a + a = 12 by omega]
    rcases Nat.lt_or_ge s (2 ^ (12 - a)) with q | q
    · exact q
    · have := Nat.mul_le_mul_right (2 ^ a) q
      omega
  have h2 := pcn_add a (12 - a) s
  rw [show 12 - a + a = 12 by omega, Nat.div_eq_of_lt hlt, pcn_0] at h2
  unfold pc
  omega
theorem pc_low {a t : Nat} (ha : a ≤ 12) (ht : t < 4096) (h : t / 2 ^ a * 2 ^ a ≠ t) : pc (t / 2 ^ a * 2 ^ a) < pc t := by
  have e := Nat.div_add_mod t (2 ^ a)
  have hr : t % 2 ^ a ≠ 0 := fun z => h (by rw [z, Nat.mul_comm] at e; exact e)
  have h0 := pcn_pos a t hr
  have hle : t / 2 ^ a * 2 ^ a ≤ t := Nat.div_mul_le_self t (2 ^ a)
  have h1 := pcn_add (12 - a) a t
  have h2 := pcn_add (12 - a) a (t / 2 ^ a * 2 ^ a)
  rw [pcn_mul, Nat.zero_add, Nat.mul_div_cancel _ (Nat.two_pow_pos a)] at h2
  rw [show a + (12 - a) = 12 by omega] at h1 h2
  unfold pc
  omega
theorem pc_le {m s : Nat} (hm : m ≤ 12) (hs : s < 2 ^ m) : pc s ≤ m := by
  have h2 := pcn_add (12 - m) m s
  rw [show m + (12 - m) = 12 by omega, Nat.div_eq_of_lt hs, pcn_0] at h2
  have := pcn_le m s
  unfold pc
  omega
/-! counted by the class, by the reference -/
def bcJ (a0 : Int32) : Int32 :=
  let v1 := a0 - (((a0.toUInt32 >>> ((1 : Int32).toUInt32 &&& Int32.toUInt32 31)).toInt32) &&& (1431655765 : Int32))
  let v2 := (v1 &&& (858993459 : Int32)) + (((v1.toUInt32 >>> ((2 : Int32).toUInt32 &&& Int32.toUInt32 31)).toInt32) &&& (858993459 : Int32))
  let v3 := (v2 + ((v2.toUInt32 >>> ((4 : Int32).toUInt32 &&& Int32.toUInt32 31)).toInt32)) &&& (252645135 : Int32)
  let v4 := v3 + ((v3.toUInt32 >>> ((8 : Int32).toUInt32 &&& Int32.toUInt32 31)).toInt32)
  let v5 := v4 + ((v4.toUInt32 >>> ((16 : Int32).toUInt32 &&& Int32.toUInt32 31)).toInt32)
  v5 &&& (63 : Int32)
set_option maxRecDepth 20000 in
theorem bcJ_pc : ∀ s, s < 4096 → bcJ (nI s) = nI (pc s) := by decide +kernel
theorem s_bitCount {s : Nat} {h : Mem} {Q : Int32 → Mem → Prop} (hs : s < 4096) (k : Q (nI (pc s)) h) : f_J6_bitCount_0f7a4 (nI s) h Q := by
  unfold f_J6_bitCount_0f7a4
  intro v1 e1 v2 e2 v3 e3 v4 e4 v5 e5
  have : v5 &&& (63 : Int32) = bcJ (nI s) := by subst e1; subst e2; subst e3; subst e4; subst e5; rfl
  rw [this, bcJ_pc s hs]
  exact k
set_option maxRecDepth 20000 in
theorem kern : ∀ s, s < 4096 → 0 < s → pc s = pc (s &&& (s - 1)) + 1 ∧ s &&& (s - 1) < s := by decide +kernel
theorem s_bits {x : Int32} {h : Mem} {Q : Int32 → Mem → Prop} : ∀ (s c m : Nat), s < 4096 → s < m → Q (nI (c + pc s)) h → gm_it2 (f_X10_bits_b4 x Q) m (nI c) (nI s) h := by
  intro s
  induction s using Nat.strongRecOn with
  | ind s ih =>
    intro c m hs hm k
    obtain ⟨m, rfl⟩ : ∃ m', m = m' + 1 := ⟨m - 1, by omega⟩
    show f_X10_bits_b4 x Q (gm_it2 (f_X10_bits_b4 x Q) m) (nI c) (nI s) h
    unfold f_X10_bits_b4
    by_cases e : s = 0
    · subst e
      exact ifp rfl k
    · obtain ⟨k1, k2⟩ := kern s hs (by omega)
      refine ifn (nI_ne0 (by omega) (by omega)) (nm (nm ?_))
      have e1 : nI s - (1 : Int32) = nI (s - 1) := pk_sub (b := 1) (by omega)
      rw [nI_1, e1, fa_and]
      refine ih _ k2 (c + 1) m (by omega) (by omega) ?_
      rw [k1] at k
      rw [show c + 1 + pc (s &&& (s - 1)) = c + (pc (s &&& (s - 1)) + 1) by omega]
      exact k
theorem s_bits10 {s : Nat} {h : Mem} {Q : Int32 → Mem → Prop} (hs : s < 4096) (k : Q (nI (pc s)) h) : f_X10_bits (nI s) h Q := by
  unfold f_X10_bits
  refine s_bits (x := nI s) s 0 gm_F hs (Nat.lt_of_lt_of_le hs (gm_F_ge (by decide))) ?_
  rw [Nat.zero_add]
  exact k
theorem s_has {s i : Nat} {h : Mem} {Q : Int32 → Mem → Prop} (hs : s < 4096) (hi : i < 13) (k : Q (if s / 2 ^ i % 2 = 1 then 1 else 0) h) : f_X10_has (nI s) (nI i) h Q := by
  unfold f_X10_has
  by_cases c : s / 2 ^ i % 2 = 1
  · rw [if_pos c] at k
    exact ifp ((bit_1 (by omega) hi).mpr c) k
  · rw [if_neg c] at k
    exact ifn (fun z => c ((bit_1 (by omega) hi).mp z)) k
