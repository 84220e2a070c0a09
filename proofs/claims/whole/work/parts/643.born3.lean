/-! BIRTH: the reference's object made, the start -/
def fkb1 (k j : Nat) : Bool := ((decide (k = 0) && decide (j < 11)) || ((decide (k = 1) && decide (j < 5)) || ((decide (k = 7) && decide (j < 5)) || (decide (k = 13) && decide (j < 5)))))
def fkb2 (i j : Nat) : Bool := ((decide (i = 0) && decide (j < 2)) || ((decide (i = 3) && decide (j < 2)) || ((decide (i = 6) && decide (j < 3)) || ((decide (i = 10) && decide (j = 0)) || ((decide (i = 15) && decide (j = 0)) || ((decide (i = 17) && decide (j = 0)) || ((decide (i = 19) && decide (j = 0)) || (decide (i = 21) && decide (j = 0)))))))))
theorem fkU1 : ∀ k, k < 20 → ∀ j, j < 28 → gm_fk (gm_cls k) j = 1 → fkb1 k j = true := by decide +kernel
theorem fkU2 : ∀ i, i < 23 → ∀ j, j < 28 → gm_fk (gm_cls (20 + i)) j = 1 → fkb2 i j = true := by decide +kernel
theorem fkT1 (k : Nat) (hk : k < 20) (j : Nat) (hj : j < 28) (h : gm_fk (gm_cls k) j = 1) : (k = 0 ∧ j < 11) ∨ (k = 1 ∧ j < 5) ∨ (k = 7 ∧ j < 5) ∨ (k = 13 ∧ j < 5) := by
  have := fkU1 k hk j hj h
  unfold fkb1 at this
  simpa only [Bool.or_eq_true, Bool.and_eq_true, decide_eq_true_eq] using this
theorem fkT2 (i : Nat) (hi : i < 23) (j : Nat) (hj : j < 28) (h : gm_fk (gm_cls (20 + i)) j = 1) : (i = 0 ∧ j < 2) ∨ (i = 3 ∧ j < 2) ∨ (i = 6 ∧ j < 3) ∨ (i = 10 ∧ j = 0) ∨ (i = 15 ∧ j = 0) ∨ (i = 17 ∧ j = 0) ∨ (i = 19 ∧ j = 0) ∨ (i = 21 ∧ j = 0) := by
  have := fkU2 i hi j hj h
  unfold fkb2 at this
  simpa only [Bool.or_eq_true, Bool.and_eq_true, decide_eq_true_eq] using this
theorem fkT3 : ∀ j, j < 28 → gm_fk (gm_cls 43) j = 1 → (j = 0 ∨ j = 1 ∨ j = 2 ∨ j = 4 ∨ j = 5 ∨ j = 10 ∨ j = 13 ∨ j = 20 ∨ j = 21 ∨ j = 24 ∨ j = 25 ∨ j = 26 ∨ j = 27) := by decide +kernel
theorem fkT4 : ∀ i, i < 13 → ∀ j, j < 28 → ¬ gm_fk (gm_cls (44 + i)) j = 1 := by decide +kernel
theorem fkL : ∀ k, k < 57 → (gm_fkL.getD (gm_cls k) []).length ≤ 28 := by decide +kernel
theorem fkB {k j : Nat} (hk : k < 57) (h : gm_fk (gm_cls k) j = 1) : j < 28 := by
  by_cases q : j < 28
  · exact q
  · exfalso
    have := fkL k hk
    unfold gm_fk at h
    rw [List.getD_eq_getElem?_getD, List.getElem?_eq_none (by omega)] at h
    cases h
set_option maxRecDepth 20000 in
theorem b_X10 {h : Mem} {Q : Mem → Prop} (k : ∀ h', (∀ a, a < 43 → h' a = h a) → h' 43 3 = 0 → h' 43 14 = 0 → (∀ j, j = 0 ∨ j = 1 ∨ j = 2 ∨ j = 4 ∨ j = 5 ∨ j = 10 ∨ j = 13 ∨ j = 20 ∨ j = 21 ∨ j = 24 ∨ j = 25 ∨ j = 26 ∨ j = 27 → h' 43 j = 1) → A10 h' 44 N0 → (∀ i, h' 47 i = 0) → (∀ i, h' 50 i = 0) → (∀ i, i < 7 → h' 51 i = 1) → (∀ i, h' 53 i = 0) → (∀ i, h' 54 i = 0) → (∀ i, h' 55 i = 0) → Q h') : f_X10_init (gm_new h 43) Q := by
  unfold f_X10_init
  repeat first | refine nm ?_ | refine And.intro (show ¬ (1 : Int32) = 0 from oz) ?_
  refine k _ (fun a q => ?_) rfl rfl (fun j q => ?_) (fun i hi => ?_) (fun i => rfl) (fun i => rfl) (fun i hi => ?_) (fun i => rfl) (fun i => rfl) (fun i => rfl)
  · repeat first | rw [st_k (by omega)] | rw [nw_k (by omega)]
  · rcases q with rfl | rfl | rfl | rfl | rfl | rfl | rfl | rfl | rfl | rfl | rfl | rfl | rfl <;> rfl
  · by_cases q : 26 ≤ i
    · rw [N0z q]
      repeat first | rw [st_j (by omega)] | rw [st_k (by decide)] | rw [nw_k (by decide)]
      rfl
    · match i, q with
      | 0, _ => rfl
      | 1, _ => rfl
      | 2, _ => rfl
      | 3, _ => rfl
      | 4, _ => rfl
      | 5, _ => rfl
      | 6, _ => rfl
      | 7, _ => rfl
      | 8, _ => rfl
      | 9, _ => rfl
      | 10, _ => rfl
      | 11, _ => rfl
      | 12, _ => rfl
      | 13, _ => rfl
      | 14, _ => rfl
      | 15, _ => rfl
      | 16, _ => rfl
      | 17, _ => rfl
      | 18, _ => rfl
      | 19, _ => rfl
      | 20, _ => rfl
      | 21, _ => rfl
      | 22, _ => rfl
      | 23, _ => rfl
      | 24, _ => rfl
      | 25, _ => rfl
      | i + 26, q => exact absurd (Nat.le_add_left 26 i) q
  · match i, hi with
    | 0, _ => rfl
    | 1, _ => rfl
    | 2, _ => rfl
    | 3, _ => rfl
    | 4, _ => rfl
    | 5, _ => rfl
    | 6, _ => rfl
theorem n1z {x : Int32} (e : x = 1) : ¬ x = 0 := by rw [e]; exact oz
theorem lw_born : lw_bornH Inv := by
  unfold lw_bornH
  refine b_X9 (fun h1 a1 bf bz => b_X10 (fun h f e3 e14 g43 a10 z47 z50 g51 z53 z54 z55 => ?_))
  obtain ⟨p0, p1, p7, p13, p20, p23, p26, p30, p35, p33⟩ := bf
  obtain ⟨y0, y30, y31, y34, y35⟩ := bz
  refine ⟨⟨fun k hk j hj => ?_, fun i hi => n1z (by rw [f 33 (by decide)]; exact p33 i hi), fun i hi => n1z (g51 i hi)⟩, N0, N0_Dom, a1.fr (fun a _ _ => f a (by omega)), a10, ⟨⟨?_, fun q => absurd e3 q⟩, ⟨0, by decide, ?_, ?_, fun i hi => ⟨?_, ?_⟩⟩, fun s hs => ?_⟩, fun c hc => ?_, ?_⟩
  · refine n1z ?_
    have hj28 := fkB hk hj
    by_cases k1 : k < 20
    · rcases fkT1 k k1 j hj28 hj with ⟨rfl, q⟩ | ⟨rfl, q⟩ | ⟨rfl, q⟩ | ⟨rfl, q⟩
      · rw [f _ (by decide)]; exact p0 j q
      · rw [f _ (by decide)]; exact p1 j q
      · rw [f _ (by decide)]; exact p7 j q
      · rw [f _ (by decide)]; exact p13 j q
    · by_cases k2 : k < 43
      · obtain ⟨i, rfl⟩ : ∃ i, k = 20 + i := ⟨k - 20, by omega⟩
        rcases fkT2 i (by omega) j hj28 hj with ⟨rfl, q⟩ | ⟨rfl, q⟩ | ⟨rfl, q⟩ | ⟨rfl, rfl⟩ | ⟨rfl, rfl⟩ | ⟨rfl, rfl⟩ | ⟨rfl, rfl⟩ | ⟨rfl, rfl⟩
        · rw [f _ (by decide)]; exact p20 j q
        · rw [f _ (by decide)]; exact p23 j q
        · rw [f _ (by decide)]; exact p26 j q
        · rw [f _ (by decide)]; exact p30
        · rw [f _ (by decide)]; exact p35 0 (by decide)
        · rw [f _ (by decide)]; exact p35 1 (by decide)
        · rw [f _ (by decide)]; exact p35 2 (by decide)
        · rw [f _ (by decide)]; exact p35 3 (by decide)
      · by_cases k3 : k = 43
        · subst k3
          exact g43 j (fkT3 j hj28 hj)
        · obtain ⟨i, rfl⟩ : ∃ i, k = 44 + i := ⟨k - 44, by omega⟩
          exact absurd hj (fkT4 i (by omega) j hj28)
  · rw [f 0 (by decide), y0, e3]
  · rw [f 30 (by decide), y30]; rfl
  · rw [e14]; rfl
  · rw [f 31 (by decide), y31, z50]
  · rw [f 31 (by decide), y31]; decide
  · obtain ⟨w1, w2, w3⟩ := y35 s hs
    rw [f (35 + 2 * s) (by omega), f (35 + 2 * s + 1) (by omega), w1, w2, z53, z54]
    exact ⟨rfl, rfl, ⟨0, by decide, rfl⟩, fun i hi => by rw [w3, z55]⟩
  · rw [f 34 (by decide), y34, z47]
  · rw [f 34 (by decide), y34, y34, y34, y34, y34, y34, y34, z47]; rfl
