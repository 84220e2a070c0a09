/-! BIRTH: the class's object made -/
def Bf (h : Mem) : Prop := (∀ j, j < 11 → h 0 j = 1) ∧ (∀ j, j < 5 → h 1 j = 1) ∧ (∀ j, j < 5 → h 7 j = 1) ∧ (∀ j, j < 5 → h 13 j = 1) ∧ (∀ j, j < 2 → h 20 j = 1) ∧ (∀ j, j < 2 → h 23 j = 1) ∧ (∀ j, j < 3 → h 26 j = 1) ∧ h 30 0 = 1 ∧ (∀ s, s < 4 → h (35 + 2 * s) 0 = 1) ∧ ∀ i, i < 4 → h 33 i = 1
def Bz (h : Mem) : Prop := h 0 11 = 0 ∧ h 30 1 = 0 ∧ (∀ i, h 31 i = 0) ∧ (∀ i, h 34 i = 0) ∧ ∀ s, s < 4 → h (35 + 2 * s) 1 = 0 ∧ h (35 + 2 * s) 2 = 0 ∧ ∀ i, h (35 + 2 * s + 1) i = 0
set_option maxRecDepth 20000 in
theorem b_X9 {Q : Mem → Prop} (k : ∀ h', A9 h' 1 N0 → Bf h' → Bz h' → Q h') : f_X9_init (gm_new (fun _ _ => 0) 0) Q := by
  unfold f_X9_init
  refine nm (b_X6 (Or.inl rfl) (fun j => rfl) (fun h2 f2 a2 g2 => nm (nm (b_X6 (Or.inr (Or.inl rfl)) (fun j => rfl) (fun h5 f5 a5 g5 => nm (nm (b_X6 (Or.inr (Or.inr rfl)) (fun j => rfl) (fun h8 f8 a8 g8 => ?_))))))))
  have e00 : h8 0 0 = 1 := by
    rw [f8 0 (by decide)]
    show h5 0 0 = 1
    rw [f5 0 (by decide)]; rfl
  have e01 : h8 0 1 = 1 := by rw [f8 0 (by decide)]; rfl
  have e0b : h8 0 11 = 0 := by
    rw [f8 0 (by decide)]
    show h5 0 11 = 0
    rw [f5 0 (by decide)]
    show h2 0 11 = 0
    rw [f2 0 (by decide)]; rfl
  have A1 : A9 h8 1 N0 := (a2.fr (h' := h5) (fun a q1 q2 => (f5 a (by omega)).trans (by rw [nw_k (by omega), st_k (by omega)]))).fr (fun a q1 q2 => (f8 a (by omega)).trans (by rw [nw_k (by omega), st_k (by omega)]))
  have g1 : ∀ j, j < 5 → h8 1 j = 1 := fun j hj => by
    rw [f8 1 (by decide)]
    show h5 1 j = 1
    rw [f5 1 (by decide)]
    exact g2 j hj
  have g7 : ∀ j, j < 5 → h8 7 j = 1 := fun j hj => by
    rw [f8 7 (by decide)]
    exact g5 j hj
  unfold f_X2_init f_X4_init f_X8_init f_X7_init f_X3_init f_X5_init
  unfold f_X1_init
  repeat first | refine nm ?_ | refine And.intro (show ¬ (1 : Int32) = 0 from oz) ?_
  refine k _ ?_ ?_ ?_
  · refine A1.fr (fun a q1 q2 => ?_)
    have : a = 1 ∨ a = 2 ∨ a = 3 ∨ a = 4 ∨ a = 5 ∨ a = 6 := by omega
    rcases this with rfl | rfl | rfl | rfl | rfl | rfl <;> rfl
  · refine ⟨fun j hj => ?_, fun j hj => ?_, fun j hj => ?_, fun j hj => ?_, fun j hj => ?_, fun j hj => ?_, fun j hj => ?_, ?_, fun s hs => ?_, fun i hi => ?_⟩
    · match j, hj with
      | 0, _ => exact e00
      | 1, _ => exact e01
      | 2, _ => rfl
      | 3, _ => rfl
      | 4, _ => rfl
      | 5, _ => rfl
      | 6, _ => rfl
      | 7, _ => rfl
      | 8, _ => rfl
      | 9, _ => rfl
      | 10, _ => rfl
    · exact g1 j hj
    · exact g7 j hj
    · exact g8 j hj
    · match j, hj with
      | 0, _ => rfl
      | 1, _ => rfl
    · match j, hj with
      | 0, _ => rfl
      | 1, _ => rfl
    · match j, hj with
      | 0, _ => rfl
      | 1, _ => rfl
      | 2, _ => rfl
    · rfl
    · match s, hs with
      | 0, _ => rfl
      | 1, _ => rfl
      | 2, _ => rfl
      | 3, _ => rfl
    · match i, hi with
      | 0, _ => rfl
      | 1, _ => rfl
      | 2, _ => rfl
      | 3, _ => rfl
  · refine ⟨e0b, rfl, fun i => rfl, fun i => rfl, fun s hs => ?_⟩
    match s, hs with
    | 0, _ => exact ⟨rfl, rfl, fun i => rfl⟩
    | 1, _ => exact ⟨rfl, rfl, fun i => rfl⟩
    | 2, _ => exact ⟨rfl, rfl, fun i => rfl⟩
    | 3, _ => exact ⟨rfl, rfl, fun i => rfl⟩
