/-! BIRTH: a studio made -/
theorem nw_k {h : Mem} {k a : Nat} (q : a ≠ k) : gm_new h k a = h a := if_neg q
def N0 : Row := fun i => if i < 26 then ([0, 0, 0, 0, 0, 1, 4, 4, 5, 5, 0, 0, 3, 3, 0, 600, -1, -1, -1, -1, -1, -1, -1, -1, -1, -1] : List Int32).getD i 0 else 0
theorem N0z {i : Nat} (q : 26 ≤ i) : N0 i = 0 := if_neg (by omega)
theorem N0s {j : Nat} (q : j < 10) : N0 (16 + j) = -1 := by
  match j, q with
  | 0, _ => rfl
  | 1, _ => rfl
  | 2, _ => rfl
  | 3, _ => rfl
  | 4, _ => rfl
  | 5, _ => rfl
  | 6, _ => rfl
  | 7, _ => rfl
  | 8, _ => rfl
  | 9, _ => rfl
theorem N0_Dom : Dom N0 := by
  refine ⟨⟨0, 0, Nat.le_refl _, by decide, rfl, rfl, fun l hl => absurd hl (Nat.not_lt_zero l), fun j hj => ?_⟩, by decide, fun l hl => ?_, by decide⟩
  · rw [N0s hj]; decide
  · rw [N0z (by omega), N0z (by omega), N0z (by omega)]; decide
theorem b_X6 {k0 : Nat} {h : Mem} {Q : Mem → Prop} (hk : k0 = 1 ∨ k0 = 7 ∨ k0 = 13) (hz : ∀ j, h k0 j = 0) (k : ∀ h', (∀ a, a < k0 ∨ k0 + 5 < a → h' a = h a) → A9 h' k0 N0 → (∀ j, j < 5 → h' k0 j = 1) → Q h') : f_X6_init k0 h Q := by
  rcases hk with rfl | rfl | rfl
  all_goals
    unfold f_X6_init
    refine nm (nm (nm (nm (nm (nm (nm (nm (nm (nm (nm ⟨(show ¬ (1 : Int32) = 0 from oz), nm ⟨(show ¬ (1 : Int32) = 0 from oz), s_fill (by decide) (fun h' f e => k h' (fun a q => ?_) ⟨⟨?_, ?_, ?_, ?_, ?_, ?_⟩, fun j hj => ?_, fun j hj => ?_, fun l hl => ⟨?_, ?_, ?_⟩⟩ (fun j hj => ?_))⟩⟩))))))))))
    · refine (f a (by omega)).trans ?_
      show (if a = _ then _ else _) = _
      rw [if_neg (by omega), st_k (by omega), st_k (by omega), nw_k (by omega), st_k (by omega), nw_k (by omega), st_k (by omega), nw_k (by omega), st_k (by omega), nw_k (by omega), st_k (by omega), nw_k (by omega)]
    · rw [f _ (by decide)]; exact hz 6
    · rw [f _ (by decide)]; exact hz 7
    · rw [f _ (by decide)]; exact hz 8
    · rw [f _ (by decide)]; exact hz 9
    · rw [f _ (by decide)]; exact hz 5
    · rw [f _ (by decide)]; rfl
    · rw [f _ (by decide)]
      match j, hj with
      | 0, _ => rfl
      | 1, _ => rfl
      | 2, _ => rfl
      | 3, _ => rfl
      | 4, _ => rfl
      | 5, _ => rfl
      | 6, _ => rfl
      | 7, _ => rfl
      | 8, _ => rfl
      | 9, _ => rfl
    · rw [e j hj, N0s hj]
    · rw [f _ (by decide), N0z (by omega)]; rfl
    · rw [f _ (by decide), N0z (by omega)]; rfl
    · rw [f _ (by decide), N0z (by omega)]; rfl
    · rw [f _ (by decide)]
      match j, hj with
      | 0, _ => rfl
      | 1, _ => rfl
      | 2, _ => rfl
      | 3, _ => rfl
      | 4, _ => rfl
