/-! ===== small rows for the contracts ===== -/
theorem i01 {P : Prop} [Decidable P] : ((if P then (1 : Int32) else 0) = 0) ↔ ¬ P := by
  by_cases h : P <;> simp [h]
theorem down {A : Nat → Prop} (N : Nat) (h1 : A N) (h2 : ∀ k, k < N → A (k + 1) → A k) : ∀ k, k ≤ N → A k := by
  have h3 : ∀ j, j ≤ N → A (N - j) := by
    intro j
    induction j with
    | zero => intro _; exact h1
    | succ j ih =>
      intro hj
      have h4 := ih (by omega)
      rw [show N - j = (N - (j + 1)) + 1 by omega] at h4
      exact h2 _ (by omega) h4
  intro k hk
  have h5 := h3 (N - k) (by omega)
  rw [show N - (N - k) = k by omega] at h5
  exact h5
theorem down0 {A : Nat → Prop} (N : Nat) (h1 : A N) (h2 : ∀ k, k < N → A (k + 1) → A k) : A 0 := down N h1 h2 0 (Nat.zero_le _)
theorem c8t : (8 : Int32) ≤ nI 8 := by decide
theorem c8f {k : Nat} (h : k < 8) : ¬ (8 : Int32) ≤ nI k := nI_ge h (by decide)
theorem cl8 {k : Nat} (h : k < 8) : (nI k).toNatClampNeg = k := nI_clamp (by omega)
theorem vi8 {k : Nat} (h : k < 8) : vp_in (nI k) 8 := vp_in_nI h (by decide)
theorem ixa {a b : Nat} : nI a * (8 : Int32) + nI b = nI (a * 8 + b) := by
  rw [show (8 : Int32) = nI 8 from rfl, pk_mul, nI_add]
theorem ixb {a b : Nat} : (8 : Int32) * nI a + nI b = nI (a * 8 + b) := by
  rw [show (8 : Int32) = nI 8 from rfl, pk_mul, nI_add, Nat.mul_comm]
theorem vi64 {a b : Nat} (ha : a < 8) (hb : b < 8) : vp_in (nI (a * 8 + b)) 64 := vp_in_nI (by omega) (by decide)
theorem cl64 {a b : Nat} (ha : a < 8) (hb : b < 8) : (nI (a * 8 + b)).toNatClampNeg = a * 8 + b := nI_clamp (by omega)
theorem in8 {x : Int32} (h0 : ¬ x < 0) (h1 : ¬ (8 : Int32) ≤ x) : ∃ k : Nat, k < 8 ∧ x = nI k := by
  rcases pk_ix x (n := 8) (by decide) with h | h | ⟨j, hj, rfl⟩
  · exact absurd h h0
  · exact absurd h h1
  · exact ⟨j, hj, rfl⟩
theorem nb0 : vp_nar .boolean (0 : Int32) = 0 := by decide
theorem nb1 : vp_nar .boolean (1 : Int32) = 1 := by decide
theorem nbb (b : Bool) : vp_nar .boolean (if b then (1 : Int32) else 0) = if b then 1 else 0 := by cases b <;> decide
theorem b01 (b : Bool) : bool01 (if b then (1 : Int32) else 0) := by cases b <;> simp [bool01]
theorem ib0 (b : Bool) : ((if b then (1 : Int32) else 0) = 0) ↔ b = false := by cases b <;> decide
theorem upd_at {f : Nat → Int32} {k : Nat} {x : Int32} : upd f k x k = x := by simp [upd]
theorem upd_ne {f : Nat → Int32} {k j : Nat} {x : Int32} (h : j ≠ k) : upd f k x j = f j := by simp [upd, h]
theorem S_isIn {l : Launch} {G : GG} {d : Nat} (x n : Int32) (s : Mem) : Spec l G d hX7_isIn [.inl x, .inl n] s (fun r t => r = (if ¬ x < 0 ∧ ¬ n ≤ x then 1 else 0) ∧ s = t) := by
  refine spec_of iX7_isIn (by decide +kernel) (Nat.le_of_ble_eq_true rfl) (vX7_isIn_0 ?_)
  refine ⟨fun h => ⟨Or.inl rfl, by grind⟩, fun h => ⟨fun h2 => ⟨Or.inl rfl, by grind⟩, fun h2 => ⟨Or.inr rfl, by grind⟩⟩⟩
theorem S_in {l : Launch} {G : GG} {d : Nat} (v a b : Int32) (s : Mem) : Spec l G d hX8_in [.inl v, .inl a, .inl b] s (fun r t => r = (if a ≤ v ∧ v ≤ b then 1 else 0) ∧ s = t) := by
  refine spec_of iX8_in (by decide +kernel) (Nat.le_of_ble_eq_true rfl) (vX8_in_0 ?_)
  refine ⟨fun h => ⟨Or.inl rfl, by grind⟩, fun h => ⟨fun h2 => ⟨Or.inl rfl, by grind⟩, fun h2 => ⟨Or.inr rfl, by grind⟩⟩⟩
theorem S_isWind {l : Launch} {G : GG} {d : Nat} (w : Int32) (s : Mem) : Spec l G d hX5_isWind [.inl w] s (fun r t => r = (if (-100 : Int32) ≤ w ∧ w ≤ 100 then 1 else 0) ∧ s = t) := by
  refine spec_of iX5_isWind (by decide +kernel) (Nat.le_of_ble_eq_true rfl) (vX5_isWind_0 ?_)
  refine ⟨fun h => ⟨Or.inl rfl, by grind⟩, fun h => ⟨fun h2 => ⟨Or.inl rfl, by grind⟩, fun h2 => ⟨Or.inr rfl, by grind⟩⟩⟩
theorem S_isWind8 {l : Launch} {G : GG} {d : Nat} (hd : 1 ≤ d) (w : Int32) (s : Mem) : Spec l G d hX8_isWind [.inl w] s (fun r t => r = (if (-100 : Int32) ≤ w ∧ w ≤ 100 then 1 else 0) ∧ s = t) := by
  refine spec_of iX8_isWind (by decide +kernel) (Nat.le_of_ble_eq_true rfl) (vX8_isWind_0 ?_)
  refine ⟨d - 1, _, by omega, S_in _ _ _ _, ?_⟩
  rintro _ _ ⟨rfl, rfl⟩
  refine ⟨by unfold bool01; grind, rfl, rfl⟩
