/-! ===== the tent's questions, class and model side by side ===== -/
theorem finR_nu {U : Nat → Bool} : ∀ {n : Nat} {X Y : TX}, FinR n X Y → UZ U X → ∀ j, U j = false → Y.1 j = X.1 j
  | 0, X, Y, h, _, j, _ => by rw [show Y = X from h.symm]
  | n + 1, X, Y, h, hU, j, hj => by
    rcases h with ⟨rfl, _⟩ | ⟨k, hk, hp, _, hr⟩
    · rfl
    · have ih := finR_nu hr (UZ_slk (r := k) hU) j hj
      rw [ih]
      have hB : X.2.1 k = true := by
        simp only [psh, Bool.and_eq_true] at hp
        exact hp.1
      have hjk : j ≠ k := fun z => by
        rw [z, hU.1 k hB] at hj
        cases hj
      have hb : slkB X.2.1 k j = false := by
        cases hb : X.2.1 j with
        | false => simp [slkB, hb]
        | true => rw [hU.1 j hb] at hj; cases hj
      unfold slk
      split
      · exact upd_ne hjk
      · show (spS _ _ _ _ 8).1 j = X.1 j
        rw [spS_off hb]
        exact upd_ne hjk
theorem pt_nu {ld sh ex : Nat → Int32} {w : Int32} {r : Nat} (hsh : ∀ i, 0 ≤ sh i) (hu : upB sh ex r = false) : ptN ld sh ex w r 8 = 0 := by
  simp only [upB, Bool.or_eq_false_iff] at hu
  have he : ex r = 0 := by simpa using hu.2
  have key : ∀ n, n ≤ 8 → upN sh r n = false → ptN ld sh ex w r n = 0 := by
    intro n
    induction n with
    | zero => intro _ _; simp [ptN, he]
    | succ n ih =>
      intro hn h
      simp only [upN, Bool.or_eq_false_iff] at h
      have h1 : sh (n * 8 + r) ≤ 0 := by simpa using h.2
      have h2 : sh (n * 8 + r) = 0 := by
        have := hsh (n * 8 + r)
        grind
      simp [ptN, ih (by omega) h.1, h2]
  exact key 8 (Nat.le_refl _) hu.1
theorem S7_part {l : Launch} {G : GG} {d : Nat} (hd : 3 ≤ d) (r w : Int32) (s : Mem) : Spec l G d hX7_part [.inr 0, .inl r, .inl w] s (fun x t => (¬ (0 ≤ r ∧ r ≤ 7 ∧ -100 ≤ w ∧ w ≤ 100) ∧ x = -1 ∧ s = t) ∨ ∃ k, k < 8 ∧ r = nI k ∧ (-100 ≤ w ∧ w ≤ 100) ∧ (∃ Y, FinR 8 (X0 (s 27) (s 28) (s 29) w) Y ∧ UZ (upB (s 28) (s 29)) Y ∧ x = Y.1 k) ∧ FrC s t) := by
  refine spec_of iX7_part (by decide +kernel) (Nat.le_of_ble_eq_true rfl) (vX7_part_0 ?_)
  refine ⟨d - 1, _, by omega, S_isIn _ _ _, ?_⟩
  rintro _ _ ⟨rfl, rfl⟩
  rw [i01]
  refine ⟨fun h => Or.inl ⟨by grind, rfl, rfl⟩, fun h => ?_⟩
  refine ⟨d - 1, _, by omega, S_isWind _ _, ?_⟩
  rintro _ _ ⟨rfl, rfl⟩
  rw [i01]
  refine ⟨fun h2 => ?_, fun h2 => Or.inl ⟨by grind, rfl, rfl⟩⟩
  obtain ⟨k, hk, rfl⟩ := in8 (x := r) (by grind) (by grind)
  refine ⟨d - 1, _, by omega, S_settle (by omega) w s, ?_⟩
  rintro _ t ⟨Y, h3, h4, h5, h6⟩
  rw [cl8 hk]
  exact ⟨vi8 hk, Or.inr ⟨k, hk, rfl, by grind, ⟨Y, h3, h4, h5.1 k hk⟩, h6⟩⟩
theorem S8_part {l : Launch} {G : GG} {d : Nat} (hd : 3 ≤ d) (r w : Int32) (s : Mem) : Spec l G d hX8_part [.inr 49, .inl r, .inl w] s (fun x t => (¬ (0 ≤ r ∧ r ≤ 7 ∧ -100 ≤ w ∧ w ≤ 100) ∧ x = -1 ∧ s = t) ∨ ∃ k, k < 8 ∧ r = nI k ∧ (-100 ≤ w ∧ w ≤ 100) ∧ (∃ Y, FinR 8 (X0 (s 57) (s 58) (s 59) w) Y ∧ UZ (upB (s 58) (s 59)) Y ∧ x = if upB (s 58) (s 59) k then Y.1 k else 0) ∧ FrM s t) := by
  refine spec_of iX8_part (by decide +kernel) (Nat.le_of_ble_eq_true rfl) (vX8_part_0 ?_)
  refine ⟨d - 1, _, by omega, S_in _ _ _ _, ?_⟩
  rintro _ _ ⟨rfl, rfl⟩
  rw [i01]
  refine ⟨fun h => Or.inl ⟨by grind, rfl, rfl⟩, fun h => ?_⟩
  refine ⟨d - 1, _, by omega, S_isWind8 (by omega) _ _, ?_⟩
  rintro _ _ ⟨rfl, rfl⟩
  rw [i01]
  refine ⟨fun h2 => ?_, fun h2 => Or.inl ⟨by grind, rfl, rfl⟩⟩
  obtain ⟨k, hk, rfl⟩ := in8 (x := r) (by grind) (by grind)
  refine ⟨d - 1, _, by omega, S_hangs (by omega) w s, ?_⟩
  rintro _ t ⟨Y, h3, h4, h5, h6⟩
  refine ⟨d - 1, _, by omega, S_isUp8 hk _, ?_⟩
  rintro _ _ ⟨rfl, rfl⟩
  rw [cl8 hk, h6.1 58 (by decide) (by decide) (by decide), h6.1 59 (by decide) (by decide) (by decide), ib0]
  refine ⟨fun q => Or.inr ⟨k, hk, rfl, by grind, ⟨Y, h3, h4, by simp [q]⟩, h6⟩, fun q => ⟨vi8 hk, Or.inr ⟨k, hk, rfl, by grind, ⟨Y, h3, h4, ?_⟩, h6⟩⟩⟩
  have hu : upB (s 58) (s 59) k = true := by simpa using q
  rw [hu, h5.1 k hk]
  simp
theorem S7_slack {l : Launch} {G : GG} {d : Nat} (hd : 3 ≤ d) (r w : Int32) (s : Mem) : Spec l G d hX7_slack [.inr 0, .inl r, .inl w] s (fun x t => (¬ (0 ≤ r ∧ r ≤ 7 ∧ -100 ≤ w ∧ w ≤ 100) ∧ x = 0 ∧ s = t) ∨ ∃ k, k < 8 ∧ r = nI k ∧ (-100 ≤ w ∧ w ≤ 100) ∧ (∃ Y, FinR 8 (X0 (s 27) (s 28) (s 29) w) Y ∧ UZ (upB (s 28) (s 29)) Y ∧ x = if (upB (s 28) (s 29) k && !Y.2.1 k) then 1 else 0) ∧ FrC s t) := by
  refine spec_of iX7_slack (by decide +kernel) (Nat.le_of_ble_eq_true rfl) (vX7_slack_0 ?_)
  refine ⟨d - 1, _, by omega, S_isIn _ _ _, ?_⟩
  rintro _ _ ⟨rfl, rfl⟩
  rw [i01]
  refine ⟨fun h => ⟨Or.inl rfl, Or.inl ⟨by grind, rfl, rfl⟩⟩, fun h => ?_⟩
  refine ⟨d - 1, _, by omega, S_isWind _ _, ?_⟩
  rintro _ _ ⟨rfl, rfl⟩
  rw [i01]
  refine ⟨fun h2 => ?_, fun h2 => ⟨Or.inl rfl, Or.inl ⟨by grind, rfl, rfl⟩⟩⟩
  obtain ⟨k, hk, rfl⟩ := in8 (x := r) (by grind) (by grind)
  refine ⟨d - 1, _, by omega, S_settle (by omega) w s, ?_⟩
  rintro _ t ⟨Y, h3, h4, h5, h6⟩
  rw [cl8 hk, h5.2.2.1 k hk]
  exact ⟨vi8 hk, b01 _, Or.inr ⟨k, hk, rfl, by grind, ⟨Y, h3, h4, rfl⟩, h6⟩⟩
theorem S8_slack {l : Launch} {G : GG} {d : Nat} (hd : 3 ≤ d) (r w : Int32) (s : Mem) : Spec l G d hX8_slack [.inr 49, .inl r, .inl w] s (fun x t => (¬ (0 ≤ r ∧ r ≤ 7 ∧ -100 ≤ w ∧ w ≤ 100) ∧ x = 0 ∧ s = t) ∨ ∃ k, k < 8 ∧ r = nI k ∧ (-100 ≤ w ∧ w ≤ 100) ∧ (∃ Y, FinR 8 (X0 (s 57) (s 58) (s 59) w) Y ∧ UZ (upB (s 58) (s 59)) Y ∧ x = if (upB (s 58) (s 59) k && !Y.2.1 k) then 1 else 0) ∧ FrM s t) := by
  refine spec_of iX8_slack (by decide +kernel) (Nat.le_of_ble_eq_true rfl) (vX8_slack_0 ?_)
  refine ⟨d - 1, _, by omega, S_in _ _ _ _, ?_⟩
  rintro _ _ ⟨rfl, rfl⟩
  rw [i01]
  refine ⟨fun h => ⟨Or.inl rfl, Or.inl ⟨by grind, rfl, rfl⟩⟩, fun h => ?_⟩
  refine ⟨d - 1, _, by omega, S_isWind8 (by omega) _ _, ?_⟩
  rintro _ _ ⟨rfl, rfl⟩
  rw [i01]
  refine ⟨fun h2 => ?_, fun h2 => ⟨Or.inl rfl, Or.inl ⟨by grind, rfl, rfl⟩⟩⟩
  obtain ⟨k, hk, rfl⟩ := in8 (x := r) (by grind) (by grind)
  refine ⟨d - 1, _, by omega, S_hangs (by omega) w s, ?_⟩
  rintro _ t ⟨Y, h3, h4, h5, h6⟩
  rw [cl8 hk, h5.2.1 k hk]
  exact ⟨vi8 hk, b01 _, Or.inr ⟨k, hk, rfl, by grind, ⟨Y, h3, h4, rfl⟩, h6⟩⟩
theorem S7_gone {l : Launch} {G : GG} {d : Nat} (hd : 3 ≤ d) (w : Int32) (s : Mem) : Spec l G d hX7_gone [.inr 0, .inl w] s (fun x t => (¬ (-100 ≤ w ∧ w ≤ 100) ∧ x = 0 ∧ s = t) ∨ ((-100 ≤ w ∧ w ≤ 100) ∧ (∃ Y, FinR 8 (X0 (s 27) (s 28) (s 29) w) Y ∧ x = Y.2.2) ∧ FrC s t)) := by
  refine spec_of iX7_gone (by decide +kernel) (Nat.le_of_ble_eq_true rfl) (vX7_gone_0 ?_)
  refine ⟨d - 1, _, by omega, S_isWind _ _, ?_⟩
  rintro _ _ ⟨rfl, rfl⟩
  rw [i01]
  refine ⟨fun h2 => ?_, fun h2 => Or.inl ⟨by grind, rfl, rfl⟩⟩
  refine ⟨d - 1, _, by omega, S_settle (by omega) w s, ?_⟩
  rintro _ t ⟨Y, h3, h4, h5, h6⟩
  exact Or.inr ⟨by grind, ⟨Y, h3, h5.2.2.2⟩, h6⟩
theorem S8_gone {l : Launch} {G : GG} {d : Nat} (hd : 3 ≤ d) (w : Int32) (s : Mem) : Spec l G d hX8_gone [.inr 49, .inl w] s (fun x t => (¬ (-100 ≤ w ∧ w ≤ 100) ∧ x = 0 ∧ s = t) ∨ ((-100 ≤ w ∧ w ≤ 100) ∧ (∃ Y, FinR 8 (X0 (s 57) (s 58) (s 59) w) Y ∧ x = Y.2.2) ∧ FrM s t)) := by
  refine spec_of iX8_gone (by decide +kernel) (Nat.le_of_ble_eq_true rfl) (vX8_gone_0 ?_)
  refine ⟨d - 1, _, by omega, S_isWind8 (by omega) _ _, ?_⟩
  rintro _ _ ⟨rfl, rfl⟩
  rw [i01]
  refine ⟨fun h2 => ?_, fun h2 => Or.inl ⟨by grind, rfl, rfl⟩⟩
  refine ⟨d - 1, _, by omega, S_hangs (by omega) w s, ?_⟩
  rintro _ t ⟨Y, h3, h4, h5, h6⟩
  exact Or.inr ⟨by grind, ⟨Y, h3, h5.2.2⟩, h6⟩
