/-! ===== acts come ===== -/
abbrev kdI (a : Int32) : Int32 := a / (100 : Int32) - a / (100 : Int32) / (10 : Int32) * (10 : Int32)
def canP (a b c : Int32) : Prop := ¬ a < 1000 ∧ a / 1000 ≤ 60 ∧ ¬ (4 : Int32) ≤ kdI a ∧ ¬ b < 0 ∧ b ≤ 1023 ∧ ¬ c < 0 ∧ (kdI a = 3 → ¬ 0 < c) ∧ (¬ kdI a = 3 → ¬ (255 : Int32) < c)
def canM (a b c : Int32) : Prop := ¬ a < 0 ∧ ((1 : Int32) ≤ a / 1000 ∧ a / 1000 ≤ 60) ∧ ¬ (3 : Int32) < kdI a ∧ (0 ≤ b ∧ b ≤ 1023) ∧ (kdI a = 3 → 0 ≤ c ∧ c ≤ 0) ∧ (¬ kdI a = 3 → 0 ≤ c ∧ c ≤ 255)
theorem th_ge {a : Int32} : ¬ a < 1000 ↔ (¬ a < 0 ∧ (1 : Int32) ≤ a / 1000) := by
  by_cases h : a < 0
  · constructor
    · intro h1
      grind
    · intro h1
      exact absurd h h1.1
  · obtain ⟨w, hw, rfl⟩ := nI_of h
    have e1 : nI w / (1000 : Int32) = nI (w / 1000) := pk_div (d := 1000) hw (by decide) (by decide)
    rw [e1]
    have e2 : nI w < (1000 : Int32) ↔ w < 1000 := nI_ltI hw (by decide)
    have e3 : (1 : Int32) ≤ nI (w / 1000) ↔ 1 ≤ w / 1000 := nI_leI (a := 1) (by decide) (by omega)
    rw [e2, e3]
    constructor
    · intro h1
      exact ⟨h, by omega⟩
    · intro h1
      omega
theorem can_iff {a b c : Int32} : canP a b c ↔ canM a b c := by
  unfold canP canM
  rw [th_ge]
  generalize kdI a = k
  generalize a / 1000 = m
  constructor
  · rintro ⟨⟨h1, h2⟩, h3, h4, h5, h6, h7, h8, h9⟩
    exact ⟨h1, ⟨h2, h3⟩, by grind, ⟨by grind, h6⟩, fun q => ⟨by grind, by have := h8 q; grind⟩, fun q => ⟨by grind, by have := h9 q; grind⟩⟩
  · rintro ⟨h1, ⟨h2, h3⟩, h4, ⟨h5, h6⟩, h7, h8⟩
    have hc : ¬ c < 0 := by
      by_cases q : k = 3
      · have := (h7 q).1; grind
      · have := (h8 q).1; grind
    exact ⟨⟨h1, h2⟩, h3, by grind, by grind, h6, hc, fun q => by have := (h7 q).2; grind, fun q => by have := (h8 q).2; grind⟩
theorem S_canBe {l : Launch} {G : GG} {d : Nat} (a b c : Int32) (s : Mem) : Spec l G d hX4_canBe [.inl a, .inl b, .inl c] s (fun r t => ((r = 1 ∧ canP a b c) ∨ (r = 0 ∧ ¬ canP a b c)) ∧ s = t) := by
  refine spec_of iX4_canBe (by decide +kernel) (Nat.le_of_ble_eq_true rfl) (vX4_canBe_0 ?_)
  refine ⟨fun h => ⟨Or.inl rfl, Or.inr ⟨rfl, fun q => q.1 h⟩, rfl⟩, fun h => ⟨by decide, fun h2 => ⟨by decide, by decide, fun h3 => ⟨Or.inl rfl, Or.inr ⟨rfl, fun q => q.2.2.1 h3⟩, rfl⟩, fun h3 => ⟨fun h4 => ⟨Or.inl rfl, Or.inr ⟨rfl, fun q => q.2.2.2.1 h4⟩, rfl⟩, fun h4 => ⟨fun h5 => ⟨fun h6 => ⟨Or.inl rfl, Or.inr ⟨rfl, fun q => q.2.2.2.2.2.1 h6⟩, rfl⟩, fun h6 => ⟨fun h7 => ⟨fun h8 => ⟨Or.inl rfl, Or.inr ⟨rfl, fun q => q.2.2.2.2.2.2.2 h7 h8⟩, rfl⟩, fun h8 => ⟨Or.inr rfl, Or.inl ⟨rfl, h, h2, h3, h4, h5, h6, fun q => absurd q h7, fun _ => h8⟩, rfl⟩⟩, fun h7 => ⟨fun h8 => ⟨Or.inl rfl, Or.inr ⟨rfl, fun q => q.2.2.2.2.2.2.1 h7 h8⟩, rfl⟩, fun h8 => ⟨Or.inr rfl, Or.inl ⟨rfl, h, h2, h3, h4, h5, h6, fun _ => h8, fun q => absurd h7 q⟩, rfl⟩⟩⟩⟩, fun h5 => ⟨Or.inl rfl, Or.inr ⟨rfl, fun q => h5 q.2.2.2.2.1⟩, rfl⟩⟩⟩⟩, fun h2 => ⟨Or.inl rfl, Or.inr ⟨rfl, fun q => h2 q.2.1⟩, rfl⟩⟩⟩
abbrev actC (s : Mem) (i : Nat) (a b c : Int32) : Mem := wrM (wrM (wrM (wrM (wrM (wrM (wrM s 2 i (a / 1000)) 3 i (kdI a)) 4 i (a - a / 100 * 100)) 5 i b) 6 i c) 1 0 (s 1 0 + 1)) 1 8 (s 1 8 + 1)
abbrev actM (s : Mem) (i : Nat) (a b c : Int32) : Mem := wrM (wrM (wrM (wrM (wrM (wrM s 50 i (a / 1000)) 51 i (kdI a)) 52 i (a - a / 100 * 100)) 53 i b) 54 i c) 49 0 (s 49 0 + 1)
theorem S4_add {l : Launch} {G : GG} {d k : Nat} (hd : 1 ≤ d) (hk : k ≤ 8) (a b c : Int32) {s : Mem} (hs : s 1 0 = nI k) : Spec l G d hX4_add [.inr 1, .inl a, .inl b, .inl c] s (fun r t => (canP a b c ∧ k < 8 ∧ r = nI k ∧ t = actC s k a b c) ∨ (¬ (canP a b c ∧ k < 8) ∧ r = -1 ∧ s = t)) := by
  refine spec_of iX4_add (by decide +kernel) (Nat.le_of_ble_eq_true rfl) (vX4_add_0 ?_)
  rw [hs]
  refine ⟨fun h => Or.inr ⟨fun q => c8f q.2 h, rfl, rfl⟩, fun h => ?_⟩
  have hk8 : k < 8 := by
    rcases Nat.lt_or_ge k 8 with q | q
    · exact q
    · exact absurd (by rw [show k = 8 by omega]; exact c8t) h
  refine ⟨d - 1, _, by omega, S_canBe a b c s, ?_⟩
  rintro r1 t1 ⟨hr, rfl⟩
  rw [hs, cl8 hk8]
  rcases hr with ⟨rfl, hc⟩ | ⟨rfl, hc⟩
  · refine ⟨fun _ => ⟨by decide, vi8 hk8, by decide, by decide, vi8 hk8, by decide, vi8 hk8, vi8 hk8, vi8 hk8, Or.inl ⟨hc, hk8, rfl, ?_⟩⟩, fun h => absurd h (by decide)⟩
    rfl
  · exact ⟨fun h => absurd rfl h, fun _ => Or.inr ⟨fun q => hc q.1, rfl, rfl⟩⟩
theorem S7_act {l : Launch} {G : GG} {d k : Nat} (hd : 2 ≤ d) (hk : k ≤ 8) (a b c : Int32) {s : Mem} (hs : s 1 0 = nI k) : Spec l G d hX7_act [.inr 0, .inl a, .inl b, .inl c] s (fun r t => (canP a b c ∧ k < 8 ∧ r = nI k ∧ t = actC s k a b c) ∨ (¬ (canP a b c ∧ k < 8) ∧ r = -1 ∧ s = t)) := by
  refine spec_of iX7_act (by decide +kernel) (Nat.le_of_ble_eq_true rfl) (vX7_act_0 ?_)
  exact ⟨d - 1, _, by omega, S4_add (by omega) hk a b c hs, fun _ _ q => q⟩
theorem S8_act {l : Launch} {G : GG} {d k : Nat} (hd : 1 ≤ d) (hk : k ≤ 8) (a b c : Int32) {s : Mem} (hs : s 49 0 = nI k) : Spec l G d hX8_act [.inr 49, .inl a, .inl b, .inl c] s (fun r t => (canM a b c ∧ k < 8 ∧ r = nI k ∧ t = actM s k a b c) ∨ (¬ (canM a b c ∧ k < 8) ∧ r = -1 ∧ s = t)) := by
  refine spec_of iX8_act (by decide +kernel) (Nat.le_of_ble_eq_true rfl) (vX8_act_0 ?_)
  refine ⟨by decide, by decide, by decide, fun h => Or.inr ⟨fun q => q.1.1 h, rfl, rfl⟩, fun h => ?_⟩
  refine ⟨d - 1, _, by omega, S_in _ _ _ _, ?_⟩
  rintro _ _ ⟨rfl, rfl⟩
  rw [i01]
  refine ⟨fun h2 => Or.inr ⟨fun q => h2 q.1.2.1, rfl, rfl⟩, fun h2 => ⟨fun h3 => Or.inr ⟨fun q => q.1.2.2.1 h3, rfl, rfl⟩, fun h3 => ?_⟩⟩
  have h2 := Classical.not_not.mp h2
  refine ⟨d - 1, _, by omega, S_in _ _ _ _, ?_⟩
  rintro _ _ ⟨rfl, rfl⟩
  rw [i01]
  refine ⟨fun h4 => Or.inr ⟨fun q => h4 q.1.2.2.2.1, rfl, rfl⟩, fun h4 => ?_⟩
  have h4 := Classical.not_not.mp h4
  have h8 : nI k = (8 : Int32) ↔ k = 8 := nI_eq (b := 8) (by omega) (by decide)
  have e1 : nI k + 1 - 1 = nI k := by rw [nI_1]; exact nI_pred k
  refine ⟨fun h5 => ?_, fun h5 => ?_⟩
  · refine ⟨d - 1, _, by omega, S_in _ _ _ _, ?_⟩
    rintro _ _ ⟨rfl, rfl⟩
    rw [i01]
    refine ⟨fun h6 => Or.inr ⟨fun q => h6 (q.1.2.2.2.2.2 h5), rfl, rfl⟩, fun h6 => ⟨fun h7 => ?_, fun h7 => Or.inr ⟨fun q => ?_, rfl, rfl⟩⟩⟩
    · rw [hs] at h7
      have hk8 : k < 8 := by
        rcases Nat.lt_or_ge k 8 with q | q
        · exact q
        · exact absurd (h8.mpr (by omega)) h7
      have hv : vp_in (s 49 0) 8 := by rw [hs]; exact vi8 hk8
      refine ⟨hv, hv, by decide, hv, hv, hv, Or.inl ⟨⟨h, h2, h3, h4, fun q => absurd q h5, fun _ => Classical.not_not.mp h6⟩, hk8, ?_, ?_⟩⟩
      · show s 49 0 + 1 - 1 = nI k
        rw [hs]
        exact e1
      · have e2 : (s 49 0).toNatClampNeg = k := by rw [hs]; exact cl8 hk8
        rw [← e2]
        rfl
    · rw [hs] at h7
      have := h8.mp h7
      omega
  · refine ⟨d - 1, _, by omega, S_in _ _ _ _, ?_⟩
    rintro _ _ ⟨rfl, rfl⟩
    rw [i01]
    refine ⟨fun h6 => Or.inr ⟨fun q => h6 (q.1.2.2.2.2.1 h5), rfl, rfl⟩, fun h6 => ⟨fun h7 => ?_, fun h7 => Or.inr ⟨fun q => ?_, rfl, rfl⟩⟩⟩
    · rw [hs] at h7
      have hk8 : k < 8 := by
        rcases Nat.lt_or_ge k 8 with q | q
        · exact q
        · exact absurd (h8.mpr (by omega)) h7
      have hv : vp_in (s 49 0) 8 := by rw [hs]; exact vi8 hk8
      refine ⟨hv, hv, by decide, hv, hv, hv, Or.inl ⟨⟨h, h2, h3, h4, fun _ => Classical.not_not.mp h6, fun q => absurd h5 q⟩, hk8, ?_, ?_⟩⟩
      · show s 49 0 + 1 - 1 = nI k
        rw [hs]
        exact e1
      · have e2 : (s 49 0).toNatClampNeg = k := by rw [hs]; exact cl8 hk8
        rw [← e2]
        rfl
    · rw [hs] at h7
      have := h8.mp h7
      omega
