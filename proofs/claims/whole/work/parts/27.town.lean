/-! ===== towns come; takings are told ===== -/
theorem inK {x : Int32} {k : Nat} (hk : k < 2 ^ 31) : (¬ x < 0 ∧ ¬ nI k ≤ x) ↔ ∃ j, j < k ∧ x = nI j := by
  constructor
  · rintro ⟨h0, h1⟩
    rcases pk_ix x (n := k) hk with h | h | ⟨j, hj, e⟩
    · exact absurd h h0
    · exact absurd h h1
    · exact ⟨j, hj, e⟩
  · rintro ⟨j, hj, rfl⟩
    exact ⟨nI_pos (by omega), nI_ge hj hk⟩
theorem inK1 {x : Int32} {k : Nat} (hk : k < 1000) : (0 ≤ x ∧ x ≤ nI k - 1) ↔ ∃ j, j < k ∧ x = nI j := by
  rw [← inK (by omega)]
  have h0 : 0 ≤ nI k := nI_pos' (by omega)
  have h1 : nI k ≤ (1000 : Int32) := (nI_leI (b := 1000) (by omega) (by decide)).mpr (by omega)
  generalize nI k = y at h0 h1
  constructor
  · rintro ⟨a, b⟩
    exact ⟨by grind, by grind⟩
  · rintro ⟨a, b⟩
    exact ⟨by grind, by grind⟩
theorem S3_has {l : Launch} {G : GG} {d k : Nat} (hd : 1 ≤ d) (hk : k ≤ 8) (x : Int32) {s : Mem} (hs : s 33 0 = nI k) : Spec l G d hX3_has [.inr 33, .inl x] s (fun r t => ((r = 1 ∧ ∃ j, j < k ∧ x = nI j) ∨ (r = 0 ∧ ¬ ∃ j, j < k ∧ x = nI j)) ∧ s = t) := by
  refine spec_of iX3_has (by decide +kernel) (Nat.le_of_ble_eq_true rfl) (vX3_has_0 ?_)
  refine ⟨d - 1, _, by omega, S_isIn _ _ _, ?_⟩
  rintro _ _ ⟨rfl, rfl⟩
  rw [hs]
  by_cases h : ¬ x < 0 ∧ ¬ nI k ≤ x
  · rw [if_pos h]
    exact ⟨Or.inr rfl, Or.inl ⟨rfl, (inK (by omega)).mp h⟩, rfl⟩
  · rw [if_neg h]
    exact ⟨Or.inl rfl, Or.inr ⟨rfl, fun q => h ((inK (by omega)).mpr q)⟩, rfl⟩
theorem S8_isTown {l : Launch} {G : GG} {d k : Nat} (hd : 1 ≤ d) (hk : k ≤ 8) (x : Int32) {s : Mem} (hs : s 49 11 = nI k) : Spec l G d hX8_isTown [.inr 49, .inl x] s (fun r t => ((r = 1 ∧ ∃ j, j < k ∧ x = nI j) ∨ (r = 0 ∧ ¬ ∃ j, j < k ∧ x = nI j)) ∧ s = t) := by
  refine spec_of iX8_isTown (by decide +kernel) (Nat.le_of_ble_eq_true rfl) (vX8_isTown_0 ?_)
  refine ⟨d - 1, _, by omega, S_in _ _ _ _, ?_⟩
  rintro _ _ ⟨rfl, rfl⟩
  rw [hs]
  by_cases h : 0 ≤ x ∧ x ≤ nI k - 1
  · rw [if_pos h]
    exact ⟨Or.inr rfl, Or.inl ⟨rfl, (inK1 (by omega)).mp h⟩, rfl⟩
  · rw [if_neg h]
    exact ⟨Or.inl rfl, Or.inr ⟨rfl, fun q => h ((inK1 (by omega)).mpr q)⟩, rfl⟩
def twP (a b c : Int32) : Prop := (0 ≤ a ∧ a ≤ 10000) ∧ (0 ≤ b ∧ b ≤ 29) ∧ b ≤ c ∧ c ≤ 29
abbrev twC (s : Mem) (i : Nat) (a b c : Int32) : Mem := wrM (wrM (wrM (wrM (wrM s 34 i a) 35 i b) 36 i c) 33 0 (s 33 0 + 1)) 33 6 (s 33 6 + 1)
abbrev twM (s : Mem) (i : Nat) (a b c : Int32) : Mem := wrM (wrM (wrM (wrM s 60 i a) 61 i b) 62 i c) 49 11 (s 49 11 + 1)
theorem S7_town {l : Launch} {G : GG} {d k : Nat} (hd : 2 ≤ d) (hk : k ≤ 8) (a b c : Int32) {s : Mem} (hs : s 33 0 = nI k) : Spec l G d hX7_town [.inr 0, .inl a, .inl b, .inl c] s (fun r t => (twP a b c ∧ k < 8 ∧ r = nI k ∧ t = twC s k a b c) ∨ (¬ (twP a b c ∧ k < 8) ∧ r = -1 ∧ s = t)) := by
  have inner : ∀ {d : Nat}, 1 ≤ d → Spec l G d hX3_add [.inr 33, .inl a, .inl b, .inl c] s (fun r t => (twP a b c ∧ k < 8 ∧ r = nI k ∧ t = twC s k a b c) ∨ (¬ (twP a b c ∧ k < 8) ∧ r = -1 ∧ s = t)) := by
    intro d hd
    refine spec_of iX3_add (by decide +kernel) (Nat.le_of_ble_eq_true rfl) (vX3_add_0 ?_)
    have e1 : (8 : Int32) ≤ s 33 0 ↔ ¬ k < 8 := by
      rw [hs]
      constructor
      · intro h q; exact c8f q h
      · intro h; rw [show k = 8 by omega]; exact c8t
    rw [e1]
    unfold twP
    refine ⟨fun h => Or.inr ⟨fun q => h q.2, rfl, rfl⟩, fun h => ⟨fun h2 => Or.inr ⟨by grind, rfl, rfl⟩, fun h2 => ⟨fun h3 => ?_, fun h3 => Or.inr ⟨by grind, rfl, rfl⟩⟩⟩⟩
    have hk8 := Classical.not_not.mp h
    refine ⟨d - 1, _, by omega, S_isIn _ _ _, ?_⟩
    rintro _ _ ⟨rfl, rfl⟩
    rw [i01]
    refine ⟨fun h4 => Or.inr ⟨by grind, rfl, rfl⟩, fun h4 => ?_⟩
    refine ⟨d - 1, _, by omega, S_isIn _ _ _, ?_⟩
    rintro _ _ ⟨rfl, rfl⟩
    rw [i01]
    refine ⟨fun h5 => Or.inr ⟨by grind, rfl, rfl⟩, fun h5 => ⟨fun h6 => ?_, fun h6 => Or.inr ⟨by grind, rfl, rfl⟩⟩⟩
    have hv : vp_in (s 33 0) 8 := by rw [hs]; exact vi8 hk8
    refine ⟨hv, hv, hv, Or.inl ⟨by grind, hk8, hs, ?_⟩⟩
    have e2 : (s 33 0).toNatClampNeg = k := by rw [hs]; exact cl8 hk8
    rw [← e2]
    rfl
  refine spec_of iX7_town (by decide +kernel) (Nat.le_of_ble_eq_true rfl) (vX7_town_0 ?_)
  exact ⟨d - 1, _, by omega, inner (by omega), fun _ _ q => q⟩
theorem S8_town {l : Launch} {G : GG} {d k : Nat} (hd : 1 ≤ d) (hk : k ≤ 8) (a b c : Int32) {s : Mem} (hs : s 49 11 = nI k) : Spec l G d hX8_town [.inr 49, .inl a, .inl b, .inl c] s (fun r t => (twP a b c ∧ k < 8 ∧ r = nI k ∧ t = twM s k a b c) ∨ (¬ (twP a b c ∧ k < 8) ∧ r = -1 ∧ s = t)) := by
  refine spec_of iX8_town (by decide +kernel) (Nat.le_of_ble_eq_true rfl) (vX8_town_0 ?_)
  unfold twP
  refine ⟨d - 1, _, by omega, S_in _ _ _ _, ?_⟩
  rintro _ _ ⟨rfl, rfl⟩
  rw [i01]
  refine ⟨fun h => Or.inr ⟨fun q => h q.1.1, rfl, rfl⟩, fun h => ?_⟩
  refine ⟨d - 1, _, by omega, S_in _ _ _ _, ?_⟩
  rintro _ _ ⟨rfl, rfl⟩
  rw [i01]
  refine ⟨fun h2 => Or.inr ⟨fun q => h2 q.1.2.1, rfl, rfl⟩, fun h2 => ?_⟩
  refine ⟨d - 1, _, by omega, S_in _ _ _ _, ?_⟩
  rintro _ _ ⟨rfl, rfl⟩
  rw [i01]
  have h8 : s 49 11 = (8 : Int32) ↔ k = 8 := by rw [hs]; exact nI_eq (b := 8) (by omega) (by decide)
  rw [h8]
  refine ⟨fun h3 => Or.inr ⟨fun q => h3 q.1.2.2, rfl, rfl⟩, fun h3 => ⟨fun h4 => ?_, fun h4 => Or.inr ⟨fun q => by omega, rfl, rfl⟩⟩⟩
  have hk8 : k < 8 := by omega
  have hv : vp_in (s 49 11) 8 := by rw [hs]; exact vi8 hk8
  refine ⟨hv, hv, hv, Or.inl ⟨⟨Classical.not_not.mp h, Classical.not_not.mp h2, Classical.not_not.mp h3⟩, hk8, ?_, ?_⟩⟩
  · show s 49 11 + 1 - 1 = nI k
    rw [hs, nI_1]
    exact nI_pred k
  · have e2 : (s 49 11).toNatClampNeg = k := by rw [hs]; exact cl8 hk8
    rw [← e2]
    rfl
def tkP (k : Nat) (a b c : Int32) : Prop := (∃ j, j < k ∧ a = nI j) ∧ (0 ≤ b ∧ b ≤ 6) ∧ 0 ≤ c ∧ c ≤ 1000000
abbrev tkC (s : Mem) (i : Nat) (c : Int32) : Mem := wrM (wrM (wrM s 47 i (s 47 i + c)) 48 i (s 48 i + 1)) 46 0 (s 46 0 + 1)
abbrev tkM (s : Mem) (i : Nat) (a b c : Int32) : Mem := wrM (wrM (wrM (wrM s 65 i a) 66 i b) 67 i c) 49 17 (s 49 17 + 1)
theorem ix7 {a b : Nat} : nI a * (7 : Int32) + nI b = nI (a * 7 + b) := by
  rw [show (7 : Int32) = nI 7 from rfl, pk_mul, nI_add]
theorem in7 {x : Int32} (h0 : 0 ≤ x) (h1 : x ≤ (6 : Int32)) : ∃ k : Nat, k < 7 ∧ x = nI k := by
  rcases pk_ix x (n := 7) (by decide) with h | h | ⟨j, hj, e⟩
  · exact absurd h (by grind)
  · have h : (7 : Int32) ≤ x := h
    exact absurd h (by grind)
  · exact ⟨j, hj, e⟩
theorem S7_took {l : Launch} {G : GG} {d k n : Nat} (hd : 2 ≤ d) (hk : k ≤ 8) (hn : n ≤ 500) (a b c : Int32) {s : Mem} (hs : s 33 0 = nI k) (hs2 : s 46 0 = nI n) : Spec l G d hX7_took [.inr 0, .inl a, .inl b, .inl c] s (fun r t => (∃ i j, i < k ∧ j < 7 ∧ a = nI i ∧ b = nI j ∧ (0 ≤ c ∧ c ≤ 1000000) ∧ n < 500 ∧ r = nI (n + 1) ∧ t = tkC s (i * 7 + j) c) ∨ (¬ (tkP k a b c ∧ n < 500) ∧ r = -1 ∧ s = t)) := by
  refine spec_of iX7_took (by decide +kernel) (Nat.le_of_ble_eq_true rfl) (vX7_took_0 ?_)
  refine ⟨d - 1, _, by omega, S3_has (by omega) hk a hs, ?_⟩
  rintro r1 _ ⟨hr, rfl⟩
  rcases hr with ⟨rfl, i, hi, rfl⟩ | ⟨rfl, hno⟩
  · refine ⟨fun h => absurd h (by decide), fun _ => ?_⟩
    have inner : ∀ {d : Nat}, 1 ≤ d → Spec l G d hX6_add [.inr 46, .inl (nI i), .inl b, .inl c] s (fun r t => (∃ j, j < 7 ∧ b = nI j ∧ (0 ≤ c ∧ c ≤ 1000000) ∧ n < 500 ∧ r = nI (n + 1) ∧ t = tkC s (i * 7 + j) c) ∨ (¬ (((0 ≤ b ∧ b ≤ 6) ∧ 0 ≤ c ∧ c ≤ 1000000) ∧ n < 500) ∧ r = -1 ∧ s = t)) := by
      intro d hd
      refine spec_of iX6_add (by decide +kernel) (Nat.le_of_ble_eq_true rfl) (vX6_add_0 ?_)
      have e1 : (500 : Int32) ≤ s 46 0 ↔ ¬ n < 500 := by
        rw [hs2]
        have := nI_leI (a := 500) (b := n) (by decide) (by omega)
        rw [show (500 : Int32) = nI 500 from rfl, this]
        omega
      rw [e1]
      refine ⟨fun h => Or.inr ⟨fun q => h q.2, rfl, rfl⟩, fun h => ?_⟩
      have hn5 := Classical.not_not.mp h
      refine ⟨d - 1, _, by omega, S_isIn _ _ _, ?_⟩
      rintro _ _ ⟨rfl, rfl⟩
      rw [i01]
      refine ⟨fun h4 => absurd ⟨nI_pos (by omega), c8f (by omega)⟩ h4, fun h4 => ?_⟩
      refine ⟨d - 1, _, by omega, S_isIn _ _ _, ?_⟩
      rintro _ _ ⟨rfl, rfl⟩
      rw [i01]
      refine ⟨fun h5 => ⟨fun h6 => Or.inr ⟨by grind, rfl, rfl⟩, fun h6 => ⟨fun h7 => ?_, fun h7 => Or.inr ⟨by grind, rfl, rfl⟩⟩⟩, fun h5 => Or.inr ⟨by grind, rfl, rfl⟩⟩
      obtain ⟨j, hj, rfl⟩ := in7 (x := b) (by grind) (by grind)
      rw [ix7, nI_clamp (show i * 7 + j < 2 ^ 31 by omega)]
      have hv : vp_in (nI (i * 7 + j)) 56 := vp_in_nI (by omega) (by decide)
      refine ⟨hv, hv, hv, hv, Or.inl ⟨j, hj, rfl, ⟨by grind, h7⟩, hn5, ?_, rfl⟩⟩
      show s 46 0 + 1 = nI (n + 1)
      rw [hs2, nI_1]
    refine ⟨d - 1, _, by omega, inner (by omega), ?_⟩
    rintro r t (⟨j, hj, rfl, h1, h2, h3, h4⟩ | ⟨h1, h2, h3⟩)
    · exact Or.inl ⟨i, j, hi, hj, rfl, rfl, h1, h2, h3, h4⟩
    · exact Or.inr ⟨fun q => h1 ⟨q.1.2, q.2⟩, h2, h3⟩
  · exact ⟨fun _ => Or.inr ⟨fun q => hno q.1.1, rfl, rfl⟩, fun h => absurd rfl h⟩
theorem S8_took {l : Launch} {G : GG} {d k n : Nat} (hd : 2 ≤ d) (hk : k ≤ 8) (hn : n ≤ 500) (a b c : Int32) {s : Mem} (hs : s 49 11 = nI k) (hs2 : s 49 17 = nI n) : Spec l G d hX8_took [.inr 49, .inl a, .inl b, .inl c] s (fun r t => (tkP k a b c ∧ n < 500 ∧ r = nI (n + 1) ∧ t = tkM s n a b c) ∨ (¬ (tkP k a b c ∧ n < 500) ∧ r = -1 ∧ s = t)) := by
  refine spec_of iX8_took (by decide +kernel) (Nat.le_of_ble_eq_true rfl) (vX8_took_0 ?_)
  refine ⟨d - 1, _, by omega, S8_isTown (by omega) hk a hs, ?_⟩
  rintro r1 _ ⟨hr, rfl⟩
  rcases hr with ⟨rfl, hyes⟩ | ⟨rfl, hno⟩
  · refine ⟨fun h => absurd h (by decide), fun _ => ?_⟩
    refine ⟨d - 1, _, by omega, S_in _ _ _ _, ?_⟩
    rintro _ _ ⟨rfl, rfl⟩
    rw [i01]
    refine ⟨fun h2 => Or.inr ⟨fun q => h2 q.1.2.1, rfl, rfl⟩, fun h2 => ?_⟩
    refine ⟨d - 1, _, by omega, S_in _ _ _ _, ?_⟩
    rintro _ _ ⟨rfl, rfl⟩
    rw [i01]
    have h8 : s 49 17 = (500 : Int32) ↔ n = 500 := by rw [hs2]; exact nI_eq (b := 500) (by omega) (by decide)
    rw [h8]
    refine ⟨fun h3 => Or.inr ⟨fun q => h3 q.1.2.2, rfl, rfl⟩, fun h3 => ⟨fun h4 => ?_, fun h4 => Or.inr ⟨fun q => by omega, rfl, rfl⟩⟩⟩
    have hv : vp_in (s 49 17) 500 := by rw [hs2]; exact vp_in_nI (by omega) (by decide)
    refine ⟨hv, hv, hv, Or.inl ⟨⟨hyes, Classical.not_not.mp h2, Classical.not_not.mp h3⟩, by omega, ?_, ?_⟩⟩
    · show s 49 17 + 1 = nI (n + 1)
      rw [hs2, nI_1]
    · have e2 : (s 49 17).toNatClampNeg = n := by rw [hs2]; exact nI_clamp (by omega)
      rw [← e2]
      rfl
  · exact ⟨fun _ => Or.inr ⟨fun q => hno q.1.1, rfl, rfl⟩, fun h => absurd rfl h⟩
