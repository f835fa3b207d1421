/-! ===== rests and bans ===== -/
abbrev bitI (p : Nat) : Int32 := (1 : Int32) <<< (nI p &&& 31)
def rsK (f : Nat → Int32) (p : Nat) (a : Int32) (k : Nat) : Nat → Int32 := fun b => if 1 ≤ b ∧ b < k then (if a < nI b then f b &&& (bitI p ^^^ (-1)) else f b ||| bitI p) else f b
theorem rsK_s {f : Nat → Int32} {p : Nat} {a : Int32} {k : Nat} (hk : 1 ≤ k) (v : Int32) (hv : v = if a < nI k then f k &&& (bitI p ^^^ (-1)) else f k ||| bitI p) : upd (rsK f p a k) k v = rsK f p a (k + 1) := by
  funext b
  by_cases hb : b = k
  · subst hb
    rw [upd_at, hv]
    simp only [rsK]
    rw [if_pos (show 1 ≤ b ∧ b < b + 1 by omega)]
  · rw [upd_ne hb]
    simp only [rsK]
    by_cases h1 : 1 ≤ b ∧ b < k
    · rw [if_pos h1, if_pos (show 1 ≤ b ∧ b < k + 1 by omega)]
    · rw [if_neg h1, if_neg (show ¬ (1 ≤ b ∧ b < k + 1) by omega)]
theorem rsK_at {f : Nat → Int32} {p : Nat} {a : Int32} {k : Nat} : rsK f p a k k = f k := by
  simp only [rsK]
  rw [if_neg (by omega)]
theorem S4_setRest {l : Launch} {G : GG} {d : Nat} (hd : 1 ≤ d) (q a : Int32) (s : Mem) : Spec l G d hX4_setRest [.inr 1, .inl q, .inl a] s (fun r t => (∃ p, p < 10 ∧ q = nI p ∧ (0 ≤ a ∧ a ≤ 3) ∧ r = 1 ∧ t = wrM (stM s 7 (rsK (s 7) p a 4)) 1 8 (s 1 8 + 1)) ∨ (¬ ((0 ≤ q ∧ q ≤ 9) ∧ 0 ≤ a ∧ a ≤ 3) ∧ r = 0 ∧ s = t)) := by
  refine spec_of iX4_setRest (by decide +kernel) (Nat.le_of_ble_eq_true rfl) (vX4_setRest_0 ?_)
  refine ⟨d - 1, _, by omega, S_isIn _ _ _, ?_⟩
  rintro _ _ ⟨rfl, rfl⟩
  rw [i01]
  refine ⟨fun h => ⟨Or.inl rfl, Or.inr ⟨by grind, rfl, rfl⟩⟩, fun h => ⟨fun h2 => ⟨Or.inl rfl, Or.inr ⟨by grind, rfl, rfl⟩⟩, fun h2 => ⟨fun h3 => ?_, fun h3 => ⟨Or.inl rfl, Or.inr ⟨by grind, rfl, rfl⟩⟩⟩⟩⟩
  have hq : ∃ p, p < 10 ∧ q = nI p := by
    rcases pk_ix q (n := 10) (by decide) with g | g | ⟨j, hj, g⟩
    · exact absurd g (by grind)
    · have g : (10 : Int32) ≤ q := g
      exact absurd g (by grind)
    · exact ⟨j, hj, g⟩
  obtain ⟨p, hp, rfl⟩ := hq
  have key : ∀ k, k ≤ 4 → 1 ≤ k → AW l G d hX4_setRest 22 [some (.inr 1), some (.inl (nI p)), some (.inl a), some (.inl (nI k))] [] (stM s 7 (rsK (s 7) p a k)) (fun r t => (∃ p', p' < 10 ∧ nI p = nI p' ∧ (0 ≤ a ∧ a ≤ 3) ∧ r = 1 ∧ t = wrM (stM s 7 (rsK (s 7) p' a 4)) 1 8 (s 1 8 + 1)) ∨ (¬ ((0 ≤ nI p ∧ nI p ≤ 9) ∧ 0 ≤ a ∧ a ≤ 3) ∧ r = 0 ∧ s = t)) := by
    refine down 4 ?_ ?_
    · intro _
      refine vX4_setRest_22 ⟨fun _ => ⟨Or.inr rfl, Or.inl ⟨p, hp, rfl, by grind, rfl, rfl⟩⟩, fun h => absurd (by decide) h⟩
    · intro k hk ih h1
      have hv : vp_in (nI k) 4 := vp_in_nI hk (by decide)
      have hc : (nI k).toNatClampNeg = k := nI_clamp (by omega)
      have h33 : ¬ (3 : Int32) < nI k := nI_nlt (b := k) (a := 3) (by omega) (by decide)
      have e7 : stM s 7 (rsK (s 7) p a k) 7 k = s 7 k := by
        rw [stM_self]; exact rsK_at
      have st : ∀ v : Int32, v = (if a < nI k then s 7 k &&& (bitI p ^^^ (-1)) else s 7 k ||| bitI p) → wrM (stM s 7 (rsK (s 7) p a k)) 7 k v = stM s 7 (rsK (s 7) p a (k + 1)) := by
        intro v hv
        rw [← rsK_s h1 v hv]
        funext q j
        by_cases h7 : q = 7
        · subst h7; rfl
        · simp [stM, h7]
      refine vX4_setRest_22 ⟨fun h => absurd h h33, fun _ => ?_⟩
      rw [hc, e7, nI_1]
      refine ⟨fun h => ⟨hv, hv, ?_⟩, fun h => ⟨hv, hv, ?_⟩⟩
      · rw [st _ (by rw [if_pos h])]
        exact ih (by omega)
      · rw [st _ (by rw [if_neg h])]
        exact ih (by omega)
  have k1 := key 1 (by omega) (by omega)
  have e1 : stM s 7 (rsK (s 7) p a 1) = s := by
    funext q j
    by_cases h7 : q = 7
    · subst h7
      rw [stM_self]
      simp only [rsK]
      rw [if_neg (by omega)]
    · simp [stM, h7]
  rw [e1] at k1
  exact k1
theorem S7_rests {l : Launch} {G : GG} {d : Nat} (hd : 2 ≤ d) (q a : Int32) (s : Mem) : Spec l G d hX7_rests [.inr 0, .inl q, .inl a] s (fun r t => (∃ p, p < 10 ∧ q = nI p ∧ (0 ≤ a ∧ a ≤ 3) ∧ r = 1 ∧ t = wrM (stM s 7 (rsK (s 7) p a 4)) 1 8 (s 1 8 + 1)) ∨ (¬ ((0 ≤ q ∧ q ≤ 9) ∧ 0 ≤ a ∧ a ≤ 3) ∧ r = 0 ∧ s = t)) := by
  refine spec_of iX7_rests (by decide +kernel) (Nat.le_of_ble_eq_true rfl) (vX7_rests_0 ?_)
  refine ⟨d - 1, _, by omega, S4_setRest (by omega) q a s, fun r t h => ⟨?_, h⟩⟩
  rcases h with ⟨_, _, _, _, rfl, _⟩ | ⟨_, rfl, _⟩
  · exact Or.inr rfl
  · exact Or.inl rfl
theorem S8_rests {l : Launch} {G : GG} {d : Nat} (hd : 1 ≤ d) (q a : Int32) (s : Mem) : Spec l G d hX8_rests [.inr 49, .inl q, .inl a] s (fun r t => (∃ p, p < 10 ∧ q = nI p ∧ (0 ≤ a ∧ a ≤ 3) ∧ r = 1 ∧ t = wrM s 55 p a) ∨ (¬ ((0 ≤ q ∧ q ≤ 9) ∧ 0 ≤ a ∧ a ≤ 3) ∧ r = 0 ∧ s = t)) := by
  refine spec_of iX8_rests (by decide +kernel) (Nat.le_of_ble_eq_true rfl) (vX8_rests_0 ?_)
  refine ⟨d - 1, _, by omega, S_in _ _ _ _, ?_⟩
  rintro _ _ ⟨rfl, rfl⟩
  rw [i01]
  refine ⟨fun h => ⟨Or.inl rfl, Or.inr ⟨fun z => h z.1, rfl, rfl⟩⟩, fun h => ?_⟩
  refine ⟨d - 1, _, by omega, S_in _ _ _ _, ?_⟩
  rintro _ _ ⟨rfl, rfl⟩
  rw [i01]
  refine ⟨fun h2 => ?_, fun h2 => ⟨Or.inl rfl, Or.inr ⟨fun z => h2 z.2, rfl, rfl⟩⟩⟩
  have hq : ∃ p, p < 10 ∧ q = nI p := by
    rcases pk_ix q (n := 10) (by decide) with g | g | ⟨j, hj, g⟩
    · exact absurd g (by grind)
    · have g : (10 : Int32) ≤ q := g
      exact absurd g (by grind)
    · exact ⟨j, hj, g⟩
  obtain ⟨p, hp, rfl⟩ := hq
  rw [nI_clamp (by omega)]
  exact ⟨vp_in_nI hp (by decide), Or.inr rfl, Or.inl ⟨p, hp, rfl, by grind, rfl, rfl⟩⟩
theorem in4 {x : Int32} (h0 : ¬ x < 0) (h1 : ¬ (4 : Int32) ≤ x) : ∃ k : Nat, k < 4 ∧ x = nI k := by
  rcases pk_ix x (n := 4) (by decide) with h | h | ⟨j, hj, rfl⟩
  · exact absurd h h0
  · exact absurd h h1
  · exact ⟨j, hj, rfl⟩
theorem ix4 {a b : Nat} : nI a * (4 : Int32) + nI b = nI (a * 4 + b) := by
  rw [show (4 : Int32) = nI 4 from rfl, pk_mul, nI_add]
theorem ix4b {a b : Nat} : (4 : Int32) * nI a + nI b = nI (a * 4 + b) := by
  rw [show (4 : Int32) = nI 4 from rfl, pk_mul, nI_add, Nat.mul_comm]
theorem S4_isBanned {l : Launch} {G : GG} {d i j : Nat} (hi : i < 4) (hj : j < 4) (s : Mem) : Spec l G d hX4_isBanned [.inr 1, .inl (nI i), .inl (nI j)] s (fun r t => r = (if bt (s 1 7) (i * 4 + j) then 1 else 0) ∧ s = t) := by
  refine spec_of iX4_isBanned (by decide +kernel) (Nat.le_of_ble_eq_true rfl) (vX4_isBanned_0 ?_)
  rw [ix4, bt_test (i * 4 + j) (by omega)]
  refine ⟨fun h => ⟨Or.inl rfl, by simp [h], rfl⟩, fun h => ⟨Or.inr rfl, ?_, rfl⟩⟩
  have h2 : bt (s 1 7) (i * 4 + j) = true := by simpa using h
  simp [h2]
theorem S7_ban {l : Launch} {G : GG} {d : Nat} (hd : 3 ≤ d) (a b c : Int32) (s : Mem) : Spec l G d hX7_ban [.inr 0, .inl a, .inl b, .inl c] s (fun r t => (∃ i j, i < 4 ∧ j < 4 ∧ a = nI i ∧ b = nI j ∧ ¬ (if bt (s 1 7) (i * 4 + j) then 1 else 0) = c ∧ r = 1 ∧ t = wrM (wrM s 1 7 (s 1 7 ^^^ bitI (i * 4 + j))) 1 8 (s 1 8 + 1)) ∨ (¬ ((0 ≤ a ∧ a ≤ 3) ∧ 0 ≤ b ∧ b ≤ 3) ∧ r = 0 ∧ s = t) ∨ (∃ i j, i < 4 ∧ j < 4 ∧ a = nI i ∧ b = nI j ∧ (if bt (s 1 7) (i * 4 + j) then 1 else 0) = c ∧ r = 0 ∧ s = t)) := by
  have inner : ∀ {d : Nat}, 1 ≤ d → Spec l G d hX4_setBan [.inr 1, .inl a, .inl b, .inl c] s (fun r t => (∃ i j, i < 4 ∧ j < 4 ∧ a = nI i ∧ b = nI j ∧ ¬ (if bt (s 1 7) (i * 4 + j) then 1 else 0) = c ∧ r = 1 ∧ t = wrM (wrM s 1 7 (s 1 7 ^^^ bitI (i * 4 + j))) 1 8 (s 1 8 + 1)) ∨ (¬ ((0 ≤ a ∧ a ≤ 3) ∧ 0 ≤ b ∧ b ≤ 3) ∧ r = 0 ∧ s = t) ∨ (∃ i j, i < 4 ∧ j < 4 ∧ a = nI i ∧ b = nI j ∧ (if bt (s 1 7) (i * 4 + j) then 1 else 0) = c ∧ r = 0 ∧ s = t)) := by
    intro d hd
    refine spec_of iX4_setBan (by decide +kernel) (Nat.le_of_ble_eq_true rfl) (vX4_setBan_0 ?_)
    refine ⟨d - 1, _, by omega, S_isIn _ _ _, ?_⟩
    rintro _ _ ⟨rfl, rfl⟩
    rw [i01]
    refine ⟨fun h => ⟨Or.inl rfl, Or.inr (Or.inl ⟨by grind, rfl, rfl⟩)⟩, fun h => ?_⟩
    refine ⟨d - 1, _, by omega, S_isIn _ _ _, ?_⟩
    rintro _ _ ⟨rfl, rfl⟩
    rw [i01]
    refine ⟨fun h2 => ⟨Or.inl rfl, Or.inr (Or.inl ⟨by grind, rfl, rfl⟩)⟩, fun h2 => ?_⟩
    obtain ⟨i, hi, rfl⟩ := in4 (x := a) (by grind) (by grind)
    obtain ⟨j, hj, rfl⟩ := in4 (x := b) (by grind) (by grind)
    refine ⟨d - 1, _, by omega, S4_isBanned hi hj s, ?_⟩
    rintro _ _ ⟨rfl, rfl⟩
    rw [ix4]
    exact ⟨fun q => ⟨Or.inr rfl, Or.inl ⟨i, j, hi, hj, rfl, rfl, q, rfl, rfl⟩⟩, fun q => ⟨Or.inl rfl, Or.inr (Or.inr ⟨i, j, hi, hj, rfl, rfl, q, rfl, rfl⟩)⟩⟩
  refine spec_of iX7_ban (by decide +kernel) (Nat.le_of_ble_eq_true rfl) (vX7_ban_0 ?_)
  refine ⟨d - 1, _, by omega, inner (by omega), fun r t h => ⟨?_, h⟩⟩
  rcases h with ⟨_, _, _, _, _, _, _, rfl, _⟩ | ⟨_, rfl, _⟩ | ⟨_, _, _, _, _, _, _, rfl, _⟩
  · exact Or.inr rfl
  · exact Or.inl rfl
  · exact Or.inl rfl
theorem S8_ban {l : Launch} {G : GG} {d : Nat} (hd : 1 ≤ d) (a b c : Int32) (s : Mem) : Spec l G d hX8_ban [.inr 49, .inl a, .inl b, .inl c] s (fun r t => (∃ i j, i < 4 ∧ j < 4 ∧ a = nI i ∧ b = nI j ∧ ¬ s 56 (i * 4 + j) = c ∧ r = 1 ∧ t = wrM s 56 (i * 4 + j) (vp_nar .boolean c)) ∨ (¬ ((0 ≤ a ∧ a ≤ 3) ∧ 0 ≤ b ∧ b ≤ 3) ∧ r = 0 ∧ s = t) ∨ (∃ i j, i < 4 ∧ j < 4 ∧ a = nI i ∧ b = nI j ∧ s 56 (i * 4 + j) = c ∧ r = 0 ∧ s = t)) := by
  refine spec_of iX8_ban (by decide +kernel) (Nat.le_of_ble_eq_true rfl) (vX8_ban_0 ?_)
  refine ⟨d - 1, _, by omega, S_in _ _ _ _, ?_⟩
  rintro _ _ ⟨rfl, rfl⟩
  rw [i01]
  refine ⟨fun h => ⟨Or.inl rfl, Or.inr (Or.inl ⟨fun z => h z.1, rfl, rfl⟩)⟩, fun h => ?_⟩
  refine ⟨d - 1, _, by omega, S_in _ _ _ _, ?_⟩
  rintro _ _ ⟨rfl, rfl⟩
  rw [i01]
  refine ⟨fun h2 => ⟨Or.inl rfl, Or.inr (Or.inl ⟨fun z => h2 z.2, rfl, rfl⟩)⟩, fun h2 => ?_⟩
  obtain ⟨i, hi, rfl⟩ := in4 (x := a) (by grind) (by grind)
  obtain ⟨j, hj, rfl⟩ := in4 (x := b) (by grind) (by grind)
  rw [ix4b, nI_clamp (show i * 4 + j < 2 ^ 31 by omega)]
  have hv : vp_in (nI (i * 4 + j)) 16 := vp_in_nI (by omega) (by decide)
  exact ⟨hv, fun q => ⟨hv, Or.inr rfl, Or.inl ⟨i, j, hi, hj, rfl, rfl, q, rfl, rfl⟩⟩, fun q => ⟨Or.inl rfl, Or.inr (Or.inr ⟨i, j, hi, hj, rfl, rfl, q, rfl, rfl⟩)⟩⟩
