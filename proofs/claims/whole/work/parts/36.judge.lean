/-! ===== orders told: judge and gaps ===== -/
def tellP (x y : Int32) : Prop := ∃ o k, x = nI o ∧ y = nI k ∧ o < 2 ^ 31 ∧ k ≤ 8 ∧ o / 10 ^ k = 0
theorem dig_step (o p : Nat) : o / 10 ^ p / 10 = o / 10 ^ (p + 1) := by rw [Nat.div_div_eq_div_mul, ← Nat.pow_succ]
theorem pw_lt {o p : Nat} (h : o < 2 ^ 31) : o / 10 ^ p < 2 ^ 31 := Nat.lt_of_le_of_lt (Nat.div_le_self _ _) h
theorem dig_div {o p : Nat} (ho : o < 2 ^ 31) : nI (o / 10 ^ p) / (10 : Int32) = nI (o / 10 ^ (p + 1)) := by
  rw [← dig_step]
  exact pk_div (d := 10) (pw_lt ho) (by decide) (by decide)
theorem dig_rem {o p : Nat} (ho : o < 2 ^ 31) : nI (o / 10 ^ p) - nI (o / 10 ^ p) / (10 : Int32) * (10 : Int32) = nI (o / 10 ^ p % 10) := pk_rem (d := 10) (pw_lt ho) (by decide) (by decide)
theorem S2_canBeTold {l : Launch} {G : GG} {d : Nat} (x y : Int32) (s : Mem) : Spec l G d hX2_canBeTold [.inl x, .inl y] s (fun r t => ((r = 1 ∧ tellP x y) ∨ (r = 0 ∧ ¬ tellP x y)) ∧ s = t) := by
  refine spec_of iX2_canBeTold (by decide +kernel) (Nat.le_of_ble_eq_true rfl) (vX2_canBeTold_0 ?_)
  refine ⟨fun h => ⟨Or.inl rfl, Or.inr ⟨rfl, ?_⟩, rfl⟩, fun h => ⟨fun h2 => ⟨Or.inl rfl, Or.inr ⟨rfl, ?_⟩, rfl⟩, fun h2 => ⟨fun h3 => ?_, fun h3 => ⟨Or.inl rfl, Or.inr ⟨rfl, ?_⟩, rfl⟩⟩⟩⟩
  · rintro ⟨o, k, rfl, _, ho, _⟩
    exact nI_pos ho h
  · rintro ⟨o, k, _, rfl, _, hk, _⟩
    exact nI_pos (by omega) h2
  · obtain ⟨o, ho, rfl⟩ := nI_of h
    obtain ⟨k, hk, rfl⟩ := nI_of2 (x := y) (M := 8) (n := 8) (by decide) h2 h3
    have loop : ∀ p, p ≤ k → AW l G d hX2_canBeTold 20 [some (.inl (nI o)), some (.inl (nI k)), some (.inl (nI (o / 10 ^ p))), some (.inl (nI p))] [] s (fun r t => ((r = 1 ∧ tellP (nI o) (nI k)) ∨ (r = 0 ∧ ¬ tellP (nI o) (nI k))) ∧ s = t) := by
      refine down k ?_ ?_
      · have e0 : nI (o / 10 ^ k) = 0 ↔ o / 10 ^ k = 0 := nI_eq (b := 0) (pw_lt ho) (by decide)
        refine vX2_canBeTold_20 ⟨fun _ => ?_, fun h => absurd (nI_le (Nat.le_refl k) (by omega)) h⟩
        rw [e0]
        refine ⟨fun q => ⟨Or.inl rfl, Or.inr ⟨rfl, ?_⟩, rfl⟩, fun q => ⟨Or.inr rfl, Or.inl ⟨rfl, o, k, rfl, rfl, ho, hk, q⟩, rfl⟩⟩
        rintro ⟨o', k', h1, h2, h3, h4, h5⟩
        have e1 := (nI_eq ho h3).mp h1
        have e2 := (nI_eq (a := k) (b := k') (by omega) (by omega)).mp h2
        subst e1 e2
        exact q h5
      · intro p hp ih
        refine vX2_canBeTold_20 ⟨fun h => absurd h (nI_ge hp (by omega)), fun _ => ⟨by decide, ?_⟩⟩
        rw [dig_div ho, nI_1]
        exact ih
    have h0 := loop 0 (Nat.zero_le _)
    rw [Nat.pow_zero, Nat.div_one] at h0
    exact h0
  · rintro ⟨o, k, _, rfl, _, hk, _⟩
    exact h3 (nI_le (b := 8) hk (by decide))
def FrJ (s t : Mem) : Prop := ∀ q, q ≠ 8 → q ≠ 9 → q ≠ 10 → q ≠ 11 → q ≠ 12 → q ≠ 13 → q ≠ 14 → t q = s q
theorem ShC_J {s t : Mem} {D : Shw} (h : ShC s D) (hf : FrJ s t) : ShC t D := ShC_fr h (fun q h1 h2 => hf q (by omega) (by omega) (by omega) (by omega) (by omega) (by omega) (by omega))
theorem S2_read {l : Launch} {G : GG} {d o k : Nat} {D : Shw} {s : Mem} (hd : 3 ≤ d) (hD : ShOk D) (hS : ShC s D) (hR : RowC D (s 9) (s 10) (s 11) (s 12) (s 13) (s 14) []) (ho : o < 2 ^ 31) (hk : k ≤ 8) : Spec l G d hX2_read [.inr 8, .inl (nI o), .inl (nI k)] s (fun r t => ∃ p w, JRn D o k p w ∧ r = nI w ∧ t 8 7 = nI p ∧ (w = 0 → t 13 k = nI (gpN D (dlN o k))) ∧ RowC D (t 9) (t 10) (t 11) (t 12) (t 13) (t 14) [] ∧ FrJ s t) := by
  refine spec_of iX2_read (by decide +kernel) (Nat.le_of_ble_eq_true rfl) (vX2_read_told_0 ?_)
  have hD0 := hD.1
  have loop : ∀ p, p ≤ k → ∀ m, FrJ s m → (∀ i, i < p → brkN D (o / 10 ^ i % 10) (dlN o i) = 0) → VdN (D 0 0) (dlN o p) → RowC D (m 9) (m 10) (m 11) (m 12) (m 13) (m 14) (dlN o p) → AW l G d hX2_read 5 [some (.inr 8), some (.inl (nI o)), some (.inl (nI k)), some (.inl (nI (o / 10 ^ p))), some (.inl (nI p)), none] [] m (fun r t => ∃ p w, JRn D o k p w ∧ r = nI w ∧ t 8 7 = nI p ∧ (w = 0 → t 13 k = nI (gpN D (dlN o k))) ∧ RowC D (t 9) (t 10) (t 11) (t 12) (t 13) (t 14) [] ∧ FrJ s t) := by
    refine down k ?_ ?_
    · intro m hf hall hv hRm
      have hSm := ShC_J hS hf
      have e : (wrM m 8 7 (nI k)) 1 0 = nI (D 0 0) := hSm.1
      have hg : m 13 k = nI (gpN D (dlN o k)) := by
        have := (RowC_at hRm).2.2.2.1
        rw [dl_len] at this
        exact this
      have hfr : FrJ s (wrM m 8 7 (nI k)) := fun q b1 b2 b3 b4 b5 b6 b7 => (stM_ne b1).trans (hf q b1 b2 b3 b4 b5 b6 b7)
      refine vX2_read_told_5 ⟨fun _ => ?_, fun h => absurd (nI_le (Nat.le_refl k) (by omega)) h⟩
      rw [e, nI_leI (by omega) (by omega)]
      refine ⟨fun h => ⟨k, 0, Or.inr ⟨rfl, hall, by rw [if_neg (by omega)]⟩, rfl, rfl, fun _ => hg, RowC_nil hRm, hfr⟩, fun h => ⟨k, 4, Or.inr ⟨rfl, hall, by rw [if_pos (by omega)]⟩, rfl, rfl, fun h => absurd h (by decide), RowC_nil hRm, hfr⟩⟩
    · intro p hp ih m hf hall hv hRm
      have hSm := ShC_J hS hf
      refine vX2_read_told_5 ⟨fun h => absurd h (nI_ge hp (by omega)), fun _ => ⟨by decide, d - 1, (fun r t => r = nI (brkN D (o / 10 ^ p % 10) (dlN o p)) ∧ FrO_told m t ∧ RowC D (t 9) (t 10) (t 11) (t 12) (t 13) (t 14) (dlN o p) ∧ (brkN D (o / 10 ^ p % 10) (dlN o p) = 0 → RowC D (t 9) (t 10) (t 11) (t 12) (t 13) (t 14) (o / 10 ^ p % 10 :: dlN o p))), by omega, ?_, ?_⟩⟩
      · rw [dig_rem ho]
        have sp := S2_put_told (l := l) (G := G) (d := d - 1) (a := o / 10 ^ p % 10) (L := dlN o p) (by omega) hD hSm hv hRm (by rw [dl_len]; omega) (Nat.mod_lt _ (by decide))
        rw [dl_len] at sp
        exact sp
      · rintro r1 t1 ⟨rfl, hf1, hR1, hR2⟩
        have hb := brk_le (D := D) (a := o / 10 ^ p % 10) (L := dlN o p)
        have e : nI (brkN D (o / 10 ^ p % 10) (dlN o p)) = 0 ↔ brkN D (o / 10 ^ p % 10) (dlN o p) = 0 := nI_eq (b := 0) (by omega) (by decide)
        have hf2 : FrJ s t1 := fun q b1 b2 b3 b4 b5 b6 b7 => (hf1 q b2 b3 b4 b5 b6 b7).trans (hf q b1 b2 b3 b4 b5 b6 b7)
        rw [e]
        refine ⟨fun h => ⟨by decide, ?_⟩, fun h => ⟨p, brkN D (o / 10 ^ p % 10) (dlN o p), Or.inl ⟨hp, rfl, h, hall⟩, rfl, rfl, fun q => absurd q h, RowC_nil hR1, fun q b1 b2 b3 b4 b5 b6 b7 => (stM_ne b1).trans (hf2 q b1 b2 b3 b4 b5 b6 b7)⟩⟩
        rw [dig_div ho, nI_1]
        refine aw_weak (L := [some (.inr 8), some (.inl (nI o)), some (.inl (nI k)), some (.inl (nI (o / 10 ^ (p + 1)))), some (.inl (nI (p + 1))), none]) ⟨rfl, rfl, rfl, rfl, rfl, trivial⟩ (ih t1 hf2 (fun i hi => ?_) (VdN_cons hv (brk_ok h).1 (brk_ok h).2) (hR2 h))
        by_cases hi2 : i < p
        · exact hall i hi2
        · have : i = p := by omega
          subst this
          exact h
  have h0 := loop 0 (Nat.zero_le _) s (fun _ _ _ _ _ _ _ _ => rfl) (fun i hi => absurd hi (Nat.not_lt_zero i)) VdN_nil hR
  rw [Nat.pow_zero, Nat.div_one] at h0
  exact h0
def jdV (D : Shw) (x y z r : Int32) : Prop := (∃ o k p w, x = nI o ∧ y = nI k ∧ o < 2 ^ 31 ∧ k ≤ 8 ∧ o / 10 ^ k = 0 ∧ (0 ≤ z ∧ z ≤ 1) ∧ JRn D o k p w ∧ r = if w = 0 then -1 else if z = 0 then nI p else nI w) ∨ (¬ (tellP x y ∧ 0 ≤ z ∧ z ≤ 1) ∧ r = -1)
def gpV (D : Shw) (x y r : Int32) : Prop := (∃ o k p w, x = nI o ∧ y = nI k ∧ o < 2 ^ 31 ∧ k ≤ 8 ∧ o / 10 ^ k = 0 ∧ JRn D o k p w ∧ r = if w = 0 then nI (gpN D (dlN o k)) else -1) ∨ (¬ tellP x y ∧ r = -1)
theorem jdV_det {D : Shw} {x y z r r' : Int32} (h : jdV D x y z r) (h' : jdV D x y z r') : r = r' := by
  rcases h with ⟨o, k, p, w, e1, e2, h1, h2, h3, h4, h5, h6⟩ | ⟨h1, h2⟩
  · rcases h' with ⟨o', k', p', w', f1, f2, g1, g2, g3, g4, g5, g6⟩ | ⟨g1, g2⟩
    · have a1 := (nI_eq h1 g1).mp (e1.symm.trans f1)
      have a2 := (nI_eq (a := k) (b := k') (by omega) (by omega)).mp (e2.symm.trans f2)
      subst a1 a2
      obtain ⟨b1, b2⟩ := JR_det h5 g5
      subst b1 b2
      exact h6.trans g6.symm
    · exact absurd ⟨⟨o, k, e1, e2, h1, h2, h3⟩, h4⟩ g1
  · rcases h' with ⟨o', k', p', w', f1, f2, g1, g2, g3, g4, g5, g6⟩ | ⟨g1, g2⟩
    · exact absurd ⟨⟨o', k', f1, f2, g1, g2, g3⟩, g4⟩ h1
    · exact h2.trans g2.symm
theorem gpV_det {D : Shw} {x y r r' : Int32} (h : gpV D x y r) (h' : gpV D x y r') : r = r' := by
  rcases h with ⟨o, k, p, w, e1, e2, h1, h2, h3, h5, h6⟩ | ⟨h1, h2⟩
  · rcases h' with ⟨o', k', p', w', f1, f2, g1, g2, g3, g5, g6⟩ | ⟨g1, g2⟩
    · have a1 := (nI_eq h1 g1).mp (e1.symm.trans f1)
      have a2 := (nI_eq (a := k) (b := k') (by omega) (by omega)).mp (e2.symm.trans f2)
      subst a1 a2
      obtain ⟨b1, b2⟩ := JR_det h5 g5
      subst b1 b2
      exact h6.trans g6.symm
    · exact absurd ⟨o, k, e1, e2, h1, h2, h3⟩ g1
  · rcases h' with ⟨o', k', p', w', f1, f2, g1, g2, g3, g5, g6⟩ | ⟨g1, g2⟩
    · exact absurd ⟨o', k', f1, f2, g1, g2, g3⟩ h1
    · exact h2.trans g2.symm
theorem JR_w {D : Shw} {o k p w : Nat} (h : JRn D o k p w) : w ≤ 4 ∧ p ≤ k := by
  rcases h with ⟨h1, h2, _, _⟩ | ⟨h1, _, h2⟩
  · have := brk_le (D := D) (a := o / 10 ^ p % 10) (L := dlN o p)
    omega
  · have : w ≤ 4 := by
      rw [h2]
      split <;> decide
    exact ⟨this, by omega⟩
theorem S7_judge {l : Launch} {G : GG} {d : Nat} {D : Shw} {s : Mem} (hd : 4 ≤ d) (hD : ShOk D) (hS : ShC s D) (hR : RowC D (s 9) (s 10) (s 11) (s 12) (s 13) (s 14) []) (x y z : Int32) : Spec l G d hX7_judge [.inr 0, .inl x, .inl y, .inl z] s (fun r t => jdV D x y z r ∧ RowC D (t 9) (t 10) (t 11) (t 12) (t 13) (t 14) [] ∧ FrJ s t) := by
  refine spec_of iX7_judge (by decide +kernel) (Nat.le_of_ble_eq_true rfl) (vX7_judge_0 ?_)
  have fr0 : FrJ s s := fun _ _ _ _ _ _ _ _ => rfl
  refine ⟨fun h => ⟨Or.inr ⟨fun q => ?_, rfl⟩, hR, fr0⟩, fun h => ⟨fun h2 => ⟨Or.inr ⟨fun q => ?_, rfl⟩, hR, fr0⟩, fun h2 => ?_⟩⟩
  · have := q.2.1; grind
  · have := q.2.2; grind
  refine ⟨d - 1, _, by omega, S2_canBeTold x y s, ?_⟩
  rintro r1 _ ⟨hr, rfl⟩
  rcases hr with ⟨rfl, o, k, rfl, rfl, ho, hk, hz⟩ | ⟨rfl, hno⟩
  rotate_left
  · exact ⟨fun h => absurd rfl h, fun _ => ⟨Or.inr ⟨fun q => hno q.1, rfl⟩, hR, fr0⟩⟩
  refine ⟨fun _ => ⟨d - 1, _, by omega, S2_read (by omega) hD hS hR ho hk, ?_⟩, fun h => absurd h (by decide)⟩
  rintro _ t ⟨p, w, hj, rfl, h8, _, hRt, hf⟩
  have hw := JR_w hj
  have e : nI w = 0 ↔ w = 0 := nI_eq (b := 0) (by omega) (by decide)
  have hz1 : 0 ≤ z ∧ z ≤ 1 := by constructor <;> grind
  rw [e]
  refine ⟨fun h3 => ⟨fun h4 => ⟨Or.inl ⟨o, k, p, w, rfl, rfl, ho, hk, hz, hz1, hj, ?_⟩, hRt, hf⟩, fun h4 => ⟨Or.inl ⟨o, k, p, w, rfl, rfl, ho, hk, hz, hz1, hj, ?_⟩, hRt, hf⟩⟩, fun h3 => ⟨Or.inl ⟨o, k, p, w, rfl, rfl, ho, hk, hz, hz1, hj, ?_⟩, hRt, hf⟩⟩
  · rw [if_neg h3, if_neg h4]
  · rw [if_neg h3, if_pos h4, h8]
  · rw [if_pos h3]
theorem S7_gaps {l : Launch} {G : GG} {d : Nat} {D : Shw} {s : Mem} (hd : 4 ≤ d) (hD : ShOk D) (hS : ShC s D) (hR : RowC D (s 9) (s 10) (s 11) (s 12) (s 13) (s 14) []) (x y : Int32) : Spec l G d hX7_gaps [.inr 0, .inl x, .inl y] s (fun r t => gpV D x y r ∧ RowC D (t 9) (t 10) (t 11) (t 12) (t 13) (t 14) [] ∧ FrJ s t) := by
  refine spec_of iX7_gaps (by decide +kernel) (Nat.le_of_ble_eq_true rfl) (vX7_gaps_0 ?_)
  have fr0 : FrJ s s := fun _ _ _ _ _ _ _ _ => rfl
  refine ⟨d - 1, _, by omega, S2_canBeTold x y s, ?_⟩
  rintro r1 _ ⟨hr, rfl⟩
  rcases hr with ⟨rfl, o, k, rfl, rfl, ho, hk, hz⟩ | ⟨rfl, hno⟩
  rotate_left
  · exact ⟨fun _ => ⟨Or.inr ⟨hno, rfl⟩, hR, fr0⟩, fun h => absurd rfl h⟩
  refine ⟨fun h => absurd h (by decide), fun _ => ⟨d - 1, _, by omega, S2_read (by omega) hD hS hR ho hk, ?_⟩⟩
  rintro _ t ⟨p, w, hj, rfl, h8, hg, hRt, hf⟩
  have hw := JR_w hj
  have e : nI w = 0 ↔ w = 0 := nI_eq (b := 0) (by omega) (by decide)
  rw [e, nI_clamp (n := k) (by omega)]
  refine ⟨fun h3 => ⟨vp_in_nI (by omega) (by decide), Or.inl ⟨o, k, p, w, rfl, rfl, ho, hk, hz, hj, ?_⟩, hRt, hf⟩, fun h3 => ⟨Or.inl ⟨o, k, p, w, rfl, rfl, ho, hk, hz, hj, ?_⟩, hRt, hf⟩⟩
  · rw [if_pos h3, hg h3]
  · rw [if_neg h3]
