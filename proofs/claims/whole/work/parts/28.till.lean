/-! ===== takings gathered; the common divisor ===== -/
def SF (p : Nat → Bool) (f : Nat → Nat) : Nat → Nat
  | 0 => 0
  | n + 1 => SF p f n + (if p n then f n else 0)
theorem SF_cong {p q : Nat → Bool} {f : Nat → Nat} : ∀ {n : Nat}, (∀ i, i < n → p i = q i) → SF p f n = SF q f n
  | 0, _ => rfl
  | n + 1, h => by simp only [SF, SF_cong (n := n) (fun i hi => h i (by omega)), h n (by omega)]
theorem SF_or {p q : Nat → Bool} {f : Nat → Nat} : ∀ {n : Nat}, (∀ i, i < n → ¬ (p i = true ∧ q i = true)) → SF (fun i => p i || q i) f n = SF p f n + SF q f n
  | 0, _ => rfl
  | n + 1, h => by
    have ih := SF_or (p := p) (q := q) (f := f) (n := n) (fun i hi => h i (by omega))
    have h1 := h n (by omega)
    simp only [SF, ih]
    grind
theorem SF_zero {f : Nat → Nat} : ∀ n, SF (fun _ => false) f n = 0
  | 0 => rfl
  | n + 1 => by simp [SF, SF_zero n]
theorem SF_le {p : Nat → Bool} {f : Nat → Nat} {c : Nat} : ∀ {n : Nat}, (∀ i, i < n → f i ≤ c) → SF p f n ≤ n * c
  | 0, _ => Nat.zero_le _
  | n + 1, h => by
    have ih := SF_le (p := p) (f := f) (c := c) (n := n) (fun i hi => h i (by omega))
    have h1 := h n (by omega)
    rw [Nat.succ_mul]
    simp only [SF]
    split <;> omega
def TLc (s : Mem) (N : Nat) (tw dy sm : Nat → Nat) : Prop := ∀ a b, a < 8 → b < 7 → s 47 (a * 7 + b) = nI (SF (fun i => tw i == a && dy i == b) sm N) ∧ s 48 (a * 7 + b) = nI (SF (fun i => tw i == a && dy i == b) (fun _ => 1) N)
def ppB (tw dy : Nat → Nat) (f fd ld a b : Nat) : Nat → Bool := fun i => (decide (f ≤ tw i) && decide (tw i < a) && decide (fd ≤ dy i) && decide (dy i ≤ ld)) || (tw i == a && decide (fd ≤ dy i) && decide (dy i < b))
def rect (tw dy : Nat → Nat) (f g fd ld : Nat) : Nat → Bool := fun i => decide (f ≤ tw i) && decide (tw i ≤ g) && decide (fd ≤ dy i) && decide (dy i ≤ ld)
theorem ppB_next {tw dy : Nat → Nat} {f fd ld a : Nat} (h : f ≤ a) : ppB tw dy f fd ld a (ld + 1) = ppB tw dy f fd ld (a + 1) fd := by
  funext i
  simp only [ppB]
  grind
theorem ppB_step {tw dy : Nat → Nat} {f fd ld a b : Nat} (h : fd ≤ b) : ppB tw dy f fd ld a (b + 1) = fun i => ppB tw dy f fd ld a b i || (tw i == a && dy i == b) := by
  funext i
  simp only [ppB]
  grind
theorem ppB_0 {tw dy : Nat → Nat} {f fd ld : Nat} : ppB tw dy f fd ld f fd = fun _ => false := by
  funext i
  simp only [ppB]
  grind
theorem ppB_end {tw dy : Nat → Nat} {f g fd ld : Nat} : ppB tw dy f fd ld (g + 1) fd = rect tw dy f g fd ld := by
  funext i
  simp only [ppB, rect]
  grind
def FrT (s t : Mem) : Prop := (∀ q, q ≠ 46 → t q = s q) ∧ ∀ j, j ≠ 3 → j ≠ 4 → t 46 j = s 46 j
theorem FrT.trans {s t u : Mem} (h1 : FrT s t) (h2 : FrT t u) : FrT s u := ⟨fun q q1 => (h2.1 q q1).trans (h1.1 q q1), fun j j1 j2 => (h2.2 j j1 j2).trans (h1.2 j j1 j2)⟩
theorem S6_gather {l : Launch} {G : GG} {d f g fd ld N : Nat} {tw dy sm : Nat → Nat} {s : Mem} (hT : TLc s N tw dy sm) (h1 : f ≤ g) (h2 : g < 8) (h3 : fd ≤ ld) (h4 : ld < 7) : Spec l G d hX6_gather [.inr 46, .inl (nI f), .inl (nI g), .inl (nI fd), .inl (nI ld)] s (fun _ t => t 46 3 = nI (SF (rect tw dy f g fd ld) sm N) ∧ t 46 4 = nI (SF (rect tw dy f g fd ld) (fun _ => 1) N) ∧ FrT s t) := by
  refine spec_of iX6_gather (by decide +kernel) (Nat.le_of_ble_eq_true rfl) (vX6_gather_0 ?_)
  have key : ∀ a, a ≤ g + 1 → f ≤ a → ∀ m : Mem, m 46 3 = nI (SF (ppB tw dy f fd ld a fd) sm N) → m 46 4 = nI (SF (ppB tw dy f fd ld a fd) (fun _ => 1) N) → FrT s m →
      AW l G d hX6_gather 13 [some (.inr 46), some (.inl (nI f)), some (.inl (nI g)), some (.inl (nI fd)), some (.inl (nI ld)), some (.inl (nI a)), none] [] m (fun _ t => t 46 3 = nI (SF (rect tw dy f g fd ld) sm N) ∧ t 46 4 = nI (SF (rect tw dy f g fd ld) (fun _ => 1) N) ∧ FrT s t) := by
    refine down (g + 1) ?_ ?_
    · intro _ m e3 e4 hF
      rw [ppB_end] at e3 e4
      exact vX6_gather_13 ⟨fun _ => ⟨e3, e4, hF⟩, fun h => absurd (nI_lt (by omega) (by omega)) h⟩
    · intro a ha ih hfa m e3 e4 hF
      refine vX6_gather_13 ⟨fun h => absurd h (nI_nlt (by omega) (by omega)), fun _ => ?_⟩
      have inner : ∀ b, b ≤ ld + 1 → fd ≤ b → ∀ m : Mem, m 46 3 = nI (SF (ppB tw dy f fd ld a b) sm N) → m 46 4 = nI (SF (ppB tw dy f fd ld a b) (fun _ => 1) N) → FrT s m →
          AW l G d hX6_gather 22 [some (.inr 46), some (.inl (nI f)), some (.inl (nI g)), some (.inl (nI fd)), some (.inl (nI ld)), some (.inl (nI a)), some (.inl (nI b))] [] m (fun _ t => t 46 3 = nI (SF (rect tw dy f g fd ld) sm N) ∧ t 46 4 = nI (SF (rect tw dy f g fd ld) (fun _ => 1) N) ∧ FrT s t) := by
        refine down (ld + 1) ?_ ?_
        · intro _ m e3 e4 hF
          rw [ppB_next hfa] at e3 e4
          refine vX6_gather_22 ⟨fun _ => ?_, fun h => absurd (nI_lt (by omega) (by omega)) h⟩
          rw [nI_1]
          exact aw_weak (L := [some (.inr 46), some (.inl (nI f)), some (.inl (nI g)), some (.inl (nI fd)), some (.inl (nI ld)), some (.inl (nI (a + 1))), none]) ⟨rfl, rfl, rfl, rfl, rfl, rfl, trivial⟩ (ih (by omega) m e3 e4 hF)
        · intro b hb ih2 hfb m e3 e4 hF
          refine vX6_gather_22 ⟨fun h => absurd h (nI_nlt (by omega) (by omega)), fun _ => ?_⟩
          rw [ix7, nI_clamp (show a * 7 + b < 2 ^ 31 by omega), nI_1]
          have hv : vp_in (nI (a * 7 + b)) 56 := vp_in_nI (by omega) (by decide)
          have hc := hT a b (by omega) (by omega)
          have e47 : m 47 (a * 7 + b) = s 47 (a * 7 + b) := by rw [hF.1 47 (by decide)]
          have e48 : m 48 (a * 7 + b) = s 48 (a * 7 + b) := by rw [hF.1 48 (by decide)]
          have dis : ∀ i, i < N → ¬ (ppB tw dy f fd ld a b i = true ∧ (tw i == a && dy i == b) = true) := by
            intro i _
            simp only [ppB]
            grind
          refine ⟨hv, hv, ih2 (by omega) _ ?_ ?_ (hF.trans ⟨fun q hq => ?_, fun j j1 j2 => ?_⟩)⟩
          · show m 46 3 + m 47 (a * 7 + b) = _
            rw [e3, e47, hc.1, nI_add, ppB_step hfb, SF_or dis]
          · show m 46 4 + m 48 (a * 7 + b) = _
            rw [e4, e48, hc.2, nI_add, ppB_step hfb, SF_or dis]
          · show stM (stM m 46 _) 46 _ q = m q
            rw [stM_ne hq, stM_ne hq]
          · show upd (upd (m 46) 3 _) 4 _ j = m 46 j
            rw [upd_ne j2, upd_ne j1]
      exact inner fd (by omega) (Nat.le_refl _) m e3 e4 hF
  refine key f (by omega) (Nat.le_refl _) _ ?_ ?_ ⟨fun q hq => ?_, fun j j1 j2 => ?_⟩
  · rw [ppB_0, SF_zero]; rfl
  · rw [ppB_0, SF_zero]; rfl
  · show stM (stM s 46 _) 46 _ q = s q
    rw [stM_ne hq, stM_ne hq]
  · show upd (upd (s 46) 3 _) 4 _ j = s 46 j
    rw [upd_ne j2, upd_ne j1]
theorem gcd_s (g x : Nat) : Nat.gcd g x = Nat.gcd x (g % x) := by
  rw [Nat.gcd_comm g x, Nat.gcd_rec x g, Nat.gcd_comm]
theorem S6_cd {l : Launch} {G : GG} {d a b : Nat} (ha : a < 2 ^ 31) (hb : b ≤ 500) (s : Mem) : Spec l G d hX6_commonDivisor [.inl (nI a), .inl (nI b)] s (fun r t => r = nI (Nat.gcd a b) ∧ s = t) := by
  refine spec_of iX6_commonDivisor (by decide +kernel) (Nat.le_of_ble_eq_true rfl) (vX6_commonDivisor_0 ?_)
  have z : ∀ {x : Nat}, x < 2 ^ 31 → (nI x = 0 ↔ x = 0) := fun {x} hx => nI_eq (a := x) (b := 0) hx (by decide)
  have c64 : ∀ {k : Nat}, k < 64 → ¬ (64 : Int32) ≤ nI k := fun {k} h => nI_ge (b := 64) h (by decide)
  have key : ∀ (j g x k : Nat), x ≤ g → 0 < g → g < 2 ^ 31 → g * x < 2 ^ j → k + j ≤ 60 → Nat.gcd g x = Nat.gcd a b →
      AW l G d hX6_commonDivisor 7 [some (.inl (nI a)), some (.inl (nI b)), some (.inl (nI g)), some (.inl (nI x)), some (.inl (nI k)), none] [] s (fun r t => r = nI (Nat.gcd a b) ∧ s = t) := by
    intro j
    induction j with
    | zero =>
      intro g x k hx hg hg2 hm hk he
      have hx0 : x = 0 := by
        rcases Nat.eq_zero_or_pos x with q | q
        · exact q
        · have := Nat.mul_pos hg q
          omega
      subst hx0
      have e : nI g = nI (Nat.gcd a b) := by rw [← he, Nat.gcd_zero_right]
      exact vX6_commonDivisor_7 ⟨fun _ => ⟨e, rfl⟩, fun _ => ⟨fun _ => ⟨e, rfl⟩, fun h => absurd ((z (by omega)).mpr rfl) h⟩⟩
    | succ j ih =>
      intro g x k hx hg hg2 hm hk he
      refine vX6_commonDivisor_7 ⟨fun h => absurd h (c64 (by omega)), fun _ => ⟨fun h => ?_, fun h => ⟨h, ?_⟩⟩⟩
      · have hx0 := (z (by omega)).mp h
        subst hx0
        exact ⟨by rw [← he, Nat.gcd_zero_right], rfl⟩
      · have hx0 : 0 < x := by
          rcases Nat.eq_zero_or_pos x with q | q
          · exact absurd ((z (by omega)).mpr q) h
          · exact q
        rw [pk_rem hg2 hx0 (by omega), nI_1]
        have hlt := Nat.mod_lt g hx0
        refine aw_weak (L := [some (.inl (nI a)), some (.inl (nI b)), some (.inl (nI x)), some (.inl (nI (g % x))), some (.inl (nI (k + 1))), none]) ⟨rfl, rfl, rfl, rfl, rfl, trivial⟩ (ih x (g % x) (k + 1) (by omega) hx0 (by omega) ?_ (by omega) (by rw [← gcd_s]; exact he))
        have h5 : x + g % x ≤ g := by
          have := Nat.mod_add_div g x
          have h6 : 1 ≤ g / x := Nat.div_pos hx hx0
          have h7 : x * 1 ≤ x * (g / x) := Nat.mul_le_mul_left x h6
          omega
        have h8 : (x + g % x) * x ≤ g * x := Nat.mul_le_mul_right x h5
        have h9 : (g % x) * x ≤ x * x := Nat.mul_le_mul_right x (by omega)
        rw [Nat.add_mul] at h8
        have h10 : x * (g % x) = (g % x) * x := Nat.mul_comm _ _
        rw [Nat.pow_succ] at hm
        omega
  refine vX6_commonDivisor_7 ⟨fun h => absurd h (c64 (k := 0) (by decide)), fun _ => ⟨fun h => ?_, fun h => ⟨h, ?_⟩⟩⟩
  · have hb0 := (z (by omega)).mp h
    subst hb0
    exact ⟨by rw [Nat.gcd_zero_right], rfl⟩
  · have hb0 : 0 < b := by
      rcases Nat.eq_zero_or_pos b with q | q
      · exact absurd ((z (by omega)).mpr q) h
      · exact q
    rw [pk_rem ha hb0 (by omega)]
    have hlt := Nat.mod_lt a hb0
    refine aw_weak (L := [some (.inl (nI a)), some (.inl (nI b)), some (.inl (nI b)), some (.inl (nI (a % b))), some (.inl (nI (0 + 1))), none]) ⟨rfl, rfl, rfl, rfl, rfl, trivial⟩ (key 18 b (a % b) (0 + 1) (by omega) hb0 (by omega) ?_ (by omega) (gcd_s a b).symm)
    have h1 : b * (a % b) ≤ b * 500 := Nat.mul_le_mul_left b (by omega)
    have h2 : b * 500 ≤ 500 * 500 := Nat.mul_le_mul_right 500 hb
    omega
