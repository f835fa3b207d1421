/-! ===== what is foretold, the class's way ===== -/
theorem TLc_fr {s t : Mem} {N : Nat} {tw dy sm : Nat → Nat} (h : TLc s N tw dy sm) (hF : FrT s t) : TLc t N tw dy sm := by
  intro a b ha hb
  rw [hF.1 47 (by decide), hF.1 48 (by decide)]
  exact h a b ha hb
def RRl (tw dy : Nat → Nat) (a b : Nat) : Nat → Nat → Bool
  | 0 => rect tw dy a a b b
  | 1 => rect tw dy a a 0 6
  | 2 => rect tw dy 0 7 b b
  | _ => rect tw dy 0 7 0 6
def pick (c : Nat → Nat) : Nat := if ¬ c 0 = 0 then 0 else if ¬ c 1 = 0 then 1 else if ¬ c 2 = 0 then 2 else 3
def fAb (S C : Nat) : Nat := S / Nat.gcd S C
def fBe (S C : Nat) : Nat := if Nat.gcd S C = 0 then 1 else C / Nat.gcd S C
theorem S6_reduce {l : Launch} {G : GG} {d S C : Nat} (hd : 1 ≤ d) (hS : S < 2 ^ 31) (hC : C ≤ 500) {s : Mem} (e3 : s 46 3 = nI S) (e4 : s 46 4 = nI C) : Spec l G d hX6_reduce [.inr 46] s (fun _ t => t 46 3 = nI (fAb S C) ∧ t 46 4 = nI (fBe S C) ∧ FrT s t) := by
  refine spec_of iX6_reduce (by decide +kernel) (Nat.le_of_ble_eq_true rfl) (vX6_reduce_0 ?_)
  rw [e3, e4]
  refine ⟨d - 1, _, by omega, S6_cd hS hC s, ?_⟩
  rintro _ _ ⟨rfl, rfl⟩
  have hg : Nat.gcd S C < 2 ^ 31 := by
    rcases Nat.eq_zero_or_pos C with q | q
    · subst q; rw [Nat.gcd_zero_right]; exact hS
    · have := Nat.gcd_le_right S q
      omega
  refine ⟨fun h => ?_, fun h => ?_⟩
  · have h0 : Nat.gcd S C = 0 := by
      rcases Nat.eq_zero_or_pos (Nat.gcd S C) with q | q
      · exact q
      · exact absurd h (nI_nle q hg)
    refine ⟨?_, ?_, fun q hq => ?_, fun j j1 j2 => ?_⟩
    · show s 46 3 = _
      rw [e3]
      have hS0 : S = 0 := Nat.eq_zero_of_gcd_eq_zero_left h0
      unfold fAb
      rw [hS0, Nat.zero_div]
    · show (1 : Int32) = _
      unfold fBe
      rw [if_pos h0]
      rfl
    · show stM s 46 _ q = s q
      rw [stM_ne hq]
    · show upd (s 46) 4 _ j = s 46 j
      rw [upd_ne j2]
  · have h0 : 0 < Nat.gcd S C := by
      rcases Nat.eq_zero_or_pos (Nat.gcd S C) with q | q
      · rw [q] at h; exact absurd (by decide) h
      · exact q
    have hne : ¬ nI (Nat.gcd S C) = 0 := nI_ne0 h0 hg
    refine ⟨hne, hne, ?_, ?_, fun q hq => ?_, fun j j1 j2 => ?_⟩
    · show s 46 3 / nI (Nat.gcd S C) = _
      rw [e3, pk_div hS h0 hg]
      rfl
    · show s 46 4 / nI (Nat.gcd S C) = _
      rw [e4, pk_div (by omega) h0 hg]
      unfold fBe
      rw [if_neg (by omega)]
    · show stM (stM s 46 _) 46 _ q = s q
      rw [stM_ne hq, stM_ne hq]
    · show upd (upd (s 46) 3 _) 4 _ j = s 46 j
      rw [upd_ne j2, upd_ne j1]
theorem S6_foretell {l : Launch} {G : GG} {d a b N : Nat} (hd : 2 ≤ d) (ha : a < 8) (hb : b < 7) (hN : N ≤ 500) {tw dy sm : Nat → Nat} (hsm : ∀ i, i < N → sm i ≤ 1000000) {s : Mem} (hT : TLc s N tw dy sm) : Spec l G d hX6_foretell [.inr 46, .inl (nI a), .inl (nI b)] s (fun _ t => t 46 3 = nI (fAb (SF (RRl tw dy a b (pick (fun k => SF (RRl tw dy a b k) (fun _ => 1) N))) sm N) (SF (RRl tw dy a b (pick (fun k => SF (RRl tw dy a b k) (fun _ => 1) N))) (fun _ => 1) N)) ∧ t 46 4 = nI (fBe (SF (RRl tw dy a b (pick (fun k => SF (RRl tw dy a b k) (fun _ => 1) N))) sm N) (SF (RRl tw dy a b (pick (fun k => SF (RRl tw dy a b k) (fun _ => 1) N))) (fun _ => 1) N)) ∧ FrT s t) := by
  refine spec_of iX6_foretell (by decide +kernel) (Nat.le_of_ble_eq_true rfl) (vX6_foretell_0 ?_)
  have hS : ∀ p, SF p sm N < 2 ^ 31 := fun p => by
    have := SF_le (p := p) hsm
    have h2 : N * 1000000 ≤ 500 * 1000000 := Nat.mul_le_mul_right _ hN
    omega
  have hC : ∀ p, SF p (fun _ => 1) N ≤ 500 := fun p => by
    have := SF_le (p := p) (f := fun _ => 1) (c := 1) (n := N) (fun _ _ => Nat.le_refl 1)
    omega
  have z : ∀ p, nI (SF p (fun _ => 1) N) = 0 ↔ SF p (fun _ => 1) N = 0 := fun p => nI_eq (b := 0) (by have := hC p; omega) (by decide)
  have g0 : ∀ {m : Mem}, TLc m N tw dy sm → Spec l G (d - 1) hX6_gather [.inr 46, .inl (nI a), .inl (nI a), .inl (nI b), .inl (nI b)] m (fun _ t => t 46 3 = nI (SF (RRl tw dy a b 0) sm N) ∧ t 46 4 = nI (SF (RRl tw dy a b 0) (fun _ => 1) N) ∧ FrT m t) := fun h => S6_gather h (Nat.le_refl _) ha (Nat.le_refl _) hb
  have g1 : ∀ {m : Mem}, TLc m N tw dy sm → Spec l G (d - 1) hX6_gather [.inr 46, .inl (nI a), .inl (nI a), .inl (0 : Int32), .inl (6 : Int32)] m (fun _ t => t 46 3 = nI (SF (RRl tw dy a b 1) sm N) ∧ t 46 4 = nI (SF (RRl tw dy a b 1) (fun _ => 1) N) ∧ FrT m t) := fun h => S6_gather (fd := 0) (ld := 6) h (Nat.le_refl _) ha (by omega) (by omega)
  have g2 : ∀ {m : Mem}, TLc m N tw dy sm → Spec l G (d - 1) hX6_gather [.inr 46, .inl (0 : Int32), .inl (7 : Int32), .inl (nI b), .inl (nI b)] m (fun _ t => t 46 3 = nI (SF (RRl tw dy a b 2) sm N) ∧ t 46 4 = nI (SF (RRl tw dy a b 2) (fun _ => 1) N) ∧ FrT m t) := fun h => S6_gather (f := 0) (g := 7) h (by omega) (by omega) (Nat.le_refl _) hb
  have g3 : ∀ {m : Mem}, TLc m N tw dy sm → Spec l G (d - 1) hX6_gather [.inr 46, .inl (0 : Int32), .inl (7 : Int32), .inl (0 : Int32), .inl (6 : Int32)] m (fun _ t => t 46 3 = nI (SF (RRl tw dy a b 3) sm N) ∧ t 46 4 = nI (SF (RRl tw dy a b 3) (fun _ => 1) N) ∧ FrT m t) := fun h => S6_gather (f := 0) (g := 7) (fd := 0) (ld := 6) h (by omega) (by omega) (by omega) (by omega)
  have fin : ∀ (k : Nat) (m : Mem), pick (fun k => SF (RRl tw dy a b k) (fun _ => 1) N) = k → m 46 3 = nI (SF (RRl tw dy a b k) sm N) → m 46 4 = nI (SF (RRl tw dy a b k) (fun _ => 1) N) → FrT s m →
      Spec l G (d - 1) hX6_reduce [.inr 46] m (fun _ t => t 46 3 = nI (fAb (SF (RRl tw dy a b (pick (fun k => SF (RRl tw dy a b k) (fun _ => 1) N))) sm N) (SF (RRl tw dy a b (pick (fun k => SF (RRl tw dy a b k) (fun _ => 1) N))) (fun _ => 1) N)) ∧ t 46 4 = nI (fBe (SF (RRl tw dy a b (pick (fun k => SF (RRl tw dy a b k) (fun _ => 1) N))) sm N) (SF (RRl tw dy a b (pick (fun k => SF (RRl tw dy a b k) (fun _ => 1) N))) (fun _ => 1) N)) ∧ FrT s t) := by
    intro k m hk e3 e4 hF
    rw [hk]
    exact spec_post (fun r t h => ⟨h.1, h.2.1, hF.trans h.2.2⟩) (S6_reduce (by omega) (hS _) (hC _) e3 e4)
  refine ⟨d - 1, _, by omega, g0 hT, ?_⟩
  rintro _ m0 ⟨p3, p4, pF⟩
  have hT0 := TLc_fr hT pF
  rw [p4, z]
  have tail2 : ∀ (m : Mem), TLc m N tw dy sm → FrT s m → SF (RRl tw dy a b 0) (fun _ => 1) N = 0 → SF (RRl tw dy a b 1) (fun _ => 1) N = 0 → True := fun _ _ _ _ _ => trivial
  refine ⟨fun h0 => ⟨fun _ => ⟨fun _ => ⟨d - 1, _, by omega, fin 0 m0 (by simp [pick, h0]) p3 p4 pF, fun _ _ q => q⟩, fun h => absurd h h0⟩, fun h => absurd h h0⟩, fun h0 => ?_⟩
  refine ⟨d - 1, _, by omega, g1 hT0, ?_⟩
  rintro _ m1 ⟨q3, q4, qF⟩
  have hF1 := pF.trans qF
  have hT1 := TLc_fr hT hF1
  rw [q4, z]
  refine ⟨fun h1 => ⟨fun _ => ⟨d - 1, _, by omega, fin 1 m1 (by simp [pick, h0, h1]) q3 q4 hF1, fun _ _ q => q⟩, fun h => absurd h h1⟩, fun h1 => ?_⟩
  refine ⟨d - 1, _, by omega, g2 hT1, ?_⟩
  rintro _ m2 ⟨u3, u4, uF⟩
  have hF2 := hF1.trans uF
  have hT2 := TLc_fr hT hF2
  rw [u4, z]
  refine ⟨fun h2 => ⟨d - 1, _, by omega, fin 2 m2 (by simp [pick, h0, h1, h2]) u3 u4 hF2, fun _ _ q => q⟩, fun h2 => ?_⟩
  refine ⟨d - 1, _, by omega, g3 hT2, ?_⟩
  rintro _ m3 ⟨w3, w4, wF⟩
  exact ⟨d - 1, _, by omega, fin 3 m3 (by simp [pick, h0, h1, h2]) w3 w4 (hF2.trans wF), fun _ _ q => q⟩
