/-! ===== what is foretold: the question, class and model ===== -/
abbrev pkL (tw dy : Nat → Nat) (a b N : Nat) : Nat → Bool := RRl tw dy a b (pick (fun k => SF (RRl tw dy a b k) (fun _ => 1) N))
def fQ (tw dy sm : Nat → Nat) (a b N : Nat) (w r : Int32) : Prop := (w = 0 ∧ r = nI (fAb (SF (pkL tw dy a b N) sm N) (SF (pkL tw dy a b N) (fun _ => 1) N))) ∨ (w = 1 ∧ r = nI (fBe (SF (pkL tw dy a b N) sm N) (SF (pkL tw dy a b N) (fun _ => 1) N)))
theorem fQ_det {tw dy sm : Nat → Nat} {a b N : Nat} {w r r' : Int32} (h : fQ tw dy sm a b N w r) (h' : fQ tw dy sm a b N w r') : r = r' := by
  rcases h with ⟨h1, h2⟩ | ⟨h1, h2⟩ <;> rcases h' with ⟨h3, h4⟩ | ⟨h3, h4⟩
  · rw [h2, h4]
  · rw [h1] at h3; exact absurd h3 (by decide)
  · rw [h1] at h3; exact absurd h3 (by decide)
  · rw [h2, h4]
def foP (k : Nat) (x y w : Int32) : Prop := (∃ j, j < k ∧ x = nI j) ∧ (0 ≤ y ∧ y ≤ 6) ∧ 0 ≤ w ∧ w ≤ 1
theorem w01 {w : Int32} (h0 : 0 ≤ w) (h1 : w ≤ 1) : w = 0 ∨ w = 1 := by grind
theorem S7_foretold {l : Launch} {G : GG} {d k N : Nat} (hd : 3 ≤ d) (hk : k ≤ 8) (hN : N ≤ 500) {tw dy sm : Nat → Nat} (hsm : ∀ i, i < N → sm i ≤ 1000000) (x y w : Int32) {s : Mem} (hs : s 33 0 = nI k) (hT : TLc s N tw dy sm) : Spec l G d hX7_foretold [.inr 0, .inl x, .inl y, .inl w] s (fun r t => (¬ foP k x y w ∧ r = -1 ∧ s = t) ∨ (∃ a b, a < k ∧ b < 7 ∧ x = nI a ∧ y = nI b ∧ fQ tw dy sm a b N w r ∧ FrT s t)) := by
  refine spec_of iX7_foretold (by decide +kernel) (Nat.le_of_ble_eq_true rfl) (vX7_foretold_0 ?_)
  refine ⟨d - 1, _, by omega, S3_has (by omega) hk x hs, ?_⟩
  rintro r1 _ ⟨hr, rfl⟩
  rcases hr with ⟨rfl, a, ha, rfl⟩ | ⟨rfl, hno⟩
  · refine ⟨fun h => absurd h (by decide), fun _ => ?_⟩
    refine ⟨d - 1, _, by omega, S_isIn _ _ _, ?_⟩
    rintro _ _ ⟨rfl, rfl⟩
    rw [i01]
    unfold foP
    refine ⟨fun h => Or.inl ⟨by grind, rfl, rfl⟩, fun h => ⟨fun h2 => Or.inl ⟨by grind, rfl, rfl⟩, fun h2 => ⟨fun h3 => ?_, fun h3 => Or.inl ⟨by grind, rfl, rfl⟩⟩⟩⟩
    obtain ⟨b, hb, rfl⟩ := in7 (x := y) (by grind) (by grind)
    refine ⟨d - 1, _, by omega, S6_foretell (by omega) (by omega) hb hN hsm hT, ?_⟩
    rintro _ t ⟨e3, e4, hF⟩
    have hw := w01 (w := w) (by grind) h3
    refine ⟨fun q => Or.inr ⟨a, b, ha, hb, rfl, rfl, Or.inr ⟨hw.resolve_left q, e4⟩, hF⟩, fun q => Or.inr ⟨a, b, ha, hb, rfl, rfl, Or.inl ⟨q, e3⟩, hF⟩⟩
  · exact ⟨fun _ => Or.inl ⟨fun q => hno q.1, rfl, rfl⟩, fun h => absurd rfl h⟩
theorem SF_c0 {p : Nat → Bool} {f : Nat → Nat} : ∀ {n : Nat}, SF p (fun _ => 1) n = 0 → SF p f n = 0
  | 0, _ => rfl
  | n + 1, h => by
    simp only [SF] at h ⊢
    have h1 : SF p (fun _ => 1) n = 0 := by omega
    rw [SF_c0 h1]
    split at h
    · omega
    · rename_i hp
      simp [hp]
theorem RRl_at {tw dy : Nat → Nat} {a b i : Nat} (h1 : tw i < 8) (h2 : dy i < 7) : RRl tw dy a b 0 i = (tw i == a && dy i == b) ∧ RRl tw dy a b 1 i = (tw i == a) ∧ RRl tw dy a b 2 i = (dy i == b) ∧ RRl tw dy a b 3 i = true := by
  refine ⟨?_, ?_, ?_, ?_⟩ <;> (simp only [RRl, rect]; grind)
theorem S8_foretold {l : Launch} {G : GG} {d k N : Nat} (hd : 2 ≤ d) (hk : k ≤ 8) (hN : N ≤ 500) {tw dy sm : Nat → Nat} (x y w : Int32) {s : Mem} (hs : s 49 11 = nI k) (hs2 : s 49 17 = nI N)
    (hM : ∀ i, i < N → tw i < 8 ∧ dy i < 7 ∧ sm i ≤ 1000000 ∧ s 65 i = nI (tw i) ∧ s 66 i = nI (dy i) ∧ s 67 i = nI (sm i)) : Spec l G d hX8_foretold [.inr 49, .inl x, .inl y, .inl w] s (fun r t => (¬ foP k x y w ∧ r = -1 ∧ s = t) ∨ (∃ a b, a < k ∧ b < 7 ∧ x = nI a ∧ y = nI b ∧ fQ tw dy sm a b N w r ∧ s = t)) := by
  refine spec_of iX8_foretold (by decide +kernel) (Nat.le_of_ble_eq_true rfl) (vX8_foretold_0 ?_)
  refine ⟨d - 1, _, by omega, S8_isTown (by omega) hk x hs, ?_⟩
  rintro r1 _ ⟨hr, rfl⟩
  rcases hr with ⟨rfl, a, ha, rfl⟩ | ⟨rfl, hno⟩
  rotate_left
  · exact ⟨fun _ => Or.inl ⟨fun q => hno q.1, rfl, rfl⟩, fun h => absurd rfl h⟩
  refine ⟨fun h => absurd h (by decide), fun _ => ?_⟩
  refine ⟨d - 1, _, by omega, S_in _ _ _ _, ?_⟩
  rintro _ _ ⟨rfl, rfl⟩
  rw [i01]
  refine ⟨fun h => Or.inl ⟨fun q => h q.2.1, rfl, rfl⟩, fun h => ?_⟩
  refine ⟨d - 1, _, by omega, S_in _ _ _ _, ?_⟩
  rintro _ _ ⟨rfl, rfl⟩
  rw [i01]
  refine ⟨fun h2 => ?_, fun h2 => Or.inl ⟨fun q => h2 q.2.2, rfl, rfl⟩⟩
  obtain ⟨b, hb, rfl⟩ := in7 (x := y) (by grind) (by grind)
  have hw := w01 (w := w) (by grind) (by grind)
  have hS : ∀ p, SF p sm N < 2 ^ 31 := fun p => by
    have := SF_le (p := p) (fun i hi => (hM i hi).2.2.1)
    have h3 : N * 1000000 ≤ 500 * 1000000 := Nat.mul_le_mul_right _ hN
    omega
  have hC : ∀ p n, n ≤ N → SF p (fun _ => 1) n ≤ 500 := fun p n hn => by
    have := SF_le (p := p) (f := fun _ => 1) (c := 1) (n := n) (fun _ _ => Nat.le_refl 1)
    omega
  have z : ∀ {x : Nat}, x < 2 ^ 31 → (nI x = 0 ↔ x = 0) := fun {x} hx => nI_eq (a := x) (b := 0) hx (by decide)
  -- Euclid
  have euc : ∀ (S C : Nat), S < 2 ^ 31 → 0 < C → C ≤ 500 → S = SF (pkL tw dy a b N) sm N → C = SF (pkL tw dy a b N) (fun _ => 1) N → ∀ (x g : Nat), g < 2 ^ 31 → x < 2 ^ 31 → Nat.gcd g x = Nat.gcd S C →
      AW l G d hX8_foretold 158 [some (.inr 49), some (.inl (nI a)), some (.inl (nI b)), some (.inl w), some (.inl (nI S)), some (.inl (nI C)), some (.inl (nI g)), some (.inl (nI x)), none] [] s (fun r t => (¬ foP k (nI a) (nI b) w ∧ r = -1 ∧ s = t) ∨ (∃ a' b', a' < k ∧ b' < 7 ∧ nI a = nI a' ∧ nI b = nI b' ∧ fQ tw dy sm a' b' N w r ∧ s = t)) := by
    intro S C hS1 hC0 hC1 eS eC x
    induction x using Nat.strongRecOn with
    | _ x ih =>
      intro g hg hx he
      refine vX8_foretold_158 ⟨fun q => ?_, fun q => ⟨q, ?_⟩⟩
      · have hx0 := (z hx).mp q
        subst hx0
        rw [Nat.gcd_zero_right] at he
        have hgp : 0 < g := by rw [he]; exact Nat.gcd_pos_of_pos_right S hC0
        have hne := nI_ne0 hgp hg
        refine ⟨fun hw1 => ⟨hne, Or.inr ⟨a, b, ha, hb, rfl, rfl, Or.inr ⟨hw.resolve_left hw1, ?_⟩, rfl⟩⟩, fun hw0 => ⟨hne, Or.inr ⟨a, b, ha, hb, rfl, rfl, Or.inl ⟨hw0, ?_⟩, rfl⟩⟩⟩
        · rw [pk_div (by omega) hgp hg, ← eS, ← eC]
          unfold fBe
          rw [if_neg (by omega), ← he]
        · rw [pk_div hS1 hgp hg, ← eS, ← eC]
          unfold fAb
          rw [← he]
      · have hx0 : 0 < x := by
          rcases Nat.eq_zero_or_pos x with p | p
          · exact absurd ((z hx).mpr p) q
          · exact p
        rw [pk_rem hg hx0 hx]
        have hlt := Nat.mod_lt g hx0
        exact aw_weak (L := [some (.inr 49), some (.inl (nI a)), some (.inl (nI b)), some (.inl w), some (.inl (nI S)), some (.inl (nI C)), some (.inl (nI x)), some (.inl (nI (g % x))), none]) ⟨rfl, rfl, rfl, rfl, rfl, rfl, rfl, rfl, trivial⟩ (ih (g % x) hlt x hx (by omega) (by rw [← gcd_s]; exact he))
  -- the levels
  have lev : ∀ j, j ≤ 4 → (∀ i, i < j → SF (RRl tw dy a b i) (fun _ => 1) N = 0) →
      AW l G d hX8_foretold 38 [some (.inr 49), some (.inl (nI a)), some (.inl (nI b)), some (.inl w), some (.inl (nI 0)), some (.inl (nI 0)), some (.inl (nI j)), none, none] [] s (fun r t => (¬ foP k (nI a) (nI b) w ∧ r = -1 ∧ s = t) ∨ (∃ a' b', a' < k ∧ b' < 7 ∧ nI a = nI a' ∧ nI b = nI b' ∧ fQ tw dy sm a' b' N w r ∧ s = t)) := by
    refine down 4 ?_ ?_
    · intro h0
      have e0 := h0 0 (by omega)
      have e1 := h0 1 (by omega)
      have e2 := h0 2 (by omega)
      have e3 := h0 3 (by omega)
      have ep : pick (fun k => SF (RRl tw dy a b k) (fun _ => 1) N) = 3 := by simp [pick, e0, e1, e2]
      have fin : fQ tw dy sm a b N w w := by
        unfold fQ pkL
        rw [ep, e3, SF_c0 e3]
        rcases hw with q | q
        · exact Or.inl ⟨q, by rw [q]; rfl⟩
        · exact Or.inr ⟨q, by rw [q]; rfl⟩
      exact vX8_foretold_38 ⟨fun _ => ⟨fun q => absurd rfl q, fun _ => Or.inr ⟨a, b, ha, hb, rfl, rfl, fin, rfl⟩⟩, fun q => absurd (by decide) q⟩
    · intro j hj ih h0
      have c4 : ¬ (4 : Int32) ≤ nI j := nI_ge (b := 4) hj (by decide)
      refine vX8_foretold_38 ⟨fun q => absurd q c4, fun _ => ⟨fun q => absurd rfl q, fun _ => ?_⟩⟩
      have inner : ∀ n, n ≤ N → AW l G d hX8_foretold 52 [some (.inr 49), some (.inl (nI a)), some (.inl (nI b)), some (.inl w), some (.inl (nI (SF (RRl tw dy a b j) sm n))), some (.inl (nI (SF (RRl tw dy a b j) (fun _ => 1) n))), some (.inl (nI j)), some (.inl (nI n)), none] [] s (fun r t => (¬ foP k (nI a) (nI b) w ∧ r = -1 ∧ s = t) ∨ (∃ a' b', a' < k ∧ b' < 7 ∧ nI a = nI a' ∧ nI b = nI b' ∧ fQ tw dy sm a' b' N w r ∧ s = t)) := by
        refine down N ?_ ?_
        · refine vX8_foretold_52 ⟨fun _ => ?_, fun q => absurd (by rw [hs2]; exact nI_le (Nat.le_refl N) (by omega)) q⟩
          rw [nI_1]
          refine aw_weak (L := [some (.inr 49), some (.inl (nI a)), some (.inl (nI b)), some (.inl w), some (.inl (nI (SF (RRl tw dy a b j) sm N))), some (.inl (nI (SF (RRl tw dy a b j) (fun _ => 1) N))), some (.inl (nI (j + 1))), none, none]) ⟨rfl, rfl, rfl, rfl, rfl, rfl, rfl, trivial⟩ ?_
          by_cases hc : SF (RRl tw dy a b j) (fun _ => 1) N = 0
          · rw [SF_c0 hc, hc]
            refine ih (fun i hi => ?_)
            by_cases hij : i = j
            · rw [hij]; exact hc
            · exact h0 i (by omega)
          · have ep : pick (fun k => SF (RRl tw dy a b k) (fun _ => 1) N) = j := by
              unfold pick
              rcases (show j = 0 ∨ j = 1 ∨ j = 2 ∨ j = 3 by omega) with e | e | e | e
              · subst e; rw [if_pos hc]
              · subst e; rw [if_neg (fun q => q (h0 0 (by omega))), if_pos hc]
              · subst e; rw [if_neg (fun q => q (h0 0 (by omega))), if_neg (fun q => q (h0 1 (by omega))), if_pos hc]
              · subst e; rw [if_neg (fun q => q (h0 0 (by omega))), if_neg (fun q => q (h0 1 (by omega))), if_neg (fun q => q (h0 2 (by omega)))]
            have hC5 := hC (RRl tw dy a b j) N (Nat.le_refl _)
            have hne : ¬ nI (SF (RRl tw dy a b j) (fun _ => 1) N) = 0 := fun q => hc ((z (by omega)).mp q)
            have go := euc (SF (RRl tw dy a b j) sm N) (SF (RRl tw dy a b j) (fun _ => 1) N) (hS _) (by omega) hC5 (by unfold pkL; rw [ep]) (by unfold pkL; rw [ep]) _ _ (hS _) (by omega) rfl
            exact vX8_foretold_38 ⟨fun _ => ⟨fun _ => go, fun q => absurd q hne⟩, fun _ => ⟨fun _ => ⟨fun _ => go, fun q => absurd q hne⟩, fun q => absurd q hne⟩⟩
        · intro n hn ih2
          obtain ⟨t1, t2, t3, t4, t5, t6⟩ := hM n hn
          have hR := RRl_at (a := a) (b := b) t1 t2
          have hv : vp_in (nI n) 500 := vp_in_nI (by omega) (by decide)
          have hcn : (nI n).toNatClampNeg = n := nI_clamp (by omega)
          refine vX8_foretold_52 ⟨fun q => absurd q (by rw [hs2]; exact nI_ge hn (by omega)), fun _ => ?_⟩
          rw [hcn, t4, t5, t6, nI_1, nI_1, nI_add]
          have yes : RRl tw dy a b j n = true → ∀ v : Option Vl, AW l G d hX8_foretold 52 [some (.inr 49), some (.inl (nI a)), some (.inl (nI b)), some (.inl w), some (.inl (nI (SF (RRl tw dy a b j) sm n + sm n))), some (.inl (nI (SF (RRl tw dy a b j) (fun _ => 1) n + 1))), some (.inl (nI j)), some (.inl (nI (n + 1))), v] [] s (fun r t => (¬ foP k (nI a) (nI b) w ∧ r = -1 ∧ s = t) ∨ (∃ a' b', a' < k ∧ b' < 7 ∧ nI a = nI a' ∧ nI b = nI b' ∧ fQ tw dy sm a' b' N w r ∧ s = t)) := by
            intro hp v
            have e1 : SF (RRl tw dy a b j) sm (n + 1) = SF (RRl tw dy a b j) sm n + sm n := by simp [SF, hp]
            have e2 : SF (RRl tw dy a b j) (fun _ => 1) (n + 1) = SF (RRl tw dy a b j) (fun _ => 1) n + 1 := by simp [SF, hp]
            rw [e1, e2] at ih2
            exact aw_weak (L := [some (.inr 49), some (.inl (nI a)), some (.inl (nI b)), some (.inl w), some (.inl (nI (SF (RRl tw dy a b j) sm n + sm n))), some (.inl (nI (SF (RRl tw dy a b j) (fun _ => 1) n + 1))), some (.inl (nI j)), some (.inl (nI (n + 1))), none]) ⟨rfl, rfl, rfl, rfl, rfl, rfl, rfl, rfl, trivial⟩ ih2
          have no : RRl tw dy a b j n = false → ∀ v : Option Vl, AW l G d hX8_foretold 52 [some (.inr 49), some (.inl (nI a)), some (.inl (nI b)), some (.inl w), some (.inl (nI (SF (RRl tw dy a b j) sm n))), some (.inl (nI (SF (RRl tw dy a b j) (fun _ => 1) n))), some (.inl (nI j)), some (.inl (nI (n + 1))), v] [] s (fun r t => (¬ foP k (nI a) (nI b) w ∧ r = -1 ∧ s = t) ∨ (∃ a' b', a' < k ∧ b' < 7 ∧ nI a = nI a' ∧ nI b = nI b' ∧ fQ tw dy sm a' b' N w r ∧ s = t)) := by
            intro hp v
            have e1 : SF (RRl tw dy a b j) sm (n + 1) = SF (RRl tw dy a b j) sm n := by simp [SF, hp]
            have e2 : SF (RRl tw dy a b j) (fun _ => 1) (n + 1) = SF (RRl tw dy a b j) (fun _ => 1) n := by simp [SF, hp]
            rw [e1, e2] at ih2
            exact aw_weak (L := [some (.inr 49), some (.inl (nI a)), some (.inl (nI b)), some (.inl w), some (.inl (nI (SF (RRl tw dy a b j) sm n))), some (.inl (nI (SF (RRl tw dy a b j) (fun _ => 1) n))), some (.inl (nI j)), some (.inl (nI (n + 1))), none]) ⟨rfl, rfl, rfl, rfl, rfl, rfl, rfl, rfl, trivial⟩ ih2
          have ea : nI (tw n) = nI a ↔ tw n = a := nI_eq (by omega) (by omega)
          have eb : nI (dy n) = nI b ↔ dy n = b := nI_eq (by omega) (by omega)
          rw [ea, eb]
          rcases (show j = 0 ∨ j = 1 ∨ j = 2 ∨ j = 3 by omega) with e | e | e | e
          · subst e
            rw [hR.1] at yes no
            exact ⟨fun q => absurd q (by decide), fun _ => ⟨hv, fun h1 => ⟨fun q => absurd rfl q, fun _ => no (by simp [h1]) _⟩, fun h1 => ⟨fun q => absurd q (by decide), fun _ => ⟨fun q => absurd q (by decide), fun _ => ⟨hv, fun h2 => ⟨fun q => absurd rfl q, fun _ => no (by simp [h2]) _⟩, fun h2 => ⟨fun _ => ⟨hv, yes (by simp [h1, h2]) _⟩, fun q => absurd q (by decide)⟩⟩⟩⟩⟩⟩
          · subst e
            rw [hR.2.1] at yes no
            exact ⟨fun q => absurd q (by decide), fun _ => ⟨hv, fun h1 => ⟨fun q => absurd rfl q, fun _ => no (by simp [h1]) _⟩, fun h1 => ⟨fun _ => ⟨fun _ => ⟨hv, yes (by simp [h1]) _⟩, fun q => absurd q (by decide)⟩, fun q => absurd rfl q⟩⟩⟩
          · subst e
            rw [hR.2.2.1] at yes no
            exact ⟨fun _ => ⟨fun q => absurd q (by decide), fun _ => ⟨fun q => absurd q (by decide), fun _ => ⟨hv, fun h2 => ⟨fun q => absurd rfl q, fun _ => no (by simp [h2]) _⟩, fun h2 => ⟨fun _ => ⟨hv, yes (by simp [h2]) _⟩, fun q => absurd q (by decide)⟩⟩⟩⟩, fun q => absurd (by decide) q⟩
          · subst e
            rw [hR.2.2.2] at yes no
            exact ⟨fun _ => ⟨fun q => absurd q (by decide), fun _ => ⟨fun _ => ⟨fun _ => ⟨hv, yes rfl _⟩, fun q => absurd q (by decide)⟩, fun q => absurd rfl q⟩⟩, fun q => absurd (by decide) q⟩
      exact inner 0 (Nat.zero_le _)
  exact lev 0 (by omega) (fun i hi => by omega)
