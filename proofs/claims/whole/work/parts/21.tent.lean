/-! ===== the tent: loads, shares, exposures; which ropes are up ===== -/
def sbN (f : Nat → Int32) (p : Nat) (q : Int32) : Nat → Int32
  | 0 => 0
  | n + 1 => sbN f p q n + (if nI n = q then 0 else f (p * 8 + n))
theorem S_setLoad {l : Launch} {G : GG} {d : Nat} (hd : 1 ≤ d) (p v : Int32) (s : Mem) : Spec l G d hX5_setLoad [.inr 26, .inl p, .inl v] s (fun r t => (r = 1 ∧ (0 ≤ p ∧ p ≤ 7 ∧ 0 ≤ v ∧ v ≤ 10000) ∧ t = wrM s 27 p.toNatClampNeg v) ∨ (r = 0 ∧ ¬ (0 ≤ p ∧ p ≤ 7 ∧ 0 ≤ v ∧ v ≤ 10000) ∧ t = s)) := by
  refine spec_of iX5_setLoad (by decide +kernel) (Nat.le_of_ble_eq_true rfl) (vX5_setLoad_0 ?_)
  refine ⟨d - 1, _, by omega, S_isIn _ _ _, ?_⟩
  rintro _ _ ⟨rfl, rfl⟩
  simp only [i01]
  refine ⟨fun h => ⟨Or.inl rfl, by grind⟩, fun h => ⟨fun h2 => ⟨Or.inl rfl, by grind⟩, fun h2 => ⟨fun h3 => ⟨?_, Or.inr rfl, ?_⟩, fun h3 => ⟨Or.inl rfl, by grind⟩⟩⟩⟩
  · obtain ⟨k, hk, rfl⟩ := in8 (x := p) (by grind) (by grind)
    exact vi8 hk
  · grind
theorem S_load {l : Launch} {G : GG} {d : Nat} (hd : 1 ≤ d) (p v : Int32) (s : Mem) : Spec l G d hX8_load [.inr 49, .inl p, .inl v] s (fun r t => (r = 1 ∧ (0 ≤ p ∧ p ≤ 7 ∧ 0 ≤ v ∧ v ≤ 10000) ∧ t = wrM s 57 p.toNatClampNeg v) ∨ (r = 0 ∧ ¬ (0 ≤ p ∧ p ≤ 7 ∧ 0 ≤ v ∧ v ≤ 10000) ∧ t = s)) := by
  refine spec_of iX8_load (by decide +kernel) (Nat.le_of_ble_eq_true rfl) (vX8_load_0 ?_)
  refine ⟨d - 1, _, by omega, S_in _ _ _ _, ?_⟩
  rintro _ _ ⟨rfl, rfl⟩
  simp only [i01]
  refine ⟨fun h => ⟨Or.inl rfl, by grind⟩, fun h => ?_⟩
  refine ⟨d - 1, _, by omega, S_in _ _ _ _, ?_⟩
  rintro _ _ ⟨rfl, rfl⟩
  simp only [i01]
  refine ⟨fun h2 => ⟨?_, Or.inr rfl, by grind⟩, fun h2 => ⟨Or.inl rfl, by grind⟩⟩
  obtain ⟨k, hk, rfl⟩ := in8 (x := p) (by grind) (by grind)
  exact vi8 hk
theorem S_setExposed {l : Launch} {G : GG} {d : Nat} (hd : 1 ≤ d) (p v : Int32) (s : Mem) : Spec l G d hX5_setExposed [.inr 26, .inl p, .inl v] s (fun r t => (r = 1 ∧ (0 ≤ p ∧ p ≤ 7 ∧ -9 ≤ v ∧ v ≤ 9) ∧ t = wrM s 29 p.toNatClampNeg v) ∨ (r = 0 ∧ ¬ (0 ≤ p ∧ p ≤ 7 ∧ -9 ≤ v ∧ v ≤ 9) ∧ t = s)) := by
  refine spec_of iX5_setExposed (by decide +kernel) (Nat.le_of_ble_eq_true rfl) (vX5_setExposed_0 ?_)
  refine ⟨d - 1, _, by omega, S_isIn _ _ _, ?_⟩
  rintro _ _ ⟨rfl, rfl⟩
  simp only [i01]
  refine ⟨fun h => ⟨Or.inl rfl, by grind⟩, fun h => ⟨fun h2 => ⟨Or.inl rfl, by grind⟩, fun h2 => ⟨fun h3 => ⟨?_, Or.inr rfl, ?_⟩, fun h3 => ⟨Or.inl rfl, by grind⟩⟩⟩⟩
  · obtain ⟨k, hk, rfl⟩ := in8 (x := p) (by grind) (by grind)
    exact vi8 hk
  · grind
theorem S_exposed {l : Launch} {G : GG} {d : Nat} (hd : 1 ≤ d) (p v : Int32) (s : Mem) : Spec l G d hX8_exposed [.inr 49, .inl p, .inl v] s (fun r t => (r = 1 ∧ (0 ≤ p ∧ p ≤ 7 ∧ -9 ≤ v ∧ v ≤ 9) ∧ t = wrM s 59 p.toNatClampNeg v) ∨ (r = 0 ∧ ¬ (0 ≤ p ∧ p ≤ 7 ∧ -9 ≤ v ∧ v ≤ 9) ∧ t = s)) := by
  refine spec_of iX8_exposed (by decide +kernel) (Nat.le_of_ble_eq_true rfl) (vX8_exposed_0 ?_)
  refine ⟨d - 1, _, by omega, S_in _ _ _ _, ?_⟩
  rintro _ _ ⟨rfl, rfl⟩
  simp only [i01]
  refine ⟨fun h => ⟨Or.inl rfl, by grind⟩, fun h => ?_⟩
  refine ⟨d - 1, _, by omega, S_in _ _ _ _, ?_⟩
  rintro _ _ ⟨rfl, rfl⟩
  simp only [i01]
  refine ⟨fun h2 => ⟨?_, Or.inr rfl, by grind⟩, fun h2 => ⟨Or.inl rfl, by grind⟩⟩
  obtain ⟨k, hk, rfl⟩ := in8 (x := p) (by grind) (by grind)
  exact vi8 hk
theorem S_sharesBeside {l : Launch} {G : GG} {d p : Nat} (hp : p < 8) (q : Int32) (s : Mem) : Spec l G d hX5_sharesBeside [.inr 26, .inl (nI p), .inl q] s (fun r t => r = sbN (s 28) p q 8 ∧ s = t) := by
  refine spec_of iX5_sharesBeside (by decide +kernel) (Nat.le_of_ble_eq_true rfl) (vX5_sharesBeside_0 ?_)
  refine down0 (A := fun k => AW l G d hX5_sharesBeside 5 [some (.inr 26), some (.inl (nI p)), some (.inl q), some (.inl (sbN (s 28) p q k)), some (.inl (nI k))] [] s _) 8 ?_ ?_
  · exact vX5_sharesBeside_5 ⟨fun _ => ⟨rfl, rfl⟩, fun h => absurd c8t h⟩
  · intro k hk ih
    refine vX5_sharesBeside_5 ⟨fun h => absurd h (c8f hk), fun _ => ⟨fun h => ?_, fun h => ?_⟩⟩
    · rw [nI_1]
      simpa only [sbN, if_pos h, Int32.add_zero] using ih
    · rw [ixa, cl64 hp hk, nI_1]
      exact ⟨vi64 hp hk, by simpa only [sbN, if_neg h] using ih⟩
theorem S_setShare {l : Launch} {G : GG} {d : Nat} (hd : 1 ≤ d) (p q v : Int32) (s : Mem) : Spec l G d hX5_setShare [.inr 26, .inl p, .inl q, .inl v] s (fun r t => (r = 1 ∧ (0 ≤ p ∧ p ≤ 7 ∧ 0 ≤ q ∧ q ≤ 7 ∧ 0 ≤ v ∧ v ≤ 100 ∧ v + sbN (s 28) p.toNatClampNeg q 8 ≤ 100) ∧ t = wrM s 28 (p.toNatClampNeg * 8 + q.toNatClampNeg) v) ∨ (r = 0 ∧ ¬ (0 ≤ p ∧ p ≤ 7 ∧ 0 ≤ q ∧ q ≤ 7 ∧ 0 ≤ v ∧ v ≤ 100 ∧ v + sbN (s 28) p.toNatClampNeg q 8 ≤ 100) ∧ t = s)) := by
  refine spec_of iX5_setShare (by decide +kernel) (Nat.le_of_ble_eq_true rfl) (vX5_setShare_0 ?_)
  refine ⟨d - 1, _, by omega, S_isIn _ _ _, ?_⟩
  rintro _ _ ⟨rfl, rfl⟩
  simp only [i01]
  refine ⟨fun h => ⟨Or.inl rfl, by grind⟩, fun h => ?_⟩
  refine ⟨d - 1, _, by omega, S_isIn _ _ _, ?_⟩
  rintro _ _ ⟨rfl, rfl⟩
  simp only [i01]
  refine ⟨fun h2 => ⟨Or.inl rfl, by grind⟩, fun h2 => ⟨fun h3 => ⟨Or.inl rfl, by grind⟩, fun h3 => ⟨fun h4 => ?_, fun h4 => ⟨Or.inl rfl, by grind⟩⟩⟩⟩
  obtain ⟨a, ha, rfl⟩ := in8 (x := p) (by grind) (by grind)
  obtain ⟨b, hb, rfl⟩ := in8 (x := q) (by grind) (by grind)
  refine ⟨d - 1, _, by omega, S_sharesBeside ha _ _, ?_⟩
  rintro _ _ ⟨rfl, rfl⟩
  rw [ixa, cl64 ha hb, cl8 ha, cl8 hb, Int32.add_comm (sbN _ _ _ _) v]
  refine ⟨fun h5 => ⟨vi64 ha hb, Or.inr rfl, Or.inl ⟨by simp, ⟨by grind, by grind, by grind, by grind, by grind, h4, h5⟩, rfl⟩⟩, fun h5 => ⟨Or.inl rfl, Or.inr ⟨by simp, fun z => h5 z.2.2.2.2.2.2, rfl⟩⟩⟩
theorem S_share {l : Launch} {G : GG} {d : Nat} (hd : 1 ≤ d) (p q v : Int32) (s : Mem) : Spec l G d hX8_share [.inr 49, .inl p, .inl q, .inl v] s (fun r t => (r = 1 ∧ (0 ≤ p ∧ p ≤ 7 ∧ 0 ≤ q ∧ q ≤ 7 ∧ 0 ≤ v ∧ v ≤ 100 ∧ v + sbN (s 58) p.toNatClampNeg q 8 ≤ 100) ∧ t = wrM s 58 (p.toNatClampNeg * 8 + q.toNatClampNeg) v) ∨ (r = 0 ∧ ¬ (0 ≤ p ∧ p ≤ 7 ∧ 0 ≤ q ∧ q ≤ 7 ∧ 0 ≤ v ∧ v ≤ 100 ∧ v + sbN (s 58) p.toNatClampNeg q 8 ≤ 100) ∧ t = s)) := by
  refine spec_of iX8_share (by decide +kernel) (Nat.le_of_ble_eq_true rfl) (vX8_share_0 ?_)
  refine ⟨d - 1, _, by omega, S_in _ _ _ _, ?_⟩
  rintro _ _ ⟨rfl, rfl⟩
  simp only [i01]
  refine ⟨fun h => ⟨Or.inl rfl, by grind⟩, fun h => ?_⟩
  refine ⟨d - 1, _, by omega, S_in _ _ _ _, ?_⟩
  rintro _ _ ⟨rfl, rfl⟩
  simp only [i01]
  refine ⟨fun h2 => ⟨Or.inl rfl, by grind⟩, fun h2 => ?_⟩
  refine ⟨d - 1, _, by omega, S_in _ _ _ _, ?_⟩
  rintro _ _ ⟨rfl, rfl⟩
  simp only [i01]
  refine ⟨fun h3 => ?_, fun h3 => ⟨Or.inl rfl, by grind⟩⟩
  obtain ⟨a, ha, rfl⟩ := in8 (x := p) (by grind) (by grind)
  obtain ⟨b, hb, rfl⟩ := in8 (x := q) (by grind) (by grind)
  rw [cl8 ha, cl8 hb]
  have key : AW l G d hX8_share 38 [some (.inr 49), some (.inl (nI a)), some (.inl (nI b)), some (.inl v), some (.inl (v + sbN (s 58) a (nI b) 0)), some (.inl (nI 0))] [] s (fun r t => (r = 1 ∧ (0 ≤ nI a ∧ nI a ≤ 7 ∧ 0 ≤ nI b ∧ nI b ≤ 7 ∧ 0 ≤ v ∧ v ≤ 100 ∧ v + sbN (s 58) a (nI b) 8 ≤ 100) ∧ t = wrM s 58 (a * 8 + b) v) ∨ (r = 0 ∧ ¬ (0 ≤ nI a ∧ nI a ≤ 7 ∧ 0 ≤ nI b ∧ nI b ≤ 7 ∧ 0 ≤ v ∧ v ≤ 100 ∧ v + sbN (s 58) a (nI b) 8 ≤ 100) ∧ t = s)) := by
    refine down0 (A := fun k => AW l G d hX8_share 38 [some (.inr 49), some (.inl (nI a)), some (.inl (nI b)), some (.inl v), some (.inl (v + sbN (s 58) a (nI b) k)), some (.inl (nI k))] [] s _) 8 ?_ ?_
    · refine vX8_share_38 ⟨fun _ => ?_, fun h => absurd c8t h⟩
      rw [ixb, cl64 ha hb]
      refine ⟨fun h5 => ⟨vi64 ha hb, Or.inr rfl, Or.inl ⟨rfl, ⟨by grind, by grind, by grind, by grind, by grind, by grind, h5⟩, rfl⟩⟩, fun h5 => ⟨Or.inl rfl, Or.inr ⟨rfl, fun z => h5 z.2.2.2.2.2.2, rfl⟩⟩⟩
    · intro k hk ih
      refine vX8_share_38 ⟨fun h => absurd h (c8f hk), fun _ => ⟨fun h => ?_, fun h => ?_⟩⟩
      · rw [ixb, cl64 ha hk, nI_1]
        exact ⟨vi64 ha hk, by simpa only [sbN, if_neg h, Int32.add_assoc] using ih⟩
      · rw [nI_1]
        simpa only [sbN, if_pos h, Int32.add_zero] using ih
  have k2 := key
  rw [show sbN (s 58) a (nI b) 0 = 0 from rfl, Int32.add_zero] at k2
  exact k2
def upN (sh : Nat → Int32) (r : Nat) : Nat → Bool
  | 0 => false
  | n + 1 => upN sh r n || !decide (sh (n * 8 + r) ≤ 0)
def upB (sh ex : Nat → Int32) (r : Nat) : Bool := upN sh r 8 || !decide (ex r = 0)
theorem upN_mono {sh : Nat → Int32} {r : Nat} : ∀ {k n : Nat}, k ≤ n → upN sh r k = true → upN sh r n = true
  | k, 0, h, q => by rw [show k = 0 by omega] at q; exact q
  | k, n + 1, h, q => by
    rcases Nat.lt_or_ge n k with h1 | h1
    · rw [show k = n + 1 by omega] at q; exact q
    · rw [upN, upN_mono h1 q]; rfl
theorem S_isUp5 {l : Launch} {G : GG} {d r : Nat} (hr : r < 8) (s : Mem) : Spec l G d hX5_isUp [.inr 26, .inl (nI r)] s (fun x t => x = (if upB (s 28) (s 29) r then 1 else 0) ∧ s = t) := by
  refine spec_of iX5_isUp (by decide +kernel) (Nat.le_of_ble_eq_true rfl) (vX5_isUp_0 ?_)
  refine down0 (A := fun k => upN (s 28) r k = false → AW l G d hX5_isUp 2 [some (.inr 26), some (.inl (nI r)), some (.inl (nI k))] [] s (fun x t => x = (if upB (s 28) (s 29) r then 1 else 0) ∧ s = t)) 8 ?_ ?_ rfl
  · intro h0
    refine vX5_isUp_2 ⟨fun _ => ?_, fun h => absurd c8t h⟩
    rw [cl8 hr]
    refine ⟨vi8 hr, fun h => ⟨Or.inl rfl, ?_, rfl⟩, fun h => ⟨Or.inr rfl, ?_, rfl⟩⟩
    · simp [upB, h0, h]
    · simp [upB, h0, h]
  · intro k hk ih h0
    refine vX5_isUp_2 ⟨fun h => absurd h (c8f hk), fun _ => ?_⟩
    rw [ixa, cl64 hk hr, nI_1]
    refine ⟨vi64 hk hr, fun h => ih ?_, fun h => ⟨Or.inr rfl, ?_, rfl⟩⟩
    · simp [upN, h0, h]
    · have h1 : upN (s 28) r (k + 1) = true := by simp only [upN, h, decide_false, Bool.not_false, Bool.or_true]
      have h2 := upN_mono (n := 8) (by omega) h1
      simp [upB, h2]
theorem S_isUp8 {l : Launch} {G : GG} {d r : Nat} (hr : r < 8) (s : Mem) : Spec l G d hX8_isUp [.inr 49, .inl (nI r)] s (fun x t => x = (if upB (s 58) (s 59) r then 1 else 0) ∧ s = t) := by
  refine spec_of iX8_isUp (by decide +kernel) (Nat.le_of_ble_eq_true rfl) (vX8_isUp_0 ?_)
  have key : ∀ k, k ≤ 8 → AW l G d hX8_isUp 17 [some (.inr 49), some (.inl (nI r)), some (.inl (if upN (s 58) r k || !decide (s 59 r = 0) then 1 else 0)), some (.inl (nI k))] [] s (fun x t => x = (if upB (s 58) (s 59) r then 1 else 0) ∧ s = t) := by
    refine down 8 ?_ ?_
    · exact vX8_isUp_17 ⟨fun _ => ⟨b01 _, rfl, rfl⟩, fun h => absurd c8t h⟩
    · intro k hk ih
      refine vX8_isUp_17 ⟨fun h => absurd h (c8f hk), fun _ => ?_⟩
      rw [ib0, ixb, cl64 hk hr, nI_1]
      refine ⟨fun h => ?_, fun h => ⟨vi64 hk hr, fun h2 => ?_, fun h2 => ?_⟩⟩
      · have h1 : (upN (s 58) r (k + 1) || !decide (s 59 r = 0)) = true := by
          simp only [upN]
          grind
        rw [h1] at ih
        exact ih
      · have h1 : (upN (s 58) r (k + 1) || !decide (s 59 r = 0)) = false := by
          simp only [upN]
          grind
        rw [h1] at ih
        exact ih
      · have h1 : (upN (s 58) r (k + 1) || !decide (s 59 r = 0)) = true := by
          simp only [upN]
          grind
        rw [h1] at ih
        exact ih
  have k0 := key 0 (by omega)
  rw [cl8 hr]
  refine ⟨vi8 hr, fun h => ?_, fun h => ?_⟩
  · have e : (upN (s 58) r 0 || !decide (s 59 r = 0)) = false := by simp [upN, h]
    rw [e] at k0
    exact k0
  · have e : (upN (s 58) r 0 || !decide (s 59 r = 0)) = true := by simp [upN, h]
    rw [e] at k0
    exact k0
