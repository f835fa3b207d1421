/-! ===== ways and hours ===== -/
def wyP (n : Nat) (x y v : Int32) : Prop := (∃ j, j < n ∧ x = nI j) ∧ (∃ j, j < n ∧ y = nI j) ∧ ¬ x = y ∧ 1 ≤ v ∧ v ≤ 99
def wset (W : Nat → Nat → Nat) (a b h : Nat) : Nat → Nat → Nat := fun x y => if (x = a ∧ y = b) ∨ (x = b ∧ y = a) then h else W x y
theorem wset_ok {W : Nat → Nat → Nat} {n a b h : Nat} (hW : WOk W n) (ha : a < n) (hb : b < n) (hab : a ≠ b) (hh : h ≤ 99) : WOk (wset W a b h) n := by
  obtain ⟨h1, h2, h3⟩ := hW
  refine ⟨fun x => ?_, fun x y => ?_, fun x k hk hx => ⟨?_, ?_⟩⟩
  · simp only [wset]
    rw [if_neg (by omega)]
    exact h1 x
  · simp only [wset]
    have := h2 x y
    split <;> omega
  · simp only [wset]
    rw [if_neg (by omega)]
    exact (h3 x k hk hx).1
  · simp only [wset]
    rw [if_neg (by omega)]
    exact (h3 x k hk hx).2
theorem wset_B {W : Nat → Nat → Nat} {a b h : Nat} (hB : fB W 99) (hh : h ≤ 99) : fB (wset W a b h) 99 := by
  intro x y
  simp only [wset]
  split
  · exact Or.inr hh
  · exact hB x y
theorem wset_E {f : Nat → Int32} {W : Nat → Nat → Nat} {a b h : Nat} (hM : MatE f W) (ha : a < 8) (hb : b < 8) (hh : h ≤ 99) : MatE (upd (upd f (a * 8 + b) (nI h)) (b * 8 + a) (nI h)) (wset W a b h) := by
  intro x y hx hy
  have e : encI h = nI h := by unfold encI; rw [if_pos (by omega)]
  simp only [wset]
  by_cases q1 : x = b ∧ y = a
  · rw [if_pos (Or.inr q1), q1.1, q1.2, upd_at, e]
  · rw [upd_ne (by omega)]
    by_cases q2 : x = a ∧ y = b
    · rw [if_pos (Or.inl q2), q2.1, q2.2, upd_at, e]
    · rw [upd_ne (by omega), if_neg (by omega)]
      exact hM x y hx hy
def MatH (f : Nat → Int32) (W : Nat → Nat → Nat) : Prop := ∀ a b, a < 8 → b < 8 → ∃ h : Nat, h ≤ 99 ∧ f (a * 8 + b) = nI h ∧ W a b = if a = b then 0 else if h = 0 then 1000000 else h
theorem wset_H {f : Nat → Int32} {W : Nat → Nat → Nat} {a b h : Nat} (hM : MatH f W) (ha : a < 8) (hb : b < 8) (hab : a ≠ b) (h0 : 1 ≤ h) (hh : h ≤ 99) : MatH (upd (upd f (a * 8 + b) (nI h)) (b * 8 + a) (nI h)) (wset W a b h) := by
  intro x y hx hy
  simp only [wset]
  by_cases q1 : x = b ∧ y = a
  · refine ⟨h, hh, by rw [q1.1, q1.2, upd_at], ?_⟩
    rw [if_pos (Or.inr q1), if_neg (by omega), if_neg (by omega)]
  · rw [upd_ne (by omega)]
    by_cases q2 : x = a ∧ y = b
    · refine ⟨h, hh, by rw [q2.1, q2.2, upd_at], ?_⟩
      rw [if_pos (Or.inl q2), if_neg (by omega), if_neg (by omega)]
    · rw [upd_ne (by omega), if_neg (by omega)]
      exact hM x y hx hy
theorem in99 {v : Int32} (h0 : 1 ≤ v) (h1 : v ≤ 99) : ∃ h : Nat, 1 ≤ h ∧ h ≤ 99 ∧ v = nI h := by
  obtain ⟨j, hj, rfl⟩ := nI_of2 (x := v) (M := 99) (n := 99) (by decide) (by grind) h1
  refine ⟨j, ?_, hj, rfl⟩
  have := (nI_leI (a := 1) (b := j) (by decide) (by omega)).mp h0
  exact this
abbrev wyC (s : Mem) (a b : Nat) (v : Int32) : Mem := wrM (wrM (wrM s 37 (a * 8 + b) v) 37 (b * 8 + a) v) 33 6 (s 33 6 + 1)
abbrev wyM (s : Mem) (a b : Nat) (v : Int32) : Mem := wrM (wrM s 63 (a * 8 + b) v) 63 (b * 8 + a) v
theorem S7_way {l : Launch} {G : GG} {d n : Nat} (hd : 3 ≤ d) (hn : n ≤ 8) (x y v : Int32) {s : Mem} (hs : s 33 0 = nI n) {W : Nat → Nat → Nat} (hW : WOk W n) (hB : fB W 99) (hM : MatE (s 37) W) : Spec l G d hX7_way [.inr 0, .inl x, .inl y, .inl v] s (fun r t => (∃ a b h, a < n ∧ b < n ∧ a ≠ b ∧ 1 ≤ h ∧ h ≤ 99 ∧ x = nI a ∧ y = nI b ∧ v = nI h ∧ r = 1 ∧ ∃ f, t = stM (wyC s a b v) 38 f ∧ MatE f (fwN (wset W a b h) 8)) ∨ (¬ wyP n x y v ∧ r = 0 ∧ s = t)) := by
  have inner : ∀ {d : Nat}, 2 ≤ d → Spec l G d hX3_join [.inr 33, .inl x, .inl y, .inl v] s (fun r t => (∃ a b h, a < n ∧ b < n ∧ a ≠ b ∧ 1 ≤ h ∧ h ≤ 99 ∧ x = nI a ∧ y = nI b ∧ v = nI h ∧ r = 1 ∧ ∃ f, t = stM (wyC s a b v) 38 f ∧ MatE f (fwN (wset W a b h) 8)) ∨ (¬ wyP n x y v ∧ r = 0 ∧ s = t)) := by
    intro d hd
    refine spec_of iX3_join (by decide +kernel) (Nat.le_of_ble_eq_true rfl) (vX3_join_0 ?_)
    refine ⟨d - 1, _, by omega, S3_has (by omega) hn x hs, ?_⟩
    rintro r1 _ ⟨hr1, rfl⟩
    rcases hr1 with ⟨rfl, a, ha, rfl⟩ | ⟨rfl, hno⟩
    rotate_left
    · exact ⟨fun _ => ⟨Or.inl rfl, Or.inr ⟨fun q => hno q.1, rfl, rfl⟩⟩, fun h => absurd rfl h⟩
    refine ⟨fun h => absurd h (by decide), fun _ => ?_⟩
    refine ⟨d - 1, _, by omega, S3_has (by omega) hn y hs, ?_⟩
    rintro r2 _ ⟨hr2, rfl⟩
    rcases hr2 with ⟨rfl, b, hb, rfl⟩ | ⟨rfl, hno⟩
    rotate_left
    · exact ⟨fun _ => ⟨Or.inl rfl, Or.inr ⟨fun q => hno q.2.1, rfl, rfl⟩⟩, fun h => absurd rfl h⟩
    refine ⟨fun h => absurd h (by decide), fun _ => ⟨fun h => ⟨Or.inl rfl, Or.inr ⟨fun q => q.2.2.1 h, rfl, rfl⟩⟩, fun hab => ⟨fun h => ⟨Or.inl rfl, Or.inr ⟨fun q => ?_, rfl, rfl⟩⟩, fun h1 => ⟨fun h2 => ?_, fun h => ⟨Or.inl rfl, Or.inr ⟨fun q => h q.2.2.2.2, rfl, rfl⟩⟩⟩⟩⟩⟩
    · have := q.2.2.2.1; grind
    obtain ⟨h, h0, hh, rfl⟩ := in99 (v := v) (by grind) h2
    have hab' : a ≠ b := fun q => hab (by rw [q])
    have ha8 : a < 8 := by omega
    have hb8 : b < 8 := by omega
    rw [ixa, ixa, cl64 ha8 hb8, cl64 hb8 ha8]
    refine ⟨vi64 ha8 hb8, vi64 hb8 ha8, d - 1, _, by omega, S3_measure (n := n) (W := wset W a b h) (by omega) hn ?_ (wset_ok hW ha hb hab' hh) (wset_B hB hh) ?_, ?_⟩
    · exact hs
    · exact wset_E hM ha8 hb8 hh
    · rintro _ _ ⟨f, rfl, hf⟩
      exact ⟨Or.inr rfl, Or.inl ⟨a, b, h, ha, hb, hab', h0, hh, rfl, rfl, rfl, rfl, f, rfl, hf⟩⟩
  refine spec_of iX7_way (by decide +kernel) (Nat.le_of_ble_eq_true rfl) (vX7_way_0 ?_)
  refine ⟨d - 1, _, by omega, inner (by omega), fun r t h => ⟨?_, h⟩⟩
  rcases h with ⟨_, _, _, _, _, _, _, _, _, _, _, rfl, _⟩ | ⟨_, rfl, _⟩
  · exact Or.inr rfl
  · exact Or.inl rfl
theorem S8_way {l : Launch} {G : GG} {d n : Nat} (hd : 2 ≤ d) (hn : n ≤ 8) (x y v : Int32) {s : Mem} (hs : s 49 11 = nI n) : Spec l G d hX8_way [.inr 49, .inl x, .inl y, .inl v] s (fun r t => (∃ a b h, a < n ∧ b < n ∧ a ≠ b ∧ 1 ≤ h ∧ h ≤ 99 ∧ x = nI a ∧ y = nI b ∧ v = nI h ∧ r = 1 ∧ t = wyM s a b v) ∨ (¬ wyP n x y v ∧ r = 0 ∧ s = t)) := by
  refine spec_of iX8_way (by decide +kernel) (Nat.le_of_ble_eq_true rfl) (vX8_way_0 ?_)
  refine ⟨d - 1, _, by omega, S8_isTown (by omega) hn x hs, ?_⟩
  rintro r1 _ ⟨hr1, rfl⟩
  rcases hr1 with ⟨rfl, a, ha, rfl⟩ | ⟨rfl, hno⟩
  rotate_left
  · exact ⟨fun _ => ⟨Or.inl rfl, Or.inr ⟨fun q => hno q.1, rfl, rfl⟩⟩, fun h => absurd rfl h⟩
  refine ⟨fun h => absurd h (by decide), fun _ => ?_⟩
  refine ⟨d - 1, _, by omega, S8_isTown (by omega) hn y hs, ?_⟩
  rintro r2 _ ⟨hr2, rfl⟩
  rcases hr2 with ⟨rfl, b, hb, rfl⟩ | ⟨rfl, hno⟩
  rotate_left
  · exact ⟨fun _ => ⟨Or.inl rfl, Or.inr ⟨fun q => hno q.2.1, rfl, rfl⟩⟩, fun h => absurd rfl h⟩
  refine ⟨fun h => absurd h (by decide), fun _ => ⟨fun h => ⟨Or.inl rfl, Or.inr ⟨fun q => q.2.2.1 h, rfl, rfl⟩⟩, fun hab => ?_⟩⟩
  refine ⟨d - 1, _, by omega, S_in _ _ _ _, ?_⟩
  rintro _ _ ⟨rfl, rfl⟩
  rw [i01]
  refine ⟨fun h1 => ?_, fun h1 => ⟨Or.inl rfl, Or.inr ⟨fun q => h1 q.2.2.2, rfl, rfl⟩⟩⟩
  have h1 := Classical.not_not.mp h1
  obtain ⟨h, h0, hh, rfl⟩ := in99 h1.1 h1.2
  have ha8 : a < 8 := by omega
  have hb8 : b < 8 := by omega
  rw [ixb, ixb, cl64 ha8 hb8, cl64 hb8 ha8]
  exact ⟨vi64 ha8 hb8, vi64 hb8 ha8, Or.inr rfl, Or.inl ⟨a, b, h, ha, hb, fun q => hab (by rw [q]), h0, hh, rfl, rfl, rfl, rfl, rfl⟩⟩
theorem S8_reckons {l : Launch} {G : GG} {d : Nat} {s : Mem} {W : Nat → Nat → Nat} (hW : WOk W 8) (hB : fB W 99) (hM : MatH (s 63) W) : Spec l G d hX8_reckons [.inr 49] s (fun _ t => ∃ f, t = stM s 64 f ∧ MatN f (fwN W 8)) := by
  refine spec_of iX8_reckons (by decide +kernel) (Nat.le_of_ble_eq_true rfl) (vX8_reckons_0 ?_)
  have key : ∀ k, k ≤ 8 → ∀ f, MatN f (fwN W k) → AW l G d hX8_reckons 80 [some (.inr 49), some (.inl (nI k)), none, none, none] [] (stM s 64 f) (fun _ t => ∃ f, t = stM s 64 f ∧ MatN f (fwN W 8)) := by
    refine down 8 ?_ ?_
    · intro f hf
      exact vX8_reckons_80 ⟨fun _ => ⟨f, rfl, hf⟩, fun h => absurd c8t h⟩
    · intro k hk ih f hf
      refine vX8_reckons_80 ⟨fun h => absurd h (c8f hk), fun _ => ?_⟩
      have hok := fwN_ok hW k (by omega)
      have rows : ∀ a, a ≤ 8 → ∀ f, MatN f (fwX (fwN W k) k 8 a 0) → AW l G d hX8_reckons 88 [some (.inr 49), some (.inl (nI k)), some (.inl (nI a)), none, none] [] (stM s 64 f) (fun _ t => ∃ f, t = stM s 64 f ∧ MatN f (fwN W 8)) := by
        refine down 8 ?_ ?_
        · intro f hf
          refine vX8_reckons_88 ⟨fun _ => ?_, fun h => absurd c8t h⟩
          rw [nI_1]
          rw [fwX_end hok hk] at hf
          exact aw_weak (L := [some (.inr 49), some (.inl (nI (k + 1))), none, none, none]) ⟨rfl, rfl, trivial⟩ (ih f hf)
        · intro a ha iha f hf
          refine vX8_reckons_88 ⟨fun h => absurd h (c8f ha), fun _ => ?_⟩
          have cols : ∀ b, b ≤ 8 → ∀ f, MatN f (fwX (fwN W k) k 8 a b) → AW l G d hX8_reckons 96 [some (.inr 49), some (.inl (nI k)), some (.inl (nI a)), some (.inl (nI b)), none] [] (stM s 64 f) (fun _ t => ∃ f, t = stM s 64 f ∧ MatN f (fwN W 8)) := by
            refine down 8 ?_ ?_
            · intro f hf
              refine vX8_reckons_96 ⟨fun _ => ?_, fun h => absurd c8t h⟩
              rw [nI_1]
              rw [fwX_row] at hf
              exact aw_weak (L := [some (.inr 49), some (.inl (nI k)), some (.inl (nI (a + 1))), none, none]) ⟨rfl, rfl, rfl, trivial⟩ (iha f hf)
            · intro b hb ihb f hf
              have hx := fwX_at (n := 8) (a := a) (b := b) (hok.1 k)
              have e1 := hf a k ha hk
              have e2 := hf k b hk hb
              have e3 := hf a b ha hb
              rw [hx.2.1] at e1
              rw [hx.2.2] at e2
              rw [hx.1] at e3
              have b1 := hok.2.1 a k
              have b2 := hok.2.1 k b
              have b3 := hok.2.1 a b
              have fin := ihb (upd f (a * 8 + b) (nI (fwS (fwN W k) k a b))) (by
                rw [← fwX_step ha hb]
                exact MatN_upd hf hb)
              refine vX8_reckons_96 ⟨fun h => absurd h (c8f hb), fun _ => ?_⟩
              rw [ixb, ixb, ixb, cl64 ha hk, cl64 hk hb, cl64 ha hb, stM_self, e1, e2, e3, nI_add, nI_leI (by omega) (by omega), stM_wr, nI_1]
              refine ⟨vi64 ha hk, vi64 hk hb, vi64 ha hb, fun h => ?_, fun h => ⟨vi64 ha hb, ?_⟩⟩
              · have q : fwS (fwN W k) k a b = fwN W k a b := by simp only [fwS]; rw [if_neg (by omega)]
                rw [q, ← e3, upd_id] at fin
                exact aw_weak (L := [some (.inr 49), some (.inl (nI k)), some (.inl (nI a)), some (.inl (nI (b + 1))), none]) ⟨rfl, rfl, rfl, rfl, trivial⟩ fin
              · have q : fwS (fwN W k) k a b = fwN W k a k + fwN W k k b := by simp only [fwS]; rw [if_pos (by omega)]
                rw [q] at fin
                exact aw_weak (L := [some (.inr 49), some (.inl (nI k)), some (.inl (nI a)), some (.inl (nI (b + 1))), none]) ⟨rfl, rfl, rfl, rfl, trivial⟩ fin
          exact cols 0 (Nat.zero_le _) f hf
      exact rows 0 (Nat.zero_le _) f (by rw [fwX_0]; exact hf)
  have ini : ∀ a, a ≤ 8 → ∀ f : Nat → Int32, (∀ x y, x < 8 → y < 8 → x < a → f (x * 8 + y) = nI (W x y)) → AW l G d hX8_reckons 2 [some (.inr 49), some (.inl (nI a)), none, none, none] [] (stM s 64 f) (fun _ t => ∃ f, t = stM s 64 f ∧ MatN f (fwN W 8)) := by
    refine down 8 ?_ ?_
    · intro f hf
      exact vX8_reckons_2 ⟨fun _ => key 0 (Nat.zero_le _) f (fun x y hx hy => hf x y hx hy hx), fun h => absurd c8t h⟩
    · intro a ha ih f hf
      refine vX8_reckons_2 ⟨fun h => absurd h (c8f ha), fun _ => ?_⟩
      have cols : ∀ b, b ≤ 8 → ∀ f : Nat → Int32, (∀ x y, x < 8 → y < 8 → (x < a ∨ (x = a ∧ y < b)) → f (x * 8 + y) = nI (W x y)) → AW l G d hX8_reckons 10 [some (.inr 49), some (.inl (nI a)), some (.inl (nI b)), none, none] [] (stM s 64 f) (fun _ t => ∃ f, t = stM s 64 f ∧ MatN f (fwN W 8)) := by
        refine down 8 ?_ ?_
        · intro f hf
          refine vX8_reckons_10 ⟨fun _ => ?_, fun h => absurd c8t h⟩
          rw [nI_1]
          exact aw_weak (L := [some (.inr 49), some (.inl (nI (a + 1))), none, none, none]) ⟨rfl, rfl, trivial⟩ (ih f (fun x y hx hy q => hf x y hx hy (by omega)))
        · intro b hb ihb f hf
          obtain ⟨h, hh, eh, ew⟩ := hM a b ha hb
          refine vX8_reckons_10 ⟨fun h => absurd h (c8f hb), fun _ => ?_⟩
          have e63 : stM s 64 f 63 (a * 8 + b) = nI h := by rw [stM_ne (by decide)]; exact eh
          rw [ixb, cl64 ha hb, e63, nI_eq (by omega) (by omega), nI_1, stM_wr, stM_wr, stM_wr]
          have fin := ihb (upd f (a * 8 + b) (nI (W a b))) (fun x y hx hy q => by
            by_cases p : x = a ∧ y = b
            · rw [p.1, p.2, upd_at]
            · rw [upd_ne (by omega)]
              exact hf x y hx hy (by omega))
          rw [ew] at fin
          have h00 : nI h ≤ 0 ↔ h ≤ 0 := nI_leI (b := 0) (by omega) (by decide)
          rw [h00]
          refine ⟨fun hab => ⟨vi64 ha hb, fun h1 => ⟨vi64 ha hb, ?_⟩, fun h1 => ⟨vi64 ha hb, vi64 ha hb, ?_⟩⟩, fun hab => ⟨vi64 ha hb, ?_⟩⟩
          · rw [if_neg hab, if_pos (by omega)] at fin
            exact fin
          · rw [if_neg hab, if_neg (by omega)] at fin
            exact fin
          · rw [if_pos hab] at fin
            exact fin
      exact cols 0 (Nat.zero_le _) f (fun x y hx hy q => hf x y hx hy (by omega))
  have k0 := ini 0 (Nat.zero_le _) (s 64) (fun x y _ _ q => absurd q (Nat.not_lt_zero x))
  rw [stM_id] at k0
  exact k0
def hrP (n : Nat) (x y : Int32) : Prop := (∃ j, j < n ∧ x = nI j) ∧ ∃ j, j < n ∧ y = nI j
theorem S3_leastHours {l : Launch} {G : GG} {d a b : Nat} (ha : a < 8) (hb : b < 8) {s : Mem} {M : Nat → Nat → Nat} (hM : MatE (s 38) M) : Spec l G d hX3_leastHours [.inr 33, .inl (nI a), .inl (nI b)] s (fun r t => r = encI (M a b) ∧ s = t) := by
  refine spec_of iX3_leastHours (by decide +kernel) (Nat.le_of_ble_eq_true rfl) (vX3_leastHours_0 ?_)
  rw [ixa, cl64 ha hb]
  exact ⟨vi64 ha hb, hM a b ha hb, rfl⟩
theorem S7_hours {l : Launch} {G : GG} {d n : Nat} (hd : 2 ≤ d) (hn : n ≤ 8) (x y : Int32) {s : Mem} (hs : s 33 0 = nI n) {M : Nat → Nat → Nat} (hM : MatE (s 38) M) : Spec l G d hX7_hours [.inr 0, .inl x, .inl y] s (fun r t => ((∃ a b, a < n ∧ b < n ∧ x = nI a ∧ y = nI b ∧ r = encI (M a b)) ∨ (¬ hrP n x y ∧ r = -1)) ∧ s = t) := by
  refine spec_of iX7_hours (by decide +kernel) (Nat.le_of_ble_eq_true rfl) (vX7_hours_0 ?_)
  refine ⟨d - 1, _, by omega, S3_has (by omega) hn x hs, ?_⟩
  rintro r1 _ ⟨hr1, rfl⟩
  rcases hr1 with ⟨rfl, a, ha, rfl⟩ | ⟨rfl, hno⟩
  rotate_left
  · exact ⟨fun _ => ⟨Or.inr ⟨fun q => hno q.1, rfl⟩, rfl⟩, fun h => absurd rfl h⟩
  refine ⟨fun h => absurd h (by decide), fun _ => ?_⟩
  refine ⟨d - 1, _, by omega, S3_has (by omega) hn y hs, ?_⟩
  rintro r2 _ ⟨hr2, rfl⟩
  rcases hr2 with ⟨rfl, b, hb, rfl⟩ | ⟨rfl, hno⟩
  rotate_left
  · exact ⟨fun h => absurd rfl h, fun _ => ⟨Or.inr ⟨fun q => hno q.2, rfl⟩, rfl⟩⟩
  refine ⟨fun _ => ⟨d - 1, _, by omega, S3_leastHours (by omega) (by omega) hM, ?_⟩, fun h => absurd h (by decide)⟩
  rintro _ _ ⟨rfl, rfl⟩
  exact ⟨Or.inl ⟨a, b, ha, hb, rfl, rfl, rfl⟩, rfl⟩
theorem S8_hours {l : Launch} {G : GG} {d n : Nat} (hd : 2 ≤ d) (hn : n ≤ 8) (x y : Int32) {s : Mem} (hs : s 49 11 = nI n) {W : Nat → Nat → Nat} (hW : WOk W 8) (hB : fB W 99) (hM : MatH (s 63) W) : Spec l G d hX8_hours [.inr 49, .inl x, .inl y] s (fun r t => ((∃ a b, a < n ∧ b < n ∧ x = nI a ∧ y = nI b ∧ r = encI (fwN W 8 a b)) ∨ (¬ hrP n x y ∧ r = -1)) ∧ ∃ f, t = stM s 64 f) := by
  refine spec_of iX8_hours (by decide +kernel) (Nat.le_of_ble_eq_true rfl) (vX8_hours_0 ?_)
  refine ⟨d - 1, _, by omega, S8_isTown (by omega) hn x hs, ?_⟩
  rintro r1 _ ⟨hr1, rfl⟩
  rcases hr1 with ⟨rfl, a, ha, rfl⟩ | ⟨rfl, hno⟩
  rotate_left
  · exact ⟨fun _ => ⟨Or.inr ⟨fun q => hno q.1, rfl⟩, _, stM_id.symm⟩, fun h => absurd rfl h⟩
  refine ⟨fun h => absurd h (by decide), fun _ => ?_⟩
  refine ⟨d - 1, _, by omega, S8_isTown (by omega) hn y hs, ?_⟩
  rintro r2 _ ⟨hr2, rfl⟩
  rcases hr2 with ⟨rfl, b, hb, rfl⟩ | ⟨rfl, hno⟩
  rotate_left
  · exact ⟨fun h => absurd rfl h, fun _ => ⟨Or.inr ⟨fun q => hno q.2, rfl⟩, _, stM_id.symm⟩⟩
  have ha8 : a < 8 := by omega
  have hb8 : b < 8 := by omega
  refine ⟨fun _ => ⟨d - 1, _, by omega, S8_reckons hW hB hM, ?_⟩, fun h => absurd h (by decide)⟩
  rintro _ _ ⟨f, rfl, hf⟩
  have hv := (fwN_ok hW 8 (Nat.le_refl _)).2.1 a b
  have h6 : nI (fwN W 8 a b) < (1000000 : Int32) ↔ fwN W 8 a b < 1000000 := nI_ltI (b := 1000000) (by omega) (by decide)
  rw [ixb, cl64 ha8 hb8, stM_self, hf a b ha8 hb8, h6]
  refine ⟨vi64 ha8 hb8, fun h => ⟨vi64 ha8 hb8, Or.inl ⟨a, b, ha, hb, rfl, rfl, ?_⟩, f, rfl⟩, fun h => ⟨Or.inl ⟨a, b, ha, hb, rfl, rfl, ?_⟩, f, rfl⟩⟩
  · unfold encI; rw [if_pos h]
  · unfold encI; rw [if_neg h]
