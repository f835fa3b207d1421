/-! ===== the best order, sought with bounds ===== -/
theorem nI_min {a b : Nat} (ha : a < 2 ^ 31) (hb : b < 2 ^ 31) : (if nI a < nI b then nI a else nI b) = nI (if a < b then a else b) := by
  by_cases h : a < b
  · rw [if_pos h, if_pos (nI_lt h hb)]
  · rw [if_neg h, if_neg (fun q => h ((nI_ltI ha hb).mp q))]
theorem S0_least {l : Launch} {G : GG} {d : Nat} {D : Shw} {s : Mem} (hd : 1 ≤ d) (hD : ShOk D) (hS : ShC s D) : Spec l G d hX0_readLeastChanges [.inr 15] s (fun _ t => ∃ f, t = stM s 24 f ∧ ∀ a, a < D 0 0 → f a = nI (2 * lcN D a (D 0 0))) := by
  refine spec_of iX0_readLeastChanges (by decide +kernel) (Nat.le_of_ble_eq_true rfl) (vX0_readLeastChanges_0 ?_)
  have hD0 := hD.1
  obtain ⟨s0, sA, _, _⟩ := hS
  have outer : ∀ k, k ≤ D 0 0 → ∀ f : Nat → Int32, (∀ a, a < k → f a = nI (2 * lcN D a (D 0 0))) → AW l G d hX0_readLeastChanges 2 [some (.inr 15), some (.inl (nI k)), none, none] [] (stM s 24 f) (fun _ t => ∃ f, t = stM s 24 f ∧ ∀ a, a < D 0 0 → f a = nI (2 * lcN D a (D 0 0))) := by
    refine down (D 0 0) ?_ ?_
    · intro f hf
      have e0 : stM s 24 f 1 0 = nI (D 0 0) := s0
      refine vX0_readLeastChanges_2 ⟨fun _ => ⟨f, rfl, hf⟩, fun h => absurd (by rw [e0]; exact nI_le (Nat.le_refl _) (by omega)) h⟩
    · intro k hk ih f hf
      have hk8 : k < 8 := by omega
      have e0 : stM s 24 f 1 0 = nI (D 0 0) := s0
      have e6 : stM s 24 f 6 = s 6 := rfl
      have hp : ∀ i, D 5 i < 2 ^ 8 := hD.2.2.2.2.2.1
      refine vX0_readLeastChanges_2 ⟨fun h => absurd h (by rw [e0]; exact nI_ge hk (by omega)), fun _ => ⟨vi8 hk8, d - 1, (fun r t => r = nI (lcN D k 0) ∧ stM s 24 f = t), by omega, ?_, ?_⟩⟩
      · rw [cl8 hk8, e6, (sA k hk8).2.2.2.2]
        have := S_bitCount (l := l) (G := G) (d := d - 1) (n := D 5 k) (Nat.lt_of_lt_of_le (hp k) (by decide)) (stM s 24 f)
        have e : lcN D k 0 = ctB (D 5 k).testBit 16 := by simp only [lcN, cbN, Nat.zero_xor]
        rw [e]
        exact this
      · rintro _ _ ⟨rfl, rfl⟩
        have inner : ∀ j, j ≤ D 0 0 → AW l G d hX0_readLeastChanges 28 [some (.inr 15), some (.inl (nI k)), some (.inl (nI (lcN D k j))), some (.inl (nI j))] [] (stM s 24 f) (fun _ t => ∃ f, t = stM s 24 f ∧ ∀ a, a < D 0 0 → f a = nI (2 * lcN D a (D 0 0))) := by
          refine down (D 0 0) ?_ ?_
          · have e2 : (2 : Int32) * nI (lcN D k (D 0 0)) = nI (2 * lcN D k (D 0 0)) := pk_mul 2 _
            refine vX0_readLeastChanges_28 ⟨fun _ => ⟨vi8 hk8, ?_⟩, fun h => absurd (by rw [e0]; exact nI_le (Nat.le_refl _) (by omega)) h⟩
            rw [cl8 hk8, stM_wr, e2, nI_1]
            refine aw_w (ih (upd f k (nI (2 * lcN D k (D 0 0)))) (fun a ha => ?_)) ⟨rfl, rfl, trivial⟩
            by_cases hak : a = k
            · rw [hak, upd_at]
            · rw [upd_ne hak]
              exact hf a (by omega)
          · intro j hj ihj
            have hj8 : j < 8 := by omega
            refine vX0_readLeastChanges_28 ⟨fun h => absurd h (by rw [e0]; exact nI_ge hj (by omega)), fun _ => ?_⟩
            rw [nI_eq (by omega) (by omega), nI_1, cl8 hj8, cl8 hk8]
            refine ⟨fun h => ?_, fun h => ⟨d - 1, _, by omega, S4_isClowns hj8 (hD.2.2.1 j) (sA j hj8).2.1, ?_⟩⟩
            · have e : lcN D k (j + 1) = lcN D k j := by
                simp only [lcN]
                rw [if_neg (fun q => q.1 h)]
              rw [e] at ihj
              exact ihj
            · rintro _ _ ⟨rfl, rfl⟩
              by_cases h3 : D 2 j = 3
              · rw [if_pos h3]
                refine ⟨fun _ => ?_, fun h => absurd h (by decide)⟩
                have e : lcN D k (j + 1) = lcN D k j := by
                  simp only [lcN]
                  rw [if_neg (fun q => q.2 h3)]
                rw [e] at ihj
                exact ihj
              · rw [if_neg h3]
                refine ⟨fun h => absurd rfl h, fun _ => ⟨vi8 hj8, vi8 hk8, d - 1, (fun r t => r = nI (cbN (D 5 j) (D 5 k)) ∧ stM s 24 f = t), by omega, ?_, ?_⟩⟩
                · rw [e6, (sA k hk8).2.2.2.2, (sA j hj8).2.2.2.2, nI_xor]
                  exact S_bitCount (Nat.lt_of_lt_of_le (Nat.xor_lt_two_pow (hp j) (hp k)) (by decide)) _
                · rintro _ _ ⟨rfl, rfl⟩
                  have b1 := cbN_le (D 5 j) (D 5 k)
                  have b2 := lcN_le (D := D) (a := k) j
                  have e : lcN D k (j + 1) = if cbN (D 5 j) (D 5 k) < lcN D k j then cbN (D 5 j) (D 5 k) else lcN D k j := by
                    rw [lcN, if_pos ⟨h, h3⟩]
                  rw [e] at ihj
                  rw [nI_min (by omega) (by omega)]
                  exact ⟨hd, ihj⟩
        exact inner 0 (Nat.zero_le _)
  have h0 := outer 0 (Nat.zero_le _) (s 24) (fun a h => absurd h (Nat.not_lt_zero a))
  rw [stM_id] at h0
  exact h0
def ArrL (f : Nat → Int32) (Z : List Nat) : Prop := ∀ i x, Z[i]? = some x → f i = nI x
theorem ins_ok {D : Shw} {k j : Nat} {Z : List Nat} (hZ : ZOk D k Z) (h1 : ∀ x ∈ Z.take j, D 3 x ≤ D 3 k) (h2 : ∀ x ∈ Z.drop j, D 3 k ≤ D 3 x) : ZOk D (k + 1) (Z.take j ++ k :: Z.drop j) := by
  have hp : (Z.take j ++ k :: Z.drop j).Perm (k :: Z) := by
    have := List.perm_middle (a := k) (l₁ := Z.take j) (l₂ := Z.drop j)
    rw [List.take_append_drop] at this
    exact this
  have hk : k ∉ Z := fun q => Nat.lt_irrefl _ ((hZ.2.1 k).mp q)
  refine ⟨hp.nodup_iff.mpr (List.nodup_cons.mpr ⟨hk, hZ.1⟩), fun x => ?_, ?_⟩
  · rw [hp.mem_iff, List.mem_cons, hZ.2.1 x]
    omega
  · have hs := hZ.2.2
    rw [← List.take_append_drop j Z] at hs
    obtain ⟨s1, s2, s3⟩ := List.pairwise_append.mp hs
    refine List.pairwise_append.mpr ⟨s1, List.pairwise_cons.mpr ⟨h2, s2⟩, fun a ha b hb => ?_⟩
    rcases List.mem_cons.mp hb with rfl | hb
    · exact h1 a ha
    · exact s3 a ha b hb
theorem ins_arr {f : Nat → Int32} {k j : Nat} {Z : List Nat} (hj : j ≤ Z.length) (h1 : ∀ i x, i < j → Z[i]? = some x → f i = nI x) (h2 : ∀ i x, j ≤ i → Z[i]? = some x → f (i + 1) = nI x) : ArrL (upd f j (nI k)) (Z.take j ++ k :: Z.drop j) := by
  intro i x hx
  have hl : (Z.take j).length = j := by rw [List.length_take]; omega
  rw [List.getElem?_append, hl] at hx
  by_cases hi : i < j
  · rw [if_pos hi, List.getElem?_take, if_pos hi] at hx
    rw [upd_ne (by omega)]
    exact h1 i x hi hx
  · rw [if_neg hi] at hx
    by_cases he : i = j
    · subst he
      rw [Nat.sub_self] at hx
      cases hx
      rw [upd_at]
    · obtain ⟨q, rfl⟩ : ∃ q, i = j + q + 1 := ⟨i - j - 1, by omega⟩
      rw [show j + q + 1 - j = q + 1 by omega, List.getElem?_cons_succ, List.getElem?_drop] at hx
      rw [upd_ne (by omega)]
      exact h2 (j + q) x (by omega) hx
theorem S0_sort {l : Launch} {G : GG} {d : Nat} {D : Shw} {s : Mem} (hD : ShOk D) (hS : ShC s D) : Spec l G d hX0_sortByWorth [.inr 15] s (fun _ t => ∃ f Z, t = stM s 25 f ∧ Z.length = D 0 0 ∧ ZOk D (D 0 0) Z ∧ ArrL f Z) := by
  refine spec_of iX0_sortByWorth (by decide +kernel) (Nat.le_of_ble_eq_true rfl) (vX0_sortByWorth_0 ?_)
  have hD0 := hD.1
  have hw := hD.2.2.2.1
  obtain ⟨s0, sA, _, _⟩ := hS
  have outer : ∀ k, k ≤ D 0 0 → ∀ (f : Nat → Int32) (Z : List Nat), Z.length = k → ZOk D k Z → ArrL f Z → AW l G d hX0_sortByWorth 2 [some (.inr 15), some (.inl (nI k)), none] [] (stM s 25 f) (fun _ t => ∃ f Z, t = stM s 25 f ∧ Z.length = D 0 0 ∧ ZOk D (D 0 0) Z ∧ ArrL f Z) := by
    refine down (D 0 0) ?_ ?_
    · intro f Z hl hZ hf
      have e0 : stM s 25 f 1 0 = nI (D 0 0) := s0
      refine vX0_sortByWorth_2 ⟨fun _ => ⟨f, Z, rfl, hl, hZ, hf⟩, fun h => absurd (by rw [e0]; exact nI_le (Nat.le_refl _) (by omega)) h⟩
    · intro k hk ih f Z hl hZ hf
      have hk8 : k < 8 := by omega
      have e0 : stM s 25 f 1 0 = nI (D 0 0) := s0
      refine vX0_sortByWorth_2 ⟨fun h => absurd h (by rw [e0]; exact nI_ge hk (by omega)), fun _ => ?_⟩
      have stop : ∀ j, j ≤ k → ∀ g : Nat → Int32, (∀ i x, i < j → Z[i]? = some x → g i = nI x) → (∀ i x, j ≤ i → Z[i]? = some x → g (i + 1) = nI x ∧ D 3 k < D 3 x) → (∀ x ∈ Z.take j, D 3 x ≤ D 3 k) → AW l G d hX0_sortByWorth 2 [some (.inr 15), some (.inl (nI k + 1)), some (.inl (nI j))] [] (wrM (stM s 25 g) 25 (nI j).toNatClampNeg (nI k)) (fun _ t => ∃ f Z, t = stM s 25 f ∧ Z.length = D 0 0 ∧ ZOk D (D 0 0) Z ∧ ArrL f Z) := by
        intro j hj g g1 g2 g3
        rw [nI_1, nI_clamp (n := j) (by omega), stM_wr]
        refine aw_w (ih (upd g j (nI k)) (Z.take j ++ k :: Z.drop j) ?_ (ins_ok hZ g3 (fun x hx => ?_)) (ins_arr (by omega) g1 (fun i x h1 h2 => (g2 i x h1 h2).1))) ⟨rfl, rfl, trivial⟩
        · simp only [List.length_append, List.length_take, List.length_cons, List.length_drop]
          omega
        · obtain ⟨i, hi⟩ := List.getElem?_of_mem hx
          rw [List.getElem?_drop] at hi
          exact Nat.le_of_lt (g2 (j + i) x (by omega) hi).2
      have inner : ∀ j, j ≤ k → ∀ g : Nat → Int32, (∀ i x, i < j → Z[i]? = some x → g i = nI x) → (∀ i x, j ≤ i → Z[i]? = some x → g (i + 1) = nI x ∧ D 3 k < D 3 x) → AW l G d hX0_sortByWorth 15 [some (.inr 15), some (.inl (nI k)), some (.inl (nI j))] [] (stM s 25 g) (fun _ t => ∃ f Z, t = stM s 25 f ∧ Z.length = D 0 0 ∧ ZOk D (D 0 0) Z ∧ ArrL f Z) := by
        intro j
        induction j with
        | zero =>
          intro hj g g1 g2
          refine vX0_sortByWorth_15 ⟨fun _ => ⟨vi8 (by omega), stop 0 hj g g1 g2 (fun x hx => by simp at hx)⟩, fun h => absurd (by decide) h⟩
        | succ j ihj =>
          intro hj g g1 g2
          have hjl : j < Z.length := by omega
          have hy := List.getElem?_eq_getElem hjl
          generalize Z[j] = y at hy
          have hyZ : y ∈ Z := List.mem_of_getElem? hy
          have hyk := (hZ.2.1 y).mp hyZ
          have hy8 : y < 8 := by omega
          have eg : stM s 25 g 25 j = nI y := by rw [stM_self]; exact g1 j y (by omega) hy
          have e4 : stM s 25 g 4 = s 4 := rfl
          have w1 := hw y
          have w2 := hw k
          refine vX0_sortByWorth_15 ⟨fun h => absurd h (nI_nle (by omega) (by omega)), fun _ => ?_⟩
          have st := stop (j + 1) hj g g1 g2
          rw [nI_pred, nI_clamp (n := j) (by omega), eg, cl8 hy8, cl8 hk8, e4, (sA y hy8).2.2.1, (sA k hk8).2.2.1, nI_leI (by omega) (by omega), pk_m1]
          refine ⟨vi8 (by omega), vi8 hy8, vi8 hk8, fun h => ⟨vi8 (by omega), st ?_⟩, fun h => ⟨vi8 (by omega), vi8 (by omega), ?_⟩⟩
          · intro x hx
            rw [List.take_succ, hy] at hx
            rcases List.mem_append.mp hx with hx | hx
            · have hs := hZ.2.2
              rw [← List.take_append_drop j Z] at hs
              obtain ⟨_, _, s3⟩ := List.pairwise_append.mp hs
              have hyd : y ∈ Z.drop j := List.mem_of_getElem? (i := 0) (by rw [List.getElem?_drop]; exact hy)
              exact Nat.le_trans (s3 x hx y hyd) h
            · have : x = y := by simpa using hx
              rw [this]
              exact h
          · rw [nI_clamp (n := j + 1) (by omega), stM_wr]
            refine ihj (by omega) _ (fun i x h1 h2 => ?_) (fun i x h1 h2 => ?_)
            · rw [upd_ne (by omega)]
              exact g1 i x (by omega) h2
            · by_cases he : i = j
              · subst he
                rw [hy] at h2
                cases h2
                exact ⟨upd_at, by omega⟩
              · rw [upd_ne (by omega)]
                exact g2 i x (by omega) h2
      exact inner k (Nat.le_refl _) f (fun i x _ h => hf i x h) (fun i x h1 h2 => absurd (List.getElem?_eq_some_iff.mp h2).1 (by omega))
  have h0 := outer 0 (Nat.zero_le _) (s 25) [] rfl ⟨List.nodup_nil, fun x => by simp, List.Pairwise.nil⟩ (fun i x h => by simp at h)
  rw [stM_id] at h0
  exact h0
abbrev iI (z : Int) : Int32 := Int32.ofInt z
theorem iI_n (k : Nat) : nI k = iI (k : Int) := Int32.ofInt_eq_ofNat.symm
theorem mxI {z : Int} (h1 : -1000000 ≤ z) (h2 : z ≤ 1000000) : (if (0 : Int32) < iI z then iI z else (0 : Int32)) = nI z.toNat := by
  have e : (iI z).toInt = z := Int32.toInt_ofInt_of_le (by omega) (by omega)
  by_cases h : 0 < z
  · have h3 : (0 : Int32) < iI z := by
      rw [Int32.lt_iff_toInt_lt, e]
      exact h
    rw [if_pos h3, iI_n]
    congr 1
    omega
  · have h3 : ¬ (0 : Int32) < iI z := by
      rw [Int32.lt_iff_toInt_lt, e]
      exact h
    rw [if_neg h3, show z.toNat = 0 by omega]
    rfl
theorem S0_gapsB {l : Launch} {G : GG} {d : Nat} {D : Shw} {s : Mem} {L : List Nat} (hd : 1 ≤ d) (hD : ShOk D) (hS : ShC s D) (hu : UsedC (s 18 L.length) L) (hp : s 20 L.length = nI (psN D L)) (hc : ∀ a, a < D 0 0 → s 24 a = nI (2 * lcN D a (D 0 0))) (hl : L.length ≤ 8) : Spec l G d hX0_leastGapsBehind [.inr 15, .inl (nI L.length)] s (fun r t => r = nI (lsN D L (D 0 0)).toNat ∧ s = t) := by
  refine spec_of iX0_leastGapsBehind (by decide +kernel) (Nat.le_of_ble_eq_true rfl) (vX0_leastGapsBehind_0 ?_)
  have hD0 := hD.1
  obtain ⟨s0, sA, _, _⟩ := hS
  have v9 : vp_in (nI L.length) 9 := vp_in_nI (by omega) (by decide)
  have loop : ∀ k, k ≤ D 0 0 → AW l G d hX0_leastGapsBehind 13 [some (.inr 15), some (.inl (nI L.length)), some (.inl (iI (lsN D L k))), some (.inl (nI k))] [] s (fun r t => r = nI (lsN D L (D 0 0)).toNat ∧ s = t) := by
    refine down (D 0 0) ?_ ?_
    · have hb := lsN_bd hD hl (D 0 0)
      refine vX0_leastGapsBehind_13 ⟨fun _ => ⟨hd, mxI (by omega) (by omega), rfl⟩, fun h => absurd (by rw [s0]; exact nI_le (Nat.le_refl _) (by omega)) h⟩
    · intro k hk ih
      have hk8 : k < 8 := by omega
      refine vX0_leastGapsBehind_13 ⟨fun h => absurd h (by rw [s0]; exact nI_ge hk (by omega)), fun _ => ⟨v9, ?_⟩⟩
      rw [nI_clamp (n := L.length) (by omega), bt_test k (by omega), hu k (by omega), nI_1, cl8 hk8]
      by_cases hm : k ∈ L
      · refine ⟨fun _ => ?_, fun h => absurd hm (of_decide_eq_false h)⟩
        have e : lsN D L (k + 1) = lsN D L k := by
          simp only [lsN]
          rw [if_pos hm, Int.add_zero]
        rw [e] at ih
        exact ih
      · refine ⟨fun h => absurd (decide_eq_false hm) h, fun _ => ⟨d - 1, _, by omega, S4_isClowns hk8 (hD.2.2.1 k) (sA k hk8).2.1, ?_⟩⟩
        rintro _ _ ⟨rfl, rfl⟩
        by_cases h3 : D 2 k = 3
        · rw [if_pos h3]
          refine ⟨fun h => absurd h (by decide), fun _ => ⟨vi8 hk8, ?_⟩⟩
          have e : iI (lsN D L k) + (-(s 2 k)) = iI (lsN D L (k + 1)) := by
            rw [(sA k hk8).1, iI_n, ← Int32.ofInt_neg, ← Int32.ofInt_add]
            simp only [lsN, vvN]
            rw [if_neg hm, if_pos h3]
          rw [e]
          exact ih
        · rw [if_neg h3]
          refine ⟨fun _ => ⟨vi8 hk8, ?_⟩, fun h => absurd rfl h⟩
          have e : iI (lsN D L k) + s 24 k = iI (lsN D L (k + 1)) := by
            rw [hc k hk, iI_n, ← Int32.ofInt_add]
            simp only [lsN, vvN]
            rw [if_neg hm, if_neg h3]
            congr 1
          rw [e]
          exact ih
  refine ⟨v9, ?_⟩
  have h0 := loop 0 (Nat.zero_le _)
  rw [nI_clamp (n := L.length) (by omega), hp, iI_n (psN D L), ← Int32.ofInt_neg]
  exact h0
theorem S0_worthB {l : Launch} {G : GG} {d : Nat} {D : Shw} {s : Mem} {L Z : List Nat} (hD : ShOk D) (hS : ShC s D) (hu : UsedC (s 18 L.length) L) (hZ : ZOk D (D 0 0) Z) (hZl : Z.length = D 0 0) (hA : ArrL (s 25) Z) (hl : L.length ≤ 8) : Spec l G d hX0_mostWorthBehind [.inr 15, .inl (nI L.length)] s (fun r t => r = nI (wsN D L.length (Z.filter (nin L))) ∧ s = t) := by
  refine spec_of iX0_mostWorthBehind (by decide +kernel) (Nat.le_of_ble_eq_true rfl) (vX0_mostWorthBehind_0 ?_)
  have hD0 := hD.1
  obtain ⟨s0, sA, _, _⟩ := hS
  have loop : ∀ i, i ≤ D 0 0 → ∀ acc p, acc + wsN D p ((Z.drop i).filter (nin L)) = wsN D L.length (Z.filter (nin L)) → AW l G d hX0_mostWorthBehind 7 [some (.inr 15), some (.inl (nI L.length)), some (.inl (nI acc)), some (.inl (nI p)), some (.inl (nI i)), none] [] s (fun r t => r = nI (wsN D L.length (Z.filter (nin L))) ∧ s = t) := by
    refine down (D 0 0) ?_ ?_
    · intro acc p h
      rw [← hZl, List.drop_length] at h
      have h : acc + 0 = wsN D L.length (Z.filter (nin L)) := h
      refine vX0_mostWorthBehind_7 ⟨fun _ => ⟨by rw [← h]; rfl, rfl⟩, fun h => absurd (by rw [s0]; exact nI_le (Nat.le_refl _) (by omega)) h⟩
    · intro i hi ih acc p h
      have hil : i < Z.length := by omega
      have hy := List.getElem?_eq_getElem hil
      have hdr := List.drop_eq_getElem_cons hil
      generalize Z[i] = y at hy hdr
      have hyZ : y ∈ Z := List.mem_of_getElem? hy
      have hyk := (hZ.2.1 y).mp hyZ
      have hy8 : y < 8 := by omega
      refine vX0_mostWorthBehind_7 ⟨fun h => absurd h (by rw [s0]; exact nI_ge hi (by omega)), fun _ => ⟨vi8 (by omega), vp_in_nI (by omega) (by decide), ?_⟩⟩
      rw [nI_clamp (n := i) (by omega), hA i y hy, nI_clamp (n := L.length) (by omega), bt_test y (by omega), hu y (by omega), cl8 hy8, (sA y hy8).2.2.1, nI_1, nI_1, pk_mul, nI_add]
      rw [hdr] at h
      by_cases hm : y ∈ L
      · refine ⟨fun _ => aw_w (ih acc p ?_) ⟨rfl, rfl, rfl, rfl, rfl, trivial⟩, fun h => absurd hm (of_decide_eq_false h)⟩
        rw [List.filter_cons_of_neg (by simp [nin, hm])] at h
        exact h
      · refine ⟨fun h => absurd (decide_eq_false hm) h, fun _ => ⟨vi8 hy8, aw_w (ih (acc + D 3 y * (p + 1)) (p + 1) ?_) ⟨rfl, rfl, rfl, rfl, rfl, trivial⟩⟩⟩
        rw [List.filter_cons_of_pos (by simp [nin, hm])] at h
        simp only [wsN] at h
        omega
  exact loop 0 (Nat.zero_le _) 0 L.length (by rw [List.drop_zero, Nat.zero_add])
def BestC (s : Mem) : BBt → Prop
  | none => s 15 3 = 0
  | some (g, w, L) => s 15 3 = 1 ∧ s 15 4 = nI g ∧ s 15 5 = nI w ∧ g < 1000000 ∧ w < 1000000 ∧ RowF (s 23) L
def ExT (D : Shw) (Z : List Nat) (s : Mem) (L : List Nat) (b : BBt) : Prop := ShC s D ∧ RowC D (s 17) (s 18) (s 19) (s 20) (s 21) (s 22) L ∧ (∀ a, a < D 0 0 → s 24 a = nI (2 * lcN D a (D 0 0))) ∧ ArrL (s 25) Z ∧ BestC s b
def FrB (s t : Mem) : Prop := (∀ q, q ≠ 15 → q ≠ 17 → q ≠ 18 → q ≠ 19 → q ≠ 20 → q ≠ 21 → q ≠ 22 → q ≠ 23 → t q = s q) ∧ t 15 2 = s 15 2
theorem FrB.rfl {s : Mem} : FrB s s := ⟨fun _ _ _ _ _ _ _ _ _ => by rfl, by rfl⟩
theorem FrB.trans {s t u : Mem} (h1 : FrB s t) (h2 : FrB t u) : FrB s u := ⟨fun q a b c d e f g h => (h2.1 q a b c d e f g h).trans (h1.1 q a b c d e f g h), h2.2.trans h1.2⟩
theorem lb_le {D : Shw} (hD : ShOk D) {L : List Nat} (hl : L.length ≤ 8) : lbN D L ≤ 1000 := by
  have h1 := lsN_bd hD hl (D 0 0)
  have h2 := gpN_le (D := D) L
  have h3 := hD.1
  unfold lbN
  omega
theorem ub_le {D : Shw} (hD : ShOk D) {Z L : List Nat} (hZl : Z.length = D 0 0) (hl : L.length ≤ 8) : ubN D Z L ≤ 100000 := by
  have h1 := wtN_le hD L hl
  have h2 : (Z.filter (nin L)).length ≤ Z.length := List.length_filter_le _ _
  have h4 := hD.1
  have h3 := wsN_le hD (Z.filter (nin L)) L.length (by omega)
  unfold ubN
  omega
theorem S0_canWin {l : Launch} {G : GG} {d : Nat} {D : Shw} {s : Mem} {L Z : List Nat} {b : BBt} (hd : 2 ≤ d) (hD : ShOk D) (hZ : ZOk D (D 0 0) Z) (hZl : Z.length = D 0 0) (hE : ExT D Z s L b) (hl : L.length ≤ 8) : Spec l G d hX0_canWin [.inr 15, .inl (nI L.length)] s (fun r t => r = (if cwN D Z L b = true then 1 else 0) ∧ s = t) := by
  refine spec_of iX0_canWin (by decide +kernel) (Nat.le_of_ble_eq_true rfl) (vX0_canWin_0 ?_)
  obtain ⟨hS, hR, hc, hA, hB⟩ := hE
  obtain ⟨r1, r2, r3, r4, r5⟩ := RowC_at hR
  match b, hB with
  | none, hB => exact ⟨fun h => absurd hB h, fun _ => ⟨Or.inr rfl, rfl, rfl⟩⟩
  | some (g, w, K), hB =>
    obtain ⟨b1, b2, b3, b4, b5, _⟩ := hB
    have v9 : vp_in (nI L.length) 9 := vp_in_nI (by omega) (by decide)
    have l1 := lb_le hD hl
    have l2 := ub_le (L := L) hD hZl hl
    rw [b1]
    refine ⟨fun _ => ⟨v9, d - 1, _, by omega, S0_gapsB (by omega) hD hS r1 r3 hc hl, ?_⟩, fun h => absurd h (by decide)⟩
    rintro _ _ ⟨rfl, rfl⟩
    have e1 : nI (gpN D L) + nI (lsN D L (D 0 0)).toNat = nI (lbN D L) := nI_add _ _
    rw [nI_clamp (n := L.length) (by omega), r4, e1, b2, nI_eq (by omega) (by omega), nI_leI (by omega) (by omega)]
    refine ⟨fun h => ⟨v9, d - 1, _, by omega, S0_worthB hD hS r1 hZ hZl hA hl, ?_⟩, fun h => ⟨fun h2 => ⟨Or.inl rfl, ?_, rfl⟩, fun h2 => ⟨Or.inr rfl, ?_, rfl⟩⟩⟩
    · rintro _ _ ⟨rfl, rfl⟩
      have e2 : nI (wtN D L) + nI (wsN D L.length (Z.filter (nin L))) = nI (ubN D Z L) := nI_add _ _
      rw [r5, e2, b3, nI_leI (by omega) (by omega)]
      refine ⟨fun h2 => ⟨Or.inl rfl, ?_, rfl⟩, fun h2 => ⟨Or.inr rfl, ?_, rfl⟩⟩
      · rw [if_neg]
        simp only [cwN, decide_eq_true_eq]
        omega
      · rw [if_pos]
        simp only [cwN, decide_eq_true_eq]
        omega
    · rw [if_neg]
      simp only [cwN, decide_eq_true_eq]
      omega
    · rw [if_pos]
      simp only [cwN, decide_eq_true_eq]
      omega
