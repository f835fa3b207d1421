/-! ===== the best order, sought again ===== -/
theorem BestC_fr {s t : Mem} {b : BBt} (h : BestC s b) (h1 : t 15 = s 15) (h2 : t 23 = s 23) : BestC t b := by
  match b, h with
  | none, h =>
    show t 15 3 = 0
    rw [h1]
    exact h
  | some (g, w, L), h =>
    show t 15 3 = 1 ∧ t 15 4 = nI g ∧ t 15 5 = nI w ∧ g < 1000000 ∧ w < 1000000 ∧ RowF (t 23) L
    rw [h1, h2]
    exact h
theorem ExT_put {D : Shw} {Z : List Nat} {s t : Mem} {L L' : List Nat} {b : BBt} (h : ExT D Z s L b) (hf : FrO_row s t) (hR : RowC D (t 17) (t 18) (t 19) (t 20) (t 21) (t 22) L') : ExT D Z t L' b := by
  have e : ∀ q, (q < 17 ∨ 22 < q) → t q = s q := fun q hq => hf q (by omega) (by omega) (by omega) (by omega) (by omega) (by omega)
  refine ⟨ShC_fr h.1 (fun q h1 h2 => e q (by omega)), hR, ?_, ?_, BestC_fr h.2.2.2.2 (e 15 (by omega)) (e 23 (by omega))⟩
  · rw [e 24 (by omega)]
    exact h.2.2.1
  · rw [e 25 (by omega)]
    exact h.2.2.2.1
theorem FrB_put {s t : Mem} (hf : FrO_row s t) : FrB s t := ⟨fun q _ h2 h3 h4 h5 h6 h7 _ => hf q h2 h3 h4 h5 h6 h7, by rw [hf 15 (by decide) (by decide) (by decide) (by decide) (by decide) (by decide)]⟩
theorem S0_keep {l : Launch} {G : GG} {d : Nat} {D : Shw} {Z : List Nat} {s : Mem} {L : List Nat} {b : BBt} (hd : 1 ≤ d) (hD : ShOk D) (hE : ExT D Z s L b) (hl : L.length = D 0 0) : Spec l G d hX0_keep [.inr 15] s (fun _ t => ExT D Z t L (some (gpN D L, wtN D L, L)) ∧ FrB s t) := by
  refine spec_of iX0_keep (by decide +kernel) (Nat.le_of_ble_eq_true rfl) (vX0_keep_0 ?_)
  obtain ⟨hS, hR, hc, hA, hB⟩ := hE
  obtain ⟨r1, r2, r3, r4, r5⟩ := RowC_at hR
  have hD0 := hD.1
  have v9 : vp_in (s 1 0) 9 := by rw [hS.1]; exact vp_in_nI (by omega) (by decide)
  have b1 := gpN_le (D := D) L
  have b2 := wtN_le hD L (by omega)
  have ec : (s 1 0).toNatClampNeg = L.length := by rw [hS.1, hl]; exact nI_clamp (by omega)
  refine ⟨Or.inr rfl, v9, v9, ⟨hd, by decide, by decide, by decide, by decide, by decide⟩, ⟨?_, hR, hc, hA, ?_⟩, ?_⟩
  · exact ShC_fr hS (fun q h1 h2 => (stM_ne (by omega)).trans ((stM_ne (by omega)).trans ((stM_ne (by omega)).trans (stM_ne (by omega)))))
  · refine ⟨rfl, ?_, ?_, by omega, by omega, ?_⟩
    · show s 21 (s 1 0).toNatClampNeg = _
      rw [ec]
      exact r4
    · show s 22 (s 1 0).toNatClampNeg = _
      rw [ec]
      exact r5
    · refine RowF_congr (fun i hi => ?_) (RowC_F hR)
      show va_cpy (s 17) (s 23) 0 0 8 i = s 17 i
      rw [pk_cpy_in (by omega) (by omega)]
      congr 1
      omega
  · refine ⟨fun q a1 a2 a3 a4 a5 a6 a7 a8 => ?_, rfl⟩
    exact (stM_ne a8).trans ((stM_ne a1).trans ((stM_ne a1).trans (stM_ne a1)))
theorem ExT_tail {D : Shw} {Z : List Nat} {s : Mem} {c : Nat} {L : List Nat} {b : BBt} (h : ExT D Z s (c :: L) b) : ExT D Z s L b := ⟨h.1, h.2.1.2.2, h.2.2⟩
theorem S0_extend {l : Launch} {G : GG} {D : Shw} {Z : List Nat} (hD : ShOk D) (hZ : ZOk D (D 0 0) Z) (hZl : Z.length = D 0 0) : ∀ (m : Nat) (L : List Nat) (b : BBt) (s : Mem) (d : Nat), m + 4 ≤ d → L.length + m = D 0 0 → VdN (D 0 0) L → ExT D Z s L b → (m = 0 → isBt (gpN D L) (wtN D L) b = true) → Spec l G d hX0_extend [.inr 15, .inl (nI L.length)] s (fun _ t => ExT D Z t L (skN D m L b) ∧ FrB s t) := by
  intro m
  have hD0 := hD.1
  induction m with
  | zero =>
    intro L b s d hd hl hv hE hb
    refine spec_of iX0_extend (by decide +kernel) (Nat.le_of_ble_eq_true rfl) (vX0_extend_0 ?_)
    have e : skN D 0 L b = some (gpN D L, wtN D L, L) := by
      show kpN D L b = _
      unfold kpN
      rw [if_pos (hb rfl)]
    rw [e]
    have hlt : ¬ nI L.length < s 1 0 := by
      rw [hE.1.1]
      exact nI_nlt (by omega) (by omega)
    exact ⟨fun _ => ⟨d - 1, _, by omega, S0_keep (by omega) hD hE (by omega), fun _ _ q => q⟩, fun _ => ⟨fun h => absurd h hlt, fun _ => ⟨d - 1, _, by omega, S0_keep (by omega) hD hE (by omega), fun _ _ q => q⟩⟩⟩
  | succ m ih =>
    intro L b s d hd hl hv hE hb
    refine spec_of iX0_extend (by decide +kernel) (Nat.le_of_ble_eq_true rfl) (vX0_extend_0 ?_)
    have hlt : nI L.length < s 1 0 := by
      rw [hE.1.1]
      exact nI_lt (by omega) (by omega)
    refine ⟨fun h => absurd h (c8f (by omega)), fun _ => ⟨fun _ => ?_, fun h => absurd hlt h⟩⟩
    have loop : ∀ c, c ≤ D 0 0 → ∀ (mm : Mem) (b' : BBt), ExT D Z mm L b' → FrB s mm → fup (fun c x => if brkN D c L = 0 then skN D m (c :: L) x else x) c (D 0 0 - c) b' = skN D (m + 1) L b → AW l G d hX0_extend 24 [some (.inr 15), some (.inl (nI L.length)), some (.inl (nI c))] [] mm (fun _ t => ExT D Z t L (skN D (m + 1) L b) ∧ FrB s t) := by
      refine down (D 0 0) ?_ ?_
      · intro mm b' hE' hF h
        rw [Nat.sub_self] at h
        have h : b' = skN D (m + 1) L b := h
        refine vX0_extend_24 ⟨fun _ => ⟨by rw [← h]; exact hE', hF⟩, fun h => absurd (by rw [hE'.1.1]; exact nI_le (Nat.le_refl _) (by omega)) h⟩
      · intro c hc ihc mm b' hE' hF h
        rw [show D 0 0 - c = (D 0 0 - (c + 1)) + 1 by omega] at h
        have h : fup (fun c x => if brkN D c L = 0 then skN D m (c :: L) x else x) (c + 1) (D 0 0 - (c + 1)) (if brkN D c L = 0 then skN D m (c :: L) b' else b') = skN D (m + 1) L b := h
        refine vX0_extend_24 ⟨fun h => absurd h (by rw [hE'.1.1]; exact nI_ge hc (by omega)), fun _ => ⟨d - 1, _, by omega, S2_put_row (by omega) hD hE'.1 hv hE'.2.1 (by omega) (by omega), ?_⟩⟩
        rintro r1 t1 ⟨rfl, hf1, hR1, hR2⟩
        have hbk := brk_le (D := D) (a := c) (L := L)
        have e : nI (brkN D c L) = 0 ↔ brkN D c L = 0 := nI_eq (b := 0) (by omega) (by decide)
        have hE1 : ExT D Z t1 L b' := ExT_put hE' hf1 hR1
        have hF1 : FrB s t1 := hF.trans (FrB_put hf1)
        rw [e, nI_1, nI_1]
        refine ⟨fun hb0 => ihc t1 b' hE1 hF1 (by rw [if_neg hb0] at h; exact h), fun hb0 => ?_⟩
        rw [if_pos hb0] at h
        obtain ⟨c1, c2⟩ := brk_ok hb0
        have hv' := VdN_cons hv c1 c2
        have hE2 : ExT D Z t1 (c :: L) b' := ExT_put hE' hf1 (hR2 hb0)
        have hl' : (c :: L).length + m = D 0 0 := by simp only [List.length_cons]; omega
        refine ⟨d - 1, _, by omega, S0_canWin (L := c :: L) (by omega) hD hZ hZl hE2 (by omega), ?_⟩
        rintro _ _ ⟨rfl, rfl⟩
        by_cases hw : cwN D Z (c :: L) b' = true
        · rw [if_pos hw]
          refine ⟨fun q => absurd q (by decide), fun _ => ⟨d - 1, _, by omega, ih (c :: L) b' t1 (d - 1) (by omega) hl' hv' hE2 (fun hm => ?_), ?_⟩⟩
          · rw [← cw_full hZ hv' (by omega)]
            exact hw
          · rintro _ t3 ⟨hE3, hF3⟩
            exact ihc t3 _ (ExT_tail hE3) (hF1.trans hF3) h
        · rw [if_neg hw]
          refine ⟨fun _ => ?_, fun q => absurd rfl q⟩
          rw [sk_prune hZ m (c :: L) hv' hl' (by simpa using hw)] at h
          exact ihc t1 b' hE1 hF1 h
    exact loop 0 (Nat.zero_le _) s b hE FrB.rfl (by rw [Nat.sub_zero]; rfl)
noncomputable def bsN (D : Shw) : BBt := if D 0 0 = 0 then none else skN D (D 0 0) [] none
def FrQ (s t : Mem) : Prop := ∀ q, q ≠ 15 → q ≠ 17 → q ≠ 18 → q ≠ 19 → q ≠ 20 → q ≠ 21 → q ≠ 22 → q ≠ 23 → q ≠ 24 → q ≠ 25 → t q = s q
theorem S0_refresh {l : Launch} {G : GG} {d : Nat} {D : Shw} {s : Mem} (hd : 14 ≤ d) (hD : ShOk D) (hS : ShC s D) (hR : RowC D (s 17) (s 18) (s 19) (s 20) (s 21) (s 22) []) (hB : s 15 2 = s 1 8 → BestC s (bsN D)) : Spec l G d hX0_refresh [.inr 15] s (fun _ t => BestC t (bsN D) ∧ RowC D (t 17) (t 18) (t 19) (t 20) (t 21) (t 22) [] ∧ t 15 2 = s 1 8 ∧ FrQ s t) := by
  refine spec_of iX0_refresh (by decide +kernel) (Nat.le_of_ble_eq_true rfl) (vX0_refresh_0 ?_)
  have hD0 := hD.1
  refine ⟨fun h => ⟨Or.inl rfl, ?_⟩, fun h => ⟨hB h, hR, h, fun _ _ _ _ _ _ _ _ _ _ _ => rfl⟩⟩
  have hS1 : ShC (wrM (wrM s 15 2 (s 1 8)) 15 3 (0 : Int32)) D := ShC_fr hS (fun q h1 h2 => (stM_ne (by omega)).trans (stM_ne (by omega)))
  refine ⟨d - 1, _, by omega, S0_least (by omega) hD hS1, ?_⟩
  rintro _ _ ⟨f, rfl, hf⟩
  have hS2 : ShC (stM (wrM (wrM s 15 2 (s 1 8)) 15 3 (0 : Int32)) 24 f) D := ShC_fr hS1 (fun q h1 h2 => stM_ne (by omega))
  refine ⟨d - 1, _, by omega, S0_sort hD hS2, ?_⟩
  rintro _ m ⟨g, Z, hm, hZl, hZ, hA⟩
  have e15 : m 15 = upd (upd (s 15) 2 (s 1 8)) 3 0 := by rw [hm]; rfl
  have e24 : m 24 = f := by rw [hm]; rfl
  have e25 : m 25 = g := by rw [hm]; rfl
  have ef : ∀ q, q ≠ 15 → q ≠ 24 → q ≠ 25 → m q = s q := by
    intro q q1 q2 q3
    rw [hm]
    exact (stM_ne q3).trans ((stM_ne q2).trans ((stM_ne q1).trans (stM_ne q1)))
  have hSm : ShC m D := ShC_fr hS (fun q h1 h2 => ef q (by omega) (by omega) (by omega))
  have hRm : RowC D (m 17) (m 18) (m 19) (m 20) (m 21) (m 22) [] := by
    rw [ef 17 (by decide) (by decide) (by decide), ef 18 (by decide) (by decide) (by decide), ef 19 (by decide) (by decide) (by decide), ef 20 (by decide) (by decide) (by decide), ef 21 (by decide) (by decide) (by decide), ef 22 (by decide) (by decide) (by decide)]
    exact hR
  have hBm : BestC m none := by
    show m 15 3 = 0
    rw [e15]
    rfl
  have h2 : m 15 2 = s 1 8 := by rw [e15]; rfl
  have fq : FrQ s m := fun q a1 a2 a3 a4 a5 a6 a7 a8 a9 a10 => ef q a1 a9 a10
  have e0 : m 1 0 ≤ 0 ↔ D 0 0 ≤ 0 := by rw [hSm.1]; exact nI_leI (b := 0) (by omega) (by decide)
  rw [e0]
  refine ⟨fun h0 => ⟨?_, hRm, h2, fq⟩, fun h0 => ?_⟩
  · unfold bsN
    rw [if_pos (by omega)]
    exact hBm
  · refine ⟨d - 1, _, by omega, S0_extend hD hZ hZl (D 0 0) [] none m (d - 1) (by omega) (by simp) VdN_nil ⟨hSm, hRm, by rw [e24]; exact hf, by rw [e25]; exact hA, hBm⟩ (fun q => absurd q (by omega)), ?_⟩
    rintro _ t ⟨hE, hF⟩
    refine ⟨?_, hE.2.1, hF.2.trans h2, fun q a1 a2 a3 a4 a5 a6 a7 a8 a9 a10 => (hF.1 q a1 a2 a3 a4 a5 a6 a7 a8).trans (ef q a1 a9 a10)⟩
    unfold bsN
    rw [if_neg (by omega)]
    exact hE.2.2.2.2
def BLen (n : Nat) (b : BBt) : Prop := ∀ g w K, b = some (g, w, K) → K.length = n ∧ g < 1000000 ∧ w < 1000000
theorem fup_inv {α : Type} {F : Nat → α → α} {P : α → Prop} (hF : ∀ c x, P x → P (F c x)) : ∀ (k c : Nat) (b : α), P b → P (fup F c k b)
  | 0, _, _, h => h
  | k + 1, c, b, h => fup_inv hF k (c + 1) (F c b) (hF c b h)
theorem sk_len {D : Shw} (hD : ShOk D) : ∀ (m : Nat) (L : List Nat) (b : BBt), L.length + m = D 0 0 → BLen (D 0 0) b → BLen (D 0 0) (skN D m L b)
  | 0, L, b, hl, hb => by
    show BLen _ (kpN D L b)
    unfold kpN
    split
    · intro g w K h
      cases h
      have hD0 := hD.1
      have b1 := gpN_le (D := D) L
      have b2 := wtN_le hD L (by omega)
      exact ⟨by omega, by omega, by omega⟩
    · exact hb
  | m + 1, L, b, hl, hb => by
    refine fup_inv (P := BLen (D 0 0)) (fun c x hx => ?_) _ _ _ hb
    show BLen _ (if brkN D c L = 0 then skN D m (c :: L) x else x)
    split
    · exact sk_len hD m (c :: L) x (by simp only [List.length_cons]; omega) hx
    · exact hx
theorem bs_len {D : Shw} (hD : ShOk D) : BLen (D 0 0) (bsN D) := by
  unfold bsN
  split
  · intro g w K h
    cases h
  · exact sk_len hD _ _ _ (by simp) (fun g w K h => by cases h)
def bsV : BBt → Int32
  | none => -1
  | some (g, _, _) => nI g
def btV (n : Nat) (b : BBt) (x r : Int32) : Prop := (∃ g w L i a, b = some (g, w, L) ∧ x = nI i ∧ i < n ∧ L[n - 1 - i]? = some a ∧ r = nI a) ∨ ((b = none ∨ ¬ ∃ i, i < n ∧ x = nI i) ∧ r = -1)
theorem btV_det {n : Nat} (hn : n ≤ 8) {b : BBt} {x r r' : Int32} (h : btV n b x r) (h' : btV n b x r') : r = r' := by
  rcases h with ⟨g, w, L, i, a, e1, e2, e3, e4, e5⟩ | ⟨e1, e2⟩
  · rcases h' with ⟨g', w', L', i', a', f1, f2, f3, f4, f5⟩ | ⟨f1, f2⟩
    · rw [e1] at f1
      cases f1
      have := (nI_eq (a := i) (b := i') (by omega) (by omega)).mp (e2.symm.trans f2)
      subst this
      rw [e4] at f4
      cases f4
      exact e5.trans f5.symm
    · rcases f1 with f1 | f1
      · rw [e1] at f1
        cases f1
      · exact absurd ⟨i, e3, e2⟩ f1
  · rcases h' with ⟨g', w', L', i', a', f1, f2, f3, f4, f5⟩ | ⟨f1, f2⟩
    · rcases e1 with e1 | e1
      · rw [e1] at f1
        cases f1
      · exact absurd ⟨i', f3, f2⟩ e1
    · exact e2.trans f2.symm
theorem S7_best {l : Launch} {G : GG} {d : Nat} {D : Shw} {s : Mem} (hd : 15 ≤ d) (hD : ShOk D) (hS : ShC s D) (hR : RowC D (s 17) (s 18) (s 19) (s 20) (s 21) (s 22) []) (hB : s 15 2 = s 1 8 → BestC s (bsN D)) : Spec l G d hX7_best [.inr 0] s (fun r t => r = bsV (bsN D) ∧ BestC t (bsN D) ∧ RowC D (t 17) (t 18) (t 19) (t 20) (t 21) (t 22) [] ∧ t 15 2 = s 1 8 ∧ FrQ s t) := by
  refine spec_of iX7_best (by decide +kernel) (Nat.le_of_ble_eq_true rfl) (vX7_best_0 ?_)
  refine ⟨d - 1, _, by omega, S0_refresh (by omega) hD hS hR hB, ?_⟩
  rintro _ t ⟨h1, h2⟩
  generalize bsN D = b at h1
  match b, h1 with
  | none, h1 => exact ⟨fun _ => ⟨rfl, h1, h2⟩, fun h => absurd h1 h⟩
  | some (g, w, K), h1 => exact ⟨fun h => absurd (h.symm.trans h1.1) (by decide), fun _ => ⟨h1.2.1, h1, h2⟩⟩
theorem S7_bestAt {l : Launch} {G : GG} {d : Nat} {D : Shw} {s : Mem} (hd : 15 ≤ d) (hD : ShOk D) (hS : ShC s D) (hR : RowC D (s 17) (s 18) (s 19) (s 20) (s 21) (s 22) []) (hB : s 15 2 = s 1 8 → BestC s (bsN D)) (x : Int32) : Spec l G d hX7_bestAt [.inr 0, .inl x] s (fun r t => btV (D 0 0) (bsN D) x r ∧ BestC t (bsN D) ∧ RowC D (t 17) (t 18) (t 19) (t 20) (t 21) (t 22) [] ∧ t 15 2 = s 1 8 ∧ FrQ s t) := by
  refine spec_of iX7_bestAt (by decide +kernel) (Nat.le_of_ble_eq_true rfl) (vX7_bestAt_0 ?_)
  have hD0 := hD.1
  refine ⟨d - 1, _, by omega, S0_refresh (by omega) hD hS hR hB, ?_⟩
  rintro _ t ⟨h1, h2⟩
  have hlen := bs_len hD
  have hS0 : t 1 0 = nI (D 0 0) := by
    rw [h2.2.2 1 (by decide) (by decide) (by decide) (by decide) (by decide) (by decide) (by decide) (by decide) (by decide) (by decide)]
    exact hS.1
  generalize bsN D = b at h1 hlen
  match b, h1, hlen with
  | none, h1, _ => exact ⟨fun _ => ⟨Or.inr ⟨Or.inl rfl, rfl⟩, h1, h2⟩, fun h => absurd h1 h⟩
  | some (g, w, K), h1, hlen =>
    refine ⟨fun h => absurd (h.symm.trans h1.1) (by decide), fun _ => ⟨fun h => ⟨Or.inr ⟨Or.inr ?_, rfl⟩, h1, h2⟩, fun h => ⟨fun h3 => ?_, fun h3 => ⟨Or.inr ⟨Or.inr ?_, rfl⟩, h1, h2⟩⟩⟩⟩
    · rintro ⟨i, hi, rfl⟩
      exact nI_pos (by omega) h
    · obtain ⟨i, hi, rfl⟩ := (inK (x := x) (k := D 0 0) (by omega)).mp ⟨h, fun q => by rw [hS0] at h3; grind⟩
      obtain ⟨a, a1, a2, _, a4⟩ := RowF_nx h1.2.2.2.2.2 (k := i) (by rw [(hlen g w K rfl).1]; exact hi)
      rw [(hlen g w K rfl).1] at a2
      rw [nI_clamp (n := i) (by omega)]
      exact ⟨vi8 (by omega), Or.inl ⟨g, w, K, i, a, rfl, rfl, hi, a2, a4⟩, h1, h2⟩
    · rintro ⟨i, hi, rfl⟩
      rw [hS0] at h3
      exact h3 (nI_lt hi (by omega))
