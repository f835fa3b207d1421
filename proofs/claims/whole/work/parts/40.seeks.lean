/-! ===== the best order, as the reference seeks it ===== -/
def BstM (s : Mem) (a : Int32) : BBt → Prop
  | none => s 49 26 = -1
  | some (g, w, L) => s 49 26 = nI g ∧ a = nI w ∧ g < 1000000 ∧ w < 1000000 ∧ RowF (s 70) L
def FrS (s t : Mem) : Prop := (∀ q, q ≠ 49 → q ≠ 68 → q ≠ 69 → q ≠ 70 → t q = s q) ∧ ∀ j, j ≠ 26 → t 49 j = s 49 j
theorem FrS.rfl {s : Mem} : FrS s s := ⟨fun _ _ _ _ _ => by rfl, fun _ _ => by rfl⟩
theorem FrS.trans {s t u : Mem} (h1 : FrS s t) (h2 : FrS t u) : FrS s u := ⟨fun q a b c d => (h2.1 q a b c d).trans (h1.1 q a b c d), fun j h => (h2.2 j h).trans (h1.2 j h)⟩
theorem ShM_S {s t : Mem} {D : Shw} (h : ShM s D) (hf : FrS s t) : ShM t D := ShM_fr h (hf.2 0 (by decide)) (fun q h1 h2 => hf.1 q (by omega) (by omega) (by omega) (by omega))
theorem BstM_fr {s t : Mem} {a : Int32} {b : BBt} (h : BstM s a b) (h1 : t 49 26 = s 49 26) (h2 : t 70 = s 70) : BstM t a b := by
  match b, h with
  | none, h => exact h1.trans h
  | some (g, w, L), h =>
    show t 49 26 = nI g ∧ a = nI w ∧ g < 1000000 ∧ w < 1000000 ∧ RowF (t 70) L
    rw [h1, h2]
    exact h
theorem sk_leaf {l : Launch} {G : GG} {d : Nat} {D : Shw} (hd : 2 ≤ d) (hD : ShOk D) {post : Int32 → Mem → Prop} {L : List Nat} (hl : L.length = D 0 0) (hp : 0 < D 0 0) (hv : VdN (D 0 0) L) {s : Mem} {b : BBt} {a1 : Int32} (hM : ShM s D) (hR : RowF (s 68) L) (hB : BstM s a1 b)
    (K : ∀ (t : Mem) (a1' : Int32), FrS s t → (∀ i, i < L.length → t 68 i = s 68 i) → (∀ i, i < L.length → t 69 i = s 69 i) → BstM t a1' (kpN D L b) → AW l G d hX8_seeks 16 [some (.inr 49), some (.inl a1'), some (.inl (nI L.length + (-1 : Int32))), none, none, none] [] t post) :
    AW l G d hX8_seeks 16 [some (.inr 49), some (.inl a1), some (.inl (nI L.length)), none, none, none] [] s post := by
  have hD0 := hD.1
  have e0 : s 49 0 = nI L.length := by rw [hl]; exact hM.1
  have b1 := gpN_le (D := D) L
  have b2 := wtN_le hD L (by omega)
  have copy : isBt (gpN D L) (wtN D L) b = true → ∀ p, p ≤ L.length → ∀ mm : Mem, (∀ q, q ≠ 49 → q ≠ 70 → mm q = s q) → (∀ j, j ≠ 26 → mm 49 j = s 49 j) → mm 49 26 = nI (gpN D L) → (∀ i, i < p → mm 70 i = s 68 i) → AW l G d hX8_seeks 122 [some (.inr 49), some (.inl (nI (wtN D L))), some (.inl (nI L.length)), some (.inl (nI (gpN D L))), some (.inl (nI (wtN D L))), some (.inl (nI p))] [] mm post := by
    intro hb
    refine down L.length ?_ ?_
    · intro mm f1 f2 f3 f4
      have em : mm 49 0 = nI L.length := (f2 0 (by decide)).trans e0
      refine vX8_seeks_122 ⟨fun _ => ⟨fun h => absurd em.symm h, fun _ => ⟨fun h => absurd rfl h, fun _ => ?_⟩⟩, fun h => absurd (nI_le (Nat.le_refl _) (by omega)) h⟩
      refine aw_w (K mm (nI (wtN D L)) ⟨fun q h1 _ _ h4 => f1 q h1 h4, f2⟩ (fun i _ => by rw [f1 68 (by decide) (by decide)]) (fun i _ => by rw [f1 69 (by decide) (by decide)]) ?_) ⟨rfl, rfl, rfl, trivial⟩
      unfold kpN
      rw [if_pos hb]
      exact ⟨f3, rfl, by omega, by omega, RowF_congr f4 hR⟩
    · intro p hp ih mm f1 f2 f3 f4
      refine vX8_seeks_122 ⟨fun h => absurd h (nI_ge hp (by omega)), fun _ => ⟨vp_in_nI (by omega) (by decide), vp_in_nI (by omega) (by decide), ?_⟩⟩
      rw [nI_clamp (n := p) (by omega), nI_1]
      refine ih _ (fun q h1 h2 => (stM_ne h2).trans (f1 q h1 h2)) f2 f3 (fun i hi => ?_)
      show upd (mm 70) p (mm 68 p) i = s 68 i
      by_cases he : i = p
      · rw [he, upd_at, f1 68 (by decide) (by decide)]
      · rw [upd_ne he]
        exact f4 i (by omega)
  have go : isBt (gpN D L) (wtN D L) b = true → AW l G d hX8_seeks 122 [some (.inr 49), some (.inl (nI (wtN D L))), some (.inl (nI L.length)), some (.inl (nI (gpN D L))), some (.inl (nI (wtN D L))), some (.inl (0 : Int32))] [] (wrM s 49 26 (nI (gpN D L))) post := by
    intro hb
    refine copy hb 0 (Nat.zero_le _) _ (fun q h1 h2 => stM_ne h1) (fun j hj => ?_) rfl (fun i h => absurd h (Nat.not_lt_zero i))
    show upd (s 49) 26 (nI (gpN D L)) j = s 49 j
    exact upd_ne hj
  have stay : isBt (gpN D L) (wtN D L) b = false → ∀ z3 z4 z5 : Int32, AW l G d hX8_seeks 16 [some (.inr 49), some (.inl a1), some (.inl (nI L.length + (-1 : Int32))), some (.inl z3), some (.inl z4), some (.inl z5)] [] s post := by
    intro hb z3 z4 z5
    refine aw_w (K s a1 FrS.rfl (fun _ _ => rfl) (fun _ _ => rfl) ?_) ⟨rfl, rfl, rfl, trivial⟩
    unfold kpN
    rw [hb]
    exact hB
  have worth : ∀ p, p ≤ L.length → AW l G d hX8_seeks 47 [some (.inr 49), some (.inl a1), some (.inl (nI L.length)), some (.inl (nI (gpN D L))), some (.inl (nI (wtN D (sfxN L p)))), some (.inl (nI p))] [] s post := by
    refine down L.length ?_ ?_
    · rw [sfx_all]
      refine vX8_seeks_47 ⟨fun _ => ?_, fun h => absurd (nI_le (Nat.le_refl _) (by omega)) h⟩
      match b, hB, go, stay with
      | none, hB, go, stay => exact ⟨fun _ => go rfl, fun h => absurd hB h⟩
      | some (g', w', K'), hB, go, stay =>
        obtain ⟨c1, c2, c3, c4, _⟩ := hB
        rw [c1, c2, nI_ltI (by omega) (by omega), nI_eq (by omega) (by omega), nI_leI (by omega) (by omega)]
        refine ⟨fun h => ?_, fun _ => ⟨fun h => go (by simp only [isBt, decide_eq_true_eq]; omega), fun h => ⟨fun h2 => ⟨fun h3 => absurd e0.symm h3, fun _ => ⟨fun h3 => absurd rfl h3, fun _ => ?_⟩⟩, fun h2 => ⟨fun h4 => ⟨fun h3 => absurd e0.symm h3, fun _ => ⟨fun h3 => absurd rfl h3, fun _ => ?_⟩⟩, fun h4 => go (by simp only [isBt, decide_eq_true_eq]; omega)⟩⟩⟩⟩
        · have h7 : ¬ nI g' < 0 := nI_pos (by omega)
          rw [h] at h7
          exact absurd (by decide) h7
        · rw [← c2]
          exact stay (by simp only [isBt, decide_eq_false_iff_not]; omega) _ _ _
        · rw [← c2]
          exact stay (by simp only [isBt, decide_eq_false_iff_not]; omega) _ _ _
    · intro p hp ih
      obtain ⟨x, hx1, hx2, hx4, hx3⟩ := RowF_nx hR hp
      have hx : x < D 0 0 := hv.2 x hx1
      have hx8 : x < 8 := by omega
      refine vX8_seeks_47 ⟨fun h => absurd h (nI_ge hp (by omega)), fun _ => ⟨vp_in_nI (by omega) (by decide), ?_⟩⟩
      rw [nI_clamp (n := p) (by omega), hx3, cl8 hx8, (hM.2.1 x hx8).2.2.1, nI_1, pk_mul, nI_add]
      rw [hx4] at ih
      have e : wtN D (x :: sfxN L p) = wtN D (sfxN L p) + D 3 x * (p + 1) := by
        simp only [wtN]
        rw [sfx_len (by omega)]
      rw [e] at ih
      exact ⟨vi8 hx8, ih⟩
  have w0 := worth 0 (Nat.zero_le _)
  rw [sfx_0] at w0
  have en : ¬ s 49 0 ≤ 0 := by rw [e0]; exact nI_nle (by omega) (by omega)
  refine vX8_seeks_16 ⟨fun h => absurd h (nI_pos (by omega)), fun _ => ⟨fun h => absurd h en, fun _ => ⟨fun h => absurd e0.symm h, fun _ => ⟨d - 1, _, by omega, S8_gapsOf (by omega) hD hM hv hR, ?_⟩⟩⟩⟩
  rintro _ _ ⟨rfl, rfl⟩
  exact w0
theorem sk_loop {l : Launch} {G : GG} {d : Nat} {D : Shw} (hd : 2 ≤ d) (hD : ShOk D) {post : Int32 → Mem → Prop} (hp : 0 < D 0 0) : ∀ (m : Nat) (L : List Nat), L.length + m = D 0 0 → VdN (D 0 0) L → ∀ (s : Mem) (b : BBt) (a1 : Int32), ShM s D → RowF (s 68) L → s 69 L.length = nI 0 → BstM s a1 b →
    (∀ (t : Mem) (a1' : Int32), FrS s t → (∀ i, i < L.length → t 68 i = s 68 i) → (∀ i, i < L.length → t 69 i = s 69 i) → BstM t a1' (skN D m L b) → AW l G d hX8_seeks 16 [some (.inr 49), some (.inl a1'), some (.inl (nI L.length + (-1 : Int32))), none, none, none] [] t post) →
    AW l G d hX8_seeks 16 [some (.inr 49), some (.inl a1), some (.inl (nI L.length)), none, none, none] [] s post := by
  intro m
  have hD0 := hD.1
  induction m with
  | zero =>
    intro L hl hv s b a1 hM hR _ hB K
    exact sk_leaf hd hD (by omega) hp hv hM hR hB K
  | succ m ih =>
    intro L hl hv s b a1 hM hR h69 hB K
    have hl8 : L.length < 8 := by omega
    have v10 : vp_in (nI L.length) 10 := vp_in_nI (by omega) (by decide)
    have hne : ¬ nI L.length = nI (D 0 0) := fun q => by
      have := (nI_eq (a := L.length) (b := D 0 0) (by omega) (by omega)).mp q
      omega
    have hn0 : ¬ nI (D 0 0) ≤ 0 := nI_nle hp (by omega)
    have loop : ∀ c, c ≤ D 0 0 → ∀ (t : Mem) (b' : BBt) (a1' : Int32), FrS s t → (∀ i, i < L.length → t 68 i = s 68 i) → (∀ i, i < L.length → t 69 i = s 69 i) → t 69 L.length = nI c → BstM t a1' b' → fup (fun c x => if brkN D c L = 0 then skN D m (c :: L) x else x) c (D 0 0 - c) b' = skN D (m + 1) L b → AW l G d hX8_seeks 16 [some (.inr 49), some (.inl a1'), some (.inl (nI L.length)), none, none, none] [] t post := by
      refine down (D 0 0) ?_ ?_
      · intro t b' a1' hF f68 f69 hc hB' h
        rw [Nat.sub_self] at h
        have h : b' = skN D (m + 1) L b := h
        have hMt := ShM_S hM hF
        refine vX8_seeks_16 ?_
        rw [nI_clamp (n := L.length) (by omega), hc, hMt.1]
        refine ⟨fun h => absurd h (nI_pos (by omega)), fun _ => ⟨fun h => absurd h hn0, fun _ => ⟨fun _ => ⟨fun _ => ⟨v10, fun h => absurd rfl h, fun _ => ?_⟩, fun h => absurd h hne⟩, fun h => absurd h hne⟩⟩⟩
        rw [h] at hB'
        exact aw_w (K t a1' hF f68 f69 hB') ⟨rfl, rfl, rfl, trivial⟩
      · intro c hc ihc t b' a1' hF f68 f69 hct hB' h
        rw [show D 0 0 - c = (D 0 0 - (c + 1)) + 1 by omega] at h
        have h : fup (fun c x => if brkN D c L = 0 then skN D m (c :: L) x else x) (c + 1) (D 0 0 - (c + 1)) (if brkN D c L = 0 then skN D m (c :: L) b' else b') = skN D (m + 1) L b := h
        have hMt := ShM_S hM hF
        have hcn : ¬ nI c = nI (D 0 0) := fun q => by
          have := (nI_eq (a := c) (b := D 0 0) (by omega) (by omega)).mp q
          omega
        refine vX8_seeks_16 ?_
        rw [nI_clamp (n := L.length) (by omega), hct, hMt.1, nI_1, nI_1]
        have hF1 : FrS s (wrM (wrM t 69 L.length (nI (c + 1))) 68 L.length (nI c)) := ⟨fun q q1 q2 q3 q4 => (stM_ne q2).trans ((stM_ne q3).trans (hF.1 q q1 q2 q3 q4)), hF.2⟩
        have g68 : ∀ i, i < L.length → upd (t 68) L.length (nI c) i = s 68 i := fun i hi => (upd_ne (by omega)).trans (f68 i hi)
        have g69 : ∀ i, i < L.length → upd (t 69) L.length (nI (c + 1)) i = s 69 i := fun i hi => (upd_ne (by omega)).trans (f69 i hi)
        have hR1 : RowF (upd (t 68) L.length (nI c)) L := RowF_congr g68 hR
        have hB1 : BstM (wrM (wrM t 69 L.length (nI (c + 1))) 68 L.length (nI c)) a1' b' := BstM_fr hB' rfl rfl
        refine ⟨fun h => absurd h (nI_pos (by omega)), fun _ => ⟨fun h => absurd h hn0, fun _ => ⟨fun _ => ⟨fun _ => ⟨v10, fun _ => ⟨v10, v10, vp_in_nI (by omega) (by decide), d - 1, _, by omega, S8_breaksAt (a := c) hD (ShM_S hM hF1) hv hR1 upd_at hl8 (by omega), ?_⟩, fun h => absurd h hcn⟩, fun h => absurd h hne⟩, fun h => absurd h hne⟩⟩⟩
        rintro _ _ ⟨rfl, rfl⟩
        have hbk := brk_le (D := D) (a := c) (L := L)
        have e : nI (brkN D c L) ≤ 0 ↔ brkN D c L ≤ 0 := nI_leI (b := 0) (by omega) (by decide)
        rw [e]
        refine ⟨fun hb0 => ⟨vp_in_nI (by omega) (by decide), ?_⟩, fun hb0 => ?_⟩
        · have hb0 : brkN D c L = 0 := by omega
          rw [if_pos hb0] at h
          obtain ⟨c1, c2⟩ := brk_ok hb0
          rw [nI_clamp (n := L.length + 1) (by omega)]
          refine aw_w (ih (c :: L) (by simp only [List.length_cons]; omega) (VdN_cons hv c1 c2) (wrM (wrM (wrM t 69 L.length (nI (c + 1))) 68 L.length (nI c)) 69 (L.length + 1) 0) b' a1' ?_ ?_ ?_ (BstM_fr hB1 rfl rfl) ?_) ⟨rfl, rfl, rfl, trivial⟩
          · exact ShM_fr (ShM_S hM hF1) rfl (fun q h1 h2 => stM_ne (by omega))
          · exact ⟨upd_at, hR1⟩
          · exact upd_at
          · intro u a1'' hFu u68 u69 hBu
            have e1 : nI (c :: L).length + (-1 : Int32) = nI L.length := pk_m1 L.length
            rw [e1]
            refine ihc u _ a1'' ?_ (fun i hi => ?_) (fun i hi => ?_) ?_ hBu h
            · refine hF1.trans (FrS.trans ⟨fun q q1 q2 q3 q4 => stM_ne q3, fun j _ => rfl⟩ hFu)
            · exact (u68 i (by simp only [List.length_cons]; omega)).trans (g68 i hi)
            · refine (u69 i (by simp only [List.length_cons]; omega)).trans ?_
              show upd (upd (t 69) L.length (nI (c + 1))) (L.length + 1) 0 i = s 69 i
              rw [upd_ne (by omega)]
              exact g69 i hi
            · refine (u69 L.length (by simp only [List.length_cons]; omega)).trans ?_
              show upd (upd (t 69) L.length (nI (c + 1))) (L.length + 1) 0 L.length = nI (c + 1)
              rw [upd_ne (by omega), upd_at]
        · rw [if_neg (by omega)] at h
          exact aw_w (ihc _ b' a1' hF1 g68 g69 upd_at hB1 h) ⟨rfl, rfl, rfl, trivial⟩
    exact loop 0 (Nat.zero_le _) s b a1 FrS.rfl (fun _ _ => rfl) (fun _ _ => rfl) h69 hB (by rw [Nat.sub_zero]; rfl)
theorem S8_seeks {l : Launch} {G : GG} {d : Nat} {D : Shw} (hd : 2 ≤ d) (hD : ShOk D) {s : Mem} (hM : ShM s D) : Spec l G d hX8_seeks [.inr 49] s (fun r t => ((bsN D = none ∧ r = 0) ∨ ∃ g w K, bsN D = some (g, w, K) ∧ r = 1 ∧ t 49 26 = nI g ∧ RowF (t 70) K) ∧ FrS s t) := by
  refine spec_of iX8_seeks (by decide +kernel) (Nat.le_of_ble_eq_true rfl) (vX8_seeks_0 ⟨vp_in_nI (n := 0) (by decide) (by decide), ?_⟩)
  have hD0 := hD.1
  have hF0 : FrS s (wrM (wrM s 49 26 (-1 : Int32)) 69 0 0) := ⟨fun q q1 q2 q3 q4 => (stM_ne q3).trans (stM_ne q1), fun j hj => by
    show upd (s 49) 26 (-1) j = s 49 j
    exact upd_ne hj⟩
  have hM0 := ShM_S hM hF0
  have hB0 : BstM (wrM (wrM s 49 26 (-1 : Int32)) 69 0 0) 0 none := rfl
  have done : ∀ (t : Mem) (a1 : Int32), FrS s t → BstM t a1 (bsN D) → ((t 49 26 = (-1 : Int32) → (bool01 (0 : Int32) ∧ (((bsN D = none ∧ (0 : Int32) = 0) ∨ ∃ g w K, bsN D = some (g, w, K) ∧ (0 : Int32) = 1 ∧ t 49 26 = nI g ∧ RowF (t 70) K) ∧ FrS s t))) ∧ (¬ t 49 26 = (-1 : Int32) → (bool01 (1 : Int32) ∧ (((bsN D = none ∧ (1 : Int32) = 0) ∨ ∃ g w K, bsN D = some (g, w, K) ∧ (1 : Int32) = 1 ∧ t 49 26 = nI g ∧ RowF (t 70) K) ∧ FrS s t)))) := by
    intro t a1 hF hB
    generalize bsN D = b at hB
    match b, hB with
    | none, hB => exact ⟨fun _ => ⟨Or.inl rfl, Or.inl ⟨rfl, rfl⟩, hF⟩, fun h => absurd hB h⟩
    | some (g, w, K), hB =>
      obtain ⟨c1, c2, c3, c4, c5⟩ := hB
      refine ⟨fun h => ?_, fun _ => ⟨Or.inr rfl, Or.inr ⟨g, w, K, rfl, rfl, c1, c5⟩, hF⟩⟩
      have h7 : ¬ nI g < 0 := nI_pos (by omega)
      rw [← c1, h] at h7
      exact absurd (by decide) h7
  by_cases hn : D 0 0 = 0
  · have eb : bsN D = none := by
      unfold bsN
      rw [if_pos hn]
    refine vX8_seeks_16 ⟨fun h => absurd h (by decide), fun _ => ⟨fun _ => done _ 0 hF0 (by rw [eb]; exact hB0), fun h => absurd ?_ h⟩⟩
    have := hM0.1
    rw [hn] at this
    rw [show wrM (wrM s 49 26 (-1 : Int32)) 69 (0 : Int32).toNatClampNeg 0 49 0 = nI 0 from this]
    decide
  · have eb : bsN D = skN D (D 0 0) [] none := by
      unfold bsN
      rw [if_neg hn]
    refine sk_loop hd hD (by omega) (D 0 0) [] (by simp) VdN_nil _ none 0 hM0 trivial rfl hB0 ?_
    intro t a1' hF _ _ hB
    rw [← eb] at hB
    refine vX8_seeks_16 ⟨fun _ => done t a1' (hF0.trans hF) hB, fun h => absurd (by decide) h⟩
theorem S8_best {l : Launch} {G : GG} {d : Nat} {D : Shw} (hd : 3 ≤ d) (hD : ShOk D) {s : Mem} (hM : ShM s D) : Spec l G d hX8_best [.inr 49] s (fun r t => r = bsV (bsN D) ∧ FrS s t) := by
  refine spec_of iX8_best (by decide +kernel) (Nat.le_of_ble_eq_true rfl) (vX8_best_0 ?_)
  refine ⟨d - 1, _, by omega, S8_seeks (by omega) hD hM, ?_⟩
  rintro r t ⟨h | ⟨g, w, K, e, rfl, h1, _⟩, hF⟩
  · obtain ⟨e, rfl⟩ := h
    rw [e]
    exact ⟨fun _ => ⟨rfl, hF⟩, fun q => absurd rfl q⟩
  · rw [e]
    exact ⟨fun q => absurd q (by decide), fun _ => ⟨h1, hF⟩⟩
theorem S8_bestAt {l : Launch} {G : GG} {d : Nat} {D : Shw} (hd : 3 ≤ d) (hD : ShOk D) {s : Mem} (hM : ShM s D) (x : Int32) : Spec l G d hX8_bestAt [.inr 49, .inl x] s (fun r t => btV (D 0 0) (bsN D) x r ∧ FrS s t) := by
  refine spec_of iX8_bestAt (by decide +kernel) (Nat.le_of_ble_eq_true rfl) (vX8_bestAt_0 ?_)
  have hD0 := hD.1
  refine ⟨d - 1, _, by omega, S8_seeks (by omega) hD hM, ?_⟩
  rintro r t ⟨h | ⟨g, w, K, e, rfl, h1, h2⟩, hF⟩
  · obtain ⟨e, rfl⟩ := h
    rw [e]
    exact ⟨fun _ => ⟨Or.inr ⟨Or.inl rfl, rfl⟩, hF⟩, fun q => absurd rfl q⟩
  · have hlen := (bs_len hD g w K e).1
    have e0 : t 49 0 = nI (D 0 0) := (hF.2 0 (by decide)).trans hM.1
    rw [e]
    refine ⟨fun q => absurd q (by decide), fun _ => ⟨d - 1, _, by omega, S_in _ _ _ _, ?_⟩⟩
    rintro _ _ ⟨rfl, rfl⟩
    rw [e0, i01, inK1 (by omega)]
    refine ⟨fun q => ⟨Or.inr ⟨Or.inr q, rfl⟩, hF⟩, fun q => ?_⟩
    obtain ⟨i, hi, rfl⟩ := Classical.not_not.mp q
    obtain ⟨a, a1, a2, _, a4⟩ := RowF_nx h2 (k := i) (by rw [hlen]; exact hi)
    rw [hlen] at a2
    rw [nI_clamp (n := i) (by omega)]
    exact ⟨vi8 (by omega), Or.inl ⟨g, w, K, i, a, rfl, rfl, hi, a2, a4⟩, hF⟩
