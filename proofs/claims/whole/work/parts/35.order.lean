/-! ===== orders put together ===== -/
def ShC (s : Mem) (D : Shw) : Prop := s 1 0 = nI (D 0 0) ∧ (∀ i, i < 8 → s 2 i = nI (D 1 i) ∧ s 3 i = nI (D 2 i) ∧ s 4 i = nI (D 3 i) ∧ s 5 i = nI (D 4 i) ∧ s 6 i = nI (D 5 i)) ∧ (∀ b q, 1 ≤ b → b ≤ 3 → q < 10 → bt (s 7 b) q = decide (b ≤ D 6 q)) ∧ ∀ k, k < 16 → bt (s 1 7) k = decide (D 7 k = 1)
def ShM (s : Mem) (D : Shw) : Prop := s 49 0 = nI (D 0 0) ∧ (∀ i, i < 8 → s 50 i = nI (D 1 i) ∧ s 51 i = nI (D 2 i) ∧ s 52 i = nI (D 3 i) ∧ s 53 i = nI (D 4 i) ∧ s 54 i = nI (D 5 i)) ∧ (∀ q, q < 10 → s 55 q = nI (D 6 q)) ∧ ∀ k, k < 16 → s 56 k = nI (D 7 k)
theorem ShC_fr {s t : Mem} {D : Shw} (h : ShC s D) (hf : ∀ q, 1 ≤ q → q ≤ 7 → t q = s q) : ShC t D := by
  unfold ShC
  rw [hf 1 (by decide) (by decide), hf 2 (by decide) (by decide), hf 3 (by decide) (by decide), hf 4 (by decide) (by decide), hf 5 (by decide) (by decide), hf 6 (by decide) (by decide), hf 7 (by decide) (by decide)]
  exact h
def UsedC (x : Int32) (L : List Nat) : Prop := ∀ i, i < 32 → bt x i = decide (i ∈ L)
theorem UsedC_cons {x : Int32} {L : List Nat} {a : Nat} (ha : a < 32) (h : UsedC x L) : UsedC (x ||| ((1 : Int32) <<< (nI a &&& 31))) (a :: L) := by
  intro i hi
  rw [b_or, bt_one a ha hi, h i hi]
  by_cases h1 : i = a <;> by_cases h2 : i ∈ L <;> simp [h1, h2]
def RowAt (D : Shw) (u r p g w : Nat → Int32) (L : List Nat) : Prop := UsedC (u L.length) L ∧ r L.length = nI (rgN D L) ∧ p L.length = nI (psN D L) ∧ g L.length = nI (gpN D L) ∧ w L.length = nI (wtN D L)
def RowC (D : Shw) (f u r p g w : Nat → Int32) : List Nat → Prop
  | [] => RowAt D u r p g w []
  | a :: L => f L.length = nI a ∧ RowAt D u r p g w (a :: L) ∧ RowC D f u r p g w L
theorem RowC_at {D : Shw} {f u r p g w : Nat → Int32} : ∀ {L : List Nat}, RowC D f u r p g w L → RowAt D u r p g w L
  | [], h => h
  | _ :: _, h => h.2.1
theorem RowC_F {D : Shw} {f u r p g w : Nat → Int32} : ∀ {L : List Nat}, RowC D f u r p g w L → RowF f L
  | [], _ => trivial
  | _ :: _, h => ⟨h.1, RowC_F h.2.2⟩
theorem RowC_nil {D : Shw} {f u r p g w : Nat → Int32} : ∀ {L : List Nat}, RowC D f u r p g w L → RowC D f u r p g w []
  | [], h => h
  | _ :: _, h => RowC_nil h.2.2
theorem RowC_congr {D : Shw} {f u r p g w f' u' r' p' g' w' : Nat → Int32} : ∀ {L : List Nat}, (∀ i, i < L.length → f' i = f i) → (∀ i, i ≤ L.length → u' i = u i ∧ r' i = r i ∧ p' i = p i ∧ g' i = g i ∧ w' i = w i) → RowC D f u r p g w L → RowC D f' u' r' p' g' w' L
  | [], _, h2, h => by
    obtain ⟨e1, e2, e3, e4, e5⟩ := h2 0 (Nat.le_refl _)
    show RowAt D u' r' p' g' w' []
    unfold RowAt
    show UsedC (u' 0) [] ∧ r' 0 = _ ∧ p' 0 = _ ∧ g' 0 = _ ∧ w' 0 = _
    rw [e1, e2, e3, e4, e5]
    exact h
  | a :: L, h1, h2, h => by
    refine ⟨?_, ?_, RowC_congr (fun i hi => h1 i (by simp only [List.length_cons]; omega)) (fun i hi => h2 i (by simp only [List.length_cons]; omega)) h.2.2⟩
    · rw [h1 L.length (by simp)]
      exact h.1
    · obtain ⟨e1, e2, e3, e4, e5⟩ := h2 (a :: L).length (Nat.le_refl _)
      unfold RowAt
      rw [e1, e2, e3, e4, e5]
      exact h.2.1
theorem RowC_ext {D : Shw} {f u r p g w : Nat → Int32} {L : List Nat} {a : Nat} {xu xr xp xg xw : Int32} (h : RowC D f u r p g w L) (hu : UsedC xu (a :: L)) (hr : xr = nI (rgN D (a :: L))) (hp : xp = nI (psN D (a :: L))) (hg : xg = nI (gpN D (a :: L))) (hw : xw = nI (wtN D (a :: L))) :
    RowC D (upd f L.length (nI a)) (upd u (L.length + 1) xu) (upd r (L.length + 1) xr) (upd p (L.length + 1) xp) (upd g (L.length + 1) xg) (upd w (L.length + 1) xw) (a :: L) := by
  refine ⟨upd_at, ?_, RowC_congr (fun i hi => upd_ne (by omega)) (fun i hi => ⟨upd_ne (by omega), upd_ne (by omega), upd_ne (by omega), upd_ne (by omega), upd_ne (by omega)⟩) h⟩
  unfold RowAt
  rw [List.length_cons, upd_at, upd_at, upd_at, upd_at, upd_at]
  exact ⟨hu, hr, hp, hg, hw⟩
theorem nI_xor (a b : Nat) : nI a ^^^ nI b = nI (a ^^^ b) := by
  apply b_ext
  intro i hi
  rw [b_xor, bt_nI hi, bt_nI hi, bt_nI hi, Nat.testBit_xor]
theorem mx0 {a b : Nat} (ha : a < 2 ^ 30) (hb : b < 2 ^ 30) : (if (0 : Int32) < nI a - nI b then nI a - nI b else (0 : Int32)) = nI (a - b) := by
  rcases Nat.lt_or_ge a b with h | h
  · have h1 := pk_sneg hb h
    have h2 : ¬ (0 : Int32) < nI a - nI b := by
      intro h3
      rw [Int32.lt_iff_toInt_lt] at h1 h3
      omega
    rw [if_neg h2, show a - b = 0 by omega]
    rfl
  · rw [pk_sub h]
    by_cases h0 : a - b = 0
    · rw [h0]
      decide
    · have h1 : (0 : Int32) < nI (a - b) := nI_lt (a := 0) (by omega) (by omega)
      rw [if_pos h1]
theorem rest_and {A X b : Nat} (hA : A < 1024) {R : Int32} {rs : Nat → Nat} (hR : ∀ q, q < 10 → bt R q = decide (b ≤ rs q)) : ((nI A &&& nI X) &&& R) = 0 ↔ ∀ q, q < 10 → A.testBit q = true → X.testBit q = true → ¬ b ≤ rs q := by
  rw [bt_zero]
  constructor
  · intro h q hq h1 h2 h3
    have h4 := h q (by omega)
    rw [b_and, b_and, bt_nI (by omega), bt_nI (by omega), hR q hq, h1, h2, decide_eq_true h3] at h4
    cases h4
  · intro h i hi
    rw [b_and, b_and, bt_nI hi, bt_nI hi]
    by_cases hq : i < 10
    · cases h1 : A.testBit i with
      | false => rfl
      | true =>
        cases h2 : X.testBit i with
        | false => rfl
        | true =>
          rw [hR i hq, decide_eq_false (h i hq h1 h2)]
          rfl
    · have h1 : A.testBit i = false := Nat.testBit_lt_two_pow (Nat.lt_of_lt_of_le hA (Nat.pow_le_pow_right (n := 2) (i := 10) (j := i) (by decide) (by omega)))
      rw [h1]
      rfl
theorem S4_isClowns {l : Launch} {G : GG} {d a k : Nat} {s : Mem} (ha : a < 8) (hk : k < 4) (h : s 3 a = nI k) : Spec l G d hX4_isClowns [.inr 1, .inl (nI a)] s (fun r t => r = (if k = 3 then 1 else 0) ∧ s = t) := by
  refine spec_of iX4_isClowns (by decide +kernel) (Nat.le_of_ble_eq_true rfl) (vX4_isClowns_0 ?_)
  have e : nI k = (3 : Int32) ↔ k = 3 := nI_eq (b := 3) (by omega) (by decide)
  rw [cl8 ha, h, e]
  refine ⟨vi8 ha, fun q => ⟨Or.inl rfl, ?_, rfl⟩, fun q => ⟨Or.inr rfl, ?_, rfl⟩⟩
  · rw [if_neg q]
  · rw [if_pos q]
def FrO_told (s t : Mem) : Prop := ∀ q, q ≠ 9 → q ≠ 10 → q ≠ 11 → q ≠ 12 → q ≠ 13 → q ≠ 14 → t q = s q
theorem S2_breakAt_told {l : Launch} {G : GG} {d a : Nat} {D : Shw} {s : Mem} {L : List Nat} (hd : 1 ≤ d) (hD : ShOk D) (hS : ShC s D) (hv : VdN (D 0 0) L) (hR : RowC D (s 9) (s 10) (s 11) (s 12) (s 13) (s 14) L) (hl : L.length < 8) (ha : a < 10) : Spec l G d hX2_breakAt [.inr 8, .inl (nI L.length), .inl (nI a)] s (fun r t => r = nI (brkN D a L) ∧ s = t) := by
  refine spec_of iX2_breakAt (by decide +kernel) (Nat.le_of_ble_eq_true rfl) (vX2_breakAt_told_0 ?_)
  obtain ⟨hD0, hD1, hD2, hD3, hD4, hD5, hD6, hD7⟩ := hD
  obtain ⟨s0, sA, sR, sB⟩ := hS
  refine ⟨d - 1, _, by omega, S_isIn _ _ _, ?_⟩
  rintro _ _ ⟨rfl, rfl⟩
  rw [if_pos ⟨nI_pos (by omega), c8f hl⟩]
  refine ⟨fun h => absurd h (by decide), fun _ => ⟨d - 1, _, by omega, S_isIn _ _ _, ?_⟩⟩
  rintro _ _ ⟨rfl, rfl⟩
  have e1 : (¬ nI a < 0 ∧ ¬ s 1 0 ≤ nI a) ↔ a < D 0 0 := by
    rw [s0, nI_leI (by omega) (by omega)]
    constructor
    · intro h
      omega
    · intro h
      exact ⟨nI_pos (by omega), by omega⟩
  by_cases hin : a < D 0 0
  rotate_left
  · rw [if_neg (fun q => hin (e1.mp q))]
    exact ⟨fun _ => ⟨(congrArg nI (brk_1 (Or.inl hin))).symm, rfl⟩, fun h => absurd rfl h⟩
  rw [if_pos (e1.mpr hin)]
  refine ⟨fun h => absurd h (by decide), fun _ => ⟨vp_in_nI (by omega) (by decide), ?_⟩⟩
  rw [nI_clamp (n := L.length) (by omega), bt_test a (by omega), (RowC_at hR).1 a (by omega)]
  by_cases hm : a ∈ L
  · refine ⟨fun h => absurd hm (of_decide_eq_false h), fun _ => ⟨(congrArg nI (brk_1 (Or.inr hm))).symm, rfl⟩⟩
  refine ⟨fun _ => ?_, fun h => absurd (decide_eq_false hm) h⟩
  have ha8 : a < 8 := by omega
  have fin : ¬ brP2 D a L → ((nI L.length ≤ 0 →
        ((0 : Int32) = nI (brkN D a L) ∧ s = s)) ∧
      (¬ nI L.length ≤ 0 →
        (vp_in (nI L.length - (1 : Int32)) 8 ∧
        (vp_in (s 9 (nI L.length - (1 : Int32)).toNatClampNeg) 8 ∧
        (vp_in (nI a) 8 ∧
        (∃ (d' : Nat) (Q1 : Int32 → Mem → Prop), d' < d ∧ Spec l G d' hX4_isBanned [.inr 1, .inl (s 3 (s 9 (nI L.length - (1 : Int32)).toNatClampNeg).toNatClampNeg), .inl (s 3 (nI a).toNatClampNeg)] s Q1 ∧ ∀ (r1 : Int32) (t1 : Mem), Q1 r1 t1 →
        ((r1 = 0 →
          ((0 : Int32) = nI (brkN D a L) ∧ s = t1)) ∧
        (¬ r1 = 0 →
          ((3 : Int32) = nI (brkN D a L) ∧ s = t1))))))))) := by
    intro hno
    cases L with
    | nil =>
      refine ⟨fun _ => ⟨(congrArg nI (brk_0 hin hm hno ?_)).symm, rfl⟩, fun h => absurd (by decide) h⟩
      rintro ⟨x, hx, _⟩
      cases hx
    | cons x K =>
      refine ⟨fun h => absurd h (nI_nle (by simp) (by omega)), fun _ => ?_⟩
      simp only [List.length_cons] at hl ⊢
      have hx : x < D 0 0 := hv.2 x List.mem_cons_self
      have hx8 : x < 8 := by omega
      rw [nI_pred, nI_clamp (n := K.length) (by omega), hR.1, cl8 hx8, cl8 ha8, (sA x hx8).2.1, (sA a ha8).2.1]
      refine ⟨vi8 (by omega), vi8 hx8, vi8 ha8, d - 1, _, by omega, S4_isBanned (hD2 x) (hD2 a) s, ?_⟩
      rintro r1 _ ⟨rfl, rfl⟩
      have h1 := hD2 x
      have h2 := hD2 a
      rw [sB (D 2 x * 4 + D 2 a) (by omega)]
      by_cases hb : D 7 (D 2 x * 4 + D 2 a) = 1
      · rw [decide_eq_true hb]
        exact ⟨fun h => absurd h (by decide), fun _ => ⟨(congrArg nI (brk_3 hin hm hno ⟨x, rfl, hb⟩)).symm, rfl⟩⟩
      · rw [decide_eq_false hb]
        refine ⟨fun _ => ⟨(congrArg nI (brk_0 hin hm hno ?_)).symm, rfl⟩, fun h => absurd rfl h⟩
        rintro ⟨y, hy, h3⟩
        cases hy
        exact hb h3
  have loop : ∀ b, b ≤ 4 → 1 ≤ b → (∀ j x q, j + 1 < b → L[j]? = some x → q < 10 → (D 4 a).testBit q = true → (D 4 x).testBit q = true → ¬ j < D 6 q) → AW l G d hX2_breakAt 40 [some (.inr 8), some (.inl (nI L.length)), some (.inl (nI a)), some (.inl (nI b)), none] [] s (fun r t => r = nI (brkN D a L) ∧ s = t) := by
    refine down 4 ?_ ?_
    · intro _ hI
      refine vX2_breakAt_told_40 ⟨fun _ => fin ?_, fun h => absurd (by decide) h⟩
      rintro ⟨j, x, q, h1, h2, h3, h4, h5⟩
      have := hD6 q
      exact hI j x q (by omega) h1 h2 h3 h4 h5
    · intro b hb ih hb1 hI
      refine vX2_breakAt_told_40 ⟨fun h => absurd h (nI_nlt (b := b) (a := 3) (by omega) (by decide)), fun _ => ⟨fun h => fin ?_, fun h => ?_⟩⟩
      · have hlt : L.length < b := (nI_ltI (by omega) (by omega)).mp h
        rintro ⟨j, x, q, h1, h2, h3, h4, h5⟩
        have hj : j < L.length := (List.getElem?_eq_some_iff.mp h1).1
        exact hI j x q (by omega) h1 h2 h3 h4 h5
      · have hge : b ≤ L.length := by
          rcases Nat.lt_or_ge L.length b with q | q
          · exact absurd (nI_lt q (by omega)) h
          · exact q
        obtain ⟨x, hx1, hx2, hx3⟩ := RowF_ix (RowC_F hR) (j := b - 1) (by omega)
        rw [show L.length - 1 - (b - 1) = L.length - b by omega] at hx3
        have hx : x < D 0 0 := hv.2 x hx2
        have hx8 : x < 8 := by omega
        rw [pk_sub hge, nI_clamp (n := L.length - b) (by omega), hx3, cl8 hx8, cl8 ha8, nI_clamp (n := b) (by omega), (sA a ha8).2.2.2.1, (sA x hx8).2.2.2.1, rest_and (hD4 a) (fun q hq => sR b q hb1 (by omega) hq), nI_1]
        refine ⟨vi8 ha8, vi8 (by omega), vi8 hx8, vp_in_nI (by omega) (by decide), fun h => ?_, fun h => ⟨(congrArg nI (brk_2 hin hm ?_)).symm, rfl⟩⟩
        · refine aw_weak (L := [some (.inr 8), some (.inl (nI L.length)), some (.inl (nI a)), some (.inl (nI (b + 1))), none]) ⟨rfl, rfl, rfl, rfl, trivial⟩ (ih (by omega) (fun j y q h1 h2 h3 h4 h5 => ?_))
          by_cases hj : j + 1 < b
          · exact hI j y q hj h2 h3 h4 h5
          · have e : j = b - 1 := by omega
            subst e
            rw [hx1] at h2
            cases h2
            have := h q h3 h4 h5
            omega
        · refine Classical.byContradiction (fun hno => h (fun q h1 h2 h3 h4 => hno ⟨b - 1, x, q, hx1, h1, h2, h3, by omega⟩))
  exact loop 1 (by decide) (Nat.le_refl _) (fun j x q h => absurd h (by omega))
theorem S2_set_told {l : Launch} {G : GG} {d a : Nat} {D : Shw} {s : Mem} {L : List Nat} (hd : 1 ≤ d) (hD : ShOk D) (hS : ShC s D) (hR : RowC D (s 9) (s 10) (s 11) (s 12) (s 13) (s 14) L) (hl : L.length < 8) (ha : a < 8) : Spec l G d hX2_set [.inr 8, .inl (nI L.length), .inl (nI a)] s (fun _ t => RowC D (t 9) (t 10) (t 11) (t 12) (t 13) (t 14) (a :: L) ∧ FrO_told s t) := by
  refine spec_of iX2_set (by decide +kernel) (Nat.le_of_ble_eq_true rfl) (vX2_set_told_0 ?_)
  obtain ⟨s0, sA, sR, sB⟩ := hS
  obtain ⟨a1, a2, a3, a4, a5⟩ := sA a ha
  obtain ⟨r1, r2, r3, r4, r5⟩ := RowC_at hR
  have v8 : vp_in (nI L.length) 8 := vi8 hl
  have v9 : vp_in (nI L.length) 9 := vp_in_nI (by omega) (by decide)
  have w9 : vp_in (nI (L.length + 1)) 9 := vp_in_nI (by omega) (by decide)
  rw [nI_1, nI_clamp (n := L.length) (by omega), nI_clamp (n := L.length + 1) (by omega), cl8 ha]
  refine ⟨v8, v9, w9, v9, vi8 ha, w9, d - 1, _, by omega, S4_isClowns ha (hD.2.2.1 a) a2, ?_⟩
  rintro q1 t1 ⟨hq1, ht⟩
  have h9 : t1 9 = upd (s 9) L.length (nI a) := by rw [← ht]; rfl
  have h10 : t1 10 = upd (s 10) (L.length + 1) (s 10 L.length ||| ((1 : Int32) <<< (nI a &&& 31))) := by rw [← ht]; rfl
  have h14 : t1 14 = upd (s 14) (L.length + 1) (s 14 L.length + s 4 a * nI (L.length + 1)) := by rw [← ht]; rfl
  have h11 : t1 11 = s 11 := by rw [← ht]; rfl
  have h12 : t1 12 = s 12 := by rw [← ht]; rfl
  have h13 : t1 13 = s 13 := by rw [← ht]; rfl
  have h6 : t1 6 = s 6 := by rw [← ht]; rfl
  have h2 : t1 2 = s 2 := by rw [← ht]; rfl
  have hfr : ∀ q, q ≠ 9 → q ≠ 10 → q ≠ 14 → t1 q = s q := by
    intro q b1 b2 b3
    rw [← ht]
    exact (stM_ne b3).trans ((stM_ne b2).trans (stM_ne b1))
  have hu : UsedC (s 10 L.length ||| ((1 : Int32) <<< (nI a &&& 31))) (a :: L) := UsedC_cons (by omega) r1
  have hw : s 14 L.length + s 4 a * nI (L.length + 1) = nI (wtN D (a :: L)) := by rw [r5, a3, pk_mul, nI_add]; rfl
  have hpb := psN_le hD L
  by_cases h3 : D 2 a = 3
  · rw [if_pos h3] at hq1
    refine ⟨fun h => absurd (h.symm.trans hq1) (by decide), fun _ => ⟨v9, w9, v9, w9, v9, vi8 ha, w9, ?_, ?_⟩⟩
    · show RowC D (t1 9) (t1 10) (upd (t1 11) (L.length + 1) (t1 11 L.length)) (upd (t1 12) (L.length + 1) (t1 12 L.length + t1 2 a)) (upd (t1 13) (L.length + 1) (t1 13 L.length)) (t1 14) (a :: L)
      rw [h9, h10, h11, h12, h13, h14, h2]
      refine RowC_ext hR hu ?_ ?_ ?_ hw
      · rw [r2]; simp only [rgN, if_pos h3]
      · rw [r3, a1, nI_add]; simp only [psN, if_pos h3]
      · rw [r4]; simp only [gpN, if_pos h3]
    · intro q b1 b2 b3 b4 b5 b6
      exact (stM_ne b4).trans ((stM_ne b3).trans ((stM_ne b5).trans (hfr q b1 b2 b6)))
  · rw [if_neg h3] at hq1
    refine ⟨fun _ => ⟨v9, vi8 ha, d - 1, (fun r t => r = nI (ctB (rgN D L ^^^ D 5 a).testBit 16) ∧ t1 = t), by omega, ?_, ?_⟩, fun h => absurd hq1 h⟩
    · rw [h11, h6, r2, a5, nI_xor]
      have b1 : rgN D L < 2 ^ 8 := rgN_lt hD L
      have b2 : D 5 a < 2 ^ 8 := hD.2.2.2.2.2.1 a
      exact S_bitCount (Nat.lt_of_lt_of_le (Nat.xor_lt_two_pow b1 b2) (by decide)) t1
    · rintro _ _ ⟨rfl, rfl⟩
      refine ⟨v9, v9, hd, w9, vi8 ha, w9, w9, ?_, ?_⟩
      · show RowC D (t1 9) (t1 10) (upd (t1 11) (L.length + 1) (t1 6 a)) (upd (t1 12) (L.length + 1) 0) (upd (t1 13) (L.length + 1) (t1 13 L.length + (if (0 : Int32) < ((2 : Int32) * nI (ctB (rgN D L ^^^ D 5 a).testBit 16)) - t1 12 L.length then ((2 : Int32) * nI (ctB (rgN D L ^^^ D 5 a).testBit 16)) - t1 12 L.length else 0))) (t1 14) (a :: L)
        rw [h9, h10, h11, h12, h13, h14, h6]
        have cbl := cbN_le (rgN D L) (D 5 a)
        have e2 : (2 : Int32) * nI (ctB (rgN D L ^^^ D 5 a).testBit 16) = nI (2 * cbN (rgN D L) (D 5 a)) := pk_mul 2 _
        refine RowC_ext hR hu ?_ ?_ ?_ hw
        · rw [a5]; simp only [rgN, if_neg h3]
        · simp only [psN, if_neg h3]; rfl
        · rw [r4, r3, e2, mx0 (by omega) (by omega), nI_add]; simp only [gpN, if_neg h3]
      · intro q b1 b2 b3 b4 b5 b6
        exact (stM_ne b4).trans ((stM_ne b3).trans ((stM_ne b5).trans (hfr q b1 b2 b6)))
theorem S2_put_told {l : Launch} {G : GG} {d a : Nat} {D : Shw} {s : Mem} {L : List Nat} (hd : 2 ≤ d) (hD : ShOk D) (hS : ShC s D) (hv : VdN (D 0 0) L) (hR : RowC D (s 9) (s 10) (s 11) (s 12) (s 13) (s 14) L) (hl : L.length < 8) (ha : a < 10) : Spec l G d hX2_put [.inr 8, .inl (nI L.length), .inl (nI a)] s (fun r t => r = nI (brkN D a L) ∧ FrO_told s t ∧ RowC D (t 9) (t 10) (t 11) (t 12) (t 13) (t 14) L ∧ (brkN D a L = 0 → RowC D (t 9) (t 10) (t 11) (t 12) (t 13) (t 14) (a :: L))) := by
  refine spec_of iX2_put (by decide +kernel) (Nat.le_of_ble_eq_true rfl) (vX2_put_told_0 ?_)
  refine ⟨d - 1, _, by omega, S2_breakAt_told (by omega) hD hS hv hR hl ha, ?_⟩
  rintro _ _ ⟨rfl, rfl⟩
  have hb := brk_le (D := D) (a := a) (L := L)
  have e : nI (brkN D a L) = 0 ↔ brkN D a L = 0 := nI_eq (b := 0) (by omega) (by decide)
  rw [e]
  refine ⟨fun h => ⟨rfl, fun _ _ _ _ _ _ _ => rfl, hR, fun q => absurd q h⟩, fun h => ?_⟩
  have ha2 := (brk_ok h).1
  have hD0 := hD.1
  refine ⟨d - 1, _, by omega, S2_set_told (by omega) hD hS hR hl (by omega), ?_⟩
  rintro _ t ⟨h1, h2⟩
  exact ⟨rfl, h2, h1.2.2, fun _ => h1⟩
def FrO_row (s t : Mem) : Prop := ∀ q, q ≠ 17 → q ≠ 18 → q ≠ 19 → q ≠ 20 → q ≠ 21 → q ≠ 22 → t q = s q
theorem S2_breakAt_row {l : Launch} {G : GG} {d a : Nat} {D : Shw} {s : Mem} {L : List Nat} (hd : 1 ≤ d) (hD : ShOk D) (hS : ShC s D) (hv : VdN (D 0 0) L) (hR : RowC D (s 17) (s 18) (s 19) (s 20) (s 21) (s 22) L) (hl : L.length < 8) (ha : a < 10) : Spec l G d hX2_breakAt [.inr 16, .inl (nI L.length), .inl (nI a)] s (fun r t => r = nI (brkN D a L) ∧ s = t) := by
  refine spec_of iX2_breakAt (by decide +kernel) (Nat.le_of_ble_eq_true rfl) (vX2_breakAt_row_0 ?_)
  obtain ⟨hD0, hD1, hD2, hD3, hD4, hD5, hD6, hD7⟩ := hD
  obtain ⟨s0, sA, sR, sB⟩ := hS
  refine ⟨d - 1, _, by omega, S_isIn _ _ _, ?_⟩
  rintro _ _ ⟨rfl, rfl⟩
  rw [if_pos ⟨nI_pos (by omega), c8f hl⟩]
  refine ⟨fun h => absurd h (by decide), fun _ => ⟨d - 1, _, by omega, S_isIn _ _ _, ?_⟩⟩
  rintro _ _ ⟨rfl, rfl⟩
  have e1 : (¬ nI a < 0 ∧ ¬ s 1 0 ≤ nI a) ↔ a < D 0 0 := by
    rw [s0, nI_leI (by omega) (by omega)]
    constructor
    · intro h
      omega
    · intro h
      exact ⟨nI_pos (by omega), by omega⟩
  by_cases hin : a < D 0 0
  rotate_left
  · rw [if_neg (fun q => hin (e1.mp q))]
    exact ⟨fun _ => ⟨(congrArg nI (brk_1 (Or.inl hin))).symm, rfl⟩, fun h => absurd rfl h⟩
  rw [if_pos (e1.mpr hin)]
  refine ⟨fun h => absurd h (by decide), fun _ => ⟨vp_in_nI (by omega) (by decide), ?_⟩⟩
  rw [nI_clamp (n := L.length) (by omega), bt_test a (by omega), (RowC_at hR).1 a (by omega)]
  by_cases hm : a ∈ L
  · refine ⟨fun h => absurd hm (of_decide_eq_false h), fun _ => ⟨(congrArg nI (brk_1 (Or.inr hm))).symm, rfl⟩⟩
  refine ⟨fun _ => ?_, fun h => absurd (decide_eq_false hm) h⟩
  have ha8 : a < 8 := by omega
  have fin : ¬ brP2 D a L → ((nI L.length ≤ 0 →
        ((0 : Int32) = nI (brkN D a L) ∧ s = s)) ∧
      (¬ nI L.length ≤ 0 →
        (vp_in (nI L.length - (1 : Int32)) 8 ∧
        (vp_in (s 17 (nI L.length - (1 : Int32)).toNatClampNeg) 8 ∧
        (vp_in (nI a) 8 ∧
        (∃ (d' : Nat) (Q1 : Int32 → Mem → Prop), d' < d ∧ Spec l G d' hX4_isBanned [.inr 1, .inl (s 3 (s 17 (nI L.length - (1 : Int32)).toNatClampNeg).toNatClampNeg), .inl (s 3 (nI a).toNatClampNeg)] s Q1 ∧ ∀ (r1 : Int32) (t1 : Mem), Q1 r1 t1 →
        ((r1 = 0 →
          ((0 : Int32) = nI (brkN D a L) ∧ s = t1)) ∧
        (¬ r1 = 0 →
          ((3 : Int32) = nI (brkN D a L) ∧ s = t1))))))))) := by
    intro hno
    cases L with
    | nil =>
      refine ⟨fun _ => ⟨(congrArg nI (brk_0 hin hm hno ?_)).symm, rfl⟩, fun h => absurd (by decide) h⟩
      rintro ⟨x, hx, _⟩
      cases hx
    | cons x K =>
      refine ⟨fun h => absurd h (nI_nle (by simp) (by omega)), fun _ => ?_⟩
      simp only [List.length_cons] at hl ⊢
      have hx : x < D 0 0 := hv.2 x List.mem_cons_self
      have hx8 : x < 8 := by omega
      rw [nI_pred, nI_clamp (n := K.length) (by omega), hR.1, cl8 hx8, cl8 ha8, (sA x hx8).2.1, (sA a ha8).2.1]
      refine ⟨vi8 (by omega), vi8 hx8, vi8 ha8, d - 1, _, by omega, S4_isBanned (hD2 x) (hD2 a) s, ?_⟩
      rintro r1 _ ⟨rfl, rfl⟩
      have h1 := hD2 x
      have h2 := hD2 a
      rw [sB (D 2 x * 4 + D 2 a) (by omega)]
      by_cases hb : D 7 (D 2 x * 4 + D 2 a) = 1
      · rw [decide_eq_true hb]
        exact ⟨fun h => absurd h (by decide), fun _ => ⟨(congrArg nI (brk_3 hin hm hno ⟨x, rfl, hb⟩)).symm, rfl⟩⟩
      · rw [decide_eq_false hb]
        refine ⟨fun _ => ⟨(congrArg nI (brk_0 hin hm hno ?_)).symm, rfl⟩, fun h => absurd rfl h⟩
        rintro ⟨y, hy, h3⟩
        cases hy
        exact hb h3
  have loop : ∀ b, b ≤ 4 → 1 ≤ b → (∀ j x q, j + 1 < b → L[j]? = some x → q < 10 → (D 4 a).testBit q = true → (D 4 x).testBit q = true → ¬ j < D 6 q) → AW l G d hX2_breakAt 40 [some (.inr 16), some (.inl (nI L.length)), some (.inl (nI a)), some (.inl (nI b)), none] [] s (fun r t => r = nI (brkN D a L) ∧ s = t) := by
    refine down 4 ?_ ?_
    · intro _ hI
      refine vX2_breakAt_row_40 ⟨fun _ => fin ?_, fun h => absurd (by decide) h⟩
      rintro ⟨j, x, q, h1, h2, h3, h4, h5⟩
      have := hD6 q
      exact hI j x q (by omega) h1 h2 h3 h4 h5
    · intro b hb ih hb1 hI
      refine vX2_breakAt_row_40 ⟨fun h => absurd h (nI_nlt (b := b) (a := 3) (by omega) (by decide)), fun _ => ⟨fun h => fin ?_, fun h => ?_⟩⟩
      · have hlt : L.length < b := (nI_ltI (by omega) (by omega)).mp h
        rintro ⟨j, x, q, h1, h2, h3, h4, h5⟩
        have hj : j < L.length := (List.getElem?_eq_some_iff.mp h1).1
        exact hI j x q (by omega) h1 h2 h3 h4 h5
      · have hge : b ≤ L.length := by
          rcases Nat.lt_or_ge L.length b with q | q
          · exact absurd (nI_lt q (by omega)) h
          · exact q
        obtain ⟨x, hx1, hx2, hx3⟩ := RowF_ix (RowC_F hR) (j := b - 1) (by omega)
        rw [show L.length - 1 - (b - 1) = L.length - b by omega] at hx3
        have hx : x < D 0 0 := hv.2 x hx2
        have hx8 : x < 8 := by omega
        rw [pk_sub hge, nI_clamp (n := L.length - b) (by omega), hx3, cl8 hx8, cl8 ha8, nI_clamp (n := b) (by omega), (sA a ha8).2.2.2.1, (sA x hx8).2.2.2.1, rest_and (hD4 a) (fun q hq => sR b q hb1 (by omega) hq), nI_1]
        refine ⟨vi8 ha8, vi8 (by omega), vi8 hx8, vp_in_nI (by omega) (by decide), fun h => ?_, fun h => ⟨(congrArg nI (brk_2 hin hm ?_)).symm, rfl⟩⟩
        · refine aw_weak (L := [some (.inr 16), some (.inl (nI L.length)), some (.inl (nI a)), some (.inl (nI (b + 1))), none]) ⟨rfl, rfl, rfl, rfl, trivial⟩ (ih (by omega) (fun j y q h1 h2 h3 h4 h5 => ?_))
          by_cases hj : j + 1 < b
          · exact hI j y q hj h2 h3 h4 h5
          · have e : j = b - 1 := by omega
            subst e
            rw [hx1] at h2
            cases h2
            have := h q h3 h4 h5
            omega
        · refine Classical.byContradiction (fun hno => h (fun q h1 h2 h3 h4 => hno ⟨b - 1, x, q, hx1, h1, h2, h3, by omega⟩))
  exact loop 1 (by decide) (Nat.le_refl _) (fun j x q h => absurd h (by omega))
theorem S2_set_row {l : Launch} {G : GG} {d a : Nat} {D : Shw} {s : Mem} {L : List Nat} (hd : 1 ≤ d) (hD : ShOk D) (hS : ShC s D) (hR : RowC D (s 17) (s 18) (s 19) (s 20) (s 21) (s 22) L) (hl : L.length < 8) (ha : a < 8) : Spec l G d hX2_set [.inr 16, .inl (nI L.length), .inl (nI a)] s (fun _ t => RowC D (t 17) (t 18) (t 19) (t 20) (t 21) (t 22) (a :: L) ∧ FrO_row s t) := by
  refine spec_of iX2_set (by decide +kernel) (Nat.le_of_ble_eq_true rfl) (vX2_set_row_0 ?_)
  obtain ⟨s0, sA, sR, sB⟩ := hS
  obtain ⟨a1, a2, a3, a4, a5⟩ := sA a ha
  obtain ⟨r1, r2, r3, r4, r5⟩ := RowC_at hR
  have v8 : vp_in (nI L.length) 8 := vi8 hl
  have v9 : vp_in (nI L.length) 9 := vp_in_nI (by omega) (by decide)
  have w9 : vp_in (nI (L.length + 1)) 9 := vp_in_nI (by omega) (by decide)
  rw [nI_1, nI_clamp (n := L.length) (by omega), nI_clamp (n := L.length + 1) (by omega), cl8 ha]
  refine ⟨v8, v9, w9, v9, vi8 ha, w9, d - 1, _, by omega, S4_isClowns ha (hD.2.2.1 a) a2, ?_⟩
  rintro q1 t1 ⟨hq1, ht⟩
  have h9 : t1 17 = upd (s 17) L.length (nI a) := by rw [← ht]; rfl
  have h10 : t1 18 = upd (s 18) (L.length + 1) (s 18 L.length ||| ((1 : Int32) <<< (nI a &&& 31))) := by rw [← ht]; rfl
  have h14 : t1 22 = upd (s 22) (L.length + 1) (s 22 L.length + s 4 a * nI (L.length + 1)) := by rw [← ht]; rfl
  have h11 : t1 19 = s 19 := by rw [← ht]; rfl
  have h12 : t1 20 = s 20 := by rw [← ht]; rfl
  have h13 : t1 21 = s 21 := by rw [← ht]; rfl
  have h6 : t1 6 = s 6 := by rw [← ht]; rfl
  have h2 : t1 2 = s 2 := by rw [← ht]; rfl
  have hfr : ∀ q, q ≠ 17 → q ≠ 18 → q ≠ 22 → t1 q = s q := by
    intro q b1 b2 b3
    rw [← ht]
    exact (stM_ne b3).trans ((stM_ne b2).trans (stM_ne b1))
  have hu : UsedC (s 18 L.length ||| ((1 : Int32) <<< (nI a &&& 31))) (a :: L) := UsedC_cons (by omega) r1
  have hw : s 22 L.length + s 4 a * nI (L.length + 1) = nI (wtN D (a :: L)) := by rw [r5, a3, pk_mul, nI_add]; rfl
  have hpb := psN_le hD L
  by_cases h3 : D 2 a = 3
  · rw [if_pos h3] at hq1
    refine ⟨fun h => absurd (h.symm.trans hq1) (by decide), fun _ => ⟨v9, w9, v9, w9, v9, vi8 ha, w9, ?_, ?_⟩⟩
    · show RowC D (t1 17) (t1 18) (upd (t1 19) (L.length + 1) (t1 19 L.length)) (upd (t1 20) (L.length + 1) (t1 20 L.length + t1 2 a)) (upd (t1 21) (L.length + 1) (t1 21 L.length)) (t1 22) (a :: L)
      rw [h9, h10, h11, h12, h13, h14, h2]
      refine RowC_ext hR hu ?_ ?_ ?_ hw
      · rw [r2]; simp only [rgN, if_pos h3]
      · rw [r3, a1, nI_add]; simp only [psN, if_pos h3]
      · rw [r4]; simp only [gpN, if_pos h3]
    · intro q b1 b2 b3 b4 b5 b6
      exact (stM_ne b4).trans ((stM_ne b3).trans ((stM_ne b5).trans (hfr q b1 b2 b6)))
  · rw [if_neg h3] at hq1
    refine ⟨fun _ => ⟨v9, vi8 ha, d - 1, (fun r t => r = nI (ctB (rgN D L ^^^ D 5 a).testBit 16) ∧ t1 = t), by omega, ?_, ?_⟩, fun h => absurd hq1 h⟩
    · rw [h11, h6, r2, a5, nI_xor]
      have b1 : rgN D L < 2 ^ 8 := rgN_lt hD L
      have b2 : D 5 a < 2 ^ 8 := hD.2.2.2.2.2.1 a
      exact S_bitCount (Nat.lt_of_lt_of_le (Nat.xor_lt_two_pow b1 b2) (by decide)) t1
    · rintro _ _ ⟨rfl, rfl⟩
      refine ⟨v9, v9, hd, w9, vi8 ha, w9, w9, ?_, ?_⟩
      · show RowC D (t1 17) (t1 18) (upd (t1 19) (L.length + 1) (t1 6 a)) (upd (t1 20) (L.length + 1) 0) (upd (t1 21) (L.length + 1) (t1 21 L.length + (if (0 : Int32) < ((2 : Int32) * nI (ctB (rgN D L ^^^ D 5 a).testBit 16)) - t1 20 L.length then ((2 : Int32) * nI (ctB (rgN D L ^^^ D 5 a).testBit 16)) - t1 20 L.length else 0))) (t1 22) (a :: L)
        rw [h9, h10, h11, h12, h13, h14, h6]
        have cbl := cbN_le (rgN D L) (D 5 a)
        have e2 : (2 : Int32) * nI (ctB (rgN D L ^^^ D 5 a).testBit 16) = nI (2 * cbN (rgN D L) (D 5 a)) := pk_mul 2 _
        refine RowC_ext hR hu ?_ ?_ ?_ hw
        · rw [a5]; simp only [rgN, if_neg h3]
        · simp only [psN, if_neg h3]; rfl
        · rw [r4, r3, e2, mx0 (by omega) (by omega), nI_add]; simp only [gpN, if_neg h3]
      · intro q b1 b2 b3 b4 b5 b6
        exact (stM_ne b4).trans ((stM_ne b3).trans ((stM_ne b5).trans (hfr q b1 b2 b6)))
theorem S2_put_row {l : Launch} {G : GG} {d a : Nat} {D : Shw} {s : Mem} {L : List Nat} (hd : 2 ≤ d) (hD : ShOk D) (hS : ShC s D) (hv : VdN (D 0 0) L) (hR : RowC D (s 17) (s 18) (s 19) (s 20) (s 21) (s 22) L) (hl : L.length < 8) (ha : a < 10) : Spec l G d hX2_put [.inr 16, .inl (nI L.length), .inl (nI a)] s (fun r t => r = nI (brkN D a L) ∧ FrO_row s t ∧ RowC D (t 17) (t 18) (t 19) (t 20) (t 21) (t 22) L ∧ (brkN D a L = 0 → RowC D (t 17) (t 18) (t 19) (t 20) (t 21) (t 22) (a :: L))) := by
  refine spec_of iX2_put (by decide +kernel) (Nat.le_of_ble_eq_true rfl) (vX2_put_row_0 ?_)
  refine ⟨d - 1, _, by omega, S2_breakAt_row (by omega) hD hS hv hR hl ha, ?_⟩
  rintro _ _ ⟨rfl, rfl⟩
  have hb := brk_le (D := D) (a := a) (L := L)
  have e : nI (brkN D a L) = 0 ↔ brkN D a L = 0 := nI_eq (b := 0) (by omega) (by decide)
  rw [e]
  refine ⟨fun h => ⟨rfl, fun _ _ _ _ _ _ _ => rfl, hR, fun q => absurd q h⟩, fun h => ?_⟩
  have ha2 := (brk_ok h).1
  have hD0 := hD.1
  refine ⟨d - 1, _, by omega, S2_set_row (by omega) hD hS hR hl (by omega), ?_⟩
  rintro _ t ⟨h1, h2⟩
  exact ⟨rfl, h2, h1.2.2, fun _ => h1⟩
