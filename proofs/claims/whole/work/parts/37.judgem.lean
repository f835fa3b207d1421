/-! ===== orders told, as the reference reads them ===== -/
theorem aw_w {l : Launch} {G : GG} {d : Nat} {h : HD} {pc : Nat} {L M : LL} {st : List Vl} {s : Mem} {post : Int32 → Mem → Prop} (k : AW l G d h pc L st s post) (q : leL L M) : AW l G d h pc M st s post := aw_weak q k
theorem and_one (z : Int32) : (z &&& 1) = 1 ↔ bt z 0 = true := by
  constructor
  · intro h
    have h1 : bt (z &&& 1) 0 = bt 1 0 := by rw [h]
    rw [b_and, bt_1] at h1
    simpa using h1
  · intro h
    apply b_ext
    intro i hi
    rw [b_and, bt_1]
    by_cases h0 : i = 0
    · subst h0; simp [h]
    · simp [h0]
theorem two_bits {A X q : Nat} (hq : q < 10) : (((nI A >>> (nI q &&& 31)) &&& (nI X >>> (nI q &&& 31))) &&& (1 : Int32)) = (1 : Int32) ↔ (A.testBit q = true ∧ X.testBit q = true) := by
  rw [and_one, b_and, b_sshr q (by omega) _ (by decide), b_sshr q (by omega) _ (by decide), if_pos (by omega), if_pos (by omega), Nat.add_zero, bt_nI (by omega), bt_nI (by omega), Bool.and_eq_true]
theorem le_0 {a b : Nat} (ha : a < 2 ^ 30) (hb : b < 2 ^ 30) : nI a - nI b ≤ 0 ↔ a ≤ b := by
  rw [Int32.le_iff_toInt_le, pk_sub_toInt ha hb]
  show (a : Int) - b ≤ 0 ↔ _
  omega
theorem S8_bits {l : Launch} {G : GG} {d n : Nat} (hn : n < 1024) (s : Mem) : Spec l G d hX8_bits [.inl (nI n)] s (fun r t => r = nI (ctB n.testBit 16) ∧ s = t) := by
  refine spec_of iX8_bits (by decide +kernel) (Nat.le_of_ble_eq_true rfl) (vX8_bits_0 ?_)
  have loop : ∀ k, k ≤ 10 → AW l G d hX8_bits 4 [some (.inl (nI n)), some (.inl (nI (ctB n.testBit k))), some (.inl (nI k))] [] s (fun r t => r = nI (ctB n.testBit 16) ∧ s = t) := by
    refine down 10 ?_ ?_
    · refine vX8_bits_4 ⟨fun _ => ⟨?_, rfl⟩, fun h => absurd (by decide) h⟩
      have := ctB_off (f := n.testBit) (n := 10) (fun i hi => Nat.testBit_lt_two_pow (Nat.lt_of_lt_of_le hn (Nat.pow_le_pow_right (n := 2) (i := 10) (j := i) (by decide) hi))) 6
      rw [show (16 : Nat) = 10 + 6 from rfl, this]
    · intro k hk ih
      refine vX8_bits_4 ⟨fun h => absurd h (nI_ge (b := 10) hk (by decide)), fun _ => ?_⟩
      have e : nI (ctB n.testBit k) + ((nI n >>> (nI k &&& 31)) &&& (1 : Int32)) = nI (ctB n.testBit (k + 1)) := by
        rw [bt_test1 k (by omega), bt_nI (by omega)]
        cases h : n.testBit k with
        | false => rw [ctB_s0 h]; exact nI_add _ 0
        | true => rw [ctB_s1 h]; exact nI_add _ 1
      rw [e, nI_1]
      exact ih
  exact loop 0 (Nat.zero_le _)
theorem S8_breaksAt {l : Launch} {G : GG} {d a : Nat} {D : Shw} {s : Mem} {L : List Nat} (hD : ShOk D) (hM : ShM s D) (hv : VdN (D 0 0) L) (hR : RowF (s 68) L) (hs : s 68 L.length = nI a) (hl : L.length < 8) (ha : a < 10) : Spec l G d hX8_breaksAt [.inr 49, .inl (nI L.length)] s (fun r t => r = nI (brkN D a L) ∧ s = t) := by
  refine spec_of iX8_breaksAt (by decide +kernel) (Nat.le_of_ble_eq_true rfl) (vX8_breaksAt_0 ?_)
  obtain ⟨hD0, hD1, hD2, hD3, hD4, hD5, hD6, hD7⟩ := hD
  obtain ⟨s0, sA, sR, sB⟩ := hM
  rw [nI_clamp (n := L.length) (by omega), hs, s0, nI_ltI (by omega) (by omega)]
  refine ⟨vp_in_nI (by omega) (by decide), fun hin => ?_, fun hin => ⟨(congrArg nI (brk_1 (Or.inl hin))).symm, rfl⟩⟩
  have ha8 : a < 8 := by omega
  have fin : a ∉ L → ¬ brP2 D a L → ((nI L.length ≤ 0 →
        ((0 : Int32) = nI (brkN D a L) ∧ s = s)) ∧
      (¬ nI L.length ≤ 0 →
        (vp_in (nI L.length - (1 : Int32)) 9 ∧
        (vp_in (s 68 (nI L.length - (1 : Int32)).toNatClampNeg) 8 ∧
        (vp_in (nI a) 8 ∧
        (vp_in (((4 : Int32) * (s 51 (s 68 (nI L.length - (1 : Int32)).toNatClampNeg).toNatClampNeg)) + (s 51 (nI a).toNatClampNeg)) 16 ∧
        (((s 56 (((4 : Int32) * (s 51 (s 68 (nI L.length - (1 : Int32)).toNatClampNeg).toNatClampNeg)) + (s 51 (nI a).toNatClampNeg)).toNatClampNeg) = 0 →
          ((0 : Int32) = nI (brkN D a L) ∧ s = s)) ∧
        (¬ (s 56 (((4 : Int32) * (s 51 (s 68 (nI L.length - (1 : Int32)).toNatClampNeg).toNatClampNeg)) + (s 51 (nI a).toNatClampNeg)).toNatClampNeg) = 0 →
          ((3 : Int32) = nI (brkN D a L) ∧ s = s))))))))) := by
    intro hm hno
    cases L with
    | nil =>
      refine ⟨fun _ => ⟨(congrArg nI (brk_0 hin hm hno ?_)).symm, rfl⟩, fun h => absurd (by decide) h⟩
      rintro ⟨x, hx, _⟩
      cases hx
    | cons x K =>
      refine ⟨fun h => absurd h (nI_nle (by simp) (by omega)), fun _ => ?_⟩
      simp only [List.length_cons] at hl ⊢
      have hx : x < D 0 0 := hv.2 x List.mem_cons_self
      have hx8 : x < 8 := by omega
      have h1 := hD2 x
      have h2 := hD2 a
      have h7 := hD7 (D 2 x * 4 + D 2 a)
      have e : nI (D 7 (D 2 x * 4 + D 2 a)) = 0 ↔ D 7 (D 2 x * 4 + D 2 a) = 0 := nI_eq (b := 0) (by omega) (by decide)
      rw [nI_pred, nI_clamp (n := K.length) (by omega), hR.1, cl8 hx8, cl8 ha8, (sA x hx8).2.1, (sA a ha8).2.1, ix4b, nI_clamp (n := D 2 x * 4 + D 2 a) (by omega), sB _ (by omega), e]
      refine ⟨vp_in_nI (by omega) (by decide), vi8 hx8, vi8 ha8, vp_in_nI (by omega) (by decide), fun h => ⟨(congrArg nI (brk_0 hin hm hno ?_)).symm, trivial⟩, fun h => ⟨(congrArg nI (brk_3 hin hm hno ⟨x, rfl, by omega⟩)).symm, trivial⟩⟩
      rintro ⟨y, hy, h3⟩
      cases hy
      omega
  have loop2 : a ∉ L → ∀ k, k ≤ L.length → (∀ i x q, i < k → L[L.length - 1 - i]? = some x → q < 10 → (D 4 a).testBit q = true → (D 4 x).testBit q = true → ¬ L.length - 1 - i < D 6 q) → AW l G d hX8_breaksAt 44 [some (.inr 49), some (.inl (nI L.length)), some (.inl (nI a)), some (.inl (nI k)), none] [] s (fun r t => r = nI (brkN D a L) ∧ s = t) := by
    intro hm
    refine down L.length ?_ ?_
    · intro hI
      refine vX8_breaksAt_44 ⟨fun _ => fin hm ?_, fun h => absurd (nI_le (Nat.le_refl _) (by omega)) h⟩
      rintro ⟨j, x, q, h1, h2, h3, h4, h5⟩
      have hj : j < L.length := (List.getElem?_eq_some_iff.mp h1).1
      have e : L.length - 1 - (L.length - 1 - j) = j := by omega
      have := hI (L.length - 1 - j) x q (by omega) (by rw [e]; exact h1) h2 h3 h4
      omega
    · intro k hk ih hI
      refine vX8_breaksAt_44 ⟨fun h => absurd h (nI_ge hk (by omega)), fun _ => ?_⟩
      obtain ⟨x, hx1, hx2, _, hx3⟩ := RowF_nx hR hk
      have hx : x < D 0 0 := hv.2 x hx1
      have hx8 : x < 8 := by omega
      have loop3 : ∀ q, q ≤ 10 → (∀ q', q' < q → (D 4 a).testBit q' = true → (D 4 x).testBit q' = true → ¬ L.length - 1 - k < D 6 q') → AW l G d hX8_breaksAt 52 [some (.inr 49), some (.inl (nI L.length)), some (.inl (nI a)), some (.inl (nI k)), some (.inl (nI q))] [] s (fun r t => r = nI (brkN D a L) ∧ s = t) := by
        refine down 10 ?_ ?_
        · intro hq
          refine vX8_breaksAt_52 ⟨fun _ => ?_, fun h => absurd (by decide) h⟩
          rw [nI_1]
          refine aw_weak (L := [some (.inr 49), some (.inl (nI L.length)), some (.inl (nI a)), some (.inl (nI (k + 1))), none]) ⟨rfl, rfl, rfl, rfl, trivial⟩ (ih (fun i y q h1 h2 h3 h4 h5 => ?_))
          by_cases hi : i < k
          · exact hI i y q hi h2 h3 h4 h5
          · have : i = k := by omega
            subst this
            rw [hx2] at h2
            cases h2
            exact hq q h3 h4 h5
        · intro q hq ihq hI3
          have h6 := hD6 q
          have e1 : nI L.length - nI k - (1 : Int32) = nI (L.length - 1 - k) := by
            rw [pk_sub (by omega), show L.length - k = (L.length - 1 - k) + 1 by omega, nI_pred]
          refine vX8_breaksAt_52 ⟨fun h => absurd h (nI_ge (b := 10) hq (by decide)), fun _ => ?_⟩
          rw [nI_clamp (n := k) (by omega), hx3, cl8 hx8, cl8 ha8, (sA x hx8).2.2.2.1, (sA a ha8).2.2.2.1, two_bits hq, nI_clamp (n := q) (by omega), sR q hq, e1, nI_leI (by omega) (by omega), nI_1]
          refine ⟨vi8 ha8, vp_in_nI (by omega) (by decide), vi8 hx8, fun h => ihq (fun q' h1 h2 h3 => ?_), fun h => ⟨vp_in_nI hq (by decide), fun h4 => ihq (fun q' h1 h2 h3 => ?_), fun h4 => ⟨(congrArg nI (brk_2 hin hm ⟨_, x, q, hx2, hq, h.1, h.2, by omega⟩)).symm, rfl⟩⟩⟩
          · by_cases hq2 : q' < q
            · exact hI3 q' hq2 h2 h3
            · have : q' = q := by omega
              subst this
              exact absurd ⟨h2, h3⟩ h
          · by_cases hq2 : q' < q
            · exact hI3 q' hq2 h2 h3
            · have : q' = q := by omega
              subst this
              omega
      exact loop3 0 (Nat.zero_le _) (fun q' h => absurd h (Nat.not_lt_zero q'))
  have loop1 : ∀ k, k ≤ L.length → a ∉ sfxN L k → AW l G d hX8_breaksAt 19 [some (.inr 49), some (.inl (nI L.length)), some (.inl (nI a)), some (.inl (nI k)), none] [] s (fun r t => r = nI (brkN D a L) ∧ s = t) := by
    refine down L.length ?_ ?_
    · intro hm
      rw [sfx_all] at hm
      refine vX8_breaksAt_19 ⟨fun _ => loop2 hm 0 (Nat.zero_le _) (fun i _ _ h => absurd h (Nat.not_lt_zero i)), fun h => absurd (nI_le (Nat.le_refl _) (by omega)) h⟩
    · intro k hk ih hm
      obtain ⟨x, hx1, hx2, hx4, hx3⟩ := RowF_nx hR hk
      have hx : x < D 0 0 := hv.2 x hx1
      refine vX8_breaksAt_19 ⟨fun h => absurd h (nI_ge hk (by omega)), fun _ => ?_⟩
      rw [nI_clamp (n := k) (by omega), hx3, nI_eq (by omega) (by omega), nI_1]
      refine ⟨vp_in_nI (by omega) (by decide), fun h => ih ?_, fun h => ⟨(congrArg nI (brk_1 (Or.inr ?_))).symm, rfl⟩⟩
      · rw [hx4]
        intro q
        rcases List.mem_cons.mp q with q | q
        · exact h q.symm
        · exact hm q
      · rw [← h]
        exact hx1
  exact loop1 0 (Nat.zero_le _) (by rw [sfx_0]; intro q; cases q)
theorem S8_gapsOf {l : Launch} {G : GG} {d : Nat} {D : Shw} {s : Mem} {L : List Nat} (hd : 1 ≤ d) (hD : ShOk D) (hM : ShM s D) (hv : VdN (D 0 0) L) (hR : RowF (s 68) L) : Spec l G d hX8_gapsOf [.inr 49, .inl (nI L.length)] s (fun r t => r = nI (gpN D L) ∧ s = t) := by
  refine spec_of iX8_gapsOf (by decide +kernel) (Nat.le_of_ble_eq_true rfl) (vX8_gapsOf_0 ?_)
  have hl := VdN_len hv
  have hD0 := hD.1
  obtain ⟨s0, sA, sR, sB⟩ := hM
  have loop : ∀ k, k ≤ L.length → AW l G d hX8_gapsOf 10 [some (.inr 49), some (.inl (nI L.length)), some (.inl (nI (rgN D (sfxN L k)))), some (.inl (nI (psN D (sfxN L k)))), some (.inl (nI (gpN D (sfxN L k)))), some (.inl (nI k)), none, none] [] s (fun r t => r = nI (gpN D L) ∧ s = t) := by
    refine down L.length ?_ ?_
    · refine vX8_gapsOf_10 ⟨fun _ => ⟨by rw [sfx_all], rfl⟩, fun h => absurd (nI_le (Nat.le_refl _) (by omega)) h⟩
    · intro k hk ih
      obtain ⟨x, hx1, hx2, hx4, hx3⟩ := RowF_nx hR hk
      have hx : x < D 0 0 := hv.2 x hx1
      have hx8 : x < 8 := by omega
      obtain ⟨a1, a2, a3, a4, a5⟩ := sA x hx8
      have h2 := hD.2.2.1 x
      have e3 : nI (D 2 x) = (3 : Int32) ↔ D 2 x = 3 := nI_eq (b := 3) (by omega) (by decide)
      rw [hx4] at ih
      refine vX8_gapsOf_10 ⟨fun h => absurd h (nI_ge hk (by omega)), fun _ => ?_⟩
      rw [nI_clamp (n := k) (by omega), hx3, cl8 hx8, a1, a2, a5, e3, nI_1]
      refine ⟨vp_in_nI (by omega) (by decide), vi8 hx8, fun h3 => ⟨vi8 hx8, d - 1, (fun r t => r = nI (ctB (rgN D (sfxN L k) ^^^ D 5 x).testBit 16) ∧ s = t), by omega, ?_, ?_⟩, fun h3 => ⟨vi8 hx8, ?_⟩⟩
      · rw [nI_xor]
        have b1 : rgN D (sfxN L k) < 2 ^ 8 := rgN_lt hD _
        have b2 : D 5 x < 2 ^ 8 := hD.2.2.2.2.2.1 x
        exact S8_bits (Nat.lt_of_lt_of_le (Nat.xor_lt_two_pow b1 b2) (by decide)) s
      · rintro _ _ ⟨rfl, rfl⟩
        have e2 : (2 : Int32) * nI (ctB (rgN D (sfxN L k) ^^^ D 5 x).testBit 16) = nI (2 * cbN (rgN D (sfxN L k)) (D 5 x)) := pk_mul 2 _
        have b1 := cbN_le (rgN D (sfxN L k)) (D 5 x)
        have b2 := psN_le hD (sfxN L k)
        rw [sfx_len (by omega)] at b2
        have er : rgN D (x :: sfxN L k) = D 5 x := by simp only [rgN, if_neg h3]
        have ep : psN D (x :: sfxN L k) = 0 := by simp only [psN, if_neg h3]
        have eg : gpN D (x :: sfxN L k) = gpN D (sfxN L k) + (2 * cbN (rgN D (sfxN L k)) (D 5 x) - psN D (sfxN L k)) := by simp only [gpN, if_neg h3]
        rw [er, ep, eg] at ih
        rw [e2, le_0 (by omega) (by omega), a5]
        refine ⟨fun h => ⟨vi8 hx8, ?_⟩, fun h => ⟨vi8 hx8, ?_⟩⟩
        · rw [show 2 * cbN (rgN D (sfxN L k)) (D 5 x) - psN D (sfxN L k) = 0 by omega] at ih
          refine aw_w ih ?_
          exact ⟨rfl, rfl, rfl, rfl, congrArg Sum.inl (nI_add _ 0).symm, rfl, trivial⟩
        · rw [pk_sub (by omega), nI_add]
          exact aw_w ih ⟨rfl, rfl, rfl, rfl, rfl, rfl, trivial⟩
      · have er : rgN D (x :: sfxN L k) = rgN D (sfxN L k) := by simp only [rgN, if_pos h3]
        have ep : psN D (x :: sfxN L k) = psN D (sfxN L k) + D 1 x := by simp only [psN, if_pos h3]
        have eg : gpN D (x :: sfxN L k) = gpN D (sfxN L k) := by simp only [gpN, if_pos h3]
        rw [er, ep, eg] at ih
        rw [nI_add]
        exact aw_w ih ⟨rfl, rfl, rfl, rfl, rfl, rfl, trivial⟩
  have h0 := loop 0 (Nat.zero_le _)
  rw [sfx_0] at h0
  exact h0
def Fr68 (s t : Mem) : Prop := ∀ q, q ≠ 68 → t q = s q
theorem ShM_fr {s t : Mem} {D : Shw} (h : ShM s D) (h0 : t 49 0 = s 49 0) (hf : ∀ q, 50 ≤ q → q ≤ 56 → t q = s q) : ShM t D := by
  unfold ShM
  rw [h0, hf 50 (by decide) (by decide), hf 51 (by decide) (by decide), hf 52 (by decide) (by decide), hf 53 (by decide) (by decide), hf 54 (by decide) (by decide), hf 55 (by decide) (by decide), hf 56 (by decide) (by decide)]
  exact h
theorem ShM_68 {s t : Mem} {D : Shw} (h : ShM s D) (hf : Fr68 s t) : ShM t D := ShM_fr h (by rw [hf 49 (by decide)]) (fun q h1 h2 => hf q (by omega))
theorem S8_reads {l : Launch} {G : GG} {d : Nat} (hd : 1 ≤ d) (x y : Int32) (s : Mem) : Spec l G d hX8_reads [.inr 49, .inl x, .inl y] s (fun r t => ((r = 1 ∧ ∃ o k, x = nI o ∧ y = nI k ∧ o < 2 ^ 31 ∧ k ≤ 8 ∧ o / 10 ^ k = 0 ∧ RowF (t 68) (dlN o k)) ∨ (r = 0 ∧ ¬ tellP x y)) ∧ Fr68 s t) := by
  refine spec_of iX8_reads (by decide +kernel) (Nat.le_of_ble_eq_true rfl) (vX8_reads_0 ?_)
  refine ⟨d - 1, _, by omega, S_in _ _ _ _, ?_⟩
  rintro _ _ ⟨rfl, rfl⟩
  rw [i01]
  refine ⟨fun h => ⟨Or.inl rfl, Or.inr ⟨rfl, ?_⟩, fun _ _ => rfl⟩, fun h => ⟨fun h2 => ?_, fun h2 => ⟨Or.inl rfl, Or.inr ⟨rfl, ?_⟩, fun _ _ => rfl⟩⟩⟩
  · rintro ⟨o, k, _, rfl, _, hk, _⟩
    exact h ⟨nI_pos' (by omega), nI_le (b := 8) hk (by decide)⟩
  · have h := Classical.not_not.mp h
    obtain ⟨o, ho, rfl⟩ := nI_of (x := x) (by grind)
    obtain ⟨k, hk, rfl⟩ := nI_of2 (x := y) (M := 8) (n := 8) (by decide) (by have := h.1; grind) h.2
    have loop : ∀ p, p ≤ k → ∀ m, Fr68 s m → RowF (m 68) (dlN o p) → AW l G d hX8_reads 21 [some (.inr 49), some (.inl (nI o)), some (.inl (nI k)), some (.inl (nI (o / 10 ^ p))), some (.inl (nI p))] [] m (fun r t => ((r = 1 ∧ ∃ o' k', nI o = nI o' ∧ nI k = nI k' ∧ o' < 2 ^ 31 ∧ k' ≤ 8 ∧ o' / 10 ^ k' = 0 ∧ RowF (t 68) (dlN o' k')) ∨ (r = 0 ∧ ¬ tellP (nI o) (nI k))) ∧ Fr68 s t) := by
      refine down k ?_ ?_
      · intro m hf hr
        have e0 : nI (o / 10 ^ k) = 0 ↔ o / 10 ^ k = 0 := nI_eq (b := 0) (pw_lt ho) (by decide)
        refine vX8_reads_21 ⟨fun _ => ?_, fun h => absurd (nI_le (Nat.le_refl k) (by omega)) h⟩
        rw [e0]
        refine ⟨fun q => ⟨Or.inl rfl, Or.inr ⟨rfl, ?_⟩, hf⟩, fun q => ⟨Or.inr rfl, Or.inl ⟨rfl, o, k, rfl, rfl, ho, hk, q, hr⟩, hf⟩⟩
        rintro ⟨o', k', h1, h2, h3, h4, h5⟩
        have e1 := (nI_eq ho h3).mp h1
        have e2 := (nI_eq (a := k) (b := k') (by omega) (by omega)).mp h2
        subst e1 e2
        exact q h5
      · intro p hp ih m hf hr
        refine vX8_reads_21 ⟨fun h => absurd h (nI_ge hp (by omega)), fun _ => ⟨by decide, vp_in_nI (by omega) (by decide), by decide, ?_⟩⟩
        rw [dig_rem ho, dig_div ho, nI_1, nI_clamp (n := p) (by omega)]
        refine ih _ (fun q hq => (stM_ne hq).trans (hf q hq)) ?_
        show RowF (upd (m 68) p (nI (o / 10 ^ p % 10))) (o / 10 ^ p % 10 :: dlN o p)
        refine ⟨by rw [dl_len, upd_at], RowF_congr (fun i hi => upd_ne ?_) hr⟩
        rw [dl_len] at hi
        omega
    have h0 := loop 0 (Nat.zero_le _) s (fun _ _ => rfl) trivial
    rw [Nat.pow_zero, Nat.div_one] at h0
    exact h0
  · rintro ⟨o, k, rfl, _, ho, _⟩
    exact h2 (nI_pos' ho)
theorem dl_row {f : Nat → Int32} {o : Nat} : ∀ {k p : Nat}, p < k → RowF f (dlN o k) → f p = nI (o / 10 ^ p % 10) ∧ RowF f (dlN o p)
  | 0, p, h, _ => absurd h (Nat.not_lt_zero p)
  | k + 1, p, h, q => by
    have q1 : f (dlN o k).length = nI (o / 10 ^ k % 10) := q.1
    rw [dl_len] at q1
    by_cases hp : p = k
    · subst hp
      exact ⟨q1, q.2⟩
    · exact dl_row (by omega) q.2
theorem S8_judge {l : Launch} {G : GG} {d : Nat} {D : Shw} {s : Mem} (hd : 2 ≤ d) (hD : ShOk D) (hM : ShM s D) (x y z : Int32) : Spec l G d hX8_judge [.inr 49, .inl x, .inl y, .inl z] s (fun r t => jdV D x y z r ∧ (∀ o k, x = nI o → y = nI k → o < 2 ^ 31 → k ≤ 8 → o / 10 ^ k = 0 → RowF (t 68) (dlN o k)) ∧ Fr68 s t) := by
  refine spec_of iX8_judge (by decide +kernel) (Nat.le_of_ble_eq_true rfl) (vX8_judge_0 ?_)
  have hD0 := hD.1
  refine ⟨d - 1, _, by omega, S8_reads (by omega) x y s, ?_⟩
  rintro r1 m ⟨hr, hf⟩
  rcases hr with ⟨rfl, o, k, rfl, rfl, ho, hk, hz, hrow⟩ | ⟨rfl, hno⟩
  rotate_left
  · exact ⟨fun _ => ⟨Or.inr ⟨fun q => hno q.1, rfl⟩, fun o k e1 e2 e3 e4 e5 => absurd ⟨o, k, e1, e2, e3, e4, e5⟩ hno, hf⟩, fun h => absurd rfl h⟩
  refine ⟨fun h => absurd h (by decide), fun _ => ⟨d - 1, _, by omega, S_in _ _ _ _, ?_⟩⟩
  rintro _ _ ⟨rfl, rfl⟩
  have hrow2 : ∀ o' k', nI o = nI o' → nI k = nI k' → o' < 2 ^ 31 → k' ≤ 8 → o' / 10 ^ k' = 0 → RowF (m 68) (dlN o' k') := by
    intro o' k' h1 h2 h3 h4 h5
    have e1 := (nI_eq ho h3).mp h1
    have e2 := (nI_eq (a := k) (b := k') (by omega) (by omega)).mp h2
    subst e1 e2
    exact hrow
  rw [i01]
  refine ⟨fun h => ?_, fun h => ⟨Or.inr ⟨fun q => h q.2, rfl⟩, hrow2, hf⟩⟩
  have hz1 := Classical.not_not.mp h
  have hMm := ShM_68 hM hf
  have loop : ∀ p, p ≤ k → (∀ i, i < p → brkN D (o / 10 ^ i % 10) (dlN o i) = 0) → VdN (D 0 0) (dlN o p) → AW l G d hX8_judge 23 [some (.inr 49), some (.inl (nI o)), some (.inl (nI k)), some (.inl z), some (.inl (nI p)), none] [] m (fun r t => jdV D (nI o) (nI k) z r ∧ (∀ o' k', nI o = nI o' → nI k = nI k' → o' < 2 ^ 31 → k' ≤ 8 → o' / 10 ^ k' = 0 → RowF (t 68) (dlN o' k')) ∧ Fr68 s t) := by
    refine down k ?_ ?_
    · intro hall hv
      refine vX8_judge_23 ⟨fun _ => ?_, fun h => absurd (nI_le (Nat.le_refl k) (by omega)) h⟩
      rw [hMm.1, nI_leI (by omega) (by omega)]
      refine ⟨fun h => ⟨Or.inl ⟨o, k, k, 0, rfl, rfl, ho, hk, hz, hz1, Or.inr ⟨rfl, hall, by rw [if_neg (by omega)]⟩, rfl⟩, hrow2, hf⟩, fun h => ⟨fun h2 => ⟨Or.inl ⟨o, k, k, 4, rfl, rfl, ho, hk, hz, hz1, Or.inr ⟨rfl, hall, by rw [if_pos (by omega)]⟩, ?_⟩, hrow2, hf⟩, fun h2 => ⟨Or.inl ⟨o, k, k, 4, rfl, rfl, ho, hk, hz, hz1, Or.inr ⟨rfl, hall, by rw [if_pos (by omega)]⟩, ?_⟩, hrow2, hf⟩⟩⟩
      · rw [if_neg (by decide), if_neg h2]
        rfl
      · rw [if_neg (by decide), if_pos h2]
    · intro p hp ih hall hv
      obtain ⟨q1, q2⟩ := dl_row hp hrow
      refine vX8_judge_23 ⟨fun h => absurd h (nI_ge hp (by omega)), fun _ => ⟨d - 1, (fun r t => r = nI (brkN D (o / 10 ^ p % 10) (dlN o p)) ∧ m = t), by omega, ?_, ?_⟩⟩
      · have sp := S8_breaksAt (l := l) (G := G) (d := d - 1) (a := o / 10 ^ p % 10) (L := dlN o p) hD hMm hv q2 (by rw [dl_len]; exact q1) (by rw [dl_len]; omega) (Nat.mod_lt _ (by decide))
        rw [dl_len] at sp
        exact sp
      · rintro _ _ ⟨rfl, rfl⟩
        have hb := brk_le (D := D) (a := o / 10 ^ p % 10) (L := dlN o p)
        have e : nI (brkN D (o / 10 ^ p % 10) (dlN o p)) ≤ 0 ↔ brkN D (o / 10 ^ p % 10) (dlN o p) ≤ 0 := nI_leI (b := 0) (by omega) (by decide)
        rw [e, nI_1]
        refine ⟨fun h => ?_, fun h => ⟨fun h2 => ⟨Or.inl ⟨o, k, p, _, rfl, rfl, ho, hk, hz, hz1, Or.inl ⟨hp, rfl, by omega, hall⟩, ?_⟩, hrow2, hf⟩, fun h2 => ⟨Or.inl ⟨o, k, p, _, rfl, rfl, ho, hk, hz, hz1, Or.inl ⟨hp, rfl, by omega, hall⟩, ?_⟩, hrow2, hf⟩⟩⟩
        · have h0 : brkN D (o / 10 ^ p % 10) (dlN o p) = 0 := by omega
          refine aw_w (ih (fun i hi => ?_) (VdN_cons hv (brk_ok h0).1 (brk_ok h0).2)) ⟨rfl, rfl, rfl, rfl, rfl, trivial⟩
          by_cases hi2 : i < p
          · exact hall i hi2
          · have : i = p := by omega
            subst this
            exact h0
        · rw [if_neg (by omega), if_neg h2]
        · rw [if_neg (by omega), if_pos h2]
  exact loop 0 (Nat.zero_le _) (fun i hi => absurd hi (Nat.not_lt_zero i)) VdN_nil
theorem S8_gaps {l : Launch} {G : GG} {d : Nat} {D : Shw} {s : Mem} (hd : 3 ≤ d) (hD : ShOk D) (hM : ShM s D) (x y : Int32) : Spec l G d hX8_gaps [.inr 49, .inl x, .inl y] s (fun r t => gpV D x y r ∧ Fr68 s t) := by
  refine spec_of iX8_gaps (by decide +kernel) (Nat.le_of_ble_eq_true rfl) (vX8_gaps_0 ?_)
  have hD0 := hD.1
  refine ⟨d - 1, _, by omega, S8_reads (by omega) x y s, ?_⟩
  rintro r1 m ⟨hr, hf⟩
  rcases hr with ⟨rfl, o, k, rfl, rfl, ho, hk, hz, hrow⟩ | ⟨rfl, hno⟩
  rotate_left
  · exact ⟨fun _ => ⟨Or.inr ⟨hno, rfl⟩, hf⟩, fun h => absurd rfl h⟩
  refine ⟨fun h => absurd h (by decide), fun _ => ⟨d - 1, _, by omega, S8_judge (by omega) hD (ShM_68 hM hf) (nI o) (nI k) 0, ?_⟩⟩
  rintro r2 m2 ⟨hj, hrow2, hf2⟩
  have hf3 : Fr68 s m2 := fun q hq => (hf2 q hq).trans (hf q hq)
  have hrow3 := hrow2 o k rfl rfl ho hk hz
  rcases hj with ⟨o', k', p, w, e1, e2, h1, h2, h3, h4, h5, h6⟩ | ⟨h1, _⟩
  rotate_left
  · exact absurd ⟨⟨o, k, rfl, rfl, ho, hk, hz⟩, by decide, by decide⟩ h1
  have a1 := (nI_eq ho h1).mp e1
  have a2 := (nI_eq (a := k) (b := k') (by omega) (by omega)).mp e2
  subst a1 a2
  have hw := JR_w h5
  by_cases w0 : w = 0
  · rw [if_pos w0] at h6
    refine ⟨fun _ => ⟨d - 1, (fun r t => r = nI (gpN D (dlN o k)) ∧ m2 = t), by omega, ?_, ?_⟩, fun h => absurd h6 h⟩
    · have hv : VdN (D 0 0) (dlN o k) := by
        have hall : ∀ i, i < k → brkN D (o / 10 ^ i % 10) (dlN o i) = 0 := by
          rcases h5 with ⟨_, b2, b3, _⟩ | ⟨_, b2, _⟩
          · exact absurd w0 b3
          · exact b2
        have : ∀ i, i ≤ k → VdN (D 0 0) (dlN o i) := by
          intro i
          induction i with
          | zero => intro _; exact VdN_nil
          | succ i ih =>
            intro hi
            have hb := brk_ok (hall i (by omega))
            exact VdN_cons (ih (by omega)) hb.1 hb.2
        exact this k (Nat.le_refl _)
      have sp := S8_gapsOf (l := l) (G := G) (d := d - 1) (L := dlN o k) (by omega) hD (ShM_68 hM hf3) hv hrow3
      rw [dl_len] at sp
      exact sp
    · rintro _ _ ⟨rfl, rfl⟩
      exact ⟨Or.inl ⟨o, k, p, w, rfl, rfl, ho, hk, hz, h5, by rw [if_pos w0]⟩, hf3⟩
  · rw [if_neg w0, if_pos rfl] at h6
    refine ⟨fun h => ?_, fun _ => ⟨Or.inl ⟨o, k, p, w, rfl, rfl, ho, hk, hz, h5, by rw [if_neg w0]⟩, hf3⟩⟩
    have h7 : ¬ nI p < 0 := nI_pos (by omega)
    rw [← h6, h] at h7
    exact absurd (by decide) h7
