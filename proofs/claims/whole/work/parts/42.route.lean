/-! ===== the route, sought with bounds ===== -/
def RdC (s : Mem) (R : Shw) (M : Nat → Nat → Nat) : Prop := s 33 0 = nI (R 0 0) ∧ (∀ i, i < 8 → s 34 i = nI (R 1 i) ∧ s 35 i = nI (R 2 i) ∧ s 36 i = nI (R 3 i)) ∧ MatE (s 38) M
theorem RdC_fr {s t : Mem} {R : Shw} {M : Nat → Nat → Nat} (h : RdC s R M) (hf : ∀ q, q = 33 ∨ q = 34 ∨ q = 35 ∨ q = 36 ∨ q = 38 → t q = s q) : RdC t R M := by
  unfold RdC
  rw [hf 33 (by decide), hf 34 (by decide), hf 35 (by decide), hf 36 (by decide), hf 38 (by decide)]
  exact h
def RAt (R : Shw) (u k : Nat → Int32) (L : List Nat) : Prop := UsedC (u L.length) L ∧ k L.length = nI (tkN R L)
def RowR (R : Shw) (M : Nat → Nat → Nat) (f g u k : Nat → Int32) : List Nat → Prop
  | [] => RAt R u k []
  | t :: L => (f L.length = nI t ∧ g L.length = nI (ngN R M (t :: L))) ∧ RAt R u k (t :: L) ∧ RowR R M f g u k L
theorem RowR_at {R : Shw} {M : Nat → Nat → Nat} {f g u k : Nat → Int32} : ∀ {L : List Nat}, RowR R M f g u k L → RAt R u k L
  | [], h => h
  | _ :: _, h => h.2.1
theorem RowR_F {R : Shw} {M : Nat → Nat → Nat} {f g u k : Nat → Int32} : ∀ {L : List Nat}, RowR R M f g u k L → RowF f L
  | [], _ => trivial
  | _ :: _, h => ⟨h.1.1, RowR_F h.2.2⟩
theorem RowR_G {R : Shw} {M : Nat → Nat → Nat} {f g u k : Nat → Int32} : ∀ {L : List Nat}, RowR R M f g u k L → NgF R M g L
  | [], _ => trivial
  | _ :: _, h => ⟨h.1.2, RowR_G h.2.2⟩
theorem RowR_nil {R : Shw} {M : Nat → Nat → Nat} {f g u k : Nat → Int32} : ∀ {L : List Nat}, RowR R M f g u k L → RowR R M f g u k []
  | [], h => h
  | _ :: _, h => RowR_nil h.2.2
theorem RowR_congr {R : Shw} {M : Nat → Nat → Nat} {f g u k f' g' u' k' : Nat → Int32} : ∀ {L : List Nat}, (∀ i, i < L.length → f' i = f i ∧ g' i = g i) → (∀ i, i ≤ L.length → u' i = u i ∧ k' i = k i) → RowR R M f g u k L → RowR R M f' g' u' k' L
  | [], _, h2, h => by
    obtain ⟨e1, e2⟩ := h2 0 (Nat.le_refl _)
    show UsedC (u' 0) [] ∧ k' 0 = _
    rw [e1, e2]
    exact h
  | a :: L, h1, h2, h => by
    refine ⟨?_, ?_, RowR_congr (fun i hi => h1 i (by simp only [List.length_cons]; omega)) (fun i hi => h2 i (by simp only [List.length_cons]; omega)) h.2.2⟩
    · obtain ⟨e1, e2⟩ := h1 L.length (by simp)
      rw [e1, e2]
      exact h.1
    · obtain ⟨e1, e2⟩ := h2 (a :: L).length (Nat.le_refl _)
      unfold RAt
      rw [e1, e2]
      exact h.2.1
theorem RowR_ext {R : Shw} {M : Nat → Nat → Nat} {f g u k : Nat → Int32} {L : List Nat} {a : Nat} {xg xu xk : Int32} (h : RowR R M f g u k L) (hg : xg = nI (ngN R M (a :: L))) (hu : UsedC xu (a :: L)) (hk : xk = nI (tkN R (a :: L))) : RowR R M (upd f L.length (nI a)) (upd g L.length xg) (upd u (L.length + 1) xu) (upd k (L.length + 1) xk) (a :: L) := by
  refine ⟨⟨upd_at, by rw [upd_at]; exact hg⟩, ?_, RowR_congr (fun i hi => ⟨upd_ne (by omega), upd_ne (by omega)⟩) (fun i hi => ⟨upd_ne (by omega), upd_ne (by omega)⟩) h⟩
  unfold RAt
  rw [List.length_cons, upd_at, upd_at]
  exact ⟨hu, hk⟩
theorem nI_max {a b : Nat} (ha : a < 2 ^ 31) (hb : b < 2 ^ 31) : (if nI a < nI b then nI b else nI a) = nI (mxN a b) := by
  unfold mxN
  by_cases h : a < b
  · rw [if_pos h, if_pos (nI_lt h hb)]
  · rw [if_neg h, if_neg (fun q => h ((nI_ltI ha hb).mp q))]
theorem S3_nightBehind {l : Launch} {G : GG} {d x h t : Nat} {R : Shw} {M : Nat → Nat → Nat} {s : Mem} (hd : 1 ≤ d) (hR : RdOk R) (hM : fB M 25344) (hS : RdC s R M) (hx : x < 8) (ht : t < 8) (hh : h ≤ 29) : Spec l G d hX3_nightBehind [.inr 33, .inl (nI x), .inl (nI h), .inl (nI t)] s (fun r u => r = (if M x t < 1000000 ∧ mxN (h + (M x t + 9) / 10) (R 2 t) ≤ R 3 t then nI (mxN (h + (M x t + 9) / 10) (R 2 t)) else -1) ∧ s = u) := by
  refine spec_of iX3_nightBehind (by decide +kernel) (Nat.le_of_ble_eq_true rfl) (vX3_nightBehind_0 ?_)
  obtain ⟨s0, sA, sM⟩ := hS
  refine ⟨d - 1, _, by omega, S3_leastHours hx ht sM, ?_⟩
  rintro _ _ ⟨rfl, rfl⟩
  rw [enc_none (hM x t)]
  have hb := hM x t
  refine ⟨fun hne => ?_, fun he => ⟨by rw [if_neg (by omega)], rfl⟩⟩
  have e1 : encI (M x t) = nI (M x t) := by unfold encI; rw [if_pos (by omega)]
  have e2 : (nI (M x t) + (10 : Int32) - (1 : Int32)) / (10 : Int32) = nI ((M x t + 9) / 10) := by
    have : nI (M x t) + (10 : Int32) = nI (M x t + 9 + 1) := nI_add _ 10
    rw [this, nI_pred]
    exact pk_div (d := 10) (by omega) (by decide) (by decide)
  have r2 := hR.2.2.1 t
  have r3 := hR.2.2.2 t
  rw [e1, e2, cl8 ht, (sA t ht).2.1, (sA t ht).2.2, nI_add, nI_max (by omega) (by omega)]
  have bm : mxN (h + (M x t + 9) / 10) (R 2 t) < 2 ^ 31 := by unfold mxN; split <;> omega
  rw [nI_ltI (by omega) bm]
  refine ⟨by decide, vi8 ht, hd, vi8 ht, fun q => ⟨by rw [if_neg (by omega)], rfl⟩, fun q => ⟨by rw [if_pos (by omega)], rfl⟩⟩
theorem ng_bd {R : Shw} {M : Nat → Nat → Nat} (hR : RdOk R) {L : List Nat} (h : ngN R M L ≤ 29) (t : Nat) : nxN R M t L (ngN R M L) < 2 ^ 31 ∨ ∃ x, ∃ K, L = x :: K := by
  cases L with
  | nil => exact Or.inl (Nat.lt_of_le_of_lt (hR.2.2.1 t) (by decide))
  | cons x K => exact Or.inr ⟨x, K, rfl⟩
theorem S1_nightAt {l : Launch} {G : GG} {d t : Nat} {R : Shw} {M : Nat → Nat → Nat} {s : Mem} {L : List Nat} (hd : 2 ≤ d) (hR : RdOk R) (hM : MOk M) (hS : RdC s R M) (hv : VdN (R 0 0) L) (hL : RowR R M (s 42) (s 43) (s 44) (s 45) L) (hn : ngN R M L ≤ 29) (ht : t < 8) : Spec l G d hX1_nightAt [.inr 39, .inl (nI L.length), .inl (nI t)] s (fun r u => r = (if avN R M t L = true then nI (ngN R M (t :: L)) else -1) ∧ s = u) := by
  refine spec_of iX1_nightAt (by decide +kernel) (Nat.le_of_ble_eq_true rfl) (vX1_nightAt_0 ?_)
  have hl := VdN_len hv
  have h0 := hR.1
  rw [nI_clamp (n := L.length) (by omega), bt_test t (by omega), (RowR_at hL).1 t (by omega)]
  refine ⟨vp_in_nI (by omega) (by decide), ?_⟩
  by_cases hm : t ∈ L
  · refine ⟨fun q => absurd hm (of_decide_eq_false q), fun _ => ⟨?_, rfl⟩⟩
    rw [if_neg (fun q => (av_n q).1 hm)]
  refine ⟨fun _ => ?_, fun q => absurd (decide_eq_false hm) q⟩
  cases L with
  | nil =>
    refine ⟨fun q => absurd (by rfl) q, fun _ => ⟨vi8 ht, ?_, rfl⟩⟩
    rw [cl8 ht, (hS.2.1 t ht).2.1, if_pos (av_i hm rfl)]
    rfl
  | cons x K =>
    refine ⟨fun _ => ?_, fun q => absurd q (nI_ne0 (by simp) (by omega))⟩
    have hx := hv.2 x List.mem_cons_self
    simp only [List.length_cons] at hl ⊢
    rw [nI_pred, nI_clamp (n := K.length) (by omega), hL.1.1, hL.1.2]
    refine ⟨vi8 (by omega), vi8 (by omega), d - 1, _, by omega, S3_nightBehind (by omega) hR hM.1 hS (by omega) ht hn, ?_⟩
    rintro _ _ ⟨rfl, rfl⟩
    refine ⟨?_, rfl⟩
    by_cases hq : M x t < 1000000 ∧ mxN (ngN R M (x :: K) + (M x t + 9) / 10) (R 2 t) ≤ R 3 t
    · rw [if_pos hq, if_pos (av_i hm (decide_eq_true hq))]
      rfl
    · rw [if_neg hq, if_neg (fun q : avN R M t (x :: K) = true => hq (of_decide_eq_true (av_n q).2))]
def FrP (s t : Mem) : Prop := ∀ q, q ≠ 42 → q ≠ 43 → q ≠ 44 → q ≠ 45 → t q = s q
theorem ng_ne {n : Nat} (h : n ≤ 29) : ¬ nI n = (-1 : Int32) := fun q => by
  have h7 : ¬ nI n < 0 := nI_pos (by omega)
  rw [q] at h7
  exact absurd (by decide) h7
theorem S1_put {l : Launch} {G : GG} {d t : Nat} {R : Shw} {M : Nat → Nat → Nat} {s : Mem} {L : List Nat} (hd : 3 ≤ d) (hR : RdOk R) (hM : MOk M) (hS : RdC s R M) (hv : VdN (R 0 0) L) (hL : RowR R M (s 42) (s 43) (s 44) (s 45) L) (hn : ngN R M L ≤ 29) (hl : L.length < 8) (ht : t < 8) : Spec l G d hX1_put [.inr 39, .inl (nI L.length), .inl (nI t)] s (fun r u => r = (if avN R M t L = true then 1 else 0) ∧ FrP s u ∧ RowR R M (u 42) (u 43) (u 44) (u 45) L ∧ (avN R M t L = true → RowR R M (u 42) (u 43) (u 44) (u 45) (t :: L))) := by
  refine spec_of iX1_put (by decide +kernel) (Nat.le_of_ble_eq_true rfl) (vX1_put_0 ?_)
  refine ⟨d - 1, _, by omega, S1_nightAt (by omega) hR hM hS hv hL hn ht, ?_⟩
  rintro _ _ ⟨rfl, rfl⟩
  by_cases ha : avN R M t L = true
  · rw [if_pos ha, if_pos ha, nI_1, nI_clamp (n := L.length) (by omega), nI_clamp (n := L.length + 1) (by omega), cl8 ht]
    have v8 : vp_in (nI L.length) 8 := vi8 hl
    have v9 : vp_in (nI L.length) 9 := vp_in_nI (by omega) (by decide)
    have w9 : vp_in (nI (L.length + 1)) 9 := vp_in_nI (by omega) (by decide)
    have hX : RowR R M (upd (s 42) L.length (nI t)) (upd (s 43) L.length (nI (ngN R M (t :: L)))) (upd (s 44) (L.length + 1) (s 44 L.length ||| ((1 : Int32) <<< (nI t &&& 31)))) (upd (s 45) (L.length + 1) (s 45 L.length + s 34 t)) (t :: L) := by
      refine RowR_ext hL rfl (UsedC_cons (by omega) (RowR_at hL).1) ?_
      rw [(RowR_at hL).2, (hS.2.1 t ht).1, nI_add]
      rfl
    refine ⟨fun _ => ⟨v8, v8, v9, w9, v9, vi8 ht, w9, Or.inr rfl, rfl, fun q q1 q2 q3 q4 => ?_, hX.2.2, fun _ => hX⟩, fun q => absurd q (ng_ne (ng_le hR ha))⟩
    exact (stM_ne q4).trans ((stM_ne q3).trans ((stM_ne q2).trans (stM_ne q1)))
  · rw [if_neg ha, if_neg ha]
    exact ⟨fun q => absurd rfl q, fun _ => ⟨Or.inl rfl, rfl, fun _ _ _ _ _ => rfl, hL, fun q => absurd q ha⟩⟩
def RBC (s : Mem) (R : Shw) (M : Nat → Nat → Nat) (b : List Nat) : Prop := s 39 2 = nI b.length ∧ s 39 3 = nI (tkN R b) ∧ RowF (s 40) b ∧ NgF R M (s 41) b ∧ b.length ≤ 8
theorem S1_isBetter {l : Launch} {G : GG} {d p q : Nat} {R : Shw} {M : Nat → Nat → Nat} {s : Mem} {b : List Nat} (hR : RdOk R) (hB : RBC s R M b) (hp : p < 1000) (hq : q < 10000000) : Spec l G d hX1_isBetter [.inr 39, .inl (nI p), .inl (nI q)] s (fun r u => r = (if bet R p q b = true then 1 else 0) ∧ s = u) := by
  refine spec_of iX1_isBetter (by decide +kernel) (Nat.le_of_ble_eq_true rfl) (vX1_isBetter_0 ?_)
  obtain ⟨b1, b2, b3, b4, b5⟩ := hB
  have ht := tkN_le hR b
  rw [b1, b2, nI_eq (by omega) (by omega), nI_leI (by omega) (by omega), nI_leI (by omega) (by omega)]
  refine ⟨fun h => ⟨fun h2 => ⟨Or.inl rfl, ?_, rfl⟩, fun h2 => ⟨Or.inr rfl, ?_, rfl⟩⟩, fun h => ⟨fun h2 => ⟨Or.inl rfl, ?_, rfl⟩, fun h2 => ⟨Or.inr rfl, ?_, rfl⟩⟩⟩
  · rw [if_neg]
    simp only [bet, decide_eq_true_eq]
    omega
  · rw [if_pos]
    simp only [bet, decide_eq_true_eq]
    omega
  · rw [if_neg]
    simp only [bet, decide_eq_true_eq]
    omega
  · rw [if_pos]
    simp only [bet, decide_eq_true_eq]
    omega
def FrK (s t : Mem) : Prop := (∀ q, q ≠ 39 → q ≠ 40 → q ≠ 41 → t q = s q) ∧ t 39 1 = s 39 1
theorem S1_keepIf {l : Launch} {G : GG} {d : Nat} {R : Shw} {M : Nat → Nat → Nat} {s : Mem} {L b : List Nat} (hd : 1 ≤ d) (hR : RdOk R) (hv : VdN (R 0 0) L) (hL : RowR R M (s 42) (s 43) (s 44) (s 45) L) (hB : RBC s R M b) : Spec l G d hX1_keepIfBetter [.inr 39, .inl (nI L.length)] s (fun _ u => RBC u R M (krN R L b) ∧ FrK s u) := by
  refine spec_of iX1_keepIfBetter (by decide +kernel) (Nat.le_of_ble_eq_true rfl) (vX1_keepIfBetter_0 ?_)
  have hl := VdN_len hv
  have h0 := hR.1
  have v9 : vp_in (nI L.length) 9 := vp_in_nI (by omega) (by decide)
  have ht := tkN_le hR L
  rw [nI_clamp (n := L.length) (by omega), (RowR_at hL).2]
  refine ⟨v9, d - 1, _, by omega, S1_isBetter hR hB (by omega) (by omega), ?_⟩
  rintro _ _ ⟨rfl, rfl⟩
  unfold krN
  by_cases hb : bet R L.length (tkN R L) b = true
  · rw [if_pos hb, if_pos hb]
    refine ⟨fun q => absurd q (by decide), fun _ => ⟨v9, ⟨hd, by decide, by decide, nI_pos (by omega), ?_, ?_⟩, ⟨hd, by decide, by decide, nI_pos (by omega), ?_, ?_⟩, ⟨rfl, (RowR_at hL).2, ?_, ?_, by omega⟩, ?_, rfl⟩⟩
    · show 0 + L.length ≤ 8
      omega
    · show 0 + L.length ≤ 8
      omega
    · show 0 + L.length ≤ 8
      omega
    · show 0 + L.length ≤ 8
      omega
    · refine RowF_congr (fun i hi => ?_) (RowR_F hL)
      show va_cpy (s 42) (s 40) 0 0 L.length i = s 42 i
      rw [pk_cpy_in (by omega) (by omega)]
      congr 1
      omega
    · refine NgF_congr (fun i hi => ?_) (RowR_G hL)
      show va_cpy (s 43) (s 41) 0 0 L.length i = s 43 i
      rw [pk_cpy_in (by omega) (by omega)]
      congr 1
      omega
    · intro q q1 q2 q3
      exact (stM_ne q3).trans ((stM_ne q2).trans ((stM_ne q1).trans (stM_ne q1)))
  · rw [if_neg hb, if_neg hb]
    exact ⟨fun _ => ⟨hB, fun _ _ _ _ => rfl, rfl⟩, fun q => absurd rfl q⟩
theorem S1_canWin {l : Launch} {G : GG} {d : Nat} {R : Shw} {M : Nat → Nat → Nat} {s : Mem} {L b : List Nat} (hd : 3 ≤ d) (hR : RdOk R) (hM : MOk M) (hS : RdC s R M) (hv : VdN (R 0 0) L) (hL : RowR R M (s 42) (s 43) (s 44) (s 45) L) (hn : ngN R M L ≤ 29) (hB : RBC s R M b) : Spec l G d hX1_canWin [.inr 39, .inl (nI L.length)] s (fun r u => r = (if bet R (U1N R M L) (U2N R M L) b = true then 1 else 0) ∧ s = u) := by
  refine spec_of iX1_canWin (by decide +kernel) (Nat.le_of_ble_eq_true rfl) (vX1_canWin_0 ?_)
  have hl := VdN_len hv
  have h0 := hR.1
  have v9 : vp_in (nI L.length) 9 := vp_in_nI (by omega) (by decide)
  have ht := tkN_le hR L
  have bl : ∀ P : Prop, ∀ _ : Decidable P, bool01 (if P then (1 : Int32) else 0) := by
    intro P _
    by_cases h : P
    · rw [if_pos h]; exact Or.inr rfl
    · rw [if_neg h]; exact Or.inl rfl
  rw [nI_clamp (n := L.length) (by omega), (RowR_at hL).2]
  refine ⟨v9, fun h8 => ?_, fun h8 => ?_⟩
  · have e8 : L.length = 8 := by
      rcases Nat.lt_or_ge L.length 8 with q | q
      · exact absurd h8 (c8f q)
      · omega
    obtain ⟨u1, u2⟩ := U_full (M := M) hR hv e8
    rw [u1, u2]
    refine ⟨d - 1, _, by omega, S1_isBetter hR hB (by omega) (by omega), ?_⟩
    rintro _ _ ⟨rfl, rfl⟩
    exact ⟨bl _ _, rfl, rfl⟩
  · have loop : ∀ k, k ≤ R 0 0 → AW l G d hX1_canWin 18 [some (.inr 39), some (.inl (nI L.length)), some (.inl (nI (L.length + SF (fun t => avN R M t L) (fun _ => 1) k))), some (.inl (nI (tkN R L + SF (fun t => avN R M t L) (R 1) k))), some (.inl (nI k))] [] s (fun r u => r = (if bet R (U1N R M L) (U2N R M L) b = true then 1 else 0) ∧ s = u) := by
      refine down (R 0 0) ?_ ?_
      · have c1 := SF_le (p := fun t => avN R M t L) (f := fun _ => 1) (c := 1) (n := R 0 0) (fun _ _ => Nat.le_refl _)
        have c2 := SF_le (p := fun t => avN R M t L) (f := R 1) (c := 10000) (n := R 0 0) (fun i _ => hR.2.1 i)
        refine vX1_canWin_18 ⟨fun _ => ⟨d - 1, _, by omega, S1_isBetter hR hB (by omega) (by omega), ?_⟩, fun q => absurd (by rw [hS.1]; exact nI_le (Nat.le_refl _) (by omega)) q⟩
        rintro _ _ ⟨rfl, rfl⟩
        exact ⟨bl _ _, rfl, rfl⟩
      · intro k hk ih
        have hk8 : k < 8 := by omega
        refine vX1_canWin_18 ⟨fun q => absurd q (by rw [hS.1]; exact nI_ge hk (by omega)), fun _ => ⟨d - 1, _, by omega, S1_nightAt (by omega) hR hM hS hv hL hn hk8, ?_⟩⟩
        rintro _ _ ⟨rfl, rfl⟩
        by_cases ha : avN R M k L = true
        · rw [if_pos ha, nI_1, nI_1, cl8 hk8, (hS.2.1 k hk8).1, nI_add]
          refine ⟨fun q => absurd q (ng_ne (ng_le hR ha)), fun _ => ⟨vi8 hk8, ?_⟩⟩
          have e1 : SF (fun t => avN R M t L) (fun _ => 1) (k + 1) = SF (fun t => avN R M t L) (fun _ => 1) k + 1 := by
            show SF (fun t => avN R M t L) (fun _ => 1) k + (if avN R M k L then 1 else 0) = _
            rw [if_pos ha]
          have e2 : SF (fun t => avN R M t L) (R 1) (k + 1) = SF (fun t => avN R M t L) (R 1) k + R 1 k := by
            show SF (fun t => avN R M t L) (R 1) k + (if avN R M k L then R 1 k else 0) = _
            rw [if_pos ha]
          rw [e1, e2, ← Nat.add_assoc, ← Nat.add_assoc] at ih
          exact ih
        · rw [if_neg ha, nI_1]
          refine ⟨fun _ => ?_, fun q => absurd rfl q⟩
          have e1 : SF (fun t => avN R M t L) (fun _ => 1) (k + 1) = SF (fun t => avN R M t L) (fun _ => 1) k := by
            show SF (fun t => avN R M t L) (fun _ => 1) k + (if avN R M k L then 1 else 0) = _
            rw [if_neg ha]
            rfl
          have e2 : SF (fun t => avN R M t L) (R 1) (k + 1) = SF (fun t => avN R M t L) (R 1) k := by
            show SF (fun t => avN R M t L) (R 1) k + (if avN R M k L then R 1 k else 0) = _
            rw [if_neg ha]
            rfl
          rw [e1, e2] at ih
          exact ih
    exact loop 0 (Nat.zero_le _)
def ExR (s : Mem) (R : Shw) (M : Nat → Nat → Nat) (L b : List Nat) : Prop := RdC s R M ∧ RowR R M (s 42) (s 43) (s 44) (s 45) L ∧ RBC s R M b
def FrE (s t : Mem) : Prop := (∀ q, q ≠ 39 → q ≠ 40 → q ≠ 41 → q ≠ 42 → q ≠ 43 → q ≠ 44 → q ≠ 45 → t q = s q) ∧ t 39 1 = s 39 1
theorem FrE.rfl {s : Mem} : FrE s s := ⟨fun _ _ _ _ _ _ _ _ => by rfl, by rfl⟩
theorem FrE.trans {s t u : Mem} (h1 : FrE s t) (h2 : FrE t u) : FrE s u := ⟨fun q a b c d e f g => (h2.1 q a b c d e f g).trans (h1.1 q a b c d e f g), h2.2.trans h1.2⟩
theorem RBC_fr {s t : Mem} {R : Shw} {M : Nat → Nat → Nat} {b : List Nat} (h : RBC s R M b) (h1 : t 39 = s 39) (h2 : t 40 = s 40) (h3 : t 41 = s 41) : RBC t R M b := by
  unfold RBC
  rw [h1, h2, h3]
  exact h
theorem ExR_put {s t : Mem} {R : Shw} {M : Nat → Nat → Nat} {L L' b : List Nat} (h : ExR s R M L b) (hf : FrP s t) (hL : RowR R M (t 42) (t 43) (t 44) (t 45) L') : ExR t R M L' b := by
  have e : ∀ q, (q < 42 ∨ 45 < q) → t q = s q := fun q hq => hf q (by omega) (by omega) (by omega) (by omega)
  exact ⟨RdC_fr h.1 (fun q hq => e q (by omega)), hL, RBC_fr h.2.2 (e 39 (by omega)) (e 40 (by omega)) (e 41 (by omega))⟩
theorem FrE_put {s t : Mem} (hf : FrP s t) : FrE s t := ⟨fun q _ _ _ h4 h5 h6 h7 => hf q h4 h5 h6 h7, by rw [hf 39 (by decide) (by decide) (by decide) (by decide)]⟩
theorem S1_extend {l : Launch} {G : GG} {R : Shw} {M : Nat → Nat → Nat} (hR : RdOk R) (hM : MOk M) : ∀ (m : Nat) (L b : List Nat) (s : Mem) (d : Nat), m + 5 ≤ d → L.length + m = 8 → VdN (R 0 0) L → ngN R M L ≤ 29 → ExR s R M L b → Spec l G d hX1_extend [.inr 39, .inl (nI L.length)] s (fun _ t => ExR t R M L (goN R M m L (krN R L b)) ∧ FrE s t) := by
  intro m
  have h0 := hR.1
  induction m with
  | zero =>
    intro L b s d hd hl hv hn hE
    refine spec_of iX1_extend (by decide +kernel) (Nat.le_of_ble_eq_true rfl) (vX1_extend_0 ?_)
    refine ⟨d - 1, _, by omega, S1_keepIf (by omega) hR hv hE.2.1 hE.2.2, ?_⟩
    rintro _ t ⟨hB, hf⟩
    have e : ∀ q, (q < 39 ∨ 41 < q) → t q = s q := fun q hq => hf.1 q (by omega) (by omega) (by omega)
    refine ⟨fun q => absurd q (nI_nlt (b := 8) (by omega) (by omega)), fun _ => ⟨⟨RdC_fr hE.1 (fun q hq => e q (by omega)), ?_, hB⟩, fun q q1 q2 q3 _ _ _ _ => hf.1 q q1 q2 q3, hf.2⟩⟩
    rw [e 42 (by omega), e 43 (by omega), e 44 (by omega), e 45 (by omega)]
    exact hE.2.1
  | succ m ih =>
    intro L b s d hd hl hv hn hE
    refine spec_of iX1_extend (by decide +kernel) (Nat.le_of_ble_eq_true rfl) (vX1_extend_0 ?_)
    refine ⟨d - 1, _, by omega, S1_keepIf (by omega) hR hv hE.2.1 hE.2.2, ?_⟩
    rintro _ t ⟨hB, hf⟩
    have e : ∀ q, (q < 39 ∨ 41 < q) → t q = s q := fun q hq => hf.1 q (by omega) (by omega) (by omega)
    have hEt : ExR t R M L (krN R L b) := by
      refine ⟨RdC_fr hE.1 (fun q hq => e q (by omega)), ?_, hB⟩
      rw [e 42 (by omega), e 43 (by omega), e 44 (by omega), e 45 (by omega)]
      exact hE.2.1
    have hFt : FrE s t := ⟨fun q q1 q2 q3 _ _ _ _ => hf.1 q q1 q2 q3, hf.2⟩
    refine ⟨fun _ => ?_, fun q => absurd (nI_lt (b := 8) (by omega) (by decide)) q⟩
    have loop : ∀ c, c ≤ R 0 0 → ∀ (mm : Mem) (b' : List Nat), ExR mm R M L b' → FrE s mm → fup (fun t x => if avN R M t L = true then goN R M m (t :: L) (krN R (t :: L) x) else x) c (R 0 0 - c) b' = goN R M (m + 1) L (krN R L b) → AW l G d hX1_extend 14 [some (.inr 39), some (.inl (nI L.length)), some (.inl (nI c))] [] mm (fun _ t => ExR t R M L (goN R M (m + 1) L (krN R L b)) ∧ FrE s t) := by
      refine down (R 0 0) ?_ ?_
      · intro mm b' hE' hF h
        rw [Nat.sub_self] at h
        have h : b' = goN R M (m + 1) L (krN R L b) := h
        refine vX1_extend_14 ⟨fun _ => ⟨by rw [← h]; exact hE', hF⟩, fun q => absurd (by rw [hE'.1.1]; exact nI_le (Nat.le_refl _) (by omega)) q⟩
      · intro c hc ihc mm b' hE' hF h
        rw [show R 0 0 - c = (R 0 0 - (c + 1)) + 1 by omega] at h
        have h : fup (fun t x => if avN R M t L = true then goN R M m (t :: L) (krN R (t :: L) x) else x) (c + 1) (R 0 0 - (c + 1)) (if avN R M c L = true then goN R M m (c :: L) (krN R (c :: L) b') else b') = goN R M (m + 1) L (krN R L b) := h
        refine vX1_extend_14 ⟨fun q => absurd q (by rw [hE'.1.1]; exact nI_ge hc (by omega)), fun _ => ⟨d - 1, _, by omega, S1_put (by omega) hR hM hE'.1 hv hE'.2.1 hn (by omega) (by omega), ?_⟩⟩
        rintro r1 t1 ⟨rfl, hf1, hR1, hR2⟩
        have hE1 : ExR t1 R M L b' := ExR_put hE' hf1 hR1
        have hF1 : FrE s t1 := hF.trans (FrE_put hf1)
        rw [nI_1, nI_1]
        by_cases ha : avN R M c L = true
        · rw [if_pos ha]
          rw [if_pos ha] at h
          have hv' := VdN_cons hv hc (av_n ha).1
          have hE2 : ExR t1 R M (c :: L) b' := ExR_put hE' hf1 (hR2 ha)
          have hn2 := ng_le hR ha
          refine ⟨fun q => absurd q (by decide), fun _ => ⟨d - 1, _, by omega, S1_canWin (L := c :: L) (by omega) hR hM hE2.1 hv' hE2.2.1 hn2 hE2.2.2, ?_⟩⟩
          rintro _ _ ⟨rfl, rfl⟩
          by_cases hw : bet R (U1N R M (c :: L)) (U2N R M (c :: L)) b' = true
          · rw [if_pos hw]
            refine ⟨fun q => absurd q (by decide), fun _ => ⟨d - 1, _, by omega, ih (c :: L) b' t1 (d - 1) (by omega) (by simp only [List.length_cons]; omega) hv' hn2 hE2, ?_⟩⟩
            rintro _ t3 ⟨hE3, hF3⟩
            exact ihc t3 _ ⟨hE3.1, hE3.2.1.2.2, hE3.2.2⟩ (hF1.trans hF3) h
          · rw [if_neg hw]
            refine ⟨fun _ => ?_, fun q => absurd rfl q⟩
            obtain ⟨k1, k2⟩ := go_prune hR hM m (c :: L) (b := b') (by simpa using hw)
            rw [k1, k2] at h
            exact ihc t1 b' hE1 hF1 h
        · rw [if_neg ha]
          rw [if_neg ha] at h
          exact ⟨fun _ => ihc t1 b' hE1 hF1 h, fun q => absurd rfl q⟩
    exact loop 0 (Nat.zero_le _) t _ hEt hFt (by rw [Nat.sub_zero]; rfl)
theorem S1_refresh {l : Launch} {G : GG} {d : Nat} {R : Shw} {M : Nat → Nat → Nat} {s : Mem} (hd : 14 ≤ d) (hR : RdOk R) (hM : MOk M) (hS : RdC s R M) (hL : RowR R M (s 42) (s 43) (s 44) (s 45) []) (hB : s 39 1 = s 33 6 → RBC s R M (rtN R M)) : Spec l G d hX1_refresh [.inr 39] s (fun _ t => RBC t R M (rtN R M) ∧ RowR R M (t 42) (t 43) (t 44) (t 45) [] ∧ t 39 1 = s 33 6 ∧ ∀ q, q ≠ 39 → q ≠ 40 → q ≠ 41 → q ≠ 42 → q ≠ 43 → q ≠ 44 → q ≠ 45 → t q = s q) := by
  refine spec_of iX1_refresh (by decide +kernel) (Nat.le_of_ble_eq_true rfl) (vX1_refresh_0 ?_)
  refine ⟨fun _ => ?_, fun h => ⟨hB h, hL, h, fun _ _ _ _ _ _ _ _ => rfl⟩⟩
  have hS1 : RdC (wrM (wrM (wrM s 39 1 (s 33 6)) 39 2 (0 : Int32)) 39 3 (0 : Int32)) R M := RdC_fr hS (fun q hq => (stM_ne (by omega)).trans ((stM_ne (by omega)).trans (stM_ne (by omega))))
  have hE : ExR (wrM (wrM (wrM s 39 1 (s 33 6)) 39 2 (0 : Int32)) 39 3 (0 : Int32)) R M [] [] := ⟨hS1, hL, rfl, rfl, trivial, trivial, by simp⟩
  refine ⟨d - 1, _, by omega, S1_extend hR hM 8 [] [] _ (d - 1) (by omega) rfl VdN_nil (by simp [ngN]) hE, ?_⟩
  rintro _ t ⟨hE2, hF⟩
  have ek : krN R [] [] = [] := by
    unfold krN
    split <;> rfl
  rw [ek] at hE2
  refine ⟨hE2.2.2, hE2.2.1, hF.2, fun q q1 q2 q3 q4 q5 q6 q7 => (hF.1 q q1 q2 q3 q4 q5 q6 q7).trans ((stM_ne q1).trans ((stM_ne q1).trans (stM_ne q1)))⟩
def rtV (R : Shw) (M : Nat → Nat → Nat) (b : List Nat) (x z r : Int32) : Prop := (∃ i a, x = nI i ∧ i < b.length ∧ b[b.length - 1 - i]? = some a ∧ ((z = 0 ∧ r = nI a) ∨ (z = 1 ∧ r = nI (ngN R M (sfxN b (i + 1)))))) ∨ (¬ ((∃ i, i < b.length ∧ x = nI i) ∧ 0 ≤ z ∧ z ≤ 1) ∧ r = -1)
theorem rtV_det {R : Shw} {M : Nat → Nat → Nat} {b : List Nat} (hb : b.length ≤ 8) {x z r r' : Int32} (h : rtV R M b x z r) (h' : rtV R M b x z r') : r = r' := by
  rcases h with ⟨i, a, e1, e2, e3, e4⟩ | ⟨e1, e2⟩
  · have hz : 0 ≤ z ∧ z ≤ 1 := by
      rcases e4 with ⟨rfl, _⟩ | ⟨rfl, _⟩ <;> decide
    rcases h' with ⟨i', a', f1, f2, f3, f4⟩ | ⟨f1, f2⟩
    · have := (nI_eq (a := i) (b := i') (by omega) (by omega)).mp (e1.symm.trans f1)
      subst this
      rw [e3] at f3
      cases f3
      rcases e4 with ⟨g1, g2⟩ | ⟨g1, g2⟩
      · rcases f4 with ⟨k1, k2⟩ | ⟨k1, k2⟩
        · exact g2.trans k2.symm
        · rw [g1] at k1
          exact absurd k1 (by decide)
      · rcases f4 with ⟨k1, k2⟩ | ⟨k1, k2⟩
        · rw [g1] at k1
          exact absurd k1 (by decide)
        · exact g2.trans k2.symm
    · exact absurd ⟨⟨i, e2, e1⟩, hz⟩ f1
  · rcases h' with ⟨i', a', f1, f2, f3, f4⟩ | ⟨f1, f2⟩
    · have hz : 0 ≤ z ∧ z ≤ 1 := by
        rcases f4 with ⟨rfl, _⟩ | ⟨rfl, _⟩ <;> decide
      exact absurd ⟨⟨i', f2, f1⟩, hz⟩ e1
    · exact e2.trans f2.symm
theorem S7_route {l : Launch} {G : GG} {d : Nat} {R : Shw} {M : Nat → Nat → Nat} {s : Mem} (hd : 15 ≤ d) (hR : RdOk R) (hM : MOk M) (hS : RdC s R M) (hL : RowR R M (s 42) (s 43) (s 44) (s 45) []) (hB : s 39 1 = s 33 6 → RBC s R M (rtN R M)) : Spec l G d hX7_route [.inr 0] s (fun r t => r = nI (rtN R M).length ∧ RBC t R M (rtN R M) ∧ RowR R M (t 42) (t 43) (t 44) (t 45) [] ∧ t 39 1 = s 33 6 ∧ ∀ q, q ≠ 39 → q ≠ 40 → q ≠ 41 → q ≠ 42 → q ≠ 43 → q ≠ 44 → q ≠ 45 → t q = s q) := by
  refine spec_of iX7_route (by decide +kernel) (Nat.le_of_ble_eq_true rfl) (vX7_route_0 ?_)
  refine ⟨d - 1, _, by omega, S1_refresh (by omega) hR hM hS hL hB, ?_⟩
  rintro _ t ⟨h1, h2⟩
  exact ⟨h1.1, h1, h2⟩
theorem S7_routeAt {l : Launch} {G : GG} {d : Nat} {R : Shw} {M : Nat → Nat → Nat} {s : Mem} (hd : 15 ≤ d) (hR : RdOk R) (hM : MOk M) (hS : RdC s R M) (hL : RowR R M (s 42) (s 43) (s 44) (s 45) []) (hB : s 39 1 = s 33 6 → RBC s R M (rtN R M)) (x z : Int32) : Spec l G d hX7_routeAt [.inr 0, .inl x, .inl z] s (fun r t => rtV R M (rtN R M) x z r ∧ RBC t R M (rtN R M) ∧ RowR R M (t 42) (t 43) (t 44) (t 45) [] ∧ t 39 1 = s 33 6 ∧ ∀ q, q ≠ 39 → q ≠ 40 → q ≠ 41 → q ≠ 42 → q ≠ 43 → q ≠ 44 → q ≠ 45 → t q = s q) := by
  refine spec_of iX7_routeAt (by decide +kernel) (Nat.le_of_ble_eq_true rfl) (vX7_routeAt_0 ?_)
  refine ⟨d - 1, _, by omega, S1_refresh (by omega) hR hM hS hL hB, ?_⟩
  rintro _ t ⟨h1, h2⟩
  refine ⟨d - 1, _, by omega, S_isIn _ _ _, ?_⟩
  rintro _ _ ⟨rfl, rfl⟩
  have hl := rt_len (M := M) hR
  rw [i01, h1.1, inK (by omega)]
  refine ⟨fun q => ⟨Or.inr ⟨fun z => q z.1, rfl⟩, h1, h2⟩, fun q => ?_⟩
  obtain ⟨i, hi, rfl⟩ := Classical.not_not.mp q
  refine ⟨fun h => ⟨Or.inr ⟨fun z => ?_, rfl⟩, h1, h2⟩, fun h => ⟨fun h3 => ?_, fun h3 => ⟨Or.inr ⟨fun z => h3 z.2.2, rfl⟩, h1, h2⟩⟩⟩
  · have := z.2.1; grind
  obtain ⟨a, a1, a2, _, a4⟩ := RowF_nx h1.2.2.1 hi
  have a5 := NgF_nx h1.2.2.2.1 hi
  have hz := w01 (w := z) (by grind) h3
  rw [nI_clamp (n := i) (by omega)]
  refine ⟨fun h4 => ⟨vi8 (by omega), Or.inl ⟨i, a, rfl, hi, a2, Or.inr ⟨?_, a5⟩⟩, h1, h2⟩, fun h4 => ⟨vi8 (by omega), Or.inl ⟨i, a, rfl, hi, a2, Or.inl ⟨h4, a4⟩⟩, h1, h2⟩⟩
  rcases hz with hz | hz
  · exact absurd hz h4
  · exact hz
