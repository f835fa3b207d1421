/-! ===== the route, as the reference goes it ===== -/
def RdM (s : Mem) (R : Shw) : Prop := s 49 11 = nI (R 0 0) ∧ ∀ i, i < 8 → s 60 i = nI (R 1 i) ∧ s 61 i = nI (R 2 i) ∧ s 62 i = nI (R 3 i)
theorem RdM_fr {s t : Mem} {R : Shw} (h : RdM s R) (h0 : t 49 11 = s 49 11) (h1 : t 60 = s 60) (h2 : t 61 = s 61) (h3 : t 62 = s 62) : RdM t R := by
  unfold RdM
  rw [h0, h1, h2, h3]
  exact h
theorem S8_nightOf {l : Launch} {G : GG} {d t : Nat} {R : Shw} {M : Nat → Nat → Nat} {s : Mem} {L : List Nat} (hR : RdOk R) (hM : fB M 25344) (hS : RdM s R) (h64 : MatN (s 64) M) (hv : VdN (R 0 0) L) (hL : RowF (s 68) L) (hG : NgF R M (s 72) L) (hn : ngN R M L ≤ 29) (ht : t < 8) : Spec l G d hX8_nightOf [.inr 49, .inl (nI t), .inl (nI L.length)] s (fun r u => r = (if fitN R M t L (ngN R M L) = true then nI (ngN R M (t :: L)) else -1) ∧ s = u) := by
  refine spec_of iX8_nightOf (by decide +kernel) (Nat.le_of_ble_eq_true rfl) (vX8_nightOf_0 ?_)
  have hl := VdN_len hv
  have h0 := hR.1
  obtain ⟨a1, a2, a3⟩ := hS.2 t ht
  cases L with
  | nil =>
    refine ⟨fun q => absurd (by rfl) q, fun _ => ⟨vi8 ht, ?_, rfl⟩⟩
    rw [cl8 ht, a2]
    rfl
  | cons x K =>
    refine ⟨fun _ => ?_, fun q => absurd q (nI_ne0 (by simp) (by omega))⟩
    have hx := hv.2 x List.mem_cons_self
    have hx8 : x < 8 := by omega
    simp only [List.length_cons] at hl ⊢
    have hb := hM x t
    have r2 := hR.2.2.1 t
    have r3 := hR.2.2.2 t
    have e9 : (nI (M x t) + (9 : Int32)) / (10 : Int32) = nI ((M x t + 9) / 10) := by
      have : nI (M x t) + (9 : Int32) = nI (M x t + 9) := nI_add _ 9
      rw [this]
      exact pk_div (d := 10) (by omega) (by decide) (by decide)
    have e6 : (1000000 : Int32) ≤ nI (M x t) ↔ 1000000 ≤ M x t := nI_leI (a := 1000000) (by decide) (by omega)
    rw [nI_pred, nI_clamp (n := K.length) (by omega), hL.1, hG.1, ixb, cl64 hx8 ht, h64 x t hx8 ht, e9, e6, cl8 ht, a2, a3, nI_add, nI_leI (by omega) (by omega), nI_ltI (by omega) (by omega), nI_ltI (by omega) (by omega)]
    have v9 : vp_in (nI K.length) 9 := vp_in_nI (by omega) (by decide)
    have no : ¬ (M x t < 1000000 ∧ mxN (ngN R M (x :: K) + (M x t + 9) / 10) (R 2 t) ≤ R 3 t) → (-1 : Int32) = (if fitN R M t (x :: K) (ngN R M (x :: K)) = true then nI (ngN R M (t :: x :: K)) else -1) := by
      intro q
      rw [if_neg (fun z : fitN R M t (x :: K) (ngN R M (x :: K)) = true => q (of_decide_eq_true z))]
    have yes : (M x t < 1000000 ∧ mxN (ngN R M (x :: K) + (M x t + 9) / 10) (R 2 t) ≤ R 3 t) → nI (mxN (ngN R M (x :: K) + (M x t + 9) / 10) (R 2 t)) = (if fitN R M t (x :: K) (ngN R M (x :: K)) = true then nI (ngN R M (t :: x :: K)) else -1) := by
      intro q
      rw [if_pos (show fitN R M t (x :: K) (ngN R M (x :: K)) = true from decide_eq_true q)]
      rfl
    refine ⟨v9, vi64 hx8 ht, v9, by decide, vi8 ht, fun q => ?_, fun q => ?_⟩
    · have em : mxN (ngN R M (x :: K) + (M x t + 9) / 10) (R 2 t) = ngN R M (x :: K) + (M x t + 9) / 10 := by
        unfold mxN
        rw [if_neg (by omega)]
      rw [em] at no yes
      exact ⟨fun z => ⟨no (by omega), trivial⟩, fun z => ⟨vi8 ht, fun y => ⟨no (by omega), trivial⟩, fun y => ⟨yes (by omega), trivial⟩⟩⟩
    · have em : mxN (ngN R M (x :: K) + (M x t + 9) / 10) (R 2 t) = R 2 t := by
        unfold mxN
        rw [if_pos (by omega)]
      rw [em] at no yes
      exact ⟨vi8 ht, fun z => ⟨no (by omega), trivial⟩, fun z => ⟨vi8 ht, fun y => ⟨no (by omega), trivial⟩, fun y => ⟨yes (by omega), trivial⟩⟩⟩
def RBM (s : Mem) (R : Shw) (M : Nat → Nat → Nat) (b : List Nat) : Prop := RowF (s 70) b ∧ NgF R M (s 71) b ∧ b.length ≤ 8
def FrG (s t : Mem) : Prop := ∀ q, q ≠ 68 → q ≠ 69 → q ≠ 70 → q ≠ 71 → q ≠ 72 → t q = s q
theorem FrG.rfl {s : Mem} : FrG s s := fun _ _ _ _ _ _ => by rfl
theorem FrG.trans {s t u : Mem} (h1 : FrG s t) (h2 : FrG t u) : FrG s u := fun q a b c d e => (h2 q a b c d e).trans (h1 q a b c d e)
theorem RBM_fr {s t : Mem} {R : Shw} {M : Nat → Nat → Nat} {b : List Nat} (h : RBM s R M b) (h1 : t 70 = s 70) (h2 : t 71 = s 71) : RBM t R M b := by
  unfold RBM
  rw [h1, h2]
  exact h
theorem RdM_G {s t : Mem} {R : Shw} (h : RdM s R) (hf : FrG s t) : RdM t R := RdM_fr h (by rw [hf 49 (by decide) (by decide) (by decide) (by decide) (by decide)]) (hf 60 (by decide) (by decide) (by decide) (by decide) (by decide)) (hf 61 (by decide) (by decide) (by decide) (by decide) (by decide)) (hf 62 (by decide) (by decide) (by decide) (by decide) (by decide))
theorem UsedC_drop {y : Int32} {L : List Nat} {c : Nat} (hc : c < 32) (h : UsedC y (c :: L)) (hn : c ∉ L) : UsedC (y &&& (((1 : Int32) <<< (nI c &&& 31)) ^^^ (-1 : Int32))) L := by
  intro i hi
  rw [b_and, b_xor, bt_one c hc hi, b_m1 i hi, h i hi]
  by_cases h1 : i = c
  · subst h1
    simp [hn]
  · simp [h1]
theorem bit_one {x : Int32} {L : List Nat} {c : Nat} (hc : c < 32) (h : UsedC x L) : ((x >>> (nI c &&& 31)) &&& (1 : Int32)) = (1 : Int32) ↔ c ∈ L := by
  rw [bt_test1 c hc, h c hc]
  by_cases hm : c ∈ L
  · simp [hm]
  · simp [hm]
theorem go_copy {l : Launch} {G : GG} {d n : Nat} {R : Shw} {M : Nat → Nat → Nat} {post : Int32 → Mem → Prop} {s : Mem} {L : List Nat} {y z w : Int32} (hn : L.length = n) (h8 : n ≤ 8) (hL : RowF (s 68) L) (hG : NgF R M (s 72) L)
    (K : ∀ u : Mem, (∀ q, q ≠ 70 → q ≠ 71 → u q = s q) → RBM u R M L → AW l G d hX8_goes 23 [some (.inr 49), some (.inl (nI n)), some (.inl z), some (.inl z), some (.inl (nI n)), some (.inl y), none, none] [] u post) :
    AW l G d hX8_goes 210 [some (.inr 49), some (.inl (nI n)), some (.inl z), some (.inl z), some (.inl (nI n)), some (.inl y), some (.inl w), some (.inl (nI 0))] [] s post := by
  have loop : ∀ k, k ≤ n → ∀ u : Mem, (∀ q, q ≠ 70 → q ≠ 71 → u q = s q) → (∀ i, i < k → u 70 i = s 68 i ∧ u 71 i = s 72 i) → AW l G d hX8_goes 210 [some (.inr 49), some (.inl (nI n)), some (.inl z), some (.inl z), some (.inl (nI n)), some (.inl y), some (.inl w), some (.inl (nI k))] [] u post := by
    refine down n ?_ ?_
    · intro u f1 f2
      refine vX8_goes_210 ⟨fun _ => ?_, fun q => absurd (nI_le (Nat.le_refl _) (by omega)) q⟩
      refine aw_w (K u f1 ⟨RowF_congr (fun i hi => (f2 i (by omega)).1) hL, NgF_congr (fun i hi => (f2 i (by omega)).2) hG, by omega⟩) ⟨rfl, rfl, rfl, rfl, rfl, rfl, trivial⟩
    · intro k hk ih u f1 f2
      refine vX8_goes_210 ⟨fun q => absurd q (nI_ge hk (by omega)), fun _ => ⟨vp_in_nI (by omega) (by decide), vi8 (by omega), vp_in_nI (by omega) (by decide), vi8 (by omega), ?_⟩⟩
      rw [nI_clamp (n := k) (by omega), nI_1]
      refine ih _ (fun q q1 q2 => (stM_ne q2).trans ((stM_ne q1).trans (f1 q q1 q2))) (fun i hi => ?_)
      have e1 : u 68 = s 68 := f1 68 (by decide) (by decide)
      have e2 : u 72 = s 72 := f1 72 (by decide) (by decide)
      show upd (u 70) k (u 68 k) i = s 68 i ∧ upd (u 71) k (u 72 k) i = s 72 i
      rw [e1, e2]
      by_cases he : i = k
      · subst he
        exact ⟨upd_at, upd_at⟩
      · rw [upd_ne he, upd_ne he]
        exact f2 i (by omega)
  exact loop 0 (Nat.zero_le _) s (fun _ _ _ => rfl) (fun i h => absurd h (Nat.not_lt_zero i))
theorem go_loop {l : Launch} {G : GG} {d : Nat} {R : Shw} {M : Nat → Nat → Nat} {post : Int32 → Mem → Prop} (hd : 1 ≤ d) (hR : RdOk R) (hM : MOk M) : ∀ (m : Nat) (L : List Nat), L.length + m = 8 → VdN (R 0 0) L → ngN R M L ≤ 29 → ∀ (s : Mem) (b : List Nat) (x : Int32), RdM s R → MatN (s 64) M → RowF (s 68) L → NgF R M (s 72) L → s 69 L.length = nI 0 → RBM s R M b → UsedC x L →
    (∀ (t : Mem) (x' : Int32), FrG s t → (∀ i, i < L.length → t 68 i = s 68 i ∧ t 72 i = s 72 i ∧ t 69 i = s 69 i) → t 69 L.length = nI (R 0 0) → RBM t R M (goN R M m L b) → UsedC x' L → AW l G d hX8_goes 23 [some (.inr 49), some (.inl (nI (goN R M m L b).length)), some (.inl (nI (tkN R (goN R M m L b)))), some (.inl (nI (tkN R L))), some (.inl (nI L.length)), some (.inl x'), none, none] [] t post) →
    AW l G d hX8_goes 23 [some (.inr 49), some (.inl (nI b.length)), some (.inl (nI (tkN R b))), some (.inl (nI (tkN R L))), some (.inl (nI L.length)), some (.inl x), none, none] [] s post := by
  intro m
  have h0 := hR.1
  induction m with
  | zero =>
    intro L hl hv hn s b x hS h64 hL hG h69 hB hU K
    have hvl := VdN_len hv
    have v10 : vp_in (nI L.length) 10 := vp_in_nI (by omega) (by decide)
    have loop : ∀ c, c ≤ R 0 0 → ∀ t : Mem, FrG s t → (∀ i, i < L.length → t 68 i = s 68 i ∧ t 72 i = s 72 i ∧ t 69 i = s 69 i) → t 69 L.length = nI c → RBM t R M b → AW l G d hX8_goes 23 [some (.inr 49), some (.inl (nI b.length)), some (.inl (nI (tkN R b))), some (.inl (nI (tkN R L))), some (.inl (nI L.length)), some (.inl x), none, none] [] t post := by
      refine down (R 0 0) ?_ ?_
      · intro t hF ha hc hBt
        exact K t x hF ha hc hBt hU
      · intro c hc ihc t hF ha hct hBt
        have hSt := RdM_G hS hF
        have hm : c ∈ L := VdN_full hv (by omega) hc
        refine vX8_goes_23 ⟨fun q => absurd q (nI_pos (by omega)), fun _ => ?_⟩
        rw [nI_clamp (n := L.length) (by omega), hct, hSt.1, nI_ltI (by omega) (by omega), bit_one (by omega) hU, nI_1, nI_1]
        refine ⟨v10, fun _ => ⟨v10, v10, fun _ => ?_, fun q => absurd hm q⟩, fun q => absurd hc q⟩
        refine aw_w (ihc (wrM t 69 L.length (nI (c + 1))) (fun q q1 q2 q3 q4 q5 => (stM_ne q2).trans (hF q q1 q2 q3 q4 q5)) (fun i hi => ⟨(ha i hi).1, (ha i hi).2.1, ?_⟩) upd_at (RBM_fr hBt rfl rfl)) ⟨rfl, rfl, rfl, rfl, rfl, rfl, trivial⟩
        show upd (t 69) L.length (nI (c + 1)) i = s 69 i
        rw [upd_ne (by omega)]
        exact (ha i hi).2.2
    exact loop 0 (Nat.zero_le _) s FrG.rfl (fun _ _ => ⟨rfl, rfl, rfl⟩) h69 hB
  | succ m ih =>
    intro L hl hv hn s b x hS h64 hL hG h69 hB hU K
    have v10 : vp_in (nI L.length) 10 := vp_in_nI (by omega) (by decide)
    have v9 : vp_in (nI L.length) 9 := vp_in_nI (by omega) (by decide)
    have loop : ∀ c, c ≤ R 0 0 → ∀ (t : Mem) (b' : List Nat) (x' : Int32), FrG s t → (∀ i, i < L.length → t 68 i = s 68 i ∧ t 72 i = s 72 i ∧ t 69 i = s 69 i) → t 69 L.length = nI c → RBM t R M b' → UsedC x' L → fup (fun t x => if avN R M t L = true then goN R M m (t :: L) (krN R (t :: L) x) else x) c (R 0 0 - c) b' = goN R M (m + 1) L b → AW l G d hX8_goes 23 [some (.inr 49), some (.inl (nI b'.length)), some (.inl (nI (tkN R b'))), some (.inl (nI (tkN R L))), some (.inl (nI L.length)), some (.inl x'), none, none] [] t post := by
      refine down (R 0 0) ?_ ?_
      · intro t b' x' hF ha hc hBt hU' h
        rw [Nat.sub_self] at h
        have h : b' = goN R M (m + 1) L b := h
        rw [h] at hBt ⊢
        exact K t x' hF ha hc hBt hU'
      · intro c hc ihc t b' x' hF ha hct hBt hU' h
        rw [show R 0 0 - c = (R 0 0 - (c + 1)) + 1 by omega] at h
        have h : fup (fun t x => if avN R M t L = true then goN R M m (t :: L) (krN R (t :: L) x) else x) (c + 1) (R 0 0 - (c + 1)) (if avN R M c L = true then goN R M m (c :: L) (krN R (c :: L) b') else b') = goN R M (m + 1) L b := h
        have hSt := RdM_G hS hF
        have hc8 : c < 8 := by omega
        have hF1 : FrG s (wrM t 69 L.length (nI (c + 1))) := fun q q1 q2 q3 q4 q5 => (stM_ne q2).trans (hF q q1 q2 q3 q4 q5)
        have ha1 : ∀ i, i < L.length → (wrM t 69 L.length (nI (c + 1))) 68 i = s 68 i ∧ (wrM t 69 L.length (nI (c + 1))) 72 i = s 72 i ∧ (wrM t 69 L.length (nI (c + 1))) 69 i = s 69 i := fun i hi => ⟨(ha i hi).1, (ha i hi).2.1, by
          show upd (t 69) L.length (nI (c + 1)) i = s 69 i
          rw [upd_ne (by omega)]
          exact (ha i hi).2.2⟩
        have hB1 : RBM (wrM t 69 L.length (nI (c + 1))) R M b' := RBM_fr hBt rfl rfl
        have hL1 : RowF ((wrM t 69 L.length (nI (c + 1))) 68) L := RowF_congr (fun i hi => (ha i hi).1) hL
        have hG1 : NgF R M ((wrM t 69 L.length (nI (c + 1))) 72) L := NgF_congr (fun i hi => (ha i hi).2.1) hG
        have h641 : MatN ((wrM t 69 L.length (nI (c + 1))) 64) M := by
          rw [hF1 64 (by decide) (by decide) (by decide) (by decide) (by decide)]
          exact h64
        have skip : avN R M c L = false → ∀ z : Int32, AW l G d hX8_goes 23 [some (.inr 49), some (.inl (nI b'.length)), some (.inl (nI (tkN R b'))), some (.inl (nI (tkN R L))), some (.inl (nI L.length)), some (.inl x'), some (.inl z), none] [] (wrM t 69 L.length (nI (c + 1))) post := by
          intro hno z
          rw [hno] at h
          exact aw_w (ihc _ b' x' hF1 ha1 upd_at hB1 hU' h) ⟨rfl, rfl, rfl, rfl, rfl, rfl, trivial⟩
        refine vX8_goes_23 ⟨fun q => absurd q (nI_pos (by omega)), fun _ => ?_⟩
        rw [nI_clamp (n := L.length) (by omega), hct, hSt.1, nI_ltI (by omega) (by omega), bit_one (by omega) hU', nI_1, nI_1, cl8 hc8, nI_clamp (n := L.length + 1) (by omega)]
        refine ⟨v10, fun _ => ⟨v10, v10, fun hm => skip ?_ _, fun hm => ?_⟩, fun q => absurd hc q⟩
        · cases e : avN R M c L with
          | false => rfl
          | true => exact absurd hm (av_n e).1
        refine ⟨d - 1, _, by omega, S8_nightOf hR hM.1 (RdM_G hS hF1) h641 hv hL1 hG1 hn hc8, ?_⟩
        rintro _ _ ⟨rfl, rfl⟩
        by_cases hfit : fitN R M c L (ngN R M L) = true
        rotate_left
        · rw [if_neg hfit]
          refine ⟨fun q => absurd rfl q, fun _ => skip ?_ _⟩
          cases e : avN R M c L with
          | false => rfl
          | true => exact absurd (av_n e).2 hfit
        have hav := av_i hm hfit
        have hng := ng_le hR hav
        rw [if_pos hfit]
        rw [if_pos hav] at h
        refine ⟨fun _ => ⟨d - 1, (fun r u => r = nI (ngN R M (c :: L)) ∧ wrM t 69 L.length (nI (c + 1)) = u), by omega, ?_, ?_⟩, fun q => absurd q (ng_ne hng)⟩
        · have sp := S8_nightOf (l := l) (G := G) (d := d - 1) hR hM.1 (RdM_G hS hF1) h641 hv hL1 hG1 hn hc8
          rw [if_pos hfit] at sp
          exact sp
        · rintro _ _ ⟨rfl, rfl⟩
          have hv' := VdN_cons hv hc hm
          have eS : (wrM (wrM (wrM t 69 L.length (nI (c + 1))) 72 L.length (nI (ngN R M (c :: L)))) 68 L.length (nI c)) 60 c = nI (R 1 c) := (hSt.2 c hc8).1
          have eT : nI (tkN R L) + nI (R 1 c) = nI (tkN R (c :: L)) := nI_add _ _
          rw [eS, eT]
          have hU2 : UsedC (x' ||| ((1 : Int32) <<< (nI c &&& 31))) (c :: L) := UsedC_cons (by omega) hU'
          generalize (x' ||| ((1 : Int32) <<< (nI c &&& 31))) = y at hU2
          have g68 : RowF (upd (t 68) L.length (nI c)) (c :: L) := ⟨upd_at, RowF_congr (fun i hi => upd_ne (by omega)) hL1⟩
          have g72 : NgF R M (upd (t 72) L.length (nI (ngN R M (c :: L)))) (c :: L) := ⟨upd_at, NgF_congr (fun i hi => upd_ne (by omega)) hG1⟩
          have f0 : FrG s (wrM (wrM (wrM (wrM t 69 L.length (nI (c + 1))) 72 L.length (nI (ngN R M (c :: L)))) 68 L.length (nI c)) 69 (L.length + 1) (0 : Int32)) := fun q q1 q2 q3 q4 q5 => (stM_ne q2).trans ((stM_ne q1).trans ((stM_ne q5).trans ((stM_ne q2).trans (hF q q1 q2 q3 q4 q5))))
          have next : ∀ u : Mem, (∀ q, q ≠ 70 → q ≠ 71 → u q = (wrM (wrM (wrM (wrM t 69 L.length (nI (c + 1))) 72 L.length (nI (ngN R M (c :: L)))) 68 L.length (nI c)) 69 (L.length + 1) (0 : Int32)) q) → RBM u R M (krN R (c :: L) b') → AW l G d hX8_goes 23 [some (.inr 49), some (.inl (nI (krN R (c :: L) b').length)), some (.inl (nI (tkN R (krN R (c :: L) b')))), some (.inl (nI (tkN R (c :: L)))), some (.inl (nI (L.length + 1))), some (.inl y), none, none] [] u post := by
            intro u fu hBu
            have fu0 : FrG s u := fun q q1 q2 q3 q4 q5 => (fu q q3 q4).trans (f0 q q1 q2 q3 q4 q5)
            have e68 : u 68 = upd (t 68) L.length (nI c) := (fu 68 (by decide) (by decide)).trans rfl
            have e72 : u 72 = upd (t 72) L.length (nI (ngN R M (c :: L))) := (fu 72 (by decide) (by decide)).trans rfl
            have e69 : u 69 = upd (upd (t 69) L.length (nI (c + 1))) (L.length + 1) 0 := (fu 69 (by decide) (by decide)).trans rfl
            refine ih (c :: L) (by simp only [List.length_cons]; omega) hv' hng u (krN R (c :: L) b') y (RdM_G hS fu0) ?_ (by rw [e68]; exact g68) (by rw [e72]; exact g72) (by rw [e69]; exact upd_at) hBu hU2 ?_
            · rw [fu0 64 (by decide) (by decide) (by decide) (by decide) (by decide)]
              exact h64
            · intro v y' hFv hav2 hv69 hBv hUv
              have hFv0 := fu0.trans hFv
              have hSv := RdM_G hS hFv0
              have ev68 : v 68 L.length = nI c := by
                rw [(hav2 L.length (by simp)).1, e68, upd_at]
              refine vX8_goes_23 ⟨fun q => absurd q (nI_pos (by simp only [List.length_cons]; omega)), fun _ => ?_⟩
              have ec : (nI (c :: L).length).toNatClampNeg = (c :: L).length := nI_clamp (by simp only [List.length_cons]; omega)
              rw [ec, hv69, hSv.1, nI_ltI (by omega) (by omega)]
              have em : nI (c :: L).length + (-1 : Int32) = nI L.length := pk_m1 L.length
              rw [em, nI_clamp (n := L.length) (by omega), ev68, cl8 hc8, (hSv.2 c hc8).1]
              have et : nI (tkN R (c :: L)) - nI (R 1 c) = nI (tkN R L) := by
                rw [pk_sub (by simp only [tkN]; omega)]
                congr 1
                simp only [tkN]
                omega
              rw [et]
              refine ⟨vp_in_nI (by simp only [List.length_cons]; omega) (by decide), fun q => absurd q (Nat.lt_irrefl _), fun _ => ⟨fun _ => ⟨v9, v9, vi8 hc8, ?_⟩, fun q => absurd (nI_pos' (by omega)) q⟩⟩
              refine aw_w (ihc v _ _ hFv0 (fun i hi => ?_) ?_ hBv (UsedC_drop (by omega) hUv hm) h) ⟨rfl, rfl, rfl, rfl, rfl, rfl, trivial⟩
              · obtain ⟨k1, k2, k3⟩ := hav2 i (by simp only [List.length_cons]; omega)
                rw [e68, upd_ne (by omega)] at k1
                rw [e72, upd_ne (by omega)] at k2
                rw [e69, upd_ne (by omega), upd_ne (by omega)] at k3
                exact ⟨k1.trans (ha i hi).1, k2.trans (ha i hi).2.1, k3.trans (ha i hi).2.2⟩
              · rw [(hav2 L.length (by simp)).2.2, e69, upd_ne (by omega), upd_at]
          have hbl : b'.length ≤ 8 := hBt.2.2
          have tb := tkN_le hR b'
          have tl := tkN_le hR (c :: L)
          simp only [List.length_cons] at tl
          rw [nI_ltI (by omega) (by omega), nI_eq (by omega) (by omega), nI_ltI (by omega) (by omega)]
          have keepit : bet R (c :: L).length (tkN R (c :: L)) b' = true → AW l G d hX8_goes 210 [some (.inr 49), some (.inl (nI (L.length + 1))), some (.inl (nI (tkN R (c :: L)))), some (.inl (nI (tkN R (c :: L)))), some (.inl (nI (L.length + 1))), some (.inl y), some (.inl (nI c)), some (.inl (0 : Int32))] [] (wrM (wrM (wrM (wrM t 69 L.length (nI (c + 1))) 72 L.length (nI (ngN R M (c :: L)))) 68 L.length (nI c)) 69 (L.length + 1) (0 : Int32)) post := by
            intro hb
            have ek : krN R (c :: L) b' = c :: L := by
              unfold krN
              rw [if_pos hb]
            rw [ek] at next
            exact go_copy (L := c :: L) (R := R) (M := M) (by simp) (by omega) g68 g72 (fun u f1 f2 => next u f1 f2)
          have leave : bet R (c :: L).length (tkN R (c :: L)) b' = false → AW l G d hX8_goes 23 [some (.inr 49), some (.inl (nI b'.length)), some (.inl (nI (tkN R b'))), some (.inl (nI (tkN R (c :: L)))), some (.inl (nI (L.length + 1))), some (.inl y), some (.inl (nI c)), none] [] (wrM (wrM (wrM (wrM t 69 L.length (nI (c + 1))) 72 L.length (nI (ngN R M (c :: L)))) 68 L.length (nI c)) 69 (L.length + 1) (0 : Int32)) post := by
            intro hb
            have ek : krN R (c :: L) b' = b' := by
              unfold krN
              rw [hb]
              rfl
            rw [ek] at next
            exact aw_w (next _ (fun _ _ _ => rfl) (RBM_fr hBt rfl rfl)) ⟨rfl, rfl, rfl, rfl, rfl, rfl, trivial⟩
          refine ⟨v9, v9, vi8 hc8, vp_in_nI (by omega) (by decide), fun q => leave ?_, fun q => ⟨fun q2 => keepit ?_, fun q2 => ⟨fun q3 => keepit ?_, fun q3 => leave ?_⟩⟩⟩
          · simp only [bet, decide_eq_false_iff_not, List.length_cons]
            omega
          · simp only [bet, decide_eq_true_eq, List.length_cons]
            omega
          · simp only [bet, decide_eq_true_eq, List.length_cons]
            omega
          · simp only [bet, decide_eq_false_iff_not, List.length_cons]
            omega
    exact loop 0 (Nat.zero_le _) s b x FrG.rfl (fun _ _ => ⟨rfl, rfl, rfl⟩) h69 hB hU (by rw [Nat.sub_zero]; rfl)
theorem M_ok {W : Nat → Nat → Nat} (hW : WOk W 8) (hB : fB W 99) : MOk (fwN W 8) := ⟨fwN_B8 (Nat.le_refl _) hW hB (Nat.le_refl _), fun _ _ _ hk => fw_tri8 hW hk⟩
def FrH (s t : Mem) : Prop := ∀ q, q ≠ 64 → q ≠ 68 → q ≠ 69 → q ≠ 70 → q ≠ 71 → q ≠ 72 → t q = s q
theorem S8_goes {l : Launch} {G : GG} {d : Nat} {R : Shw} {W : Nat → Nat → Nat} {s : Mem} (hd : 1 ≤ d) (hR : RdOk R) (hW : WOk W 8) (hB : fB W 99) (hS : RdM s R) (hH : MatH (s 63) W) : Spec l G d hX8_goes [.inr 49] s (fun r t => r = nI (rtN R (fwN W 8)).length ∧ RBM t R (fwN W 8) (rtN R (fwN W 8)) ∧ FrH s t) := by
  refine spec_of iX8_goes (by decide +kernel) (Nat.le_of_ble_eq_true rfl) (vX8_goes_0 ?_)
  refine ⟨d - 1, _, by omega, S8_reckons hW hB hH, ?_⟩
  rintro _ _ ⟨f, rfl, hf⟩
  refine ⟨vp_in_nI (n := 0) (by decide) (by decide), ?_⟩
  have hS1 : RdM (wrM (stM s 64 f) 69 0 0) R := RdM_fr hS rfl rfl rfl rfl
  refine go_loop (R := R) (M := fwN W 8) hd hR (M_ok hW hB) 8 [] rfl VdN_nil (by simp [ngN]) (wrM (stM s 64 f) 69 0 0) [] 0 hS1 hf trivial trivial rfl ⟨trivial, trivial, by simp⟩ (fun i hi => by rw [b_0]; simp) ?_
  intro t x' hF _ h69 hBt _
  have hSt := RdM_G hS1 hF
  have h69' : t 69 0 = nI (R 0 0) := h69
  refine vX8_goes_23 ⟨fun q => absurd q (by decide), fun _ => ⟨vp_in_nI (n := 0) (by decide) (by decide), fun q => ?_, fun _ => ⟨fun q => absurd q (by decide), fun _ => ?_⟩⟩⟩
  · have q : t 69 0 < t 49 11 := q
    rw [h69', hSt.1] at q
    exact absurd q (by grind)
  · refine aw_w (L := [some (.inr 49), some (.inl (nI (rtN R (fwN W 8)).length)), some (.inl (nI (tkN R (rtN R (fwN W 8))))), some (.inl (nI (tkN R []))), some (.inl (nI ([] : List Nat).length + -1)), some (.inl x'), none, none]) (vX8_goes_23 ⟨fun _ => ⟨rfl, hBt, fun q q1 q2 q3 q4 q5 q6 => (hF q q2 q3 q4 q5 q6).trans ((stM_ne q3).trans (stM_ne q1))⟩, fun q => absurd (by decide) q⟩) ⟨rfl, rfl, rfl, rfl, rfl, rfl, trivial⟩
theorem S8_route {l : Launch} {G : GG} {d : Nat} {R : Shw} {W : Nat → Nat → Nat} {s : Mem} (hd : 2 ≤ d) (hR : RdOk R) (hW : WOk W 8) (hB : fB W 99) (hS : RdM s R) (hH : MatH (s 63) W) : Spec l G d hX8_route [.inr 49] s (fun r t => r = nI (rtN R (fwN W 8)).length ∧ FrH s t) := by
  refine spec_of iX8_route (by decide +kernel) (Nat.le_of_ble_eq_true rfl) (vX8_route_0 ?_)
  refine ⟨d - 1, _, by omega, S8_goes (by omega) hR hW hB hS hH, ?_⟩
  rintro _ t ⟨rfl, _, hF⟩
  exact ⟨rfl, hF⟩
theorem S8_routeAt {l : Launch} {G : GG} {d : Nat} {R : Shw} {W : Nat → Nat → Nat} {s : Mem} (hd : 2 ≤ d) (hR : RdOk R) (hW : WOk W 8) (hB : fB W 99) (hS : RdM s R) (hH : MatH (s 63) W) (x z : Int32) : Spec l G d hX8_routeAt [.inr 49, .inl x, .inl z] s (fun r t => rtV R (fwN W 8) (rtN R (fwN W 8)) x z r ∧ FrH s t) := by
  refine spec_of iX8_routeAt (by decide +kernel) (Nat.le_of_ble_eq_true rfl) (vX8_routeAt_0 ?_)
  refine ⟨d - 1, _, by omega, S8_goes (by omega) hR hW hB hS hH, ?_⟩
  rintro _ t ⟨rfl, hBt, hF⟩
  have hl := rt_len (M := fwN W 8) hR
  refine ⟨d - 1, _, by omega, S_in _ _ _ _, ?_⟩
  rintro _ _ ⟨rfl, rfl⟩
  rw [i01, inK1 (by omega)]
  refine ⟨fun q => ⟨Or.inr ⟨fun z => q z.1, rfl⟩, hF⟩, fun q => ?_⟩
  obtain ⟨i, hi, rfl⟩ := Classical.not_not.mp q
  refine ⟨d - 1, _, by omega, S_in _ _ _ _, ?_⟩
  rintro _ _ ⟨rfl, rfl⟩
  rw [i01]
  refine ⟨fun h3 => ?_, fun h3 => ⟨Or.inr ⟨fun y => h3 y.2, rfl⟩, hF⟩⟩
  have h3 := Classical.not_not.mp h3
  obtain ⟨a, a1, a2, _, a4⟩ := RowF_nx hBt.1 hi
  have a5 := NgF_nx hBt.2.1 hi
  rw [nI_clamp (n := i) (by omega)]
  refine ⟨fun h4 => ⟨vi8 (by omega), Or.inl ⟨i, a, rfl, hi, a2, Or.inr ⟨?_, a5⟩⟩, hF⟩, fun h4 => ⟨vi8 (by omega), Or.inl ⟨i, a, rfl, hi, a2, Or.inl ⟨h4, a4⟩⟩, hF⟩⟩
  rcases w01 h3.1 h3.2 with hz | hz
  · exact absurd hz h4
  · exact hz
