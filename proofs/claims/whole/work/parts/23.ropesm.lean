def Rm (U : Nat → Bool) (s : Mem) (X : TX) : Prop := (∀ j, j < 8 → s 73 j = X.1 j) ∧ (∀ j, j < 8 → s 74 j = if (U j && !X.2.1 j) then 1 else 0) ∧ s 49 29 = X.2.2
def FrM (s t : Mem) : Prop := (∀ q, q ≠ 49 → q ≠ 73 → q ≠ 74 → t q = s q) ∧ ∀ j, j ≠ 29 → t 49 j = s 49 j
theorem FrM.trans {s t u : Mem} (h1 : FrM s t) (h2 : FrM t u) : FrM s u := ⟨fun q q1 q2 q3 => (h2.1 q q1 q2 q3).trans (h1.1 q q1 q2 q3), fun j hj => (h2.2 j hj).trans (h1.2 j hj)⟩
theorem FrM.rfl {s : Mem} : FrM s s := ⟨fun _ _ _ _ => by rfl, fun _ _ => by rfl⟩
theorem S_slackens {l : Launch} {G : GG} {d r : Nat} (hd : 1 ≤ d) (hr : r < 8) {X : TX} {s : Mem} (h : Rm (upB (s 58) (s 59)) s X) (hU : UZ (upB (s 58) (s 59)) X) (hB : X.2.1 r = true) : Spec l G d hX8_slackens [.inr 49, .inl (nI r)] s (fun _ t => Rm (upB (s 58) (s 59)) t (slk X r) ∧ FrM s t) := by
  refine spec_of iX8_slackens (by decide +kernel) (Nat.le_of_ble_eq_true rfl) (vX8_slackens_0 ?_)
  rw [cl8 hr, nb1, h.1 r hr]
  refine ⟨vi8 hr, vi8 hr, vi8 hr, ?_⟩
  have hUr := hU.1 r hB
  have hsub : ∀ j, slkB X.2.1 r j = true → upB (s 58) (s 59) j = true := by
    intro j hj
    simp only [slkB] at hj
    split at hj
    · cases hj
    · exact hU.1 j hj
  have hP : ∀ j, j < 8 → (wrM (wrM s 73 r 0) 74 r 1) 73 j = upd X.1 r 0 j := by
    intro j hj
    show upd (s 73) r 0 j = _
    by_cases hjr : j = r
    · subst hjr; rw [upd_at, upd_at]
    · rw [upd_ne hjr, upd_ne hjr]; exact h.1 j hj
  have hS : ∀ j, j < 8 → (wrM (wrM s 73 r 0) 74 r 1) 74 j = if (upB (s 58) (s 59) j && !slkB X.2.1 r j) then 1 else 0 := by
    intro j hj
    show upd (s 74) r 1 j = _
    by_cases hjr : j = r
    · subst hjr; rw [upd_at]; simp [slkB, hUr]
    · rw [upd_ne hjr, h.2.1 j hj]; simp [slkB, hjr]
  have hF : FrM s (wrM (wrM s 73 r 0) 74 r 1) := by
    refine ⟨fun q q1 q2 q3 => ?_, fun j _ => rfl⟩
    show stM (stM s 73 _) 74 _ q = s q
    rw [stM_ne q3, stM_ne q2]
  have hL : (wrM (wrM s 73 r 0) 74 r 1) 49 29 = X.2.2 := h.2.2
  have e58 : (wrM (wrM s 73 r 0) 74 r 1) 58 = s 58 := rfl
  have e59 : (wrM (wrM s 73 r 0) 74 r 1) 59 = s 59 := rfl
  generalize wrM (wrM s 73 r 0) 74 r 1 = m at hP hS hF hL e58 e59 ⊢
  have slt : ∀ k, k < 8 → upB (s 58) (s 59) k = true → (m 74 k = 0 ↔ slkB X.2.1 r k = true) := by
    intro k hk hu
    rw [hS k hk, hu]
    cases slkB X.2.1 r k <;> simp
  have hcn : nI (cnB (slkB X.2.1 r) 8) = 0 ↔ cnB (slkB X.2.1 r) 8 = 0 := by
    have h8 := cnB_le (slkB X.2.1 r) 8
    rw [show (0 : Int32) = nI 0 from rfl]
    exact nI_eq (by omega) (by decide)
  refine down0 (A := fun k => AW l G d hX8_slackens 26 [some (.inr 49), some (.inl (nI r)), some (.inl (X.1 r)), some (.inl (nI (cnB (slkB X.2.1 r) k))), some (.inl (nI k)), none] [] m (fun _ t => Rm (upB (s 58) (s 59)) t (slk X r) ∧ FrM s t)) 8 ?_ ?_
  · refine vX8_slackens_26 ⟨fun _ => ⟨fun q => ⟨q, ?_⟩, fun q => ?_⟩, fun h => absurd c8t h⟩
    · have hc : ¬ cnB (slkB X.2.1 r) 8 = 0 := fun z => q (hcn.mpr z)
      have e1 : slk X r = ((spS (slkB X.2.1 r) (X.1 r / nI (cnB (slkB X.2.1 r) 8)) (upd X.1 r 0) (X.1 r - X.1 r / nI (cnB (slkB X.2.1 r) 8) * nI (cnB (slkB X.2.1 r) 8)) 8).1, slkB X.2.1 r, X.2.2) := by
        unfold slk; rw [if_neg hc]
      rw [e1]
      have qc := q
      generalize nI (cnB (slkB X.2.1 r) 8) = c at qc ⊢
      generalize ho : X.1 r - X.1 r / c * c = o
      generalize he : X.1 r / c = e
      have key : ∀ k, k ≤ 8 → ∀ m' : Mem, (∀ j, j < 8 → m' 73 j = (spS (slkB X.2.1 r) e (upd X.1 r 0) o k).1 j) → (∀ q, q ≠ 73 → m' q = m q) →
          AW l G d hX8_slackens 88 [some (.inr 49), some (.inl (nI r)), some (.inl (X.1 r)), some (.inl c), some (.inl (spS (slkB X.2.1 r) e (upd X.1 r 0) o k).2), some (.inl (nI k))] [] m' (fun _ t => Rm (upB (s 58) (s 59)) t ((spS (slkB X.2.1 r) e (upd X.1 r 0) o 8).1, slkB X.2.1 r, X.2.2) ∧ FrM s t) := by
        refine down 8 ?_ ?_
        · intro m' h1 h2
          refine vX8_slackens_88 ⟨fun _ => ⟨⟨h1, by rw [h2 74 (by decide)]; exact hS, by rw [h2 49 (by decide)]; exact hL⟩, fun q q1 q2 q3 => ?_, fun j hj => ?_⟩, fun h => absurd c8t h⟩
          · rw [h2 q q2]; exact hF.1 q q1 q2 q3
          · rw [h2 49 (by decide)]; exact hF.2 j hj
        · intro k hk ih m' h1 h2
          refine vX8_slackens_88 ⟨fun h => absurd h (c8f hk), fun _ => ⟨d - 1, _, by omega, S_isUp8 hk _, ?_⟩⟩
          rintro _ _ ⟨rfl, rfl⟩
          rw [h2 58 (by decide), h2 59 (by decide), e58, e59, cl8 hk, nI_1, ib0, h2 74 (by decide), h1 k hk, he]
          have skip : slkB X.2.1 r k = false → AW l G d hX8_slackens 88 [some (.inr 49), some (.inl (nI r)), some (.inl (X.1 r)), some (.inl c), some (.inl (spS (slkB X.2.1 r) e (upd X.1 r 0) o k).2), some (.inl (nI (k + 1)))] [] m' (fun _ t => Rm (upB (s 58) (s 59)) t ((spS (slkB X.2.1 r) e (upd X.1 r 0) o 8).1, slkB X.2.1 r, X.2.2) ∧ FrM s t) := by
            intro hb
            have e1 : spS (slkB X.2.1 r) e (upd X.1 r 0) o (k + 1) = spS (slkB X.2.1 r) e (upd X.1 r 0) o k := by simp [spS, hb]
            rw [e1] at ih
            exact ih m' h1 h2
          refine ⟨fun q => skip ?_, fun q => ⟨vi8 hk, fun q2 => ⟨vi8 hk, qc, vi8 hk, fun q3 => ?_, fun q3 => ⟨vi8 hk, vi8 hk, ?_⟩⟩, fun q2 => skip ?_⟩⟩
          · cases hb : slkB X.2.1 r k with
            | false => rfl
            | true => rw [hsub k hb] at q; cases q
          · have hu : upB (s 58) (s 59) k = true := by simpa using q
            have hb := (slt k hk hu).mp q2
            have e1 : spS (slkB X.2.1 r) e (upd X.1 r 0) o (k + 1) = (upd (spS (slkB X.2.1 r) e (upd X.1 r 0) o k).1 k ((spS (slkB X.2.1 r) e (upd X.1 r 0) o k).1 k + e), (spS (slkB X.2.1 r) e (upd X.1 r 0) o k).2) := by
              simp only [spS, hb, if_true, if_pos q3]
            rw [e1] at ih
            refine ih _ (fun j hj => ?_) (fun q hq => by rw [← h2 q hq]; exact stM_ne hq)
            show upd (m' 73) k _ j = upd _ k _ j
            by_cases hjk : j = k
            · subst hjk; rw [upd_at, upd_at]
            · rw [upd_ne hjk, upd_ne hjk]; exact h1 j hj
          · have hu : upB (s 58) (s 59) k = true := by simpa using q
            have hb := (slt k hk hu).mp q2
            have e1 : spS (slkB X.2.1 r) e (upd X.1 r 0) o (k + 1) = (upd (spS (slkB X.2.1 r) e (upd X.1 r 0) o k).1 k ((spS (slkB X.2.1 r) e (upd X.1 r 0) o k).1 k + e - 1), (spS (slkB X.2.1 r) e (upd X.1 r 0) o k).2 + 1) := by
              simp only [spS, hb, if_true, if_neg q3]
            rw [e1] at ih
            have e2 : ∀ v : Int32, (wrM m' 73 k v) 73 k = v := fun v => upd_at
            rw [e2]
            refine ih _ (fun j hj => ?_) (fun q hq => ?_)
            · show upd (upd (m' 73) k _) k _ j = upd _ k _ j
              by_cases hjk : j = k
              · subst hjk; rw [upd_at, upd_at]
              · rw [upd_ne hjk, upd_ne hjk, upd_ne hjk]; exact h1 j hj
            · rw [← h2 q hq]
              show stM (stM m' 73 _) 73 _ q = m' q
              rw [stM_ne hq, stM_ne hq]
          · have hu : upB (s 58) (s 59) k = true := by simpa using q
            cases hb : slkB X.2.1 r k with
            | false => rfl
            | true => exact absurd ((slt k hk hu).mpr hb) q2
      exact key 0 (by omega) m hP (fun _ _ => rfl)
    · have e1 : slk X r = (upd X.1 r 0, slkB X.2.1 r, X.1 r) := by
        unfold slk; rw [if_pos (hcn.mp q)]
      rw [e1]
      refine ⟨⟨hP, hS, rfl⟩, fun q q1 q2 q3 => ?_, fun j hj => ?_⟩
      · show stM m 49 _ q = s q
        rw [stM_ne q1]
        exact hF.1 q q1 q2 q3
      · show upd (m 49) 29 _ j = s 49 j
        rw [upd_ne hj]
        exact hF.2 j hj
  · intro k hk ih
    refine vX8_slackens_26 ⟨fun h => absurd h (c8f hk), fun _ => ⟨d - 1, _, by omega, S_isUp8 hk _, ?_⟩⟩
    rintro _ _ ⟨rfl, rfl⟩
    rw [e58, e59, cl8 hk, nI_1, nI_1, ib0, Int32.add_zero]
    refine ⟨fun q => ?_, fun q => ⟨vi8 hk, fun q2 => ?_, fun q2 => ?_⟩⟩
    · have hb : slkB X.2.1 r k = false := by
        cases hb : slkB X.2.1 r k with
        | false => rfl
        | true => rw [hsub k hb] at q; cases q
      simpa [cnB, hb] using ih
    · have hu : upB (s 58) (s 59) k = true := by simpa using q
      have hb : slkB X.2.1 r k = false := by
        cases hb : slkB X.2.1 r k with
        | false => rfl
        | true => exact absurd ((slt k hk hu).mpr hb) q2
      simpa [cnB, hb] using ih
    · have hu : upB (s 58) (s 59) k = true := by simpa using q
      have hb := (slt k hk hu).mp q2
      simpa [cnB, hb] using ih
theorem hangs_search {l : Launch} {G : GG} {d : Nat} (hd : 2 ≤ d) {w : Int32} {s : Mem} (m : Mem) (X : TX) (h1 : Rm (upB (s 58) (s 59)) m X) (h2 : UZ (upB (s 58) (s 59)) X) (h3 : FrM s m)
    (hstop : (∀ j, j < 8 → psh X j = false) → FinR 8 (X0 (s 57) (s 58) (s 59) w) X)
    (hgo : ∀ k, k < 8 → psh X k = true → (∀ j, j < k → psh X j = false) → ∀ t : Mem, Rm (upB (s 58) (s 59)) t (slk X k) → FrM m t → AW l G d hX8_hangs 86 [some (.inr 49), some (.inl w), some (.inl 1), none] [] t (fun _ t => ∃ Y, FinR 8 (X0 (s 57) (s 58) (s 59) w) Y ∧ UZ (upB (s 58) (s 59)) Y ∧ Rm (upB (s 58) (s 59)) t Y ∧ FrM s t)) :
    AW l G d hX8_hangs 86 [some (.inr 49), some (.inl w), some (.inl 1), none] [] m (fun _ t => ∃ Y, FinR 8 (X0 (s 57) (s 58) (s 59) w) Y ∧ UZ (upB (s 58) (s 59)) Y ∧ Rm (upB (s 58) (s 59)) t Y ∧ FrM s t) := by
  have e58 : m 58 = s 58 := h3.1 58 (by decide) (by decide) (by decide)
  have e59 : m 59 = s 59 := h3.1 59 (by decide) (by decide) (by decide)
  refine vX8_hangs_86 ⟨fun h => absurd h (by decide), fun _ => ?_⟩
  refine down0 (A := fun k => (∀ j, j < k → psh X j = false) → AW l G d hX8_hangs 92 [some (.inr 49), some (.inl w), some (.inl 1), some (.inl (nI k))] [] m (fun _ t => ∃ Y, FinR 8 (X0 (s 57) (s 58) (s 59) w) Y ∧ UZ (upB (s 58) (s 59)) Y ∧ Rm (upB (s 58) (s 59)) t Y ∧ FrM s t)) 8 ?_ ?_ (fun j hj => by omega)
  · intro hn
    refine vX8_hangs_92 ⟨fun _ => ⟨fun _ => ⟨fun _ => ?_, fun h => absurd rfl h⟩, fun h => absurd c8t h⟩, fun h => absurd c8t h⟩
    refine aw_weak (L := [some (.inr 49), some (.inl w), some (.inl 0), none]) ⟨rfl, rfl, rfl, trivial⟩ (vX8_hangs_86 ⟨fun _ => ⟨X, hstop hn, h2, h1, h3⟩, fun h => absurd rfl h⟩)
  · intro k hk ih hn
    refine vX8_hangs_92 ⟨fun h => absurd h (c8f hk), fun _ => ⟨d - 1, _, by omega, S_isUp8 hk _, ?_⟩⟩
    rintro _ _ ⟨rfl, rfl⟩
    rw [e58, e59, cl8 hk, nI_1, ib0, h1.1 k hk]
    have nxt : psh X k = false → ∀ j, j < k + 1 → psh X j = false := fun q j hj => by
      by_cases hjk : j = k
      · rw [hjk]; exact q
      · exact hn j (by omega)
    refine ⟨fun q => ih (nxt ?_), fun q => ⟨vi8 hk, fun q2 => ⟨fun h => absurd h (c8f hk), fun _ => ⟨fun h => absurd h (by decide), fun _ => ?_⟩⟩, fun q2 => ih (nxt ?_)⟩⟩
    · cases hb : X.2.1 k with
      | false => simp [psh, hb]
      | true => rw [h2.1 k hb] at q; cases q
    · have hu : upB (s 58) (s 59) k = true := by simpa using q
      have hb : X.2.1 k = true := by
        cases hb : X.2.1 k with
        | true => rfl
        | false =>
          rw [h2.2 k hk hu hb] at q2
          exact absurd q2 (by decide)
      have hp : psh X k = true := by simp only [psh, hb, q2, decide_true, Bool.and_true]
      have h1' : Rm (upB (m 58) (m 59)) m X := by rw [e58, e59]; exact h1
      have h2' : UZ (upB (m 58) (m 59)) X := by rw [e58, e59]; exact h2
      refine ⟨d - 1, _, by omega, S_slackens (by omega) hk h1' h2' hb, ?_⟩
      rintro _ t ⟨hR, hF⟩
      rw [e58, e59] at hR
      exact aw_weak (L := [some (.inr 49), some (.inl w), some (.inl 1), none]) ⟨rfl, rfl, rfl, trivial⟩ (hgo k hk hp hn t hR hF)
    · simp [psh, q2]
theorem S_hangs {l : Launch} {G : GG} {d : Nat} (hd : 2 ≤ d) (w : Int32) (s : Mem) : Spec l G d hX8_hangs [.inr 49, .inl w] s (fun _ t => ∃ Y, FinR 8 (X0 (s 57) (s 58) (s 59) w) Y ∧ UZ (upB (s 58) (s 59)) Y ∧ Rm (upB (s 58) (s 59)) t Y ∧ FrM s t) := by
  refine spec_of iX8_hangs (by decide +kernel) (Nat.le_of_ble_eq_true rfl) (vX8_hangs_0 ?_)
  have main : ∀ (n : Nat) (m : Mem) (X : TX), Rm (upB (s 58) (s 59)) m X → UZ (upB (s 58) (s 59)) X → FrM s m → cnB X.2.1 8 ≤ n → (∀ Y, FinR n X Y → FinR 8 (X0 (s 57) (s 58) (s 59) w) Y) →
      AW l G d hX8_hangs 86 [some (.inr 49), some (.inl w), some (.inl 1), none] [] m (fun _ t => ∃ Y, FinR 8 (X0 (s 57) (s 58) (s 59) w) Y ∧ UZ (upB (s 58) (s 59)) Y ∧ Rm (upB (s 58) (s 59)) t Y ∧ FrM s t) := by
    intro n
    induction n with
    | zero =>
      intro m X h1 h2 h3 h4 h5
      have hall : ∀ j, j < 8 → X.2.1 j = false := cnB_zero (by omega)
      exact hangs_search hd m X h1 h2 h3 (fun hn => h5 X (finR_stop hn _)) (fun k hk hp _ => by
        simp only [psh, Bool.and_eq_true] at hp
        rw [hall k hk] at hp
        cases hp.1)
    | succ n ihn =>
      intro m X h1 h2 h3 h4 h5
      refine hangs_search hd m X h1 h2 h3 (fun hn => h5 X (finR_stop hn _)) (fun k hk hp hb t hR hF => ?_)
      have hB : X.2.1 k = true := by
        simp only [psh, Bool.and_eq_true] at hp
        exact hp.1
      refine ihn t (slk X k) hR (UZ_slk h2) (h3.trans hF) ?_ (fun Y hY => h5 Y (Or.inr ⟨k, hk, hp, hb, hY⟩))
      rw [slk_B]
      have := cnB_slk hB (n := 8) hk
      omega
  have outer : ∀ k, k ≤ 8 → ∀ m : Mem, (∀ j, j < k → m 73 j = ptN (s 57) (s 58) (s 59) w j 8) → (∀ j, j < k → m 74 j = 0) → m 49 29 = 0 → FrM s m →
      AW l G d hX8_hangs 7 [some (.inr 49), some (.inl w), some (.inl (nI k)), none] [] m (fun _ t => ∃ Y, FinR 8 (X0 (s 57) (s 58) (s 59) w) Y ∧ UZ (upB (s 58) (s 59)) Y ∧ Rm (upB (s 58) (s 59)) t Y ∧ FrM s t) := by
    refine down 8 ?_ ?_
    · intro m h1 h2 h3 h4
      refine vX8_hangs_7 ⟨fun _ => ?_, fun h => absurd c8t h⟩
      refine main 8 m (X0 (s 57) (s 58) (s 59) w) ⟨h1, fun j hj => ?_, h3⟩ UZ_0 h4 (cnB_le _ 8) (fun _ h => h)
      rw [h2 j hj]
      simp [X0]
    · intro k hk ih m h1 h2 h3 h4
      refine vX8_hangs_7 ⟨fun h => absurd h (c8f hk), fun _ => ⟨vi8 hk, vi8 hk, vi8 hk, ?_⟩⟩
      rw [cl8 hk, nb0]
      have inner : ∀ p, p ≤ 8 → ∀ m' : Mem, (∀ j, j < k → m' 73 j = ptN (s 57) (s 58) (s 59) w j 8) → m' 73 k = ptN (s 57) (s 58) (s 59) w k p → (∀ j, j < k + 1 → m' 74 j = 0) → m' 49 29 = 0 → FrM s m' →
          AW l G d hX8_hangs 39 [some (.inr 49), some (.inl w), some (.inl (nI k)), some (.inl (nI p))] [] m' (fun _ t => ∃ Y, FinR 8 (X0 (s 57) (s 58) (s 59) w) Y ∧ UZ (upB (s 58) (s 59)) Y ∧ Rm (upB (s 58) (s 59)) t Y ∧ FrM s t) := by
        refine down 8 ?_ ?_
        · intro m' g1 g2 g3 g4 g5
          refine vX8_hangs_39 ⟨fun _ => ?_, fun h => absurd c8t h⟩
          rw [nI_1]
          refine aw_weak (L := [some (.inr 49), some (.inl w), some (.inl (nI (k + 1))), none]) ⟨rfl, rfl, rfl, trivial⟩ (ih m' (fun j hj => ?_) g3 g4 g5)
          by_cases hjk : j = k
          · rw [hjk]; exact g2
          · exact g1 j (by omega)
        · intro p hp ih2 m' g1 g2 g3 g4 g5
          refine vX8_hangs_39 ⟨fun h => absurd h (c8f hp), fun _ => ?_⟩
          rw [ixb, cl64 hp hk, cl8 hp, cl8 hk, nI_1, g2, g5.1 57 (by decide) (by decide) (by decide), g5.1 58 (by decide) (by decide) (by decide)]
          refine ⟨vi8 hk, vi8 hp, vi64 hp hk, vi8 hk, ih2 _ (fun j hj => ?_) upd_at g3 g4 ⟨fun q q1 q2 q3 => ?_, g5.2⟩⟩
          · show upd (m' 73) k _ j = _
            rw [upd_ne (by omega)]
            exact g1 j hj
          · show stM m' 73 _ q = s q
            rw [stM_ne q2]
            exact g5.1 q q1 q2 q3
      refine inner 0 (by omega) _ (fun j hj => ?_) ?_ (upd_lt (g := fun _ => 0) h2 rfl) h3 ⟨fun q q1 q2 q3 => ?_, h4.2⟩
      · show upd (m 73) k _ j = _
        rw [upd_ne (by omega)]
        exact h1 j hj
      · show upd (m 73) k ((100 : Int32) * w * (m 59 k)) k = _
        rw [upd_at, h4.1 59 (by decide) (by decide) (by decide)]
        rfl
      · show stM (stM m 74 _) 73 _ q = s q
        rw [stM_ne q2, stM_ne q3]
        exact h4.1 q q1 q2 q3
  refine outer 0 (by omega) _ (fun j hj => by omega) (fun j hj => by omega) rfl ⟨fun q q1 q2 q3 => stM_ne q1, fun j hj => ?_⟩
  show upd (s 49) 29 0 j = s 49 j
  exact upd_ne hj
