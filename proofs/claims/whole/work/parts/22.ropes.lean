/-! ===== ropes that go slack: the pure step, and the class's and the model's ways to it ===== -/
theorem upd_lt {f g : Nat → Int32} {k : Nat} {v : Int32} (h : ∀ j, j < k → f j = g j) (hv : v = g k) : ∀ j, j < k + 1 → upd f k v j = g j := by
  intro j hj
  by_cases hjk : j = k
  · subst hjk
    rw [upd_at, hv]
  · rw [upd_ne hjk]
    exact h j (by omega)
def cnB (B : Nat → Bool) : Nat → Nat
  | 0 => 0
  | n + 1 => cnB B n + (if B n then 1 else 0)
theorem cnB_le (B : Nat → Bool) : ∀ n, cnB B n ≤ n
  | 0 => Nat.le_refl _
  | n + 1 => by
    have := cnB_le B n
    simp only [cnB]
    split <;> omega
theorem cnB_zero {B : Nat → Bool} : ∀ {n : Nat}, cnB B n = 0 → ∀ j, j < n → B j = false
  | 0, _, j, hj => by omega
  | n + 1, h, j, hj => by
    simp only [cnB] at h
    cases hb : B n with
    | true => rw [hb] at h; simp at h
    | false =>
      rw [hb] at h
      by_cases hjn : j = n
      · rw [hjn]; exact hb
      · exact cnB_zero (n := n) (by simpa using h) j (by omega)
def slkB (B : Nat → Bool) (r : Nat) : Nat → Bool := fun j => if j = r then false else B j
theorem cnB_off {B : Nat → Bool} {r : Nat} : ∀ {n : Nat}, n ≤ r → cnB (slkB B r) n = cnB B n
  | 0, _ => rfl
  | n + 1, h => by
    have h1 : slkB B r n = B n := by simp only [slkB]; rw [if_neg (by omega)]
    have ih := cnB_off (B := B) (r := r) (n := n) (by omega)
    simp only [cnB, h1, ih]
theorem cnB_slk {B : Nat → Bool} {r : Nat} (hr : B r = true) : ∀ {n : Nat}, r < n → cnB (slkB B r) n + 1 = cnB B n
  | 0, h => by omega
  | n + 1, h => by
    by_cases hn : r = n
    · subst hn
      have h1 : slkB B r r = false := by simp [slkB]
      simp [cnB, h1, hr, cnB_off (Nat.le_refl r)]
    · have h1 : slkB B r n = B n := by simp only [slkB]; rw [if_neg (by omega)]
      have h2 := cnB_slk hr (n := n) (by omega)
      simp only [cnB, h1]
      omega
def spS (B : Nat → Bool) (e : Int32) (P : Nat → Int32) (o : Int32) : Nat → (Nat → Int32) × Int32
  | 0 => (P, o)
  | n + 1 => if B n = true then (if 0 ≤ (spS B e P o n).2 then (upd (spS B e P o n).1 n ((spS B e P o n).1 n + e), (spS B e P o n).2) else (upd (spS B e P o n).1 n ((spS B e P o n).1 n + e - 1), (spS B e P o n).2 + 1)) else spS B e P o n
theorem spS_off {B : Nat → Bool} {e : Int32} {P : Nat → Int32} {o : Int32} {j : Nat} (hj : B j = false) : ∀ n, (spS B e P o n).1 j = P j
  | 0 => rfl
  | n + 1 => by
    have ih := spS_off (e := e) (P := P) (o := o) hj n
    simp only [spS]
    by_cases hn : j = n
    · subst hn
      rw [hj]
      simpa using ih
    · split
      · split
        · show upd (spS B e P o n).1 n _ j = P j
          rw [upd_ne hn]; exact ih
        · show upd (spS B e P o n).1 n _ j = P j
          rw [upd_ne hn]; exact ih
      · exact ih
abbrev TX : Type := (Nat → Int32) × (Nat → Bool) × Int32
def slk (X : TX) (r : Nat) : TX :=
  if cnB (slkB X.2.1 r) 8 = 0 then (upd X.1 r 0, slkB X.2.1 r, X.1 r)
  else ((spS (slkB X.2.1 r) (X.1 r / nI (cnB (slkB X.2.1 r) 8)) (upd X.1 r 0) (X.1 r - X.1 r / nI (cnB (slkB X.2.1 r) 8) * nI (cnB (slkB X.2.1 r) 8)) 8).1, slkB X.2.1 r, X.2.2)
theorem slk_B (X : TX) (r : Nat) : (slk X r).2.1 = slkB X.2.1 r := by
  unfold slk
  split <;> rfl
def psh (X : TX) (j : Nat) : Bool := X.2.1 j && decide (X.1 j < 0)
def FinR : Nat → TX → TX → Prop
  | 0, X, Y => X = Y
  | n + 1, X, Y => (X = Y ∧ ∀ j, j < 8 → psh X j = false) ∨ ∃ k, k < 8 ∧ psh X k = true ∧ (∀ j, j < k → psh X j = false) ∧ FinR n (slk X k) Y
theorem finR_stop {X : TX} (h : ∀ j, j < 8 → psh X j = false) : ∀ n, FinR n X X
  | 0 => rfl
  | _ + 1 => Or.inl ⟨rfl, h⟩
theorem finR_det : ∀ {n : Nat} {X Y Z : TX}, FinR n X Y → FinR n X Z → Y = Z
  | 0, _, _, _, h1, h2 => h1.symm.trans h2
  | n + 1, X, Y, Z, h1, h2 => by
    rcases h1 with ⟨e1, p1⟩ | ⟨k1, l1, t1, f1, r1⟩ <;> rcases h2 with ⟨e2, p2⟩ | ⟨k2, l2, t2, f2, r2⟩
    · exact e1.symm.trans e2
    · rw [p1 k2 l2] at t2; cases t2
    · rw [p2 k1 l1] at t1; cases t1
    · rcases Nat.lt_trichotomy k1 k2 with h | h | h
      · rw [f2 k1 h] at t1; cases t1
      · subst h
        exact finR_det r1 r2
      · rw [f1 k2 h] at t2; cases t2
def ptN (ld sh ex : Nat → Int32) (w : Int32) (r : Nat) : Nat → Int32
  | 0 => (100 : Int32) * w * ex r
  | p + 1 => ptN ld sh ex w r p + ld p * sh (p * 8 + r)
def X0 (ld sh ex : Nat → Int32) (w : Int32) : TX := (fun r => ptN ld sh ex w r 8, upB sh ex, 0)
def UZ (U : Nat → Bool) (X : TX) : Prop := (∀ j, X.2.1 j = true → U j = true) ∧ ∀ j, j < 8 → U j = true → X.2.1 j = false → X.1 j = 0
theorem UZ_slk {U : Nat → Bool} {X : TX} {r : Nat} (h : UZ U X) : UZ U (slk X r) := by
  refine ⟨fun j hj => ?_, fun j hj hu hb => ?_⟩
  · rw [slk_B] at hj
    simp only [slkB] at hj
    split at hj
    · cases hj
    · exact h.1 j hj
  · rw [slk_B] at hb
    have h0 : upd X.1 r 0 j = 0 := by
      by_cases hjr : j = r
      · subst hjr; exact upd_at
      · rw [upd_ne hjr]
        simp only [slkB, if_neg hjr] at hb
        exact h.2 j hj hu hb
    unfold slk
    split
    · exact h0
    · show (spS _ _ _ _ 8).1 j = 0
      rw [spS_off hb]
      exact h0
theorem UZ_0 {ld sh ex : Nat → Int32} {w : Int32} : UZ (upB sh ex) (X0 ld sh ex w) := ⟨fun _ h => h, fun j _ h1 h2 => by
  have h2 : upB sh ex j = false := h2
  rw [h1] at h2; cases h2⟩
def Rc (U : Nat → Bool) (s : Mem) (X : TX) : Prop := (∀ j, j < 8 → s 30 j = X.1 j) ∧ (∀ j, j < 8 → s 31 j = if X.2.1 j then 1 else 0) ∧ (∀ j, j < 8 → s 32 j = if (U j && !X.2.1 j) then 1 else 0) ∧ s 26 6 = X.2.2
def FrC (s t : Mem) : Prop := ∀ q, q ≠ 26 → q ≠ 30 → q ≠ 31 → q ≠ 32 → t q = s q
theorem S_hang {l : Launch} {G : GG} {d : Nat} (hd : 1 ≤ d) (w : Int32) (s : Mem) : Spec l G d hX5_hang [.inr 26, .inl w] s (fun _ t => Rc (upB (s 28) (s 29)) t (X0 (s 27) (s 28) (s 29) w) ∧ FrC s t) := by
  refine spec_of iX5_hang (by decide +kernel) (Nat.le_of_ble_eq_true rfl) (vX5_hang_0 ?_)
  have key : ∀ k, k ≤ 8 → ∀ m : Mem, (∀ j, j < k → m 30 j = ptN (s 27) (s 28) (s 29) w j 8) → (∀ j, j < k → m 31 j = if upB (s 28) (s 29) j then 1 else 0) → (∀ j, j < k → m 32 j = 0) → m 26 6 = 0 → FrC s m →
      AW l G d hX5_hang 7 [some (.inr 26), some (.inl w), some (.inl (nI k)), none, none] [] m (fun _ t => Rc (upB (s 28) (s 29)) t (X0 (s 27) (s 28) (s 29) w) ∧ FrC s t) := by
    refine down 8 ?_ ?_
    · intro m h1 h2 h3 h4 h5
      refine vX5_hang_7 ⟨fun _ => ⟨⟨h1, h2, fun j hj => ?_, h4⟩, h5⟩, fun h => absurd c8t h⟩
      rw [h3 j hj]
      simp [X0]
    · intro k hk ih m h1 h2 h3 h4 h5
      refine vX5_hang_7 ⟨fun h => absurd h (c8f hk), fun _ => ⟨vi8 hk, ?_⟩⟩
      have e27 : m 27 = s 27 := h5 27 (by decide) (by decide) (by decide) (by decide)
      have e28 : m 28 = s 28 := h5 28 (by decide) (by decide) (by decide) (by decide)
      have e29 : m 29 = s 29 := h5 29 (by decide) (by decide) (by decide) (by decide)
      rw [cl8 hk, e29]
      refine down0 (A := fun p => AW l G d hX5_hang 28 [some (.inr 26), some (.inl w), some (.inl (nI k)), some (.inl (ptN (s 27) (s 28) (s 29) w k p)), some (.inl (nI p))] [] m _) 8 ?_ ?_
      · refine vX5_hang_28 ⟨fun _ => ⟨vi8 hk, d - 1, _, by omega, S_isUp5 hk _, ?_⟩, fun h => absurd c8t h⟩
        rintro _ _ ⟨rfl, rfl⟩
        refine ⟨vi8 hk, vi8 hk, ?_⟩
        rw [nI_1, cl8 hk, nb0]
        have e1 : (wrM m 30 k (ptN (s 27) (s 28) (s 29) w k 8)) 28 = s 28 := e28
        have e2 : (wrM m 30 k (ptN (s 27) (s 28) (s 29) w k 8)) 29 = s 29 := e29
        rw [e1, e2, nbb]
        refine aw_weak (L := [some (.inr 26), some (.inl w), some (.inl (nI (k + 1))), none, none]) ⟨rfl, rfl, rfl, trivial⟩ (ih _ (upd_lt h1 rfl) (upd_lt h2 rfl) (upd_lt (g := fun _ => 0) h3 rfl) h4 ?_)
        intro q q1 q2 q3 q4
        show stM (stM (stM m 30 _) 31 _) 32 _ q = s q
        rw [stM_ne q4, stM_ne q3, stM_ne q2]
        exact h5 q q1 q2 q3 q4
      · intro p hp ih2
        refine vX5_hang_28 ⟨fun h => absurd h (c8f hp), fun _ => ?_⟩
        rw [ixa, cl64 hp hk, cl8 hp, nI_1, e27, e28]
        exact ⟨vi8 hp, vi64 hp hk, ih2⟩
  refine key 0 (by omega) _ (fun j hj => by omega) (fun j hj => by omega) (fun j hj => by omega) rfl ?_
  intro q q1 _ _ _
  exact stM_ne q1
theorem S_first {l : Launch} {G : GG} {d : Nat} {U : Nat → Bool} {X : TX} {s : Mem} (h : Rc U s X) : Spec l G d hX5_firstThatPushes [.inr 26] s (fun r t => s = t ∧ ((r = -1 ∧ ∀ j, j < 8 → psh X j = false) ∨ ∃ k, k < 8 ∧ r = nI k ∧ psh X k = true ∧ ∀ j, j < k → psh X j = false)) := by
  refine spec_of iX5_firstThatPushes (by decide +kernel) (Nat.le_of_ble_eq_true rfl) (vX5_firstThatPushes_0 ?_)
  refine down0 (A := fun k => (∀ j, j < k → psh X j = false) → AW l G d hX5_firstThatPushes 2 [some (.inr 26), some (.inl (nI k))] [] s (fun r t => s = t ∧ ((r = -1 ∧ ∀ j, j < 8 → psh X j = false) ∨ ∃ k, k < 8 ∧ r = nI k ∧ psh X k = true ∧ ∀ j, j < k → psh X j = false))) 8 ?_ ?_ (fun j hj => by omega)
  · intro h0
    exact vX5_firstThatPushes_2 ⟨fun _ => ⟨rfl, Or.inl ⟨rfl, h0⟩⟩, fun h => absurd c8t h⟩
  · intro k hk ih h0
    refine vX5_firstThatPushes_2 ⟨fun h => absurd h (c8f hk), fun _ => ?_⟩
    rw [cl8 hk, nI_1, h.2.1 k hk, h.1 k hk, ib0]
    have nxt : psh X k = false → ∀ j, j < k + 1 → psh X j = false := fun q j hj => by
      by_cases hjk : j = k
      · rw [hjk]; exact q
      · exact h0 j (by omega)
    refine ⟨vi8 hk, fun q => ih (nxt (by simp [psh, q])), fun q => ⟨vi8 hk, fun q2 => ih (nxt ?_), fun q2 => ⟨rfl, Or.inr ⟨k, hk, rfl, ?_, h0⟩⟩⟩⟩
    · have : ¬ X.1 k < 0 := by grind
      simp [psh, this]
    · have h1 : X.1 k < 0 := by grind
      have h2 : X.2.1 k = true := by simpa using q
      simp only [psh, h1, h2, decide_true, Bool.and_true]
theorem S_bear {l : Launch} {G : GG} {d : Nat} {B : Nat → Bool} {s : Mem} (h : ∀ j, j < 8 → s 31 j = if B j then 1 else 0) : Spec l G d hX5_ropesThatBear [.inr 26] s (fun r t => r = nI (cnB B 8) ∧ s = t) := by
  refine spec_of iX5_ropesThatBear (by decide +kernel) (Nat.le_of_ble_eq_true rfl) (vX5_ropesThatBear_0 ?_)
  refine down0 (A := fun k => AW l G d hX5_ropesThatBear 4 [some (.inr 26), some (.inl (nI (cnB B k))), some (.inl (nI k))] [] s _) 8 ?_ ?_
  · exact vX5_ropesThatBear_4 ⟨fun _ => ⟨rfl, rfl⟩, fun h => absurd c8t h⟩
  · intro k hk ih
    refine vX5_ropesThatBear_4 ⟨fun h => absurd h (c8f hk), fun _ => ?_⟩
    rw [cl8 hk, nI_1, nI_1, h k hk, ib0]
    refine ⟨vi8 hk, fun q => ?_, fun q => ?_⟩
    · simpa [cnB, q] using ih
    · have h2 : B k = true := by simpa using q
      simpa [cnB, h2] using ih
theorem S_spread {l : Launch} {G : GG} {d : Nat} {B : Nat → Bool} {s : Mem} {P : Nat → Int32} (e o : Int32) (h : ∀ j, j < 8 → s 31 j = if B j then 1 else 0) (hP : ∀ j, j < 8 → s 30 j = P j) : Spec l G d hX5_spread [.inr 26, .inl e, .inl o] s (fun _ t => (∀ j, j < 8 → t 30 j = (spS B e P o 8).1 j) ∧ ∀ q, q ≠ 30 → t q = s q) := by
  refine spec_of iX5_spread (by decide +kernel) (Nat.le_of_ble_eq_true rfl) (vX5_spread_0 ?_)
  have key : ∀ k, k ≤ 8 → ∀ m : Mem, (∀ j, j < 8 → m 30 j = (spS B e P o k).1 j) → (∀ q, q ≠ 30 → m q = s q) →
      AW l G d hX5_spread 5 [some (.inr 26), some (.inl e), some (.inl o), some (.inl (spS B e P o k).2), some (.inl (nI k))] [] m (fun _ t => (∀ j, j < 8 → t 30 j = (spS B e P o 8).1 j) ∧ ∀ q, q ≠ 30 → t q = s q) := by
    refine down 8 ?_ ?_
    · intro m h1 h2
      exact vX5_spread_5 ⟨fun _ => ⟨h1, h2⟩, fun h => absurd c8t h⟩
    · intro k hk ih m h1 h2
      refine vX5_spread_5 ⟨fun h => absurd h (c8f hk), fun _ => ?_⟩
      rw [cl8 hk, nI_1, h2 31 (by decide), h k hk, ib0, h1 k hk]
      refine ⟨vi8 hk, fun q => ?_, fun q => ⟨vi8 hk, vi8 hk, fun q2 => ?_, fun q2 => ⟨vi8 hk, vi8 hk, ?_⟩⟩⟩
      · have e1 : spS B e P o (k + 1) = spS B e P o k := by simp [spS, q]
        rw [e1] at ih
        exact ih m h1 h2
      · have hb : B k = true := by simpa using q
        have e1 : spS B e P o (k + 1) = (upd (spS B e P o k).1 k ((spS B e P o k).1 k + e), (spS B e P o k).2) := by simp [spS, hb, q2]
        rw [e1] at ih
        refine ih _ (fun j hj => ?_) (fun q hq => by rw [← h2 q hq]; exact stM_ne hq)
        show upd (m 30) k _ j = upd _ k _ j
        by_cases hjk : j = k
        · subst hjk; rw [upd_at, upd_at]
        · rw [upd_ne hjk, upd_ne hjk]; exact h1 j hj
      · have hb : B k = true := by simpa using q
        have e1 : spS B e P o (k + 1) = (upd (spS B e P o k).1 k ((spS B e P o k).1 k + e - 1), (spS B e P o k).2 + 1) := by
          simp only [spS, hb, if_true, if_neg q2]
        rw [e1] at ih
        have e2 : (wrM m 30 k ((spS B e P o k).1 k + e)) 30 k = (spS B e P o k).1 k + e := by
          show upd (m 30) k _ k = _
          exact upd_at
        rw [e2]
        refine ih _ (fun j hj => ?_) (fun q hq => ?_)
        · show upd (upd (m 30) k _) k _ j = upd _ k _ j
          by_cases hjk : j = k
          · subst hjk; rw [upd_at, upd_at]
          · rw [upd_ne hjk, upd_ne hjk, upd_ne hjk]; exact h1 j hj
        · rw [← h2 q hq]
          show stM (stM m 30 _) 30 _ q = m q
          rw [stM_ne hq, stM_ne hq]
  exact key 0 (by omega) s hP (fun _ _ => rfl)
theorem S_slacken {l : Launch} {G : GG} {d r : Nat} (hd : 1 ≤ d) (hr : r < 8) {U : Nat → Bool} {X : TX} {s : Mem} (h : Rc U s X) (hU : U r = true) : Spec l G d hX5_slacken [.inr 26, .inl (nI r)] s (fun _ t => Rc U t (slk X r) ∧ FrC s t) := by
  refine spec_of iX5_slacken (by decide +kernel) (Nat.le_of_ble_eq_true rfl) (vX5_slacken_0 ?_)
  rw [cl8 hr, nb0, nb1]
  have hB : ∀ j, j < 8 → (wrM (wrM (wrM s 30 r 0) 31 r 0) 32 r 1) 31 j = if slkB X.2.1 r j then 1 else 0 := by
    intro j hj
    show upd (s 31) r 0 j = _
    by_cases hjr : j = r
    · subst hjr; rw [upd_at]; simp [slkB]
    · rw [upd_ne hjr, h.2.1 j hj]; simp [slkB, hjr]
  have hP : ∀ j, j < 8 → (wrM (wrM (wrM s 30 r 0) 31 r 0) 32 r 1) 30 j = upd X.1 r 0 j := by
    intro j hj
    show upd (s 30) r 0 j = _
    by_cases hjr : j = r
    · subst hjr; rw [upd_at, upd_at]
    · rw [upd_ne hjr, upd_ne hjr]; exact h.1 j hj
  have hS : ∀ j, j < 8 → (wrM (wrM (wrM s 30 r 0) 31 r 0) 32 r 1) 32 j = if (U j && !slkB X.2.1 r j) then 1 else 0 := by
    intro j hj
    show upd (s 32) r 1 j = _
    by_cases hjr : j = r
    · subst hjr; rw [upd_at]; simp [slkB, hU]
    · rw [upd_ne hjr, h.2.2.1 j hj]; simp [slkB, hjr]
  have hF : FrC s (wrM (wrM (wrM s 30 r 0) 31 r 0) 32 r 1) := by
    intro q q1 q2 q3 q4
    show stM (stM (stM s 30 _) 31 _) 32 _ q = s q
    rw [stM_ne q4, stM_ne q3, stM_ne q2]
  have hL : (wrM (wrM (wrM s 30 r 0) 31 r 0) 32 r 1) 26 6 = X.2.2 := h.2.2.2
  generalize wrM (wrM (wrM s 30 r 0) 31 r 0) 32 r 1 = m at hB hP hS hF hL ⊢
  refine ⟨vi8 hr, vi8 hr, vi8 hr, vi8 hr, d - 1, _, by omega, S_bear hB, ?_⟩
  rintro _ _ ⟨rfl, rfl⟩
  have hcn : nI (cnB (slkB X.2.1 r) 8) = 0 ↔ cnB (slkB X.2.1 r) 8 = 0 := by
    have h8 := cnB_le (slkB X.2.1 r) 8
    rw [show (0 : Int32) = nI 0 from rfl]
    exact nI_eq (by omega) (by decide)
  rw [h.1 r hr]
  refine ⟨fun q => ⟨q, q, d - 1, _, by omega, S_spread _ _ hB hP, ?_⟩, fun q => ?_⟩
  · rintro _ t ⟨ht1, ht2⟩
    have hc : ¬ cnB (slkB X.2.1 r) 8 = 0 := fun z => q (hcn.mpr z)
    have e1 : slk X r = ((spS (slkB X.2.1 r) (X.1 r / nI (cnB (slkB X.2.1 r) 8)) (upd X.1 r 0) (X.1 r - X.1 r / nI (cnB (slkB X.2.1 r) 8) * nI (cnB (slkB X.2.1 r) 8)) 8).1, slkB X.2.1 r, X.2.2) := by
      unfold slk; rw [if_neg hc]
    rw [e1]
    refine ⟨⟨ht1, ?_, ?_, ?_⟩, ?_⟩
    · rw [ht2 31 (by decide)]; exact hB
    · rw [ht2 32 (by decide)]; exact hS
    · rw [ht2 26 (by decide)]; exact hL
    · intro q q1 q2 q3 q4
      rw [ht2 q q2]
      exact hF q q1 q2 q3 q4
  · have e1 : slk X r = (upd X.1 r 0, slkB X.2.1 r, X.1 r) := by
      unfold slk; rw [if_pos (hcn.mp q)]
    rw [e1]
    refine ⟨⟨hP, hB, hS, rfl⟩, ?_⟩
    intro q q1 q2 q3 q4
    show stM _ 26 _ q = s q
    rw [stM_ne q1]
    exact hF q q1 q2 q3 q4
theorem S_settle {l : Launch} {G : GG} {d : Nat} (hd : 2 ≤ d) (w : Int32) (s : Mem) : Spec l G d hX5_settle [.inr 26, .inl w] s (fun _ t => ∃ Y, FinR 8 (X0 (s 27) (s 28) (s 29) w) Y ∧ UZ (upB (s 28) (s 29)) Y ∧ Rc (upB (s 28) (s 29)) t Y ∧ FrC s t) := by
  refine spec_of iX5_settle (by decide +kernel) (Nat.le_of_ble_eq_true rfl) (vX5_settle_0 ?_)
  refine ⟨d - 1, _, by omega, S_hang (by omega) w s, ?_⟩
  rintro _ m ⟨hR, hF⟩
  have key : ∀ k, k ≤ 8 → ∀ (m : Mem) (X : TX), Rc (upB (s 28) (s 29)) m X → UZ (upB (s 28) (s 29)) X → FrC s m → (∀ Y, FinR (8 - k) X Y → FinR 8 (X0 (s 27) (s 28) (s 29) w) Y) →
      AW l G d hX5_settle 7 [some (.inr 26), some (.inl w), some (.inl (nI k)), none] [] m (fun _ t => ∃ Y, FinR 8 (X0 (s 27) (s 28) (s 29) w) Y ∧ UZ (upB (s 28) (s 29)) Y ∧ Rc (upB (s 28) (s 29)) t Y ∧ FrC s t) := by
    refine down 8 ?_ ?_
    · intro m X h1 h2 h3 h4
      exact vX5_settle_7 ⟨fun _ => ⟨X, h4 X rfl, h2, h1, h3⟩, fun h => absurd c8t h⟩
    · intro k hk ih m X h1 h2 h3 h4
      refine vX5_settle_7 ⟨fun h => absurd h (c8f hk), fun _ => ⟨d - 1, _, by omega, S_first h1, ?_⟩⟩
      rintro r1 _ ⟨rfl, hr⟩
      rcases hr with ⟨rfl, hn⟩ | ⟨j, hj, rfl, hp, hb⟩
      · exact ⟨fun z => absurd rfl z, fun _ => ⟨X, h4 X (finR_stop hn _), h2, h1, h3⟩⟩
      · have hne : ¬ nI j = (-1 : Int32) := by
          intro z
          have := nI_pos (n := j) (by omega)
          rw [z] at this
          exact this (by decide)
        refine ⟨fun _ => ⟨d - 1, _, by omega, S_slacken (by omega) hj h1 (h2.1 j (by simp only [psh, Bool.and_eq_true] at hp; exact hp.1)), ?_⟩, fun z => absurd z hne⟩
        rintro _ t ⟨hR1, hF1⟩
        rw [nI_1]
        refine aw_weak (L := [some (.inr 26), some (.inl w), some (.inl (nI (k + 1))), none]) ⟨rfl, rfl, rfl, trivial⟩ (ih t (slk X j) hR1 (UZ_slk h2) (fun q q1 q2 q3 q4 => (hF1 q q1 q2 q3 q4).trans (h3 q q1 q2 q3 q4)) ?_)
        intro Y hY
        refine h4 Y ?_
        rw [show 8 - k = (8 - (k + 1)) + 1 by omega]
        exact Or.inr ⟨j, hj, hp, hb, hY⟩
  exact key 0 (by omega) m _ hR UZ_0 hF (fun Y hY => hY)
