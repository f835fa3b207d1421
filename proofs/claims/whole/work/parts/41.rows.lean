/-! ===== rows of towns: what they are ===== -/
def RdOk (R : Shw) : Prop := R 0 0 ≤ 8 ∧ (∀ i, R 1 i ≤ 10000) ∧ (∀ i, R 2 i ≤ 29) ∧ ∀ i, R 3 i ≤ 29
def MOk (M : Nat → Nat → Nat) : Prop := fB M 25344 ∧ ∀ a b k, k < 8 → M a b ≤ M a k + M k b
def mxN (a b : Nat) : Nat := if a < b then b else a
def nxN (R : Shw) (M : Nat → Nat → Nat) (t : Nat) (L : List Nat) (h : Nat) : Nat := match L with
  | [] => R 2 t
  | x :: _ => mxN (h + (M x t + 9) / 10) (R 2 t)
def ngN (R : Shw) (M : Nat → Nat → Nat) : List Nat → Nat
  | [] => 0
  | t :: L => nxN R M t L (ngN R M L)
def fitN (R : Shw) (M : Nat → Nat → Nat) (t : Nat) (L : List Nat) (h : Nat) : Bool := match L with
  | [] => true
  | x :: _ => decide (M x t < 1000000 ∧ mxN (h + (M x t + 9) / 10) (R 2 t) ≤ R 3 t)
def avN (R : Shw) (M : Nat → Nat → Nat) (t : Nat) (L : List Nat) : Bool := nin L t && fitN R M t L (ngN R M L)
def tkN (R : Shw) : List Nat → Nat
  | [] => 0
  | t :: L => tkN R L + R 1 t
def bet (R : Shw) (p q : Nat) (b : List Nat) : Bool := decide (b.length < p ∨ (p = b.length ∧ tkN R b < q))
def krN (R : Shw) (L b : List Nat) : List Nat := if bet R L.length (tkN R L) b = true then L else b
def goN (R : Shw) (M : Nat → Nat → Nat) : Nat → List Nat → List Nat → List Nat
  | 0, _, b => b
  | m + 1, L, b => fup (fun t x => if avN R M t L = true then goN R M m (t :: L) (krN R (t :: L) x) else x) 0 (R 0 0) b
theorem tkN_le {R : Shw} (hR : RdOk R) : ∀ L, tkN R L ≤ 10000 * L.length
  | [] => by simp [tkN]
  | t :: L => by
    have h1 := tkN_le hR L
    have h2 := hR.2.1 t
    simp only [tkN, List.length_cons]
    omega
theorem ng_le {R : Shw} {M : Nat → Nat → Nat} (hR : RdOk R) {t : Nat} {L : List Nat} (h : avN R M t L = true) : ngN R M (t :: L) ≤ 29 := by
  cases L with
  | nil => exact hR.2.2.1 t
  | cons x K =>
    have h1 := (Bool.and_eq_true _ _ ▸ h : _ ∧ _).2
    have h2 := (of_decide_eq_true h1).2
    exact Nat.le_trans h2 (hR.2.2.2 t)
theorem av_n {R : Shw} {M : Nat → Nat → Nat} {t : Nat} {L : List Nat} (h : avN R M t L = true) : t ∉ L ∧ fitN R M t L (ngN R M L) = true := by
  unfold avN at h
  rw [Bool.and_eq_true] at h
  exact ⟨of_decide_eq_true h.1, h.2⟩
theorem av_i {R : Shw} {M : Nat → Nat → Nat} {t : Nat} {L : List Nat} (h1 : t ∉ L) (h2 : fitN R M t L (ngN R M L) = true) : avN R M t L = true := by
  unfold avN
  rw [Bool.and_eq_true]
  exact ⟨decide_eq_true h1, h2⟩
theorem av_mono {R : Shw} {M : Nat → Nat → Nat} (hM : MOk M) {t t' : Nat} {L : List Nat} (ht : t < 8) (h : avN R M t L = true) (h' : avN R M t' (t :: L) = true) : avN R M t' L = true ∧ t' ≠ t := by
  obtain ⟨a1, a2⟩ := av_n h
  obtain ⟨b1, b2⟩ := av_n h'
  have c1 : t' ≠ t := fun q => b1 (by rw [q]; exact List.mem_cons_self)
  have c2 : t' ∉ L := fun q => b1 (List.mem_cons_of_mem _ q)
  refine ⟨av_i c2 ?_, c1⟩
  cases L with
  | nil => rfl
  | cons x K =>
    obtain ⟨p1, p2⟩ := of_decide_eq_true a2
    obtain ⟨q1, q2⟩ := of_decide_eq_true b2
    refine decide_eq_true ?_
    have t1 := hM.2 x t' t ht
    have m1 := hM.1 x t
    have m2 := hM.1 t t'
    have e : ngN R M (t :: x :: K) = mxN (ngN R M (x :: K) + (M x t + 9) / 10) (R 2 t) := rfl
    rw [e] at q2
    generalize ngN R M (x :: K) = h0 at *
    simp only [mxN] at *
    refine ⟨by omega, ?_⟩
    split at q2 <;> split at q2 <;> split <;> omega
theorem SF_mono {p p' : Nat → Bool} {f : Nat → Nat} : ∀ {n : Nat}, (∀ i, i < n → p' i = true → p i = true) → SF p' f n ≤ SF p f n
  | 0, _ => Nat.le_refl _
  | n + 1, h => by
    have ih := SF_mono (f := f) (n := n) (fun i hi => h i (by omega))
    have h1 := h n (by omega)
    simp only [SF]
    cases e : p' n with
    | false => simp; split <;> omega
    | true =>
      rw [h1 e]
      simp
      exact ih
theorem SF_sub {p p' : Nat → Bool} {f : Nat → Nat} {t : Nat} (ht : p t = true) : ∀ {n : Nat}, (∀ i, i < n → p' i = true → p i = true ∧ i ≠ t) → t < n → SF p' f n + f t ≤ SF p f n
  | 0, _, h => absurd h (Nat.not_lt_zero t)
  | n + 1, h, hn => by
    by_cases e : t = n
    · subst e
      have h1 := SF_mono (f := f) (n := t) (p := p) (p' := p') (fun i hi q => (h i (by omega) q).1)
      have h2 : p' t = false := by
        cases e : p' t with
        | false => rfl
        | true => exact absurd rfl (h t (by omega) e).2
      simp only [SF, h2, ht]
      simp
      exact h1
    · have ih := SF_sub (f := f) ht (n := n) (p' := p') (fun i hi => h i (by omega)) (by omega)
      have h1 := h n (by omega)
      simp only [SF]
      cases e2 : p' n with
      | false => simp; split <;> omega
      | true =>
        rw [(h1 e2).1]
        simp
        omega
def U1N (R : Shw) (M : Nat → Nat → Nat) (L : List Nat) : Nat := L.length + SF (fun t => avN R M t L) (fun _ => 1) (R 0 0)
def U2N (R : Shw) (M : Nat → Nat → Nat) (L : List Nat) : Nat := tkN R L + SF (fun t => avN R M t L) (R 1) (R 0 0)
theorem U_mono {R : Shw} {M : Nat → Nat → Nat} (hR : RdOk R) (hM : MOk M) {t : Nat} {L : List Nat} (ht : t < R 0 0) (h : avN R M t L = true) : U1N R M (t :: L) ≤ U1N R M L ∧ U2N R M (t :: L) ≤ U2N R M L := by
  have h0 := hR.1
  have k1 := SF_sub (p := fun t => avN R M t L) (p' := fun t' => avN R M t' (t :: L)) (f := fun _ => 1) (t := t) h (n := R 0 0) (fun i _ q => av_mono hM (by omega) h q) ht
  have k2 := SF_sub (p := fun t => avN R M t L) (p' := fun t' => avN R M t' (t :: L)) (f := R 1) (t := t) h (n := R 0 0) (fun i _ q => av_mono hM (by omega) h q) ht
  unfold U1N U2N
  simp only [tkN, List.length_cons]
  omega
theorem bet_mono {R : Shw} {p q p' q' : Nat} {b : List Nat} (h1 : p' ≤ p) (h2 : q' ≤ q) (h : bet R p q b = false) : bet R p' q' b = false := by
  simp only [bet, decide_eq_false_iff_not] at *
  omega
theorem go_prune {R : Shw} {M : Nat → Nat → Nat} (hR : RdOk R) (hM : MOk M) {b : List Nat} : ∀ (m : Nat) (L : List Nat), bet R (U1N R M L) (U2N R M L) b = false → krN R L b = b ∧ goN R M m L b = b
  | 0, L, h => by
    refine ⟨?_, rfl⟩
    have := bet_mono (p' := L.length) (q' := tkN R L) (by unfold U1N; omega) (by unfold U2N; omega) h
    unfold krN
    rw [this]
    rfl
  | m + 1, L, h => by
    refine ⟨?_, ?_⟩
    · have := bet_mono (p' := L.length) (q' := tkN R L) (by unfold U1N; omega) (by unfold U2N; omega) h
      unfold krN
      rw [this]
      rfl
    · show fup _ 0 (R 0 0) b = b
      refine fup_id _ _ (fun i _ hi => ?_)
      show (if avN R M i L = true then goN R M m (i :: L) (krN R (i :: L) b) else b) = b
      by_cases hb : avN R M i L = true
      · rw [if_pos hb]
        obtain ⟨l1, l2⟩ := U_mono hR hM (by omega) hb
        obtain ⟨k1, k2⟩ := go_prune hR hM m (i :: L) (bet_mono l1 l2 h)
        rw [k1, k2]
      · rw [if_neg hb]
theorem SF_none {p : Nat → Bool} {f : Nat → Nat} : ∀ {n : Nat}, (∀ i, i < n → p i = false) → SF p f n = 0
  | 0, _ => rfl
  | n + 1, h => by
    simp only [SF]
    rw [SF_none (fun i hi => h i (by omega)), h n (by omega)]
    rfl
theorem U_full {R : Shw} {M : Nat → Nat → Nat} (hR : RdOk R) {L : List Nat} (hv : VdN (R 0 0) L) (hl : L.length = 8) : U1N R M L = L.length ∧ U2N R M L = tkN R L := by
  have h1 := VdN_len hv
  have h0 := hR.1
  have h2 : ∀ i, i < R 0 0 → avN R M i L = false := by
    intro i hi
    have := VdN_full hv (by omega) hi
    unfold avN nin
    rw [decide_eq_false (fun q => q this)]
    rfl
  unfold U1N U2N
  rw [SF_none h2, SF_none h2]
  exact ⟨rfl, rfl⟩
def NgF (R : Shw) (M : Nat → Nat → Nat) (f : Nat → Int32) : List Nat → Prop
  | [] => True
  | t :: L => f L.length = nI (ngN R M (t :: L)) ∧ NgF R M f L
theorem NgF_congr {R : Shw} {M : Nat → Nat → Nat} {f g : Nat → Int32} : ∀ {L : List Nat}, (∀ i, i < L.length → g i = f i) → NgF R M f L → NgF R M g L
  | [], _, _ => trivial
  | a :: L, h, q => ⟨by rw [h L.length (by simp)]; exact q.1, NgF_congr (fun i hi => h i (by simp only [List.length_cons]; omega)) q.2⟩
theorem NgF_drop {R : Shw} {M : Nat → Nat → Nat} {f : Nat → Int32} : ∀ {L : List Nat} (j : Nat), NgF R M f L → NgF R M f (L.drop j)
  | [], j, _ => by simp only [List.drop_nil]; trivial
  | a :: L, 0, h => h
  | a :: L, j + 1, h => by
    rw [List.drop_succ_cons]
    exact NgF_drop j h.2
theorem NgF_nx {R : Shw} {M : Nat → Nat → Nat} {f : Nat → Int32} {L : List Nat} (h : NgF R M f L) {k : Nat} (hk : k < L.length) : f k = nI (ngN R M (sfxN L (k + 1))) := by
  obtain ⟨a, h1, h2, h3⟩ := sfx_succ hk
  have h4 : NgF R M f (sfxN L (k + 1)) := NgF_drop _ h
  rw [h3] at h4 ⊢
  have h5 := h4.1
  rw [sfx_len (by omega)] at h5
  exact h5
def nOk (R : Shw) (M : Nat → Nat → Nat) (L : List Nat) : Prop := ngN R M L ≤ 29
theorem kr_vd {R : Shw} {n : Nat} {L b : List Nat} (h1 : VdN n L) (h2 : VdN n b) : VdN n (krN R L b) := by
  unfold krN
  split
  · exact h1
  · exact h2
theorem go_vd {R : Shw} {M : Nat → Nat → Nat} : ∀ (m : Nat) (L b : List Nat), VdN (R 0 0) L → VdN (R 0 0) b → VdN (R 0 0) (goN R M m L b)
  | 0, _, _, _, h => h
  | m + 1, L, b, hL, hb => by
    have key : ∀ (k c : Nat) (x : List Nat), c + k ≤ R 0 0 → VdN (R 0 0) x → VdN (R 0 0) (fup (fun t x => if avN R M t L = true then goN R M m (t :: L) (krN R (t :: L) x) else x) c k x) := by
      intro k
      induction k with
      | zero => intro c x _ hx; exact hx
      | succ k ih =>
        intro c x hc hx
        refine ih (c + 1) _ (by omega) ?_
        show VdN (R 0 0) (if avN R M c L = true then goN R M m (c :: L) (krN R (c :: L) x) else x)
        split
        · rename_i hv
          have h1 := VdN_cons hL (by omega) (av_n hv).1
          exact go_vd m (c :: L) _ h1 (kr_vd h1 hx)
        · exact hx
    exact key (R 0 0) 0 b (by omega) hb
def rtN (R : Shw) (M : Nat → Nat → Nat) : List Nat := goN R M 8 [] []
theorem rt_len {R : Shw} {M : Nat → Nat → Nat} (hR : RdOk R) : (rtN R M).length ≤ 8 := Nat.le_trans (VdN_len (go_vd (M := M) 8 [] [] VdN_nil VdN_nil)) hR.1
