/-! ===== orders of acts: what they are, told by lists (the latest act first) ===== -/
abbrev Shw : Type := Nat → Nat → Nat
def ShOk (D : Shw) : Prop := D 0 0 ≤ 8 ∧ (∀ i, D 1 i ≤ 60) ∧ (∀ i, D 2 i < 4) ∧ (∀ i, D 3 i ≤ 99) ∧ (∀ i, D 4 i < 1024) ∧ (∀ i, D 5 i < 256) ∧ (∀ i, D 6 i ≤ 3) ∧ ∀ i, D 7 i ≤ 1
def cbN (x y : Nat) : Nat := ctB (x ^^^ y).testBit 16
theorem cbN_le (x y : Nat) : cbN x y ≤ 16 := ctB_le 16
def rgN (D : Shw) : List Nat → Nat
  | [] => 0
  | a :: L => if D 2 a = 3 then rgN D L else D 5 a
def psN (D : Shw) : List Nat → Nat
  | [] => 0
  | a :: L => if D 2 a = 3 then psN D L + D 1 a else 0
def gpN (D : Shw) : List Nat → Nat
  | [] => 0
  | a :: L => if D 2 a = 3 then gpN D L else gpN D L + (2 * cbN (rgN D L) (D 5 a) - psN D L)
def wtN (D : Shw) : List Nat → Nat
  | [] => 0
  | a :: L => wtN D L + D 3 a * (L.length + 1)
theorem rgN_lt {D : Shw} (hD : ShOk D) : ∀ L, rgN D L < 256
  | [] => by simp [rgN]
  | a :: L => by
    have h1 := rgN_lt hD L
    have h2 := hD.2.2.2.2.2.1 a
    simp only [rgN]
    split <;> assumption
theorem psN_le {D : Shw} (hD : ShOk D) : ∀ L, psN D L ≤ 60 * L.length
  | [] => by simp [psN]
  | a :: L => by
    have h1 := psN_le hD L
    have h2 := hD.2.1 a
    simp only [psN, List.length_cons]
    split <;> omega
theorem gpN_le {D : Shw} : ∀ L, gpN D L ≤ 32 * L.length
  | [] => by simp [gpN]
  | a :: L => by
    have h1 := gpN_le (D := D) L
    have h2 := cbN_le (rgN D L) (D 5 a)
    simp only [gpN, List.length_cons]
    split <;> omega
theorem wtN_le {D : Shw} (hD : ShOk D) : ∀ L : List Nat, L.length ≤ 8 → wtN D L ≤ 800 * L.length
  | [], _ => by simp [wtN]
  | a :: L, h => by
    simp only [List.length_cons] at h
    have h1 := wtN_le hD L (by omega)
    have h2 : D 3 a * (L.length + 1) ≤ 99 * 8 := Nat.mul_le_mul (hD.2.2.2.1 a) h
    simp only [wtN, List.length_cons]
    omega
def brP2 (D : Shw) (a : Nat) (L : List Nat) : Prop := ∃ j x q, L[j]? = some x ∧ q < 10 ∧ (D 4 a).testBit q = true ∧ (D 4 x).testBit q = true ∧ j < D 6 q
def brP3 (D : Shw) (a : Nat) (L : List Nat) : Prop := ∃ x, L[0]? = some x ∧ D 7 (D 2 x * 4 + D 2 a) = 1
noncomputable def brkN (D : Shw) (a : Nat) (L : List Nat) : Nat := by
  classical
  exact if ¬ a < D 0 0 ∨ a ∈ L then 1 else if brP2 D a L then 2 else if brP3 D a L then 3 else 0
theorem brk_1 {D : Shw} {a : Nat} {L : List Nat} (h : ¬ a < D 0 0 ∨ a ∈ L) : brkN D a L = 1 := by
  unfold brkN
  rw [if_pos h]
theorem brk_n1 {D : Shw} {a : Nat} {L : List Nat} (h1 : a < D 0 0) (h2 : a ∉ L) : ¬ (¬ a < D 0 0 ∨ a ∈ L) := fun q => q.elim (fun z => z h1) h2
theorem brk_2 {D : Shw} {a : Nat} {L : List Nat} (h1 : a < D 0 0) (h2 : a ∉ L) (h : brP2 D a L) : brkN D a L = 2 := by
  unfold brkN
  rw [if_neg (brk_n1 h1 h2), if_pos h]
theorem brk_3 {D : Shw} {a : Nat} {L : List Nat} (h1 : a < D 0 0) (h2 : a ∉ L) (h3 : ¬ brP2 D a L) (h : brP3 D a L) : brkN D a L = 3 := by
  unfold brkN
  rw [if_neg (brk_n1 h1 h2), if_neg h3, if_pos h]
theorem brk_0 {D : Shw} {a : Nat} {L : List Nat} (h1 : a < D 0 0) (h2 : a ∉ L) (h3 : ¬ brP2 D a L) (h : ¬ brP3 D a L) : brkN D a L = 0 := by
  unfold brkN
  rw [if_neg (brk_n1 h1 h2), if_neg h3, if_neg h]
theorem brk_ok {D : Shw} {a : Nat} {L : List Nat} (h : brkN D a L = 0) : a < D 0 0 ∧ a ∉ L := by
  by_cases h1 : ¬ a < D 0 0 ∨ a ∈ L
  · rw [brk_1 h1] at h
    cases h
  · exact ⟨Classical.not_not.mp (fun q => h1 (Or.inl q)), fun q => h1 (Or.inr q)⟩
theorem brk_le {D : Shw} {a : Nat} {L : List Nat} : brkN D a L ≤ 3 := by
  by_cases h1 : ¬ a < D 0 0 ∨ a ∈ L
  · rw [brk_1 h1]; decide
  · have h2 : a < D 0 0 := Classical.not_not.mp (fun q => h1 (Or.inl q))
    have h3 : a ∉ L := fun q => h1 (Or.inr q)
    by_cases h4 : brP2 D a L
    · rw [brk_2 h2 h3 h4]; decide
    · by_cases h5 : brP3 D a L
      · rw [brk_3 h2 h3 h4 h5]; decide
      · rw [brk_0 h2 h3 h4 h5]; decide
abbrev BBt : Type := Option (Nat × Nat × List Nat)
def isBt (g w : Nat) : BBt → Bool
  | none => true
  | some (g', w', _) => decide (g < g' ∨ (g = g' ∧ w' < w))
def kpN (D : Shw) (L : List Nat) (b : BBt) : BBt := if isBt (gpN D L) (wtN D L) b = true then some (gpN D L, wtN D L, L) else b
def fup {α : Type} (F : Nat → α → α) : Nat → Nat → α → α
  | _, 0, b => b
  | c, k + 1, b => fup F (c + 1) k (F c b)
theorem fup_id {α : Type} {F : Nat → α → α} {b : α} : ∀ (k c : Nat), (∀ i, c ≤ i → i < c + k → F i b = b) → fup F c k b = b
  | 0, _, _ => rfl
  | k + 1, c, h => by
    show fup F (c + 1) k (F c b) = b
    rw [h c (Nat.le_refl _) (by omega)]
    exact fup_id k (c + 1) (fun i h1 h2 => h i (by omega) (by omega))
noncomputable def skN (D : Shw) : Nat → List Nat → BBt → BBt
  | 0, L, b => kpN D L b
  | m + 1, L, b => fup (fun c x => if brkN D c L = 0 then skN D m (c :: L) x else x) 0 (D 0 0) b
def VdN (n : Nat) (L : List Nat) : Prop := L.Nodup ∧ ∀ x ∈ L, x < n
theorem VdN_cons {n c : Nat} {L : List Nat} (h : VdN n L) (hc : c < n) (hn : c ∉ L) : VdN n (c :: L) := by
  refine ⟨List.nodup_cons.mpr ⟨hn, h.1⟩, fun x hx => ?_⟩
  rcases List.mem_cons.mp hx with rfl | hx
  · exact hc
  · exact h.2 x hx
theorem VdN_nil {n : Nat} : VdN n [] := ⟨List.nodup_nil, fun x hx => by cases hx⟩
theorem pgh : ∀ (n : Nat) (L : List Nat), L.Nodup → (∀ x ∈ L, x < n) → L.length ≤ n
  | 0, L, _, h => by
    cases L with
    | nil => exact Nat.le_refl _
    | cons a t => exact absurd (h a List.mem_cons_self) (Nat.not_lt_zero a)
  | n + 1, L, hn, h => by
    by_cases hm : n ∈ L
    · have h1 := pgh n (L.erase n) (hn.erase n) (fun x hx => by
        have h2 := hn.mem_erase_iff.mp hx
        have h3 := h x h2.2
        have h4 := h2.1
        omega)
      have h2 := List.length_erase_of_mem hm
      have h3 : 0 < L.length := List.length_pos_of_mem hm
      omega
    · have h1 := pgh n L hn (fun x hx => by
        have h3 := h x hx
        have h4 : x ≠ n := fun q => hm (q ▸ hx)
        omega)
      omega
theorem VdN_len {n : Nat} {L : List Nat} (h : VdN n L) : L.length ≤ n := pgh n L h.1 h.2
theorem VdN_full {n : Nat} {L : List Nat} (h : VdN n L) (hl : L.length = n) {k : Nat} (hk : k < n) : k ∈ L := by
  by_cases hm : k ∈ L
  · exact hm
  · have := VdN_len (VdN_cons h hk hm)
    simp only [List.length_cons] at this
    omega
/-! ===== the least that gaps come to, the most that worth comes to ===== -/
def lcN (D : Shw) (a : Nat) : Nat → Nat
  | 0 => cbN 0 (D 5 a)
  | k + 1 => if k ≠ a ∧ D 2 k ≠ 3 then (if cbN (D 5 k) (D 5 a) < lcN D a k then cbN (D 5 k) (D 5 a) else lcN D a k) else lcN D a k
theorem lcN_le0 {D : Shw} {a : Nat} : ∀ k, lcN D a k ≤ cbN 0 (D 5 a)
  | 0 => Nat.le_refl _
  | k + 1 => by
    have := lcN_le0 (D := D) (a := a) k
    simp only [lcN]
    split
    · split <;> omega
    · exact this
theorem lcN_leo {D : Shw} {a o : Nat} (h1 : o ≠ a) (h2 : D 2 o ≠ 3) : ∀ k, o < k → lcN D a k ≤ cbN (D 5 o) (D 5 a)
  | 0, h => absurd h (Nat.not_lt_zero o)
  | k + 1, h => by
    simp only [lcN]
    by_cases hk : o = k
    · subst hk
      rw [if_pos ⟨h1, h2⟩]
      split <;> omega
    · have := lcN_leo (D := D) h1 h2 k (by omega)
      split
      · split <;> omega
      · exact this
theorem rgN_cases {D : Shw} : ∀ L, rgN D L = 0 ∨ ∃ o, o ∈ L ∧ D 2 o ≠ 3 ∧ rgN D L = D 5 o
  | [] => Or.inl rfl
  | a :: L => by
    simp only [rgN]
    by_cases h : D 2 a = 3
    · rw [if_pos h]
      rcases rgN_cases (D := D) L with h1 | ⟨o, h1, h2, h3⟩
      · exact Or.inl h1
      · exact Or.inr ⟨o, List.mem_cons_of_mem _ h1, h2, h3⟩
    · rw [if_neg h]
      exact Or.inr ⟨a, List.mem_cons_self, h, rfl⟩
theorem lcN_rg {D : Shw} {c : Nat} {L : List Nat} (hv : VdN (D 0 0) L) (hn : c ∉ L) : lcN D c (D 0 0) ≤ cbN (rgN D L) (D 5 c) := by
  rcases rgN_cases (D := D) L with h | ⟨o, h1, h2, h3⟩
  · rw [h]
    exact lcN_le0 _
  · rw [h3]
    exact lcN_leo (o := o) (a := c) (fun q => hn (by rw [← q]; exact h1)) h2 _ (hv.2 o h1)
def vvN (D : Shw) (k : Nat) : Int := if D 2 k = 3 then -(D 1 k : Int) else 2 * (lcN D k (D 0 0) : Int)
def lsN (D : Shw) (L : List Nat) : Nat → Int
  | 0 => -(psN D L : Int)
  | k + 1 => lsN D L k + (if k ∈ L then 0 else vvN D k)
def lbN (D : Shw) (L : List Nat) : Nat := gpN D L + (lsN D L (D 0 0)).toNat
theorem ls_cons {D : Shw} {c : Nat} {L : List Nat} (hn : c ∉ L) : ∀ k, lsN D (c :: L) k = lsN D L k + psN D L - psN D (c :: L) - (if c < k then vvN D c else 0)
  | 0 => by
    rw [if_neg (by omega)]
    simp only [lsN]
    omega
  | k + 1 => by
    have ih := ls_cons (D := D) hn k
    simp only [lsN]
    rw [ih]
    by_cases hk : k = c
    · subst hk
      rw [if_pos List.mem_cons_self, if_neg hn, if_neg (by omega), if_pos (by omega)]
      omega
    · have e1 : (k ∈ c :: L) ↔ k ∈ L := by simp [hk]
      by_cases h1 : k ∈ L
      · rw [if_pos (e1.mpr h1), if_pos h1]
        by_cases h2 : c < k
        · rw [if_pos h2, if_pos (by omega)]
          omega
        · rw [if_neg h2, if_neg (by omega)]
          omega
      · rw [if_neg (fun q => h1 (e1.mp q)), if_neg h1]
        by_cases h2 : c < k
        · rw [if_pos h2, if_pos (by omega)]
          omega
        · rw [if_neg h2, if_neg (by omega)]
          omega
theorem lb_mono {D : Shw} {c : Nat} {L : List Nat} (hv : VdN (D 0 0) L) (hc : c < D 0 0) (hn : c ∉ L) : lbN D L ≤ lbN D (c :: L) := by
  have e := ls_cons (D := D) hn (D 0 0)
  rw [if_pos hc] at e
  unfold lbN
  rw [e]
  generalize lsN D L (D 0 0) = S
  by_cases h3 : D 2 c = 3
  · have e1 : gpN D (c :: L) = gpN D L := by simp only [gpN, if_pos h3]
    have e2 : psN D (c :: L) = psN D L + D 1 c := by simp only [psN, if_pos h3]
    have e3 : vvN D c = -(D 1 c : Int) := by simp only [vvN, if_pos h3]
    rw [e1, e2, e3]
    omega
  · have h4 := lcN_rg hv hn
    have e1 : gpN D (c :: L) = gpN D L + (2 * cbN (rgN D L) (D 5 c) - psN D L) := by simp only [gpN, if_neg h3]
    have e2 : psN D (c :: L) = 0 := by simp only [psN, if_neg h3]
    have e3 : vvN D c = 2 * (lcN D c (D 0 0) : Int) := by simp only [vvN, if_neg h3]
    rw [e1, e2, e3]
    generalize lcN D c (D 0 0) = q at *
    generalize cbN (rgN D L) (D 5 c) = r at *
    omega
theorem ls_full {D : Shw} {L : List Nat} (hv : VdN (D 0 0) L) (hl : L.length = D 0 0) : ∀ k, k ≤ D 0 0 → lsN D L k = -(psN D L : Int)
  | 0, _ => rfl
  | k + 1, h => by
    simp only [lsN]
    rw [ls_full hv hl k (by omega), if_pos (VdN_full hv hl (by omega))]
    omega
theorem lb_full {D : Shw} {L : List Nat} (hv : VdN (D 0 0) L) (hl : L.length = D 0 0) : lbN D L = gpN D L := by
  unfold lbN
  rw [ls_full hv hl _ (Nat.le_refl _)]
  omega
def wsN (D : Shw) : Nat → List Nat → Nat
  | _, [] => 0
  | p, x :: xs => D 3 x * (p + 1) + wsN D (p + 1) xs
def nin (L : List Nat) (x : Nat) : Bool := decide (x ∉ L)
def ubN (D : Shw) (Z L : List Nat) : Nat := wtN D L + wsN D L.length (Z.filter (nin L))
def ZOk (D : Shw) (n : Nat) (Z : List Nat) : Prop := Z.Nodup ∧ (∀ x, x ∈ Z ↔ x < n) ∧ Z.Pairwise (fun x y => D 3 x ≤ D 3 y)
theorem ws_erase {D : Shw} {a : Nat} : ∀ (Z : List Nat) (p : Nat), Z.Pairwise (fun x y => D 3 x ≤ D 3 y) → a ∈ Z → D 3 a * (p + 1) + wsN D (p + 1) (Z.erase a) ≤ wsN D p Z
  | [], _, _, h => by cases h
  | x :: xs, p, hs, h => by
    by_cases hx : x = a
    · subst hx
      rw [List.erase_cons_head]
      exact Nat.le_refl _
    · have hm : a ∈ xs := by
        rcases List.mem_cons.mp h with q | q
        · exact absurd q.symm hx
        · exact q
      have hp := List.pairwise_cons.mp hs
      have h1 := hp.1 a hm
      have ih := ws_erase xs (p + 1) hp.2 hm
      rw [List.erase_cons_tail (by simpa using hx)]
      simp only [wsN]
      rw [Nat.mul_succ (D 3 x) (p + 1)]
      rw [Nat.mul_succ (D 3 a) (p + 1)] at ih
      omega
theorem ub_mono {D : Shw} {n c : Nat} {Z L : List Nat} (hZ : ZOk D n Z) (hc : c < n) (hn : c ∉ L) : ubN D Z (c :: L) ≤ ubN D Z L := by
  have e : Z.filter (nin (c :: L)) = (Z.filter (nin L)).erase c := by
    rw [List.Nodup.erase_eq_filter (hZ.1.filter _), List.filter_filter]
    congr 1
    funext x
    simp only [nin]
    by_cases h1 : x = c <;> by_cases h2 : x ∈ L <;> simp [h1, h2]
  have hm : c ∈ Z.filter (nin L) := List.mem_filter.mpr ⟨(hZ.2.1 c).mpr hc, by simp [nin, hn]⟩
  have := ws_erase (D := D) _ L.length (hZ.2.2.filter (nin L)) hm
  unfold ubN
  rw [e]
  simp only [wtN, List.length_cons]
  omega
theorem ub_full {D : Shw} {n : Nat} {Z L : List Nat} (hZ : ZOk D n Z) (hv : VdN n L) (hl : L.length = n) : ubN D Z L = wtN D L := by
  have e : Z.filter (nin L) = [] := List.filter_eq_nil_iff.mpr (fun x hx => by
    have := VdN_full hv hl ((hZ.2.1 x).mp hx)
    simp [nin, this])
  unfold ubN
  rw [e]
  rfl
def cwN (D : Shw) (Z L : List Nat) : BBt → Bool
  | none => true
  | some (g, w, _) => decide (lbN D L < g ∨ (lbN D L = g ∧ w < ubN D Z L))
theorem cw_full {D : Shw} {Z L : List Nat} (hZ : ZOk D (D 0 0) Z) (hv : VdN (D 0 0) L) (hl : L.length = D 0 0) {b : BBt} : cwN D Z L b = isBt (gpN D L) (wtN D L) b := by
  match b with
  | none => rfl
  | some (g, w, K) =>
    simp only [cwN, isBt]
    rw [lb_full hv hl, ub_full hZ hv hl]
theorem sk_prune {D : Shw} {Z : List Nat} (hZ : ZOk D (D 0 0) Z) {b : BBt} : ∀ (m : Nat) (L : List Nat), VdN (D 0 0) L → L.length + m = D 0 0 → cwN D Z L b = false → skN D m L b = b
  | 0, L, hv, hl, h => by
    show kpN D L b = b
    unfold kpN
    rw [cw_full hZ hv hl] at h
    rw [h]
    rfl
  | m + 1, L, hv, hl, h => by
    show fup _ 0 (D 0 0) b = b
    refine fup_id _ _ (fun i _ hi => ?_)
    show (if brkN D i L = 0 then skN D m (i :: L) b else b) = b
    by_cases hb : brkN D i L = 0
    · rw [if_pos hb]
      obtain ⟨h1, h2⟩ := brk_ok hb
      refine sk_prune hZ m (i :: L) (VdN_cons hv h1 h2) (by simp only [List.length_cons]; omega) ?_
      match b, h with
      | none, h => cases h
      | some (g, w, K), h =>
        have l1 := lb_mono hv h1 h2
        have l2 := ub_mono hZ h1 h2
        simp only [cwN, decide_eq_false_iff_not] at h ⊢
        omega
    · rw [if_neg hb]
/-! ===== bounds ===== -/
theorem lcN_le {D : Shw} {a : Nat} (k : Nat) : lcN D a k ≤ 16 := Nat.le_trans (lcN_le0 k) (cbN_le _ _)
theorem lsN_bd {D : Shw} (hD : ShOk D) {L : List Nat} (hl : L.length ≤ 8) : ∀ k : Nat, -(480 + 60 * (k : Int)) ≤ lsN D L k ∧ lsN D L k ≤ 32 * (k : Int)
  | 0 => by
    have := psN_le hD L
    simp only [lsN]
    omega
  | k + 1 => by
    have ih := lsN_bd hD hl k
    have h1 := lcN_le (D := D) (a := k) (D 0 0)
    have h2 := hD.2.1 k
    simp only [lsN, vvN]
    split
    · omega
    · split <;> omega
theorem wsN_le {D : Shw} (hD : ShOk D) : ∀ (M : List Nat) (p : Nat), p + M.length ≤ 16 → wsN D p M ≤ 1600 * M.length
  | [], _, _ => by simp [wsN]
  | x :: xs, p, h => by
    simp only [List.length_cons] at h
    have ih := wsN_le hD xs (p + 1) (by omega)
    have h1 : D 3 x * (p + 1) ≤ 99 * 16 := Nat.mul_le_mul (hD.2.2.2.1 x) (by omega)
    simp only [wsN, List.length_cons]
    omega
/-! ===== rows in arrays ===== -/
def sfxN (L : List Nat) (k : Nat) : List Nat := L.drop (L.length - k)
theorem sfx_0 {L : List Nat} : sfxN L 0 = [] := by simp [sfxN]
theorem sfx_all {L : List Nat} : sfxN L L.length = L := by simp [sfxN]
theorem sfx_len {L : List Nat} {k : Nat} (h : k ≤ L.length) : (sfxN L k).length = k := by
  simp only [sfxN, List.length_drop]
  omega
theorem sfx_succ {L : List Nat} {k : Nat} (h : k < L.length) : ∃ a, a ∈ L ∧ L[L.length - 1 - k]? = some a ∧ sfxN L (k + 1) = a :: sfxN L k := by
  have hj : L.length - 1 - k < L.length := by omega
  refine ⟨L[L.length - 1 - k]'hj, List.getElem_mem hj, List.getElem?_eq_getElem hj, ?_⟩
  unfold sfxN
  rw [show L.length - (k + 1) = L.length - 1 - k by omega, List.drop_eq_getElem_cons hj, show L.length - 1 - k + 1 = L.length - k by omega]
theorem sfx_mem {L : List Nat} {k x : Nat} (h : x ∈ sfxN L k) : x ∈ L := List.mem_of_mem_drop h
def RowF (f : Nat → Int32) : List Nat → Prop
  | [] => True
  | a :: L => f L.length = nI a ∧ RowF f L
theorem RowF_congr {f g : Nat → Int32} : ∀ {L : List Nat}, (∀ i, i < L.length → g i = f i) → RowF f L → RowF g L
  | [], _, _ => trivial
  | a :: L, h, q => ⟨by rw [h L.length (by simp)]; exact q.1, RowF_congr (fun i hi => h i (by simp only [List.length_cons]; omega)) q.2⟩
theorem RowF_drop {f : Nat → Int32} : ∀ {L : List Nat} (j : Nat), RowF f L → RowF f (L.drop j)
  | [], j, _ => by simp only [List.drop_nil]; trivial
  | a :: L, 0, h => h
  | a :: L, j + 1, h => by
    rw [List.drop_succ_cons]
    exact RowF_drop j h.2
theorem RowF_nx {f : Nat → Int32} {L : List Nat} (h : RowF f L) {k : Nat} (hk : k < L.length) : ∃ a, a ∈ L ∧ L[L.length - 1 - k]? = some a ∧ sfxN L (k + 1) = a :: sfxN L k ∧ f k = nI a := by
  obtain ⟨a, h1, h2, h3⟩ := sfx_succ hk
  refine ⟨a, h1, h2, h3, ?_⟩
  have h4 : RowF f (sfxN L (k + 1)) := RowF_drop _ h
  rw [h3] at h4
  have h5 := h4.1
  rw [sfx_len (by omega)] at h5
  exact h5
theorem RowF_ix {f : Nat → Int32} {L : List Nat} (h : RowF f L) {j : Nat} (hj : j < L.length) : ∃ x, L[j]? = some x ∧ x ∈ L ∧ f (L.length - 1 - j) = nI x := by
  obtain ⟨a, h1, h2, _, h4⟩ := RowF_nx h (k := L.length - 1 - j) (by omega)
  rw [show L.length - 1 - (L.length - 1 - j) = j by omega] at h2
  exact ⟨a, h2, h1, h4⟩
def dlN (o : Nat) : Nat → List Nat
  | 0 => []
  | i + 1 => (o / 10 ^ i % 10) :: dlN o i
theorem dl_len {o : Nat} : ∀ i, (dlN o i).length = i
  | 0 => rfl
  | i + 1 => by simp only [dlN, List.length_cons, dl_len i]
def JRn (D : Shw) (o k p w : Nat) : Prop := (p < k ∧ w = brkN D (o / 10 ^ p % 10) (dlN o p) ∧ w ≠ 0 ∧ ∀ i, i < p → brkN D (o / 10 ^ i % 10) (dlN o i) = 0) ∨ (p = k ∧ (∀ i, i < k → brkN D (o / 10 ^ i % 10) (dlN o i) = 0) ∧ w = if k < D 0 0 then 4 else 0)
theorem JR_det {D : Shw} {o k p w p' w' : Nat} (h : JRn D o k p w) (h' : JRn D o k p' w') : p = p' ∧ w = w' := by
  rcases h with ⟨a1, a2, a3, a4⟩ | ⟨a1, a2, a3⟩
  · rcases h' with ⟨b1, b2, b3, b4⟩ | ⟨b1, b2, b3⟩
    · have e : p = p' := by
        rcases Nat.lt_trichotomy p p' with q | q | q
        · exact absurd (a2.trans (b4 p q)) a3
        · exact q
        · exact absurd (b2.trans (a4 p' q)) b3
      subst e
      exact ⟨rfl, a2.trans b2.symm⟩
    · exact absurd (a2.trans (b2 p a1)) a3
  · rcases h' with ⟨b1, b2, b3, b4⟩ | ⟨b1, b2, b3⟩
    · exact absurd (b2.trans (a2 p' b1)) b3
    · exact ⟨a1.trans b1.symm, a3.trans b3.symm⟩
