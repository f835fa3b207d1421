/-! ===== the least hours: matrices of numbers ===== -/
def fwS (M : Nat → Nat → Nat) (k : Nat) : Nat → Nat → Nat := fun a b => if M a k + M k b < M a b then M a k + M k b else M a b
def fwN (W : Nat → Nat → Nat) : Nat → Nat → Nat → Nat
  | 0 => W
  | k + 1 => fwS (fwN W k) k
def WOk (W : Nat → Nat → Nat) (n : Nat) : Prop := (∀ a, W a a = 0) ∧ (∀ a b, W a b ≤ 1000000) ∧ ∀ a k, n ≤ k → a ≠ k → W a k = 1000000 ∧ W k a = 1000000
theorem WOk.mono {W : Nat → Nat → Nat} {n m : Nat} (h : WOk W n) (hm : n ≤ m) : WOk W m := ⟨h.1, h.2.1, fun a k hk => h.2.2 a k (by omega)⟩
theorem fwS_ok {W : Nat → Nat → Nat} {n k : Nat} (h : WOk W n) (hk : k < n) : WOk (fwS W k) n := by
  obtain ⟨h1, h2, h3⟩ := h
  refine ⟨fun a => ?_, fun a b => ?_, fun a j hj ha => ?_⟩
  · simp only [fwS, h1 a]; split <;> omega
  · have := h2 a b
    simp only [fwS]; split <;> omega
  · have hj1 := (h3 k j hj (by omega))
    have hj2 := h3 a j hj ha
    simp only [fwS, hj1.1, hj1.2, hj2.1, hj2.2]
    constructor <;> (split <;> omega)
theorem fwN_ok {W : Nat → Nat → Nat} {n : Nat} (h : WOk W n) : ∀ k, k ≤ n → WOk (fwN W k) n
  | 0, _ => h
  | k + 1, hk => fwS_ok (fwN_ok h k (by omega)) (by omega)
theorem fwS_iso {W : Nat → Nat → Nat} {n k : Nat} (h : WOk W n) (hk : n ≤ k) : fwS W k = W := by
  obtain ⟨h1, h2, h3⟩ := h
  funext a b
  simp only [fwS]
  have := h2 a b
  by_cases ha : a = k
  · subst ha
    rw [h1 a]
    split <;> omega
  · rw [(h3 a k hk ha).1]
    split <;> omega
theorem fwN_iso {W : Nat → Nat → Nat} {n : Nat} (h : WOk W n) : ∀ m, fwN W (n + m) = fwN W n
  | 0 => rfl
  | m + 1 => by
    show fwS (fwN W (n + m)) (n + m) = _
    rw [fwN_iso h m]
    exact fwS_iso (fwN_ok h n (Nat.le_refl _)) (by omega)
def fB (M : Nat → Nat → Nat) (B : Nat) : Prop := ∀ a b, M a b = 1000000 ∨ M a b ≤ B
theorem fwS_B {M : Nat → Nat → Nat} {B k : Nat} (h : fB M B) (hm : ∀ a b, M a b ≤ 1000000) : fB (fwS M k) (2 * B) := by
  intro a b
  simp only [fwS]
  have h1 := h a b
  have h2 := h a k
  have h3 := h k b
  have h4 := hm a b
  split <;> omega
theorem fwN_B {W : Nat → Nat → Nat} {n : Nat} (h : WOk W n) (hB : fB W 99) : ∀ k, k ≤ n → fB (fwN W k) (99 * 2 ^ k)
  | 0, _ => hB
  | k + 1, hk => by
    have := fwS_B (k := k) (fwN_B h hB k (by omega)) (fwN_ok h k (by omega)).2.1
    rw [show 2 * (99 * 2 ^ k) = 99 * 2 ^ (k + 1) by rw [Nat.pow_succ]; omega] at this
    exact this
theorem fwN_B8 {W : Nat → Nat → Nat} {n : Nat} (hn : n ≤ 8) (h : WOk W n) (hB : fB W 99) {k : Nat} (hk : k ≤ n) : fB (fwN W k) 25344 := by
  intro a b
  have h1 := fwN_B h hB k hk a b
  have h2 : 2 ^ k ≤ 2 ^ 8 := Nat.pow_le_pow_right (by decide) (by omega)
  omega
theorem fw_tri {W : Nat → Nat → Nat} {n : Nat} (h : WOk W n) : ∀ m, m ≤ n → ∀ a b k, k < m → fwN W m a b ≤ fwN W m a k + fwN W m k b
  | 0, _, _, _, k, hk => absurd hk (Nat.not_lt_zero k)
  | m + 1, hm, a, b, k, hk => by
    have ih := fw_tri h m (by omega)
    have h0 := (fwN_ok h m (by omega)).1
    show fwS (fwN W m) m a b ≤ fwS (fwN W m) m a k + fwS (fwN W m) m k b
    generalize fwN W m = M at ih h0
    by_cases hkm : k = m
    · subst hkm
      simp only [fwS, h0 k]
      split <;> split <;> split <;> omega
    · have i1 := ih a b k (by omega)
      have i2 := ih m b k (by omega)
      have i3 := ih a m k (by omega)
      simp only [fwS]
      split <;> split <;> split <;> omega
theorem fw_tri8 {W : Nat → Nat → Nat} (h : WOk W 8) {a b k : Nat} (hk : k < 8) : fwN W 8 a b ≤ fwN W 8 a k + fwN W 8 k b := fw_tri h 8 (Nat.le_refl _) a b k hk
theorem fwN_8 {W : Nat → Nat → Nat} {n : Nat} (hn : n ≤ 8) (h : WOk W n) : fwN W 8 = fwN W n := by
  have := fwN_iso h (8 - n)
  rw [show n + (8 - n) = 8 by omega] at this
  exact this
def fwX (M : Nat → Nat → Nat) (k n a b : Nat) : Nat → Nat → Nat := fun x y => if (x < a ∨ (x = a ∧ y < b)) ∧ x < n ∧ y < n then fwS M k x y else M x y
theorem fwX_0 {M : Nat → Nat → Nat} {k n : Nat} : fwX M k n 0 0 = M := by
  funext x y
  simp [fwX]
theorem fwX_row {M : Nat → Nat → Nat} {k n a : Nat} : fwX M k n a n = fwX M k n (a + 1) 0 := by
  funext x y
  simp only [fwX]
  have e : ((x < a ∨ (x = a ∧ y < n)) ∧ x < n ∧ y < n) ↔ ((x < a + 1 ∨ (x = a + 1 ∧ y < 0)) ∧ x < n ∧ y < n) := by omega
  simp only [e]
theorem fwX_end {M : Nat → Nat → Nat} {k n : Nat} (h : WOk M n) (hk : k < n) : fwX M k n n 0 = fwS M k := by
  funext x y
  simp only [fwX]
  split
  · rfl
  · rename_i hq
    have h2 := h.2.1 x y
    simp only [fwS]
    by_cases hxy : x = y
    · subst hxy
      rw [h.1 x]
      split <;> omega
    · rcases (show n ≤ x ∨ n ≤ y by omega) with hx | hy
      · rw [(h.2.2 k x hx (by omega)).2]
        split <;> omega
      · rw [(h.2.2 k y hy (by omega)).1]
        split <;> omega
theorem fwX_at {M : Nat → Nat → Nat} {k n a b : Nat} (h0 : M k k = 0) : fwX M k n a b a b = M a b ∧ fwX M k n a b a k = M a k ∧ fwX M k n a b k b = M k b := by
  refine ⟨?_, ?_, ?_⟩
  · simp only [fwX]
    rw [if_neg (by omega)]
  · simp only [fwX]
    split
    · simp only [fwS, h0]; split <;> omega
    · rfl
  · simp only [fwX]
    split
    · simp only [fwS, h0]; split <;> omega
    · rfl
theorem fwX_step {M : Nat → Nat → Nat} {k n a b : Nat} (ha : a < n) (hb : b < n) : (fun x y => if x = a ∧ y = b then fwS M k a b else fwX M k n a b x y) = fwX M k n a (b + 1) := by
  funext x y
  simp only [fwX]
  by_cases h : x = a ∧ y = b
  · rw [if_pos h, if_pos (by omega), h.1, h.2]
  · rw [if_neg h]
    have e : ((x < a ∨ (x = a ∧ y < b)) ∧ x < n ∧ y < n) ↔ ((x < a ∨ (x = a ∧ y < b + 1)) ∧ x < n ∧ y < n) := by omega
    simp only [e]
def encI (v : Nat) : Int32 := if v < 1000000 then nI v else -1
def MatE (f : Nat → Int32) (M : Nat → Nat → Nat) : Prop := ∀ a b, a < 8 → b < 8 → f (a * 8 + b) = encI (M a b)
def MatN (f : Nat → Int32) (M : Nat → Nat → Nat) : Prop := ∀ a b, a < 8 → b < 8 → f (a * 8 + b) = nI (M a b)
theorem MatE_upd {f : Nat → Int32} {M : Nat → Nat → Nat} (h : MatE f M) {a b v : Nat} (hb : b < 8) : MatE (upd f (a * 8 + b) (encI v)) (fun x y => if x = a ∧ y = b then v else M x y) := by
  intro x y hx hy
  show _ = encI (if x = a ∧ y = b then v else M x y)
  by_cases q : x = a ∧ y = b
  · rw [if_pos q, q.1, q.2, upd_at]
  · rw [if_neg q, upd_ne (by omega)]
    exact h x y hx hy
theorem MatN_upd {f : Nat → Int32} {M : Nat → Nat → Nat} (h : MatN f M) {a b v : Nat} (hb : b < 8) : MatN (upd f (a * 8 + b) (nI v)) (fun x y => if x = a ∧ y = b then v else M x y) := by
  intro x y hx hy
  show _ = nI (if x = a ∧ y = b then v else M x y)
  by_cases q : x = a ∧ y = b
  · rw [if_pos q, q.1, q.2, upd_at]
  · rw [if_neg q, upd_ne (by omega)]
    exact h x y hx hy
theorem enc_none {v : Nat} (hv : v = 1000000 ∨ v ≤ 25344) : encI v = -1 ↔ v = 1000000 := by
  unfold encI
  constructor
  · intro h
    rcases hv with h1 | h1
    · exact h1
    · rw [if_pos (by omega)] at h
      have h2 : ¬ nI v < 0 := nI_pos (by omega)
      rw [h] at h2
      exact absurd (by decide) h2
  · intro h
    rw [if_neg (by omega)]
theorem stM_wr {s : Mem} {k i : Nat} {f : Nat → Int32} {v : Int32} : wrM (stM s k f) k i v = stM s k (upd f i v) := by
  funext q j
  by_cases h : q = k
  · subst h; simp [stM]
  · simp [stM, h]
theorem stM_id {s : Mem} {k : Nat} : stM s k (s k) = s := by
  funext q j
  by_cases h : q = k
  · subst h; simp [stM]
  · simp [stM, h]
theorem upd_id {f : Nat → Int32} {i : Nat} : upd f i (f i) = f := by
  funext j
  by_cases h : j = i
  · subst h; rw [upd_at]
  · rw [upd_ne h]
theorem S3_goBy {l : Launch} {G : GG} {d a k b n : Nat} (ha : a < 8) (hk : k < 8) (hb : b < 8) {s : Mem} {f : Nat → Int32} {M : Nat → Nat → Nat} (h0 : M k k = 0) (hB : fB M 25344) (hM : MatE f (fwX M k n a b)) : Spec l G d hX3_goBy [.inr 33, .inl (nI a), .inl (nI k), .inl (nI b)] (stM s 38 f) (fun _ t => t = stM s 38 (upd f (a * 8 + b) (encI (fwS M k a b)))) := by
  refine spec_of iX3_goBy (by decide +kernel) (Nat.le_of_ble_eq_true rfl) (vX3_goBy_0 ?_)
  rw [ixa, ixa, ixa, cl64 ha hk, cl64 hk hb, cl64 ha hb, stM_self]
  have hx := fwX_at (n := n) (a := a) (b := b) h0
  have e1 := hM a k ha hk
  have e2 := hM k b hk hb
  have e3 := hM a b ha hb
  rw [hx.2.1] at e1
  rw [hx.2.2] at e2
  rw [hx.1] at e3
  rw [e1, e2, e3, enc_none (hB a k), enc_none (hB k b), enc_none (hB a b), stM_wr]
  have b1 := hB a k
  have b2 := hB k b
  have b3 := hB a b
  have same : fwS M k a b = M a b → stM s 38 f = stM s 38 (upd f (a * 8 + b) (encI (fwS M k a b))) := by
    intro q
    rw [q, ← e3, upd_id]
  refine ⟨vi64 ha hk, vi64 hk hb, vi64 ha hb, fun h1 => same ?_, fun h1 => ⟨fun h2 => same ?_, fun h2 => ?_⟩⟩
  · simp only [fwS]; split <;> omega
  · simp only [fwS]; split <;> omega
  have p1 : encI (M a k) = nI (M a k) := by unfold encI; rw [if_pos (by omega)]
  have p2 : encI (M k b) = nI (M k b) := by unfold encI; rw [if_pos (by omega)]
  have p3 : M a k + M k b < 1000000 := by omega
  rw [p1, p2, nI_add]
  refine ⟨fun h3 => ⟨vi64 ha hb, ?_⟩, fun h3 => ?_⟩
  · have : fwS M k a b = M a k + M k b := by
      simp only [fwS]; rw [if_pos (by omega)]
    rw [this]
    unfold encI
    rw [if_pos p3]
  · have p4 : encI (M a b) = nI (M a b) := by unfold encI; rw [if_pos (by omega)]
    rw [p4, nI_leI (by omega) (by omega)]
    refine ⟨fun h4 => same ?_, fun h4 => ⟨vi64 ha hb, ?_⟩⟩
    · simp only [fwS]; rw [if_neg (by omega)]
    · have : fwS M k a b = M a k + M k b := by
        simp only [fwS]; rw [if_pos (by omega)]
      rw [this]
      unfold encI
      rw [if_pos p3]
theorem S3_measure {l : Launch} {G : GG} {d n : Nat} (hd : 1 ≤ d) (hn : n ≤ 8) {s : Mem} (hs : s 33 0 = nI n) {W : Nat → Nat → Nat} (hW : WOk W n) (hB : fB W 99) (hM : MatE (s 37) W) : Spec l G d hX3_measure [.inr 33] s (fun _ t => ∃ f, t = stM s 38 f ∧ MatE f (fwN W 8)) := by
  refine spec_of iX3_measure (by decide +kernel) (Nat.le_of_ble_eq_true rfl) (vX3_measure_0 ⟨⟨hd, by decide, by decide, by decide, by decide, by decide⟩, ?_⟩)
  have sz : ∀ f : Nat → Int32, stM s 38 f 33 0 = nI n := fun f => by rw [stM_ne (by decide)]; exact hs
  have key : ∀ k, k ≤ n → ∀ f, MatE f (fwN W k) → AW l G d hX3_measure 17 [some (.inr 33), some (.inl (nI k)), none, none] [] (stM s 38 f) (fun _ t => ∃ f, t = stM s 38 f ∧ MatE f (fwN W 8)) := by
    refine down n ?_ ?_
    · intro f hf
      refine vX3_measure_17 ⟨fun _ => ⟨f, rfl, ?_⟩, fun h => absurd (by rw [sz]; exact nI_le (Nat.le_refl n) (by omega)) h⟩
      rw [fwN_8 hn hW]
      exact hf
    · intro k hk ih f hf
      refine vX3_measure_17 ⟨fun h => absurd h (by rw [sz]; exact nI_ge hk (by omega)), fun _ => ?_⟩
      have hok := fwN_ok hW k (by omega)
      have hbd := fwN_B8 hn hW hB (k := k) (by omega)
      have rows : ∀ a, a ≤ n → ∀ f, MatE f (fwX (fwN W k) k n a 0) → AW l G d hX3_measure 27 [some (.inr 33), some (.inl (nI k)), some (.inl (nI a)), none] [] (stM s 38 f) (fun _ t => ∃ f, t = stM s 38 f ∧ MatE f (fwN W 8)) := by
        refine down n ?_ ?_
        · intro f hf
          refine vX3_measure_27 ⟨fun _ => ?_, fun h => absurd (by rw [sz]; exact nI_le (Nat.le_refl n) (by omega)) h⟩
          rw [nI_1]
          rw [fwX_end hok hk] at hf
          exact aw_weak (L := [some (.inr 33), some (.inl (nI (k + 1))), none, none]) ⟨rfl, rfl, trivial⟩ (ih f hf)
        · intro a ha iha f hf
          refine vX3_measure_27 ⟨fun h => absurd h (by rw [sz]; exact nI_ge ha (by omega)), fun _ => ?_⟩
          have cols : ∀ b, b ≤ n → ∀ f, MatE f (fwX (fwN W k) k n a b) → AW l G d hX3_measure 37 [some (.inr 33), some (.inl (nI k)), some (.inl (nI a)), some (.inl (nI b))] [] (stM s 38 f) (fun _ t => ∃ f, t = stM s 38 f ∧ MatE f (fwN W 8)) := by
            refine down n ?_ ?_
            · intro f hf
              refine vX3_measure_37 ⟨fun _ => ?_, fun h => absurd (by rw [sz]; exact nI_le (Nat.le_refl n) (by omega)) h⟩
              rw [nI_1]
              rw [fwX_row] at hf
              exact aw_weak (L := [some (.inr 33), some (.inl (nI k)), some (.inl (nI (a + 1))), none]) ⟨rfl, rfl, rfl, trivial⟩ (iha f hf)
            · intro b hb ihb f hf
              refine vX3_measure_37 ⟨fun h => absurd h (by rw [sz]; exact nI_ge hb (by omega)), fun _ => ⟨d - 1, _, by omega, S3_goBy (n := n) (by omega) (by omega) (by omega) (hok.1 k) hbd hf, ?_⟩⟩
              rintro _ _ rfl
              rw [nI_1]
              refine ihb _ ?_
              rw [← fwX_step ha hb]
              exact MatE_upd hf (by omega)
          exact cols 0 (Nat.zero_le _) f hf
      exact rows 0 (Nat.zero_le _) f (by rw [fwX_0]; exact hf)
  refine key 0 (Nat.zero_le _) _ ?_
  intro a b ha hb
  have e : va_cpy (s 37) (s 38) (0 : Int32).toNatClampNeg (0 : Int32).toNatClampNeg (64 : Int32).toNatClampNeg (a * 8 + b) = s 37 (a * 8 + b) := by
    show va_cpy (s 37) (s 38) 0 0 64 (a * 8 + b) = _
    unfold va_cpy
    rw [if_pos (by omega)]
    congr 1
    omega
  rw [e]
  exact hM a b ha hb
