/-! ===== the tent's changes through the face; counts ===== -/
theorem S7_load {l : Launch} {G : GG} {d : Nat} (hd : 2 ≤ d) (p v : Int32) (s : Mem) : Spec l G d hX7_load [.inr 0, .inl p, .inl v] s (fun r t => (r = 1 ∧ (0 ≤ p ∧ p ≤ 7 ∧ 0 ≤ v ∧ v ≤ 10000) ∧ t = wrM s 27 p.toNatClampNeg v) ∨ (r = 0 ∧ ¬ (0 ≤ p ∧ p ≤ 7 ∧ 0 ≤ v ∧ v ≤ 10000) ∧ t = s)) := by
  refine spec_of iX7_load (by decide +kernel) (Nat.le_of_ble_eq_true rfl) (vX7_load_0 ?_)
  refine ⟨d - 1, _, by omega, S_setLoad (by omega) p v s, fun r t h => ⟨?_, h⟩⟩
  rcases h with ⟨rfl, _⟩ | ⟨rfl, _⟩
  · exact Or.inr rfl
  · exact Or.inl rfl
theorem S7_exposed {l : Launch} {G : GG} {d : Nat} (hd : 2 ≤ d) (p v : Int32) (s : Mem) : Spec l G d hX7_exposed [.inr 0, .inl p, .inl v] s (fun r t => (r = 1 ∧ (0 ≤ p ∧ p ≤ 7 ∧ -9 ≤ v ∧ v ≤ 9) ∧ t = wrM s 29 p.toNatClampNeg v) ∨ (r = 0 ∧ ¬ (0 ≤ p ∧ p ≤ 7 ∧ -9 ≤ v ∧ v ≤ 9) ∧ t = s)) := by
  refine spec_of iX7_exposed (by decide +kernel) (Nat.le_of_ble_eq_true rfl) (vX7_exposed_0 ?_)
  refine ⟨d - 1, _, by omega, S_setExposed (by omega) p v s, fun r t h => ⟨?_, h⟩⟩
  rcases h with ⟨rfl, _⟩ | ⟨rfl, _⟩
  · exact Or.inr rfl
  · exact Or.inl rfl
theorem S7_share {l : Launch} {G : GG} {d : Nat} (hd : 2 ≤ d) (p q v : Int32) (s : Mem) : Spec l G d hX7_share [.inr 0, .inl p, .inl q, .inl v] s (fun r t => (r = 1 ∧ (0 ≤ p ∧ p ≤ 7 ∧ 0 ≤ q ∧ q ≤ 7 ∧ 0 ≤ v ∧ v ≤ 100 ∧ v + sbN (s 28) p.toNatClampNeg q 8 ≤ 100) ∧ t = wrM s 28 (p.toNatClampNeg * 8 + q.toNatClampNeg) v) ∨ (r = 0 ∧ ¬ (0 ≤ p ∧ p ≤ 7 ∧ 0 ≤ q ∧ q ≤ 7 ∧ 0 ≤ v ∧ v ≤ 100 ∧ v + sbN (s 28) p.toNatClampNeg q 8 ≤ 100) ∧ t = s)) := by
  refine spec_of iX7_share (by decide +kernel) (Nat.le_of_ble_eq_true rfl) (vX7_share_0 ?_)
  refine ⟨d - 1, _, by omega, S_setShare (by omega) p q v s, fun r t h => ⟨?_, h⟩⟩
  rcases h with ⟨rfl, _⟩ | ⟨rfl, _⟩
  · exact Or.inr rfl
  · exact Or.inl rfl
def ctB (f : Nat → Bool) : Nat → Nat
  | 0 => 0
  | n + 1 => ctB f n + if f n then 1 else 0
theorem ctB_s0 {f : Nat → Bool} {n : Nat} (h : f n = false) : ctB f (n + 1) = ctB f n := by simp [ctB, h]
theorem ctB_s1 {f : Nat → Bool} {n : Nat} (h : f n = true) : ctB f (n + 1) = ctB f n + 1 := by simp [ctB, h]
theorem ctB_le {f : Nat → Bool} : ∀ n, ctB f n ≤ n
  | 0 => Nat.le_refl _
  | n + 1 => by
    have := ctB_le (f := f) n
    simp only [ctB]
    split <;> omega
theorem ctB_congr {f g : Nat → Bool} : ∀ {n : Nat}, (∀ i, i < n → f i = g i) → ctB f n = ctB g n
  | 0, _ => rfl
  | n + 1, h => by
    simp only [ctB]
    rw [ctB_congr (fun i hi => h i (by omega)), h n (by omega)]
theorem ctB_shift {f : Nat → Bool} : ∀ n, ctB f (n + 1) = (if f 0 then 1 else 0) + ctB (fun i => f (i + 1)) n
  | 0 => by simp [ctB]
  | n + 1 => by
    have ih := ctB_shift (f := f) n
    rw [ctB, ih]
    simp only [ctB]
    omega
theorem ctB_off {f : Nat → Bool} {n : Nat} (h : ∀ i, n ≤ i → f i = false) : ∀ m, ctB f (n + m) = ctB f n
  | 0 => rfl
  | m + 1 => by
    show ctB f (n + m) + (if f (n + m) then 1 else 0) = _
    rw [ctB_off h m, h (n + m) (by omega)]
    simp
/-- bits, written out -/
def ctX (n : Nat) : Nat := Nat.add (Nat.mod n 2) (Nat.add (Nat.mod (Nat.div n 2) 2) (Nat.add (Nat.mod (Nat.div n 4) 2) (Nat.add (Nat.mod (Nat.div n 8) 2) (Nat.add (Nat.mod (Nat.div n 16) 2) (Nat.add (Nat.mod (Nat.div n 32) 2) (Nat.add (Nat.mod (Nat.div n 64) 2) (Nat.add (Nat.mod (Nat.div n 128) 2) (Nat.add (Nat.mod (Nat.div n 256) 2) (Nat.add (Nat.mod (Nat.div n 512) 2) (Nat.add (Nat.mod (Nat.div n 1024) 2) (Nat.add (Nat.mod (Nat.div n 2048) 2) (Nat.add (Nat.mod (Nat.div n 4096) 2) (Nat.add (Nat.mod (Nat.div n 8192) 2) (Nat.add (Nat.mod (Nat.div n 16384) 2) (Nat.mod (Nat.div n 32768) 2)))))))))))))))
theorem ctX_B (n : Nat) : ctX n = ctB n.testBit 16 := by
  have h : ∀ k : Nat, (if n.testBit k then 1 else 0) = n / 2 ^ k % 2 := by
    intro k
    rw [Nat.testBit_eq_decide_div_mod_eq]
    have : n / 2 ^ k % 2 = 0 ∨ n / 2 ^ k % 2 = 1 := by omega
    rcases this with h | h <;> simp [h]
  simp only [ctB, h]
  unfold ctX
  show _ = 0 + n / 1 % 2 + n / 2 % 2 + n / 4 % 2 + n / 8 % 2 + n / 16 % 2 + n / 32 % 2 + n / 64 % 2 + n / 128 % 2 + n / 256 % 2 + n / 512 % 2 + n / 1024 % 2 + n / 2048 % 2 + n / 4096 % 2 + n / 8192 % 2 + n / 16384 % 2 + n / 32768 % 2
  show n % 2 + (n / 2 % 2 + (n / 4 % 2 + (n / 8 % 2 + (n / 16 % 2 + (n / 32 % 2 + (n / 64 % 2 + (n / 128 % 2 + (n / 256 % 2 + (n / 512 % 2 + (n / 1024 % 2 + (n / 2048 % 2 + (n / 4096 % 2 + (n / 8192 % 2 + (n / 16384 % 2 + n / 32768 % 2)))))))))))))) = _
  rw [Nat.div_one]
  omega
def bcI (a0 : Int32) : Int32 :=
  let a1 := a0 - (((a0.toUInt32 >>> ((1 : Int32).toUInt32 &&& Int32.toUInt32 31)).toInt32) &&& (1431655765 : Int32))
  let a2 := (a1 &&& (858993459 : Int32)) + (((a1.toUInt32 >>> ((2 : Int32).toUInt32 &&& Int32.toUInt32 31)).toInt32) &&& (858993459 : Int32))
  let a3 := (a2 + ((a2.toUInt32 >>> ((4 : Int32).toUInt32 &&& Int32.toUInt32 31)).toInt32)) &&& (252645135 : Int32)
  let a4 := a3 + ((a3.toUInt32 >>> ((8 : Int32).toUInt32 &&& Int32.toUInt32 31)).toInt32)
  let a5 := a4 + ((a4.toUInt32 >>> ((16 : Int32).toUInt32 &&& Int32.toUInt32 31)).toInt32)
  a5 &&& (63 : Int32)
def bcN (a0 : Nat) : Nat :=
  (fun a1 => (fun a2 => (fun a3 => (fun a4 => (fun a5 => Nat.land a5 63) (Nat.add a4 (Nat.shiftRight a4 16))) (Nat.add a3 (Nat.shiftRight a3 8))) (Nat.land (Nat.add a2 (Nat.shiftRight a2 4)) 252645135)) (Nat.add (Nat.land a1 858993459) (Nat.land (Nat.shiftRight a1 2) 858993459))) (Nat.sub a0 (Nat.land (Nat.shiftRight a0 1) 1431655765))
theorem bcN_eq (a0 : Nat) : bcN a0 =
  (let a1 := a0 - (Nat.land (Nat.shiftRight a0 1) 1431655765)
  let a2 := Nat.land a1 858993459 + Nat.land (Nat.shiftRight a1 2) 858993459
  let a3 := Nat.land (a2 + Nat.shiftRight a2 4) 252645135
  let a4 := a3 + Nat.shiftRight a3 8
  let a5 := a4 + Nat.shiftRight a4 16
  Nat.land a5 63) := rfl
theorem nI_and (a b : Nat) : nI a &&& nI b = nI (Nat.land a b) := by
  apply b_ext
  intro i hi
  rw [b_and, bt_nI hi, bt_nI hi, bt_nI hi]
  exact (Nat.testBit_and a b i).symm
theorem nI_ushr {a k : Nat} (ha : a < 2 ^ 32) (hk : k < 32) : ((nI a).toUInt32 >>> ((nI k).toUInt32 &&& Int32.toUInt32 31)).toInt32 = nI (Nat.shiftRight a k) := by
  apply b_ext
  intro i hi
  rw [b_ushr k hk, bt_nI hi]
  have e : (Nat.shiftRight a k).testBit i = a.testBit (k + i) := Nat.testBit_shiftRight a
  rw [e]
  rcases Nat.lt_or_ge (k + i) 32 with h | h
  · exact bt_nI h
  · rw [b_big h]
    exact (Nat.testBit_lt_two_pow (Nat.lt_of_lt_of_le ha (Nat.pow_le_pow_right (by decide) h))).symm
theorem shr_le (a k : Nat) : Nat.shiftRight a k ≤ a := by
  have : Nat.shiftRight a k = a / 2 ^ k := Nat.shiftRight_eq_div_pow a k
  rw [this]
  exact Nat.div_le_self _ _
theorem bcI_N {n : Nat} (hn : n < 65536) : bcI (nI n) = nI (bcN n) := by
  rw [bcN_eq]
  unfold bcI
  have h1 : Nat.land (Nat.shiftRight n 1) 1431655765 ≤ n := Nat.le_trans Nat.and_le_left (shr_le _ _)
  have e1 : nI n - (((nI n).toUInt32 >>> ((1 : Int32).toUInt32 &&& Int32.toUInt32 31)).toInt32 &&& (1431655765 : Int32)) = nI (n - Nat.land (Nat.shiftRight n 1) 1431655765) := by
    rw [show (1 : Int32) = nI 1 from rfl, nI_ushr (by omega) (by decide), show (1431655765 : Int32) = nI 1431655765 from rfl, nI_and, pk_sub h1]
  have g1 : n - Nat.land (Nat.shiftRight n 1) 1431655765 < 65536 := by omega
  simp only [e1]
  generalize n - Nat.land (Nat.shiftRight n 1) 1431655765 = m at g1
  have e2 : (nI m &&& (858993459 : Int32)) + (((nI m).toUInt32 >>> ((2 : Int32).toUInt32 &&& Int32.toUInt32 31)).toInt32 &&& (858993459 : Int32)) = nI (Nat.land m 858993459 + Nat.land (Nat.shiftRight m 2) 858993459) := by
    rw [show (2 : Int32) = nI 2 from rfl, nI_ushr (by omega) (by decide), show (858993459 : Int32) = nI 858993459 from rfl, nI_and, nI_and, nI_add]
  have g2 : Nat.land m 858993459 + Nat.land (Nat.shiftRight m 2) 858993459 < 131072 := by
    have q1 : Nat.land m 858993459 ≤ m := Nat.and_le_left
    have q2 : Nat.land (Nat.shiftRight m 2) 858993459 ≤ m := Nat.le_trans Nat.and_le_left (shr_le _ _)
    omega
  simp only [e2]
  generalize Nat.land m 858993459 + Nat.land (Nat.shiftRight m 2) 858993459 = m2 at g2
  have e3 : (nI m2 + ((nI m2).toUInt32 >>> ((4 : Int32).toUInt32 &&& Int32.toUInt32 31)).toInt32) &&& (252645135 : Int32) = nI (Nat.land (m2 + Nat.shiftRight m2 4) 252645135) := by
    rw [show (4 : Int32) = nI 4 from rfl, nI_ushr (by omega) (by decide), nI_add, show (252645135 : Int32) = nI 252645135 from rfl, nI_and]
  have g3 : Nat.land (m2 + Nat.shiftRight m2 4) 252645135 < 262144 := by
    have q1 : Nat.land (m2 + Nat.shiftRight m2 4) 252645135 ≤ m2 + Nat.shiftRight m2 4 := Nat.and_le_left
    have q2 := shr_le m2 4
    omega
  simp only [e3]
  generalize Nat.land (m2 + Nat.shiftRight m2 4) 252645135 = m3 at g3
  have e4 : nI m3 + ((nI m3).toUInt32 >>> ((8 : Int32).toUInt32 &&& Int32.toUInt32 31)).toInt32 = nI (m3 + Nat.shiftRight m3 8) := by
    rw [show (8 : Int32) = nI 8 from rfl, nI_ushr (by omega) (by decide), nI_add]
  have g4 : m3 + Nat.shiftRight m3 8 < 524288 := by
    have q2 := shr_le m3 8
    omega
  simp only [e4]
  generalize m3 + Nat.shiftRight m3 8 = m4 at g4
  rw [show (16 : Int32) = nI 16 from rfl, nI_ushr (by omega) (by decide), nI_add, show (63 : Int32) = nI 63 from rfl, nI_and]
noncomputable def bcChk (b n : Nat) : Bool := Nat.rec true (fun n ih => Bool.rec false ih (Nat.beq (bcN (Nat.add b n)) (ctX (Nat.add b n)))) n
theorem bcChk_at {b : Nat} : ∀ {n : Nat}, bcChk b n = true → ∀ i, i < n → bcN (b + i) = ctX (b + i)
  | 0, _, i, hi => absurd hi (Nat.not_lt_zero i)
  | n + 1, h, i, hi => by
    have h : Bool.rec false (bcChk b n) (Nat.beq (bcN (b + n)) (ctX (b + n))) = true := h
    cases hq : Nat.beq (bcN (b + n)) (ctX (b + n)) with
    | false => rw [hq] at h; cases h
    | true =>
      rw [hq] at h
      by_cases e : i = n
      · subst e; exact Nat.eq_of_beq_eq_true hq
      · exact bcChk_at h i (by omega)
set_option maxRecDepth 100000 in
theorem bc_all : ∀ k, k < 16 → bcChk (Nat.mul k 4096) 4096 = true := by decide +kernel
theorem bcN_ok {n : Nat} (hn : n < 65536) : bcN n = ctB n.testBit 16 := by
  rw [← ctX_B]
  have h := bcChk_at (bc_all (n / 4096) (by omega)) (n % 4096) (Nat.mod_lt _ (by decide))
  rw [show Nat.mul (n / 4096) 4096 + n % 4096 = n from (by show n / 4096 * 4096 + n % 4096 = n; omega)] at h
  exact h
theorem bcI_ok {n : Nat} (hn : n < 65536) : bcI (nI n) = nI (ctB n.testBit 16) := by rw [bcI_N hn, bcN_ok hn]
theorem S_bitCount {l : Launch} {G : GG} {d : Nat} {n : Nat} (hn : n < 65536) (s : Mem) : Spec l G d hJ6_bitCount_0f7a4 [.inl (nI n)] s (fun r t => r = nI (ctB n.testBit 16) ∧ s = t) := by
  refine spec_of iJ6_bitCount_0f7a4 (by decide +kernel) (Nat.le_of_ble_eq_true rfl) (vJ6_bitCount_0f7a4_0 ?_)
  exact ⟨bcI_ok hn, rfl⟩
theorem S5_ropesUp {l : Launch} {G : GG} {d : Nat} (hd : 1 ≤ d) (s : Mem) : Spec l G d hX5_ropesUp [.inr 26] s (fun r t => r = nI (ctB (upB (s 28) (s 29)) 8) ∧ s = t) := by
  refine spec_of iX5_ropesUp (by decide +kernel) (Nat.le_of_ble_eq_true rfl) (vX5_ropesUp_0 ?_)
  refine down0 (A := fun k => AW l G d hX5_ropesUp 4 [some (.inr 26), some (.inl (nI (ctB (upB (s 28) (s 29)) k))), some (.inl (nI k))] [] s (fun r t => r = nI (ctB (upB (s 28) (s 29)) 8) ∧ s = t)) 8 ?_ ?_
  · exact vX5_ropesUp_4 ⟨fun _ => ⟨rfl, rfl⟩, fun h => absurd c8t h⟩
  · intro k hk ih
    refine vX5_ropesUp_4 ⟨fun h => absurd h (c8f hk), fun _ => ⟨d - 1, _, by omega, S_isUp5 hk s, ?_⟩⟩
    rintro _ _ ⟨rfl, rfl⟩
    rw [nI_1, nI_1, ib0]
    refine ⟨fun h => ?_, fun h => ?_⟩
    · rw [ctB_s0 h] at ih
      exact ih
    · rw [ctB_s1 (by simpa using h)] at ih
      exact ih
def cntV (x0 x1 x2 x3 x4 a : Int32) : Int32 := if a.toInt = 0 then x0 else if a.toInt = 1 then x1 else if a.toInt = 2 then x2 else if a.toInt = 3 then x3 else if a.toInt = 4 then x4 else -1
theorem S7_count {l : Launch} {G : GG} {d n : Nat} (hd : 2 ≤ d) (hn : n < 65536) (a : Int32) {s : Mem} (hb : s 1 7 = nI n) : Spec l G d hX7_count [.inr 0, .inl a] s (fun r t => r = cntV (s 1 0) (s 33 0) (nI (ctB n.testBit 16)) (nI (ctB (upB (s 28) (s 29)) 8)) (s 46 0) a ∧ s = t) := by
  refine spec_of iX7_count (by decide +kernel) (Nat.le_of_ble_eq_true rfl) (vX7_count_0 ?_)
  refine ⟨fun h => ⟨?_, rfl⟩, fun h => ⟨?_, rfl⟩, fun h => ⟨?_, rfl⟩, fun h => ⟨d - 1, _, by omega, by rw [hb]; exact S_bitCount hn s, ?_⟩, fun h => ⟨d - 1, _, by omega, S5_ropesUp (by omega) s, ?_⟩, fun h => ⟨?_, rfl⟩, trivial⟩
  · unfold cntV
    rw [if_neg (by omega), if_neg (by omega), if_neg (by omega), if_neg (by omega), if_neg (by omega)]
  · unfold cntV
    rw [if_pos h]
  · unfold cntV
    rw [if_neg (by omega), if_pos (by omega)]
  · rintro _ _ ⟨rfl, rfl⟩
    refine ⟨?_, rfl⟩
    unfold cntV
    rw [if_neg (by omega), if_neg (by omega), if_pos (by omega)]
  · rintro _ _ ⟨rfl, rfl⟩
    refine ⟨?_, rfl⟩
    unfold cntV
    rw [if_neg (by omega), if_neg (by omega), if_neg (by omega), if_pos (by omega)]
  · unfold cntV
    rw [if_neg (by omega), if_neg (by omega), if_neg (by omega), if_neg (by omega), if_pos (by omega)]
theorem S8_count {l : Launch} {G : GG} {d : Nat} (hd : 2 ≤ d) (a : Int32) {s : Mem} : Spec l G d hX8_count [.inr 49, .inl a] s (fun r t => r = cntV (s 49 0) (s 49 11) (nI (ctB (fun k => !decide (s 56 k = 0)) 16)) (nI (ctB (upB (s 58) (s 59)) 8)) (s 49 17) a ∧ s = t) := by
  refine spec_of iX8_count (by decide +kernel) (Nat.le_of_ble_eq_true rfl) (vX8_count_0 ?_)
  refine ⟨fun h => ⟨?_, rfl⟩, fun h => ⟨?_, rfl⟩, fun h => ⟨?_, rfl⟩, fun h => ?_, fun h => ?_, fun h => ⟨?_, rfl⟩, trivial⟩
  · unfold cntV
    rw [if_neg (by omega), if_neg (by omega), if_neg (by omega), if_neg (by omega), if_neg (by omega)]
  · unfold cntV
    rw [if_pos h]
  · unfold cntV
    rw [if_neg (by omega), if_pos (by omega)]
  · have hv : nI (ctB (fun k => !decide (s 56 k = 0)) 16) = cntV (s 49 0) (s 49 11) (nI (ctB (fun k => !decide (s 56 k = 0)) 16)) (nI (ctB (upB (s 58) (s 59)) 8)) (s 49 17) a := by
      unfold cntV
      rw [if_neg (by omega), if_neg (by omega), if_pos (by omega)]
    rw [← hv]
    refine down0 (A := fun k => AW l G d hX8_count 48 [some (.inr 49), some (.inl a), some (.inl (nI (ctB (fun k => !decide (s 56 k = 0)) k))), some (.inl (nI k))] [] s (fun r t => r = nI (ctB (fun k => !decide (s 56 k = 0)) 16) ∧ s = t)) 16 ?_ ?_
    · exact vX8_count_48 ⟨fun _ => ⟨rfl, rfl⟩, fun h => absurd (by decide) h⟩
    · intro k hk ih
      refine vX8_count_48 ⟨fun h => absurd h (nI_ge (b := 16) hk (by decide)), fun _ => ⟨vp_in_nI hk (by decide), ?_⟩⟩
      rw [nI_clamp (by omega), nI_1, nI_1, Int32.add_zero]
      refine ⟨fun h => ?_, fun h => ?_⟩
      · rw [ctB_s0 (by simp [h])] at ih
        exact ih
      · rw [ctB_s1 (by simp [h])] at ih
        exact ih
  · have hv : nI (ctB (upB (s 58) (s 59)) 8) = cntV (s 49 0) (s 49 11) (nI (ctB (fun k => !decide (s 56 k = 0)) 16)) (nI (ctB (upB (s 58) (s 59)) 8)) (s 49 17) a := by
      unfold cntV
      rw [if_neg (by omega), if_neg (by omega), if_neg (by omega), if_pos (by omega)]
    rw [← hv]
    refine down0 (A := fun k => AW l G d hX8_count 81 [some (.inr 49), some (.inl a), some (.inl (nI (ctB (upB (s 58) (s 59)) k))), some (.inl (nI k))] [] s (fun r t => r = nI (ctB (upB (s 58) (s 59)) 8) ∧ s = t)) 8 ?_ ?_
    · exact vX8_count_81 ⟨fun _ => ⟨rfl, rfl⟩, fun h => absurd c8t h⟩
    · intro k hk ih
      refine vX8_count_81 ⟨fun h => absurd h (c8f hk), fun _ => ⟨d - 1, _, by omega, S_isUp8 hk s, ?_⟩⟩
      rintro _ _ ⟨rfl, rfl⟩
      rw [nI_1, nI_1, ib0, Int32.add_zero]
      refine ⟨fun h => ?_, fun h => ?_⟩
      · rw [ctB_s0 h] at ih
        exact ih
      · rw [ctB_s1 (by simpa using h)] at ih
        exact ih
  · unfold cntV
    rw [if_neg (by omega), if_neg (by omega), if_neg (by omega), if_neg (by omega), if_pos (by omega)]
