/-! ===== what holds between two calls ===== -/
def TI (s : Mem) : Prop := s 57 = s 27 ∧ s 58 = s 28 ∧ s 59 = s 29 ∧ ∀ i, 0 ≤ s 28 i
def AID (n : Nat) (D : Shw) (s : Mem) : Prop := ShOk D ∧ ShC s D ∧ ShM s D ∧ (∀ i, 16 ≤ i → i < 32 → bt (s 1 7) i = false) ∧ RowC D (s 9) (s 10) (s 11) (s 12) (s 13) (s 14) [] ∧ RowC D (s 17) (s 18) (s 19) (s 20) (s 21) (s 22) [] ∧ (∃ a c, s 15 2 = nI a ∧ s 1 8 = nI c ∧ a ≤ c ∧ c ≤ n) ∧ (s 15 2 = s 1 8 → BestC s (bsN D))
def RID (n : Nat) (R : Shw) (W : Nat → Nat → Nat) (s : Mem) : Prop := RdOk R ∧ WOk W (R 0 0) ∧ fB W 99 ∧ RdC s R (fwN W 8) ∧ MatE (s 37) W ∧ RdM s R ∧ MatH (s 63) W ∧ RowR R (fwN W 8) (s 42) (s 43) (s 44) (s 45) [] ∧ (∃ a c, s 39 1 = nI a ∧ s 33 6 = nI c ∧ a ≤ c ∧ c ≤ n) ∧ (s 39 1 = s 33 6 → RBC s R (fwN W 8) (rtN R (fwN W 8)))
def LID (N : Nat) (tw dy sm : Nat → Nat) (s : Mem) : Prop := N ≤ 500 ∧ s 46 0 = nI N ∧ s 49 17 = nI N ∧ TLc s N tw dy sm ∧ ∀ i, i < N → tw i < 8 ∧ dy i < 7 ∧ sm i ≤ 1000000 ∧ s 65 i = nI (tw i) ∧ s 66 i = nI (dy i) ∧ s 67 i = nI (sm i)
def Inv (n : Nat) (s : Mem) : Prop := TI s ∧ (∃ D, AID n D s) ∧ (∃ R W, RID n R W s) ∧ ∃ N tw dy sm, LID N tw dy sm s
theorem TI_fr {s t : Mem} (h : TI s) (hf : ∀ q, (27 ≤ q ∧ q ≤ 29) ∨ (57 ≤ q ∧ q ≤ 59) → t q = s q) : TI t := by
  unfold TI
  rw [hf 27 (by omega), hf 28 (by omega), hf 29 (by omega), hf 57 (by omega), hf 58 (by omega), hf 59 (by omega)]
  exact h
theorem AID_up {n : Nat} {D : Shw} {s : Mem} (h : AID n D s) : AID (n + 1) D s := by
  obtain ⟨a1, a2, a3, a4, a5, a6, ⟨a, c, b1, b2, b3, b4⟩, a8⟩ := h
  exact ⟨a1, a2, a3, a4, a5, a6, ⟨a, c, b1, b2, b3, by omega⟩, a8⟩
theorem RID_up {n : Nat} {R : Shw} {W : Nat → Nat → Nat} {s : Mem} (h : RID n R W s) : RID (n + 1) R W s := by
  obtain ⟨a1, a2, a3, a4, a5, a6, a7, a8, ⟨a, c, b1, b2, b3, b4⟩, a9⟩ := h
  exact ⟨a1, a2, a3, a4, a5, a6, a7, a8, ⟨a, c, b1, b2, b3, by omega⟩, a9⟩
theorem AID_fr {n : Nat} {D : Shw} {s t : Mem} (h : AID n D s) (h0 : t 49 0 = s 49 0) (hf : ∀ q, (1 ≤ q ∧ q ≤ 7) ∨ (9 ≤ q ∧ q ≤ 15) ∨ (17 ≤ q ∧ q ≤ 23) ∨ (50 ≤ q ∧ q ≤ 56) → t q = s q) : AID n D t := by
  obtain ⟨a1, a2, a3, a4, a5, a6, a7, a8⟩ := h
  refine ⟨a1, ShC_fr a2 (fun q h1 h2 => hf q (by omega)), ShM_fr a3 h0 (fun q h1 h2 => hf q (by omega)), ?_, ?_, ?_, ?_, ?_⟩
  · rw [hf 1 (by omega)]
    exact a4
  · rw [hf 9 (by omega), hf 10 (by omega), hf 11 (by omega), hf 12 (by omega), hf 13 (by omega), hf 14 (by omega)]
    exact a5
  · rw [hf 17 (by omega), hf 18 (by omega), hf 19 (by omega), hf 20 (by omega), hf 21 (by omega), hf 22 (by omega)]
    exact a6
  · rw [hf 15 (by omega), hf 1 (by omega)]
    exact a7
  · rw [hf 15 (by omega), hf 1 (by omega)]
    exact fun q => BestC_fr (a8 q) (hf 15 (by omega)) (hf 23 (by omega))
theorem RID_fr {n : Nat} {R : Shw} {W : Nat → Nat → Nat} {s t : Mem} (h : RID n R W s) (h0 : t 49 11 = s 49 11) (hf : ∀ q, (33 ≤ q ∧ q ≤ 45) ∨ (60 ≤ q ∧ q ≤ 63) → t q = s q) : RID n R W t := by
  obtain ⟨a1, a2, a3, a4, a5, a6, a7, a8, a9, a10⟩ := h
  refine ⟨a1, a2, a3, RdC_fr a4 (fun q hq => hf q (by omega)), ?_, RdM_fr a6 h0 (hf 60 (by omega)) (hf 61 (by omega)) (hf 62 (by omega)), ?_, ?_, ?_, ?_⟩
  · rw [hf 37 (by omega)]
    exact a5
  · rw [hf 63 (by omega)]
    exact a7
  · rw [hf 42 (by omega), hf 43 (by omega), hf 44 (by omega), hf 45 (by omega)]
    exact a8
  · rw [hf 39 (by omega), hf 33 (by omega)]
    exact a9
  · rw [hf 39 (by omega), hf 33 (by omega)]
    exact fun q => RBC_fr (a10 q) (hf 39 (by omega)) (hf 40 (by omega)) (hf 41 (by omega))
theorem LID_fr {N : Nat} {tw dy sm : Nat → Nat} {s t : Mem} (h : LID N tw dy sm s) (h0 : t 46 0 = s 46 0) (h1 : t 49 17 = s 49 17) (hf : ∀ q, q = 47 ∨ q = 48 ∨ (65 ≤ q ∧ q ≤ 67) → t q = s q) : LID N tw dy sm t := by
  unfold LID TLc
  rw [h0, h1, hf 47 (by omega), hf 48 (by omega), hf 65 (by omega), hf 66 (by omega), hf 67 (by omega)]
  exact h
theorem Inv_up {n : Nat} {s : Mem} (h : Inv n s) : Inv (n + 1) s := by
  obtain ⟨a1, ⟨D, a2⟩, ⟨R, W, a3⟩, a4⟩ := h
  exact ⟨a1, ⟨D, AID_up a2⟩, ⟨R, W, RID_up a3⟩, a4⟩
theorem Inv_fr {n : Nat} {s t : Mem} (h : Inv n s) (h49 : t 49 0 = s 49 0 ∧ t 49 11 = s 49 11 ∧ t 49 17 = s 49 17) (h46 : t 46 0 = s 46 0) (hf : ∀ q, (1 ≤ q ∧ q ≤ 7) ∨ (9 ≤ q ∧ q ≤ 15) ∨ (17 ≤ q ∧ q ≤ 23) ∨ (27 ≤ q ∧ q ≤ 29) ∨ (33 ≤ q ∧ q ≤ 45) ∨ q = 47 ∨ q = 48 ∨ (50 ≤ q ∧ q ≤ 63) ∨ (65 ≤ q ∧ q ≤ 67) → t q = s q) : Inv (n + 1) t := by
  obtain ⟨a1, ⟨D, a2⟩, ⟨R, W, a3⟩, ⟨N, tw, dy, sm, a4⟩⟩ := h
  exact ⟨TI_fr a1 (fun q hq => hf q (by omega)), ⟨D, AID_up (AID_fr a2 h49.1 (fun q hq => hf q (by omega)))⟩, ⟨R, W, RID_up (RID_fr a3 h49.2.1 (fun q hq => hf q (by omega)))⟩, ⟨N, tw, dy, sm, LID_fr a4 h46 h49.2.2 (fun q hq => hf q (by omega))⟩⟩
def D0a : Shw := fun q _ => if q = 6 then 1 else 0
def R0a : Shw := fun _ _ => 0
def W0a : Nat → Nat → Nat := fun a b => if a = b then 0 else 1000000
theorem W0_ok : WOk W0a 0 := by
  refine ⟨fun a => by simp [W0a], fun a b => ?_, fun a k _ h => ⟨by simp [W0a, h], by simp [W0a, Ne.symm h]⟩⟩
  simp only [W0a]
  split <;> omega
theorem W0_B : fB W0a 99 := by
  intro a b
  simp only [W0a]
  split <;> omega
theorem W0_fw : fwN W0a 8 = W0a := fwN_8 (n := 0) (Nat.zero_le _) W0_ok
theorem W0_E {f : Nat → Int32} (h : dg8 f 64) : MatE f W0a := by
  intro a b ha hb
  rw [h a b ha hb (by omega)]
  simp only [W0a]
  by_cases e : a = b
  · rw [if_pos e, if_pos e]
    rfl
  · rw [if_neg e, if_neg e]
    rfl
theorem b_1023 : ∀ q, q < 10 → bt 1023 q = true := by decide +kernel
theorem Inv_0 {t : Mem} (h : J75 t) : Inv 0 t := by
  obtain ⟨z, h7, h37, h38, h55⟩ := h
  have zu : ∀ k, k < 75 → k ≠ 7 → k ≠ 37 → k ≠ 38 → k ≠ 55 → UsedC (t k 0) [] := by
    intro k h1 h2 h3 h4 h5 i _
    rw [z k h1 h2 h3 h4 h5 0, b_0]
    rfl
  refine ⟨⟨?_, ?_, ?_, ?_⟩, ⟨D0a, ?_, ?_, ?_, ?_, ?_, ?_, ?_, ?_⟩, ⟨R0a, W0a, ?_, ?_, W0_B, ?_, W0_E h37, ?_, ?_, ?_, ?_, ?_⟩, ⟨0, fun _ => 0, fun _ => 0, fun _ => 0, ?_, ?_, ?_, ?_, ?_⟩⟩
  · funext j
    rw [z 57 (by decide) (by decide) (by decide) (by decide) (by decide) j, z 27 (by decide) (by decide) (by decide) (by decide) (by decide) j]
  · funext j
    rw [z 58 (by decide) (by decide) (by decide) (by decide) (by decide) j, z 28 (by decide) (by decide) (by decide) (by decide) (by decide) j]
  · funext j
    rw [z 59 (by decide) (by decide) (by decide) (by decide) (by decide) j, z 29 (by decide) (by decide) (by decide) (by decide) (by decide) j]
  · intro i
    rw [z 28 (by decide) (by decide) (by decide) (by decide) (by decide) i]
    decide
  · exact ⟨Nat.zero_le _, fun _ => Nat.zero_le _, fun _ => by show (0 : Nat) < 4; decide, fun _ => Nat.zero_le _, fun _ => by show (0 : Nat) < 1024; decide, fun _ => by show (0 : Nat) < 256; decide, fun _ => by show (1 : Nat) ≤ 3; decide, fun _ => Nat.zero_le _⟩
  · refine ⟨z 1 (by decide) (by decide) (by decide) (by decide) (by decide) 0, fun i _ => ⟨z 2 (by decide) (by decide) (by decide) (by decide) (by decide) i, z 3 (by decide) (by decide) (by decide) (by decide) (by decide) i, z 4 (by decide) (by decide) (by decide) (by decide) (by decide) i, z 5 (by decide) (by decide) (by decide) (by decide) (by decide) i, z 6 (by decide) (by decide) (by decide) (by decide) (by decide) i⟩, fun b q h1 h2 hq => ?_, fun k hk => ?_⟩
    · show bt (t 7 b) q = decide (b ≤ 1)
      rw [h7]
      by_cases e : b = 1
      · subst e
        rw [upd_at, b_1023 q hq]
        rfl
      · rw [upd_ne e, b_0, decide_eq_false (by omega)]
    · rw [z 1 (by decide) (by decide) (by decide) (by decide) (by decide) 7, b_0]
      rfl
  · exact ⟨z 49 (by decide) (by decide) (by decide) (by decide) (by decide) 0, fun i _ => ⟨z 50 (by decide) (by decide) (by decide) (by decide) (by decide) i, z 51 (by decide) (by decide) (by decide) (by decide) (by decide) i, z 52 (by decide) (by decide) (by decide) (by decide) (by decide) i, z 53 (by decide) (by decide) (by decide) (by decide) (by decide) i, z 54 (by decide) (by decide) (by decide) (by decide) (by decide) i⟩, fun q hq => h55 q hq, fun k _ => z 56 (by decide) (by decide) (by decide) (by decide) (by decide) k⟩
  · intro i _ _
    rw [z 1 (by decide) (by decide) (by decide) (by decide) (by decide) 7, b_0]
  · exact ⟨zu 10 (by decide) (by decide) (by decide) (by decide) (by decide), z 11 (by decide) (by decide) (by decide) (by decide) (by decide) 0, z 12 (by decide) (by decide) (by decide) (by decide) (by decide) 0, z 13 (by decide) (by decide) (by decide) (by decide) (by decide) 0, z 14 (by decide) (by decide) (by decide) (by decide) (by decide) 0⟩
  · exact ⟨zu 18 (by decide) (by decide) (by decide) (by decide) (by decide), z 19 (by decide) (by decide) (by decide) (by decide) (by decide) 0, z 20 (by decide) (by decide) (by decide) (by decide) (by decide) 0, z 21 (by decide) (by decide) (by decide) (by decide) (by decide) 0, z 22 (by decide) (by decide) (by decide) (by decide) (by decide) 0⟩
  · exact ⟨0, 0, z 15 (by decide) (by decide) (by decide) (by decide) (by decide) 2, z 1 (by decide) (by decide) (by decide) (by decide) (by decide) 8, Nat.le_refl _, Nat.le_refl _⟩
  · intro _
    have e : bsN D0a = none := by
      unfold bsN
      rw [if_pos (show D0a 0 0 = 0 from rfl)]
    rw [e]
    exact z 15 (by decide) (by decide) (by decide) (by decide) (by decide) 3
  · exact ⟨Nat.zero_le _, fun _ => Nat.zero_le _, fun _ => Nat.zero_le _, fun _ => Nat.zero_le _⟩
  · exact W0_ok
  · rw [W0_fw]
    exact ⟨z 33 (by decide) (by decide) (by decide) (by decide) (by decide) 0, fun i _ => ⟨z 34 (by decide) (by decide) (by decide) (by decide) (by decide) i, z 35 (by decide) (by decide) (by decide) (by decide) (by decide) i, z 36 (by decide) (by decide) (by decide) (by decide) (by decide) i⟩, W0_E h38⟩
  · exact ⟨z 49 (by decide) (by decide) (by decide) (by decide) (by decide) 11, fun i _ => ⟨z 60 (by decide) (by decide) (by decide) (by decide) (by decide) i, z 61 (by decide) (by decide) (by decide) (by decide) (by decide) i, z 62 (by decide) (by decide) (by decide) (by decide) (by decide) i⟩⟩
  · intro a b _ _
    refine ⟨0, Nat.zero_le _, z 63 (by decide) (by decide) (by decide) (by decide) (by decide) _, ?_⟩
    simp [W0a]
  · exact ⟨zu 44 (by decide) (by decide) (by decide) (by decide) (by decide), z 45 (by decide) (by decide) (by decide) (by decide) (by decide) 0⟩
  · exact ⟨0, 0, z 39 (by decide) (by decide) (by decide) (by decide) (by decide) 1, z 33 (by decide) (by decide) (by decide) (by decide) (by decide) 6, Nat.le_refl _, Nat.le_refl _⟩
  · intro _
    exact ⟨z 39 (by decide) (by decide) (by decide) (by decide) (by decide) 2, z 39 (by decide) (by decide) (by decide) (by decide) (by decide) 3, trivial, trivial, Nat.zero_le _⟩
  · exact Nat.zero_le _
  · exact z 46 (by decide) (by decide) (by decide) (by decide) (by decide) 0
  · exact z 49 (by decide) (by decide) (by decide) (by decide) (by decide) 17
  · intro a b _ _
    exact ⟨z 47 (by decide) (by decide) (by decide) (by decide) (by decide) _, z 48 (by decide) (by decide) (by decide) (by decide) (by decide) _⟩
  · intro i hi
    exact absurd hi (Nat.not_lt_zero i)
