/-! ===== the calls, one by one: the tent, the takings, counts ===== -/
theorem SF_f {p : Nat → Bool} {f g : Nat → Nat} : ∀ {n : Nat}, (∀ z, z < n → f z = g z) → SF p f n = SF p g n
  | 0, _ => rfl
  | n + 1, h => by
    simp only [SF]
    rw [SF_f (n := n) (fun z hz => h z (by omega)), h n (by omega)]
theorem pr_load {l : Launch} {G : GG} (a b : Int32) : PairK Inv l G hX7_load hX8_load [.inl a, .inl b] := by
  intro n s hn hI
  refine spec_post ?_ (S7_load (by decide) a b s)
  rintro r t (⟨rfl, h1, rfl⟩ | ⟨rfl, h1, rfl⟩)
  · refine spec_post ?_ (S_load (by decide) a b _)
    rintro r' t' (⟨rfl, h2, rfl⟩ | ⟨rfl, h2, rfl⟩)
    · obtain ⟨⟨e1, e2, e3, e4⟩, ⟨D, iA⟩, ⟨R, W, iR⟩, ⟨N, tw, dy, sm, iL⟩⟩ := hI
      refine ⟨rfl, ⟨?_, e2, e3, e4⟩, ⟨D, AID_up (AID_fr iA rfl (fun q hq => (stM_ne (by omega)).trans (stM_ne (by omega))))⟩, ⟨R, W, RID_up (RID_fr iR rfl (fun q hq => (stM_ne (by omega)).trans (stM_ne (by omega))))⟩, ⟨N, tw, dy, sm, LID_fr iL rfl rfl (fun q hq => (stM_ne (by omega)).trans (stM_ne (by omega)))⟩⟩
      show upd (s 57) a.toNatClampNeg b = upd (s 27) a.toNatClampNeg b
      rw [e1]
    · exact absurd h1 h2
  · refine spec_post ?_ (S_load (by decide) a b _)
    rintro r' t' (⟨rfl, h2, rfl⟩ | ⟨rfl, h2, rfl⟩)
    · exact absurd h2 h1
    · exact ⟨rfl, Inv_up hI⟩
theorem pr_exposed {l : Launch} {G : GG} (a b : Int32) : PairK Inv l G hX7_exposed hX8_exposed [.inl a, .inl b] := by
  intro n s hn hI
  refine spec_post ?_ (S7_exposed (by decide) a b s)
  rintro r t (⟨rfl, h1, rfl⟩ | ⟨rfl, h1, rfl⟩)
  · refine spec_post ?_ (S_exposed (by decide) a b _)
    rintro r' t' (⟨rfl, h2, rfl⟩ | ⟨rfl, h2, rfl⟩)
    · obtain ⟨⟨e1, e2, e3, e4⟩, ⟨D, iA⟩, ⟨R, W, iR⟩, ⟨N, tw, dy, sm, iL⟩⟩ := hI
      refine ⟨rfl, ⟨e1, e2, ?_, e4⟩, ⟨D, AID_up (AID_fr iA rfl (fun q hq => (stM_ne (by omega)).trans (stM_ne (by omega))))⟩, ⟨R, W, RID_up (RID_fr iR rfl (fun q hq => (stM_ne (by omega)).trans (stM_ne (by omega))))⟩, ⟨N, tw, dy, sm, LID_fr iL rfl rfl (fun q hq => (stM_ne (by omega)).trans (stM_ne (by omega)))⟩⟩
      show upd (s 59) a.toNatClampNeg b = upd (s 29) a.toNatClampNeg b
      rw [e3]
    · exact absurd h1 h2
  · refine spec_post ?_ (S_exposed (by decide) a b _)
    rintro r' t' (⟨rfl, h2, rfl⟩ | ⟨rfl, h2, rfl⟩)
    · exact absurd h2 h1
    · exact ⟨rfl, Inv_up hI⟩
theorem pr_share {l : Launch} {G : GG} (a b c : Int32) : PairK Inv l G hX7_share hX8_share [.inl a, .inl b, .inl c] := by
  intro n s hn hI
  obtain ⟨⟨e1, e2, e3, e4⟩, ⟨D, iA⟩, ⟨R, W, iR⟩, ⟨N, tw, dy, sm, iL⟩⟩ := id hI
  refine spec_post ?_ (S7_share (by decide) a b c s)
  rintro r t (⟨rfl, h1, rfl⟩ | ⟨rfl, h1, rfl⟩)
  · refine spec_post ?_ (S_share (by decide) a b c _)
    rintro r' t' (⟨rfl, h2, rfl⟩ | ⟨rfl, h2, rfl⟩)
    · refine ⟨rfl, ⟨e1, ?_, e3, fun i => ?_⟩, ⟨D, AID_up (AID_fr iA rfl (fun q hq => (stM_ne (by omega)).trans (stM_ne (by omega))))⟩, ⟨R, W, RID_up (RID_fr iR rfl (fun q hq => (stM_ne (by omega)).trans (stM_ne (by omega))))⟩, ⟨N, tw, dy, sm, LID_fr iL rfl rfl (fun q hq => (stM_ne (by omega)).trans (stM_ne (by omega)))⟩⟩
      · show upd (s 58) _ c = upd (s 28) _ c
        rw [e2]
      · show 0 ≤ upd (s 28) _ c i
        unfold upd
        split
        · exact h1.2.2.2.2.1
        · exact e4 i
    · exact absurd h1 (fun q => h2 (by
        have e : (wrM s 28 (a.toNatClampNeg * 8 + b.toNatClampNeg) c) 58 = s 28 := e2
        rw [e]
        exact q))
  · refine spec_post ?_ (S_share (by decide) a b c _)
    rintro r' t' (⟨rfl, h2, rfl⟩ | ⟨rfl, h2, rfl⟩)
    · exact absurd h2 (fun q => h1 (by rw [← e2]; exact q))
    · exact ⟨rfl, Inv_up hI⟩
theorem Inv_tent {n : Nat} {s t u : Mem} (h : Inv n s) (h1 : FrC s t) (h2 : FrM t u) : Inv (n + 1) u := by
  have e : ∀ q, q ≠ 26 → q ≠ 30 → q ≠ 31 → q ≠ 32 → q ≠ 49 → q ≠ 73 → q ≠ 74 → u q = s q := fun q a b c d f g i => (h2.1 q f g i).trans (h1 q a b c d)
  have e9 : t 49 = s 49 := h1 49 (by decide) (by decide) (by decide) (by decide)
  refine Inv_fr h ⟨?_, ?_, ?_⟩ (by rw [e 46 (by decide) (by decide) (by decide) (by decide) (by decide) (by decide) (by decide)]) (fun q hq => e q (by omega) (by omega) (by omega) (by omega) (by omega) (by omega) (by omega))
  · rw [h2.2 0 (by decide), e9]
  · rw [h2.2 11 (by decide), e9]
  · rw [h2.2 17 (by decide), e9]
theorem ten_same {s t : Mem} (h : TI s) (h1 : FrC s t) : t 57 = s 27 ∧ t 58 = s 28 ∧ t 59 = s 29 := ⟨(h1 57 (by decide) (by decide) (by decide) (by decide)).trans h.1, (h1 58 (by decide) (by decide) (by decide) (by decide)).trans h.2.1, (h1 59 (by decide) (by decide) (by decide) (by decide)).trans h.2.2.1⟩
theorem FrM_rfl (s : Mem) : FrM s s := FrM.rfl
theorem in8i {r : Int32} {k : Nat} (hk : k < 8) (h : r = nI k) : 0 ≤ r ∧ r ≤ 7 := by
  subst h
  exact ⟨nI_pos' (by omega), nI_le (b := 7) (by omega) (by decide)⟩
theorem pr_part {l : Launch} {G : GG} (a b : Int32) : PairK Inv l G hX7_part hX8_part [.inl a, .inl b] := by
  intro n s hn hI
  refine spec_post ?_ (S7_part (by decide) a b s)
  rintro r t (⟨h1, rfl, rfl⟩ | ⟨k, hk, rfl, hw, ⟨Y, y1, y2, rfl⟩, hF⟩)
  · refine spec_post ?_ (S8_part (by decide) a b _)
    rintro r' t' (⟨h2, rfl, rfl⟩ | ⟨k, hk, e, hw, _⟩)
    · exact ⟨rfl, Inv_up hI⟩
    · exact absurd ⟨(in8i hk e).1, (in8i hk e).2, hw⟩ h1
  · refine spec_post ?_ (S8_part (by decide) (nI k) b _)
    obtain ⟨q1, q2, q3⟩ := ten_same hI.1 hF
    rintro r' t' (⟨h2, rfl, rfl⟩ | ⟨k', hk', e, hw', ⟨Y', z1, z2, rfl⟩, hF'⟩)
    · exact absurd ⟨(in8i hk rfl).1, (in8i hk rfl).2, hw⟩ h2
    · have ek := (nI_eq (a := k) (b := k') (by omega) (by omega)).mp e
      subst ek
      rw [q1, q2, q3] at z1
      have eY := finR_det y1 z1
      subst eY
      refine ⟨?_, Inv_tent hI hF hF'⟩
      rw [q2, q3]
      cases hu : upB (s 28) (s 29) k with
      | true => rfl
      | false =>
        have := finR_nu y1 UZ_0 k hu
        rw [this]
        exact pt_nu hI.1.2.2.2 hu
theorem pr_slack {l : Launch} {G : GG} (a b : Int32) : PairK Inv l G hX7_slack hX8_slack [.inl a, .inl b] := by
  intro n s hn hI
  refine spec_post ?_ (S7_slack (by decide) a b s)
  rintro r t (⟨h1, rfl, rfl⟩ | ⟨k, hk, rfl, hw, ⟨Y, y1, y2, rfl⟩, hF⟩)
  · refine spec_post ?_ (S8_slack (by decide) a b _)
    rintro r' t' (⟨h2, rfl, rfl⟩ | ⟨k, hk, e, hw, _⟩)
    · exact ⟨rfl, Inv_up hI⟩
    · exact absurd ⟨(in8i hk e).1, (in8i hk e).2, hw⟩ h1
  · refine spec_post ?_ (S8_slack (by decide) (nI k) b _)
    obtain ⟨q1, q2, q3⟩ := ten_same hI.1 hF
    rintro r' t' (⟨h2, rfl, rfl⟩ | ⟨k', hk', e, hw', ⟨Y', z1, z2, rfl⟩, hF'⟩)
    · exact absurd ⟨(in8i hk rfl).1, (in8i hk rfl).2, hw⟩ h2
    · have ek := (nI_eq (a := k) (b := k') (by omega) (by omega)).mp e
      subst ek
      rw [q1, q2, q3] at z1
      have eY := finR_det y1 z1
      subst eY
      refine ⟨?_, Inv_tent hI hF hF'⟩
      rw [q2, q3]
theorem pr_gone {l : Launch} {G : GG} (a : Int32) : PairK Inv l G hX7_gone hX8_gone [.inl a] := by
  intro n s hn hI
  refine spec_post ?_ (S7_gone (by decide) a s)
  rintro r t (⟨h1, rfl, rfl⟩ | ⟨hw, ⟨Y, y1, rfl⟩, hF⟩)
  · refine spec_post ?_ (S8_gone (by decide) a _)
    rintro r' t' (⟨h2, rfl, rfl⟩ | ⟨hw, _⟩)
    · exact ⟨rfl, Inv_up hI⟩
    · exact absurd hw h1
  · refine spec_post ?_ (S8_gone (by decide) a _)
    obtain ⟨q1, q2, q3⟩ := ten_same hI.1 hF
    rintro r' t' (⟨h2, rfl, rfl⟩ | ⟨hw', ⟨Y', z1, rfl⟩, hF'⟩)
    · exact absurd hw h2
    · rw [q1, q2, q3] at z1
      have eY := finR_det y1 z1
      subst eY
      exact ⟨rfl, Inv_tent hI hF hF'⟩
theorem pr_count {l : Launch} {G : GG} (a : Int32) : PairK Inv l G hX7_count hX8_count [.inl a] := by
  intro n s hn hI
  obtain ⟨⟨e1, e2, e3, e4⟩, ⟨D, iA⟩, ⟨R, W, iR⟩, ⟨N, tw, dy, sm, iL⟩⟩ := id hI
  obtain ⟨a1, a2, a3, a4, _⟩ := iA
  have hb : s 1 7 = nI (s 1 7).toBitVec.toNat := by
    apply b_ext
    intro i hi
    rw [bt_nI hi]
    rfl
  have hbn : (s 1 7).toBitVec.toNat < 65536 := by
    refine Nat.lt_pow_two_of_testBit (n := 16) _ (fun i hi => ?_)
    by_cases h32 : i < 32
    · exact a4 i hi h32
    · exact Nat.testBit_lt_two_pow (Nat.lt_of_lt_of_le (s 1 7).toBitVec.isLt (Nat.pow_le_pow_right (n := 2) (i := 32) (j := i) (by decide) (by omega)))
  refine spec_post ?_ (S7_count (by decide) hbn a hb)
  rintro r _ ⟨rfl, rfl⟩
  refine spec_post ?_ (S8_count (by decide) a)
  rintro r' _ ⟨rfl, rfl⟩
  refine ⟨?_, Inv_up hI⟩
  have c1 : s 49 0 = s 1 0 := a3.1.trans a2.1.symm
  have c2 : s 49 11 = s 33 0 := iR.2.2.2.2.2.1.1.trans iR.2.2.2.1.1.symm
  have c3 : s 49 17 = s 46 0 := iL.2.2.1.trans iL.2.1.symm
  have c4 : ctB (fun k => !decide (s 56 k = 0)) 16 = ctB (s 1 7).toBitVec.toNat.testBit 16 := by
    refine ctB_congr (fun k hk => ?_)
    have h1 := a2.2.2.2 k hk
    have h2 := a3.2.2.2 k hk
    have h3 := a1.2.2.2.2.2.2.2 k
    have h4 : nI (D 7 k) = 0 ↔ D 7 k = 0 := nI_eq (b := 0) (by omega) (by decide)
    have h5 : (s 1 7).toBitVec.toNat.testBit k = bt (s 1 7) k := rfl
    rw [h5, h1, h2]
    by_cases e : D 7 k = 1
    · rw [decide_eq_true e, decide_eq_false (fun q => by rw [h4] at q; omega)]
      rfl
    · rw [decide_eq_false e, decide_eq_true (h4.mpr (by omega))]
      rfl
  rw [c1, c2, c3, c4, e2, e3]
theorem pr_took {l : Launch} {G : GG} (a b c : Int32) : PairK Inv l G hX7_took hX8_took [.inl a, .inl b, .inl c] := by
  intro n s hn hI
  obtain ⟨iT, ⟨D, iA⟩, ⟨R, W, iR⟩, ⟨N, tw, dy, sm, iL⟩⟩ := id hI
  obtain ⟨l1, l2, l3, l4, l5⟩ := id iL
  have hR0 := iR.1.1
  refine spec_post ?_ (S7_took (k := R 0 0) (n := N) (by decide) hR0 l1 a b c iR.2.2.2.1.1 l2)
  rintro r t (⟨i, j, hi, hj, rfl, rfl, hc, hN, rfl, rfl⟩ | ⟨h1, rfl, rfl⟩)
  · refine spec_post ?_ (S8_took (k := R 0 0) (n := N) (by decide) hR0 l1 (nI i) (nI j) c iR.2.2.2.2.2.1.1 l3)
    rintro r' t' (⟨h2, _, rfl, rfl⟩ | ⟨h2, _⟩)
    · obtain ⟨v, hv, rfl⟩ := nI_of2 (x := c) (M := 1000000) (n := 1000000) (by decide) (by grind) hc.2
      refine ⟨rfl, TI_fr iT (fun q hq => ?_), ⟨D, AID_up (AID_fr iA rfl (fun q hq => ?_))⟩, ⟨R, W, RID_up (RID_fr iR rfl (fun q hq => ?_))⟩, ⟨N + 1, (fun x => if x = N then i else tw x), (fun x => if x = N then j else dy x), (fun x => if x = N then v else sm x), by omega, ?_, ?_, ?_, ?_⟩⟩
      · exact (stM_ne (by omega)).trans ((stM_ne (by omega)).trans ((stM_ne (by omega)).trans ((stM_ne (by omega)).trans ((stM_ne (by omega)).trans ((stM_ne (by omega)).trans (stM_ne (by omega)))))))
      · exact (stM_ne (by omega)).trans ((stM_ne (by omega)).trans ((stM_ne (by omega)).trans ((stM_ne (by omega)).trans ((stM_ne (by omega)).trans ((stM_ne (by omega)).trans (stM_ne (by omega)))))))
      · exact (stM_ne (by omega)).trans ((stM_ne (by omega)).trans ((stM_ne (by omega)).trans ((stM_ne (by omega)).trans ((stM_ne (by omega)).trans ((stM_ne (by omega)).trans (stM_ne (by omega)))))))
      · show s 46 0 + 1 = nI (N + 1)
        rw [l2, nI_1]
      · show s 49 17 + 1 = nI (N + 1)
        rw [l3, nI_1]
      · intro x y hx hy
        show upd (s 47) (i * 7 + j) (s 47 (i * 7 + j) + nI v) (x * 7 + y) = _ ∧ upd (s 48) (i * 7 + j) (s 48 (i * 7 + j) + 1) (x * 7 + y) = _
        obtain ⟨m1, m2⟩ := l4 x y hx hy
        have cg : ∀ f g : Nat → Nat, (∀ z, z < N → f z = g z) → SF (fun z => (if z = N then i else tw z) == x && (if z = N then j else dy z) == y) f N = SF (fun z => tw z == x && dy z == y) g N := by
          intro f g hfg
          have h1 : SF (fun z => (if z = N then i else tw z) == x && (if z = N then j else dy z) == y) f N = SF (fun z => tw z == x && dy z == y) f N := SF_cong (fun z hz => by
            have : ¬ z = N := by omega
            simp only [if_neg this])
          rw [h1]
          exact SF_f hfg
        have s1 : SF (fun z => (if z = N then i else tw z) == x && (if z = N then j else dy z) == y) (fun z => if z = N then v else sm z) (N + 1) = SF (fun z => tw z == x && dy z == y) sm N + if (i == x && j == y) then v else 0 := by
          show SF _ _ N + _ = _
          rw [cg (fun z => if z = N then v else sm z) sm (fun z hz => if_neg (by omega))]
          simp
        have s2 : SF (fun z => (if z = N then i else tw z) == x && (if z = N then j else dy z) == y) (fun _ => 1) (N + 1) = SF (fun z => tw z == x && dy z == y) (fun _ => 1) N + if (i == x && j == y) then 1 else 0 := by
          show SF _ _ N + _ = _
          rw [cg (fun _ => 1) (fun _ => 1) (fun _ _ => rfl)]
          simp
        rw [s1, s2]
        by_cases e : i = x ∧ j = y
        · obtain ⟨rfl, rfl⟩ := e
          rw [upd_at, upd_at, m1, m2, nI_add, nI_1]
          simp
        · have hne : ¬ x * 7 + y = i * 7 + j := by omega
          rw [upd_ne hne, upd_ne hne, m1, m2]
          have e2 : (i == x && j == y) = false := by
            cases h : (i == x && j == y) with
            | false => rfl
            | true =>
              rw [Bool.and_eq_true, beq_iff_eq, beq_iff_eq] at h
              exact absurd h e
          rw [e2]
          exact ⟨rfl, rfl⟩
      · intro x hx
        show (if x = N then i else tw x) < 8 ∧ (if x = N then j else dy x) < 7 ∧ (if x = N then v else sm x) ≤ 1000000 ∧ upd (s 65) N (nI i) x = nI (if x = N then i else tw x) ∧ upd (s 66) N (nI j) x = nI (if x = N then j else dy x) ∧ upd (s 67) N (nI v) x = nI (if x = N then v else sm x)
        by_cases e : x = N
        · subst e
          simp only [if_pos]
          exact ⟨by omega, hj, hv, upd_at, upd_at, upd_at⟩
        · simp only [if_neg e]
          rw [upd_ne e, upd_ne e, upd_ne e]
          exact l5 x (by omega)
    · exact absurd ⟨⟨⟨i, hi, rfl⟩, ⟨nI_pos' (by omega), nI_le (b := 6) (by omega) (by decide)⟩, hc⟩, hN⟩ h2
  · refine spec_post ?_ (S8_took (k := R 0 0) (n := N) (by decide) hR0 l1 a b c iR.2.2.2.2.2.1.1 l3)
    rintro r' t' (⟨h2, h3, _⟩ | ⟨h2, rfl, rfl⟩)
    · exact absurd ⟨h2, h3⟩ h1
    · exact ⟨rfl, Inv_up hI⟩
theorem pr_foretold {l : Launch} {G : GG} (a b c : Int32) : PairK Inv l G hX7_foretold hX8_foretold [.inl a, .inl b, .inl c] := by
  intro n s hn hI
  obtain ⟨iT, ⟨D, iA⟩, ⟨R, W, iR⟩, ⟨N, tw, dy, sm, iL⟩⟩ := id hI
  obtain ⟨l1, l2, l3, l4, l5⟩ := id iL
  have hR0 := iR.1.1
  refine spec_post ?_ (S7_foretold (k := R 0 0) (N := N) (by decide) hR0 l1 (fun i hi => (l5 i hi).2.2.1) a b c iR.2.2.2.1.1 l4)
  rintro r t (⟨h1, rfl, rfl⟩ | ⟨i, j, hi, hj, rfl, rfl, hq, hF⟩)
  · refine spec_post ?_ (S8_foretold (k := R 0 0) (N := N) (by decide) hR0 l1 a b c iR.2.2.2.2.2.1.1 l3 l5)
    rintro r' t' (⟨h2, rfl, rfl⟩ | ⟨i, j, hi, hj, rfl, rfl, hq, rfl⟩)
    · exact ⟨rfl, Inv_up hI⟩
    · refine absurd ⟨⟨i, hi, rfl⟩, ⟨nI_pos' (by omega), nI_le (b := 6) (by omega) (by decide)⟩, ?_⟩ h1
      rcases hq with ⟨rfl, _⟩ | ⟨rfl, _⟩ <;> decide
  · have e : ∀ q, q ≠ 46 → t q = s q := hF.1
    have m3 : t 49 17 = nI N := by rw [e 49 (by decide)]; exact l3
    have m1 : t 49 11 = nI (R 0 0) := by rw [e 49 (by decide)]; exact iR.2.2.2.2.2.1.1
    have m5 : ∀ i, i < N → tw i < 8 ∧ dy i < 7 ∧ sm i ≤ 1000000 ∧ t 65 i = nI (tw i) ∧ t 66 i = nI (dy i) ∧ t 67 i = nI (sm i) := by
      rw [e 65 (by decide), e 66 (by decide), e 67 (by decide)]
      exact l5
    refine spec_post ?_ (S8_foretold (k := R 0 0) (N := N) (by decide) hR0 l1 (nI i) (nI j) c m1 m3 m5)
    rintro r' t' (⟨h2, rfl, rfl⟩ | ⟨i', j', hi', hj', e1, e2, hq', rfl⟩)
    · refine absurd ⟨⟨i, hi, rfl⟩, ⟨nI_pos' (by omega), nI_le (b := 6) (by omega) (by decide)⟩, ?_⟩ h2
      rcases hq with ⟨rfl, _⟩ | ⟨rfl, _⟩ <;> decide
    · have ei := (nI_eq (a := i) (b := i') (by omega) (by omega)).mp e1
      have ej := (nI_eq (a := j) (b := j') (by omega) (by omega)).mp e2
      subst ei ej
      refine ⟨fQ_det hq hq', Inv_fr hI ⟨by rw [e 49 (by decide)], by rw [e 49 (by decide)], by rw [e 49 (by decide)]⟩ (hF.2 0 (by decide) (by decide)) (fun q hq => e q (by omega))⟩
