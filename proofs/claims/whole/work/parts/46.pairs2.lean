/-! ===== the calls, one by one: acts, orders, towns ===== -/
theorem upd_if {f : Nat → Int32} {k i v : Nat} {g : Nat → Nat} (h : f i = nI (g i)) : upd f k (nI v) i = nI (if i = k then v else g i) := by
  by_cases e : i = k
  · rw [if_pos e, e, upd_at]
  · rw [if_neg e, upd_ne e]
    exact h
theorem act_nums {a b c : Int32} (h : canP a b c) : ∃ w x y : Nat, a = nI w ∧ b = nI x ∧ c = nI y ∧ w < 2 ^ 31 ∧ w / 1000 ≤ 60 ∧ w / 100 % 10 < 4 ∧ x < 1024 ∧ y < 256 ∧ a / 1000 = nI (w / 1000) ∧ kdI a = nI (w / 100 % 10) ∧ a - a / 100 * 100 = nI (w % 100) := by
  obtain ⟨h1, h2, h3, h4, h5, h6, h7, h8⟩ := h
  obtain ⟨g1, _⟩ := th_ge.mp h1
  obtain ⟨w, hw, rfl⟩ := nI_of g1
  obtain ⟨x, hx, rfl⟩ := nI_of2 (x := b) (M := 1023) (n := 1023) (by decide) h4 h5
  have e1 : nI w / (1000 : Int32) = nI (w / 1000) := pk_div (d := 1000) hw (by decide) (by decide)
  have e2 : nI w / (100 : Int32) = nI (w / 100) := pk_div (d := 100) hw (by decide) (by decide)
  have e3 : kdI (nI w) = nI (w / 100 % 10) := by
    show nI w / (100 : Int32) - nI w / (100 : Int32) / (10 : Int32) * (10 : Int32) = _
    rw [e2]
    exact pk_rem (d := 10) (by omega) (by decide) (by decide)
  have e4 : nI w - nI w / 100 * 100 = nI (w % 100) := pk_rem (d := 100) hw (by decide) (by decide)
  have hc : c ≤ 255 := by
    by_cases q : kdI (nI w) = 3
    · have := h7 q; grind
    · have := h8 q; grind
  obtain ⟨y, hy, rfl⟩ := nI_of2 (x := c) (M := 255) (n := 255) (by decide) h6 hc
  have k1 : w / 1000 ≤ 60 := by
    rw [e1] at h2
    exact (nI_leI (b := 60) (by omega) (by decide)).mp h2
  have k2 : w / 100 % 10 < 4 := by
    rw [e3] at h3
    have := (nI_leI (a := 4) (b := w / 100 % 10) (by decide) (by omega)).mpr
    rcases Nat.lt_or_ge (w / 100 % 10) 4 with q | q
    · exact q
    · exact absurd (this q) h3
  exact ⟨w, x, y, rfl, rfl, rfl, hw, k1, k2, by omega, by omega, e1, e3, e4⟩
def actD (D : Shw) (w x y : Nat) : Shw := fun q i => if q = 0 then D 0 0 + 1 else if q = 1 then (if i = D 0 0 then w / 1000 else D 1 i) else if q = 2 then (if i = D 0 0 then w / 100 % 10 else D 2 i) else if q = 3 then (if i = D 0 0 then w % 100 else D 3 i) else if q = 4 then (if i = D 0 0 then x else D 4 i) else if q = 5 then (if i = D 0 0 then y else D 5 i) else D q i
theorem cache_off {s t : Mem} {n a c k m : Nat} {P : Prop} (h1 : s m k = nI a) (h3 : a ≤ c) (h4 : c ≤ n) (hn : n < 512) (e1 : t m k = s m k) {x : Int32} (e2 : x = nI (c + 1)) : t m k = x → P := by
  intro q
  rw [e1, h1, e2] at q
  have := (nI_eq (a := a) (b := c + 1) (by omega) (by omega)).mp q
  omega
theorem pr_act {l : Launch} {G : GG} (a b c : Int32) : PairK Inv l G hX7_act hX8_act [.inl a, .inl b, .inl c] := by
  intro n s hn hI
  obtain ⟨iT, ⟨D, iA⟩, ⟨R, W, iR⟩, ⟨N, tw, dy, sm, iL⟩⟩ := id hI
  obtain ⟨a1, a2, a3, a4, a5, a6, ⟨ca, cc, b1, b2, b3, b4⟩, a8⟩ := id iA
  refine spec_post ?_ (S7_act (k := D 0 0) (by decide) a1.1 a b c a2.1)
  rintro r t (⟨h1, hk, rfl, rfl⟩ | ⟨h1, rfl, rfl⟩)
  · refine spec_post ?_ (S8_act (k := D 0 0) (by decide) a1.1 a b c a3.1)
    rintro r' t' (⟨h2, _, rfl, rfl⟩ | ⟨h2, _⟩)
    rotate_left
    · exact absurd ⟨can_iff.mp h1, hk⟩ h2
    obtain ⟨w, x, y, rfl, rfl, rfl, hw, w1, w2, hx, hy, e1, e2, e3⟩ := act_nums h1
    obtain ⟨d0, d1, d2, d3, d4, d5, d6, d7⟩ := a1
    have fr : ∀ q, q ≠ 2 → q ≠ 3 → q ≠ 4 → q ≠ 5 → q ≠ 6 → q ≠ 1 → q ≠ 50 → q ≠ 51 → q ≠ 52 → q ≠ 53 → q ≠ 54 → q ≠ 49 → (actM (actC s (D 0 0) (nI w) (nI x) (nI y)) (D 0 0) (nI w) (nI x) (nI y)) q = s q := fun q q2 q3 q4 q5 q6 q1 q50 q51 q52 q53 q54 q49 => (stM_ne q49).trans ((stM_ne q54).trans ((stM_ne q53).trans ((stM_ne q52).trans ((stM_ne q51).trans ((stM_ne q50).trans ((stM_ne q1).trans ((stM_ne q1).trans ((stM_ne q6).trans ((stM_ne q5).trans ((stM_ne q4).trans ((stM_ne q3).trans (stM_ne q2))))))))))))
    refine ⟨rfl, TI_fr iT (fun q hq => fr q (by omega) (by omega) (by omega) (by omega) (by omega) (by omega) (by omega) (by omega) (by omega) (by omega) (by omega) (by omega)), ⟨actD D w x y, ?_, ⟨?_, ?_, a2.2.2.1, a2.2.2.2⟩, ⟨?_, ?_, a3.2.2.1, a3.2.2.2⟩, a4, a5, a6, ⟨ca, cc + 1, b1, ?_, by omega, by omega⟩, ?_⟩, ⟨R, W, RID_up (RID_fr iR rfl (fun q hq => fr q (by omega) (by omega) (by omega) (by omega) (by omega) (by omega) (by omega) (by omega) (by omega) (by omega) (by omega) (by omega)))⟩, ⟨N, tw, dy, sm, LID_fr iL rfl rfl (fun q hq => fr q (by omega) (by omega) (by omega) (by omega) (by omega) (by omega) (by omega) (by omega) (by omega) (by omega) (by omega) (by omega))⟩⟩
    · refine ⟨?_, fun i => ?_, fun i => ?_, fun i => ?_, fun i => ?_, fun i => ?_, fun i => ?_, fun i => ?_⟩
      · show D 0 0 + 1 ≤ 8
        omega
      · show (if i = D 0 0 then w / 1000 else D 1 i) ≤ 60
        split
        · exact w1
        · exact d1 i
      · show (if i = D 0 0 then w / 100 % 10 else D 2 i) < 4
        split
        · exact w2
        · exact d2 i
      · show (if i = D 0 0 then w % 100 else D 3 i) ≤ 99
        split
        · omega
        · exact d3 i
      · show (if i = D 0 0 then x else D 4 i) < 1024
        split
        · exact hx
        · exact d4 i
      · show (if i = D 0 0 then y else D 5 i) < 256
        split
        · exact hy
        · exact d5 i
      · exact d6 i
      · exact d7 i
    · show s 1 0 + 1 = nI (D 0 0 + 1)
      rw [a2.1, nI_1]
    · intro i hi
      obtain ⟨f1, f2, f3, f4, f5⟩ := a2.2.1 i hi
      show upd (s 2) (D 0 0) (nI w / 1000) i = nI (if i = D 0 0 then w / 1000 else D 1 i) ∧ upd (s 3) (D 0 0) (kdI (nI w)) i = nI (if i = D 0 0 then w / 100 % 10 else D 2 i) ∧ upd (s 4) (D 0 0) (nI w - nI w / 100 * 100) i = nI (if i = D 0 0 then w % 100 else D 3 i) ∧ upd (s 5) (D 0 0) (nI x) i = nI (if i = D 0 0 then x else D 4 i) ∧ upd (s 6) (D 0 0) (nI y) i = nI (if i = D 0 0 then y else D 5 i)
      rw [e1, e2, e3]
      exact ⟨upd_if f1, upd_if f2, upd_if f3, upd_if f4, upd_if f5⟩
    · show s 49 0 + 1 = nI (D 0 0 + 1)
      rw [a3.1, nI_1]
    · intro i hi
      obtain ⟨f1, f2, f3, f4, f5⟩ := a3.2.1 i hi
      show upd (s 50) (D 0 0) (nI w / 1000) i = nI (if i = D 0 0 then w / 1000 else D 1 i) ∧ upd (s 51) (D 0 0) (kdI (nI w)) i = nI (if i = D 0 0 then w / 100 % 10 else D 2 i) ∧ upd (s 52) (D 0 0) (nI w - nI w / 100 * 100) i = nI (if i = D 0 0 then w % 100 else D 3 i) ∧ upd (s 53) (D 0 0) (nI x) i = nI (if i = D 0 0 then x else D 4 i) ∧ upd (s 54) (D 0 0) (nI y) i = nI (if i = D 0 0 then y else D 5 i)
      rw [e1, e2, e3]
      exact ⟨upd_if f1, upd_if f2, upd_if f3, upd_if f4, upd_if f5⟩
    · show s 1 8 + 1 = nI (cc + 1)
      rw [b2, nI_1]
    · refine cache_off (s := s) (n := n) (a := ca) (c := cc) b1 b3 b4 hn rfl ?_
      show s 1 8 + 1 = nI (cc + 1)
      rw [b2, nI_1]
  · refine spec_post ?_ (S8_act (k := D 0 0) (by decide) a1.1 a b c a3.1)
    rintro r' t' (⟨h2, h3, _⟩ | ⟨h2, rfl, rfl⟩)
    · exact absurd ⟨can_iff.mpr h2, h3⟩ h1
    · exact ⟨rfl, Inv_up hI⟩
theorem rs_bits {f : Nat → Int32} {p v b q : Nat} {g : Nat → Nat} (hp : p < 10) (hv : v ≤ 3) (h1 : 1 ≤ b) (h2 : b ≤ 3) (hq : q < 10) (h : bt (f b) q = decide (b ≤ g q)) : bt (rsK f p (nI v) 4 b) q = decide (b ≤ if q = p then v else g q) := by
  unfold rsK
  rw [if_pos ⟨h1, by omega⟩]
  have hlt : nI v < nI b ↔ v < b := nI_ltI (by omega) (by omega)
  by_cases e : v < b
  · rw [if_pos (hlt.mpr e), b_and, b_xor, bt_one p (by omega) (by omega), b_m1 q (by omega), h]
    by_cases eq : q = p
    · subst eq
      rw [if_pos rfl, decide_eq_false (show ¬ b ≤ v by omega)]
      simp
    · rw [if_neg eq]
      simp [eq]
  · rw [if_neg (fun z => e (hlt.mp z)), b_or, bt_one p (by omega) (by omega), h]
    by_cases eq : q = p
    · subst eq
      rw [if_pos rfl, decide_eq_true (show b ≤ v by omega)]
      simp
    · rw [if_neg eq]
      simp [eq]
theorem pr_rests {l : Launch} {G : GG} (a b : Int32) : PairK Inv l G hX7_rests hX8_rests [.inl a, .inl b] := by
  intro n s hn hI
  obtain ⟨iT, ⟨D, iA⟩, ⟨R, W, iR⟩, ⟨N, tw, dy, sm, iL⟩⟩ := id hI
  obtain ⟨a1, a2, a3, a4, a5, a6, ⟨ca, cc, b1, b2, b3, b4⟩, a8⟩ := id iA
  refine spec_post ?_ (S7_rests (by decide) a b s)
  rintro r t (⟨p, hp, rfl, hb, rfl, rfl⟩ | ⟨h1, rfl, rfl⟩)
  · refine spec_post ?_ (S8_rests (by decide) (nI p) b _)
    rintro r' t' (⟨p', hp', e, _, rfl, rfl⟩ | ⟨h2, _⟩)
    rotate_left
    · exact absurd ⟨⟨nI_pos' (by omega), nI_le (b := 9) (by omega) (by decide)⟩, hb⟩ h2
    have ep := (nI_eq (a := p) (b := p') (by omega) (by omega)).mp e
    subst ep
    obtain ⟨v, hv, rfl⟩ := nI_of2 (x := b) (M := 3) (n := 3) (by decide) (by grind) hb.2
    obtain ⟨d0, d1, d2, d3, d4, d5, d6, d7⟩ := a1
    have fr : ∀ q, q ≠ 7 → q ≠ 1 → q ≠ 55 → (wrM (wrM (stM s 7 (rsK (s 7) p (nI v) 4)) 1 8 (s 1 8 + 1)) 55 p (nI v)) q = s q := fun q q7 q1 q55 => (stM_ne q55).trans ((stM_ne q1).trans (stM_ne q7))
    refine ⟨rfl, TI_fr iT (fun q hq => fr q (by omega) (by omega) (by omega)), ⟨(fun q i => if q = 6 then (if i = p then v else D 6 i) else D q i), ?_, ⟨a2.1, a2.2.1, ?_, a2.2.2.2⟩, ⟨a3.1, a3.2.1, ?_, a3.2.2.2⟩, a4, a5, a6, ⟨ca, cc + 1, b1, ?_, by omega, by omega⟩, ?_⟩, ⟨R, W, RID_up (RID_fr iR rfl (fun q hq => fr q (by omega) (by omega) (by omega)))⟩, ⟨N, tw, dy, sm, LID_fr iL rfl rfl (fun q hq => fr q (by omega) (by omega) (by omega))⟩⟩
    · refine ⟨d0, d1, d2, d3, d4, d5, fun i => ?_, d7⟩
      show (if i = p then v else D 6 i) ≤ 3
      split
      · exact hv
      · exact d6 i
    · intro bb q h1 h2 hq
      show bt (rsK (s 7) p (nI v) 4 bb) q = decide (bb ≤ if q = p then v else D 6 q)
      exact rs_bits hp hv h1 h2 hq (a2.2.2.1 bb q h1 h2 hq)
    · intro q hq
      show upd (s 55) p (nI v) q = nI (if q = p then v else D 6 q)
      exact upd_if (a3.2.2.1 q hq)
    · show s 1 8 + 1 = nI (cc + 1)
      rw [b2, nI_1]
    · refine cache_off (s := s) (n := n) (a := ca) (c := cc) b1 b3 b4 hn rfl ?_
      show s 1 8 + 1 = nI (cc + 1)
      rw [b2, nI_1]
  · refine spec_post ?_ (S8_rests (by decide) a b _)
    rintro r' t' (⟨p, hp, rfl, hb, _⟩ | ⟨h2, rfl, rfl⟩)
    · exact absurd ⟨⟨nI_pos' (by omega), nI_le (b := 9) (by omega) (by decide)⟩, hb⟩ h1
    · exact ⟨rfl, Inv_up hI⟩
theorem in3i {r : Int32} {k : Nat} (hk : k < 4) (h : r = nI k) : 0 ≤ r ∧ r ≤ 3 := by
  subst h
  exact ⟨nI_pos' (by omega), nI_le (b := 3) (by omega) (by decide)⟩
theorem pr_ban {l : Launch} {G : GG} (a b c : Int32) (hc : c = 0 ∨ c = 1) : PairK Inv l G hX7_ban hX8_ban [.inl a, .inl b, .inl c] := by
  intro n s hn hI
  obtain ⟨iT, ⟨D, iA⟩, ⟨R, W, iR⟩, ⟨N, tw, dy, sm, iL⟩⟩ := id hI
  obtain ⟨a1, a2, a3, a4, a5, a6, ⟨ca, cc, b1, b2, b3, b4⟩, a8⟩ := id iA
  have same : ∀ i j, i < 4 → j < 4 → s 56 (i * 4 + j) = (if bt (s 1 7) (i * 4 + j) then 1 else 0) := by
    intro i j hi hj
    rw [a2.2.2.2 _ (by omega), a3.2.2.2 _ (by omega)]
    have h7 := a1.2.2.2.2.2.2.2 (i * 4 + j)
    by_cases e : D 7 (i * 4 + j) = 1
    · rw [e]
      rfl
    · rw [show D 7 (i * 4 + j) = 0 by omega]
      rfl
  refine spec_post ?_ (S7_ban (by decide) a b c s)
  rintro r t (⟨i, j, hi, hj, rfl, rfl, hne, rfl, rfl⟩ | ⟨h1, rfl, rfl⟩ | ⟨i, j, hi, hj, rfl, rfl, he, rfl, rfl⟩)
  · refine spec_post ?_ (S8_ban (by decide) (nI i) (nI j) c _)
    rintro r' t' (⟨i', j', hi', hj', e1, e2, _, rfl, rfl⟩ | ⟨h2, _⟩ | ⟨i', j', hi', hj', e1, e2, he, _⟩)
    · have ei := (nI_eq (a := i) (b := i') (by omega) (by omega)).mp e1
      have ej := (nI_eq (a := j) (b := j') (by omega) (by omega)).mp e2
      subst ei ej
      obtain ⟨d0, d1, d2, d3, d4, d5, d6, d7⟩ := a1
      have h7 := d7 (i * 4 + j)
      have hnar : vp_nar .boolean c = nI (1 - D 7 (i * 4 + j)) := by
        rw [← same i j hi hj, a3.2.2.2 _ (by omega)] at hne
        rcases hc with rfl | rfl
        · by_cases e : D 7 (i * 4 + j) = 0
          · exact absurd (by rw [e]; rfl) hne
          · rw [show D 7 (i * 4 + j) = 1 by omega]
            decide
        · by_cases e : D 7 (i * 4 + j) = 1
          · exact absurd (by rw [e]; rfl) hne
          · rw [show D 7 (i * 4 + j) = 0 by omega]
            decide
      have fr : ∀ q, q ≠ 1 → q ≠ 56 → (wrM (wrM (wrM s 1 7 (s 1 7 ^^^ bitI (i * 4 + j))) 1 8 (s 1 8 + 1)) 56 (i * 4 + j) (vp_nar .boolean c)) q = s q := fun q q1 q56 => (stM_ne q56).trans ((stM_ne q1).trans (stM_ne q1))
      refine ⟨rfl, TI_fr iT (fun q hq => fr q (by omega) (by omega)), ⟨(fun q k => if q = 7 then (if k = i * 4 + j then 1 - D 7 (i * 4 + j) else D 7 k) else D q k), ⟨d0, d1, d2, d3, d4, d5, d6, fun k => ?_⟩, ⟨a2.1, a2.2.1, a2.2.2.1, fun k hk => ?_⟩, ⟨a3.1, a3.2.1, a3.2.2.1, fun k hk => ?_⟩, fun k k1 k2 => ?_, a5, a6, ⟨ca, cc + 1, b1, ?_, by omega, by omega⟩, ?_⟩, ⟨R, W, RID_up (RID_fr iR rfl (fun q hq => fr q (by omega) (by omega)))⟩, ⟨N, tw, dy, sm, LID_fr iL rfl rfl (fun q hq => fr q (by omega) (by omega))⟩⟩
      · show (if k = i * 4 + j then 1 - D 7 (i * 4 + j) else D 7 k) ≤ 1
        split
        · omega
        · exact d7 k
      · show bt (s 1 7 ^^^ bitI (i * 4 + j)) k = decide ((if k = i * 4 + j then 1 - D 7 (i * 4 + j) else D 7 k) = 1)
        rw [b_xor, bt_one (i * 4 + j) (by omega) (by omega), a2.2.2.2 k hk]
        by_cases e : k = i * 4 + j
        · subst e
          rw [if_pos rfl]
          by_cases e7 : D 7 (i * 4 + j) = 1
          · simp [e7]
          · have e0 : D 7 (i * 4 + j) = 0 := by omega
            simp [e0]
        · rw [if_neg e]
          simp [e]
      · show upd (s 56) (i * 4 + j) (vp_nar .boolean c) k = nI (if k = i * 4 + j then 1 - D 7 (i * 4 + j) else D 7 k)
        rw [hnar]
        exact upd_if (a3.2.2.2 k hk)
      · show bt (s 1 7 ^^^ bitI (i * 4 + j)) k = false
        rw [b_xor, bt_one (i * 4 + j) (by omega) k2, a4 k k1 k2, decide_eq_false (by omega)]
        rfl
      · show s 1 8 + 1 = nI (cc + 1)
        rw [b2, nI_1]
      · refine cache_off (s := s) (n := n) (a := ca) (c := cc) b1 b3 b4 hn rfl ?_
        show s 1 8 + 1 = nI (cc + 1)
        rw [b2, nI_1]
    · exact absurd ⟨in3i hi rfl, in3i hj rfl⟩ h2
    · have ei := (nI_eq (a := i) (b := i') (by omega) (by omega)).mp e1
      have ej := (nI_eq (a := j) (b := j') (by omega) (by omega)).mp e2
      subst ei ej
      exact absurd ((same i j hi hj).symm.trans he) hne
  · refine spec_post ?_ (S8_ban (by decide) a b c _)
    rintro r' t' (⟨i', j', hi', hj', e1, e2, _⟩ | ⟨h2, rfl, rfl⟩ | ⟨i', j', hi', hj', e1, e2, _⟩)
    · exact absurd ⟨in3i hi' e1, in3i hj' e2⟩ h1
    · exact ⟨rfl, Inv_up hI⟩
    · exact absurd ⟨in3i hi' e1, in3i hj' e2⟩ h1
  · refine spec_post ?_ (S8_ban (by decide) (nI i) (nI j) c _)
    rintro r' t' (⟨i', j', hi', hj', e1, e2, hne, _⟩ | ⟨h2, _⟩ | ⟨i', j', hi', hj', e1, e2, _, rfl, rfl⟩)
    · have ei := (nI_eq (a := i) (b := i') (by omega) (by omega)).mp e1
      have ej := (nI_eq (a := j) (b := j') (by omega) (by omega)).mp e2
      subst ei ej
      exact absurd ((same i j hi hj).trans he) hne
    · exact absurd ⟨in3i hi rfl, in3i hj rfl⟩ h2
    · exact ⟨rfl, Inv_up hI⟩
theorem Inv_J {n : Nat} {D : Shw} {s t u : Mem} (h : Inv n s) (hA : AID n D s) (h1 : FrJ s t) (hR : RowC D (t 9) (t 10) (t 11) (t 12) (t 13) (t 14) []) (h2 : Fr68 t u) : Inv (n + 1) u := by
  obtain ⟨iT, _, ⟨R, W, iR⟩, ⟨N, tw, dy, sm, iL⟩⟩ := h
  obtain ⟨a1, a2, a3, a4, a5, a6, a7, a8⟩ := hA
  have e : ∀ q, (q < 8 ∨ 14 < q) → q ≠ 68 → u q = s q := fun q hq h6 => (h2 q h6).trans (h1 q (by omega) (by omega) (by omega) (by omega) (by omega) (by omega) (by omega))
  refine ⟨TI_fr iT (fun q hq => e q (by omega) (by omega)), ⟨D, AID_up ⟨a1, ShC_fr a2 (fun q _ _ => e q (by omega) (by omega)), ShM_fr a3 (by rw [e 49 (by omega) (by decide)]) (fun q _ _ => e q (by omega) (by omega)), ?_, ?_, ?_, ?_, ?_⟩⟩, ⟨R, W, RID_up (RID_fr iR (by rw [e 49 (by omega) (by decide)]) (fun q hq => e q (by omega) (by omega)))⟩, ⟨N, tw, dy, sm, LID_fr iL (by rw [e 46 (by omega) (by decide)]) (by rw [e 49 (by omega) (by decide)]) (fun q hq => e q (by omega) (by omega))⟩⟩
  · rw [e 1 (by omega) (by decide)]
    exact a4
  · rw [h2 9 (by decide), h2 10 (by decide), h2 11 (by decide), h2 12 (by decide), h2 13 (by decide), h2 14 (by decide)]
    exact hR
  · rw [e 17 (by omega) (by decide), e 18 (by omega) (by decide), e 19 (by omega) (by decide), e 20 (by omega) (by decide), e 21 (by omega) (by decide), e 22 (by omega) (by decide)]
    exact a6
  · rw [e 15 (by omega) (by decide), e 1 (by omega) (by decide)]
    exact a7
  · rw [e 15 (by omega) (by decide), e 1 (by omega) (by decide)]
    exact fun q => BestC_fr (a8 q) (e 15 (by omega) (by decide)) (e 23 (by omega) (by decide))
theorem ShM_J {s t : Mem} {D : Shw} (h : ShM s D) (hf : FrJ s t) : ShM t D := ShM_fr h (by rw [hf 49 (by decide) (by decide) (by decide) (by decide) (by decide) (by decide) (by decide)]) (fun q h1 h2 => hf q (by omega) (by omega) (by omega) (by omega) (by omega) (by omega) (by omega))
theorem pr_judge {l : Launch} {G : GG} (a b c : Int32) : PairK Inv l G hX7_judge hX8_judge [.inl a, .inl b, .inl c] := by
  intro n s hn hI
  obtain ⟨D, iA⟩ := hI.2.1
  refine spec_post ?_ (S7_judge (by decide) iA.1 iA.2.1 iA.2.2.2.2.1 a b c)
  rintro r t ⟨h1, h2, h3⟩
  refine spec_post ?_ (S8_judge (by decide) iA.1 (ShM_J iA.2.2.1 h3) a b c)
  rintro r' t' ⟨h4, _, h5⟩
  exact ⟨jdV_det h1 h4, Inv_J hI iA h3 h2 h5⟩
theorem pr_gaps {l : Launch} {G : GG} (a b : Int32) : PairK Inv l G hX7_gaps hX8_gaps [.inl a, .inl b] := by
  intro n s hn hI
  obtain ⟨D, iA⟩ := hI.2.1
  refine spec_post ?_ (S7_gaps (by decide) iA.1 iA.2.1 iA.2.2.2.2.1 a b)
  rintro r t ⟨h1, h2, h3⟩
  refine spec_post ?_ (S8_gaps (by decide) iA.1 (ShM_J iA.2.2.1 h3) a b)
  rintro r' t' ⟨h4, h5⟩
  exact ⟨gpV_det h1 h4, Inv_J hI iA h3 h2 h5⟩
theorem Inv_Q {n : Nat} {D : Shw} {s t u : Mem} (h : Inv n s) (hA : AID n D s) (hB : BestC t (bsN D)) (hR : RowC D (t 17) (t 18) (t 19) (t 20) (t 21) (t 22) []) (h15 : t 15 2 = s 1 8) (h1 : FrQ s t) (h2 : FrS t u) : Inv (n + 1) u := by
  obtain ⟨iT, _, ⟨R, W, iR⟩, ⟨N, tw, dy, sm, iL⟩⟩ := h
  obtain ⟨a1, a2, a3, a4, a5, a6, ⟨ca, cc, b1, b2, b3, b4⟩, a8⟩ := hA
  have e : ∀ q, (q < 15 ∨ q = 16 ∨ 25 < q) → q ≠ 49 → q ≠ 68 → q ≠ 69 → q ≠ 70 → u q = s q := fun q hq k1 k2 k3 k4 => (h2.1 q k1 k2 k3 k4).trans (h1 q (by omega) (by omega) (by omega) (by omega) (by omega) (by omega) (by omega) (by omega) (by omega) (by omega))
  have e2 : ∀ q, (q < 49 ∨ 70 < q) → u q = t q := fun q hq => h2.1 q (by omega) (by omega) (by omega) (by omega)
  have e49 : ∀ j, j ≠ 26 → u 49 j = s 49 j := fun j hj => (h2.2 j hj).trans (by rw [h1 49 (by decide) (by decide) (by decide) (by decide) (by decide) (by decide) (by decide) (by decide) (by decide) (by decide)])
  refine ⟨TI_fr iT (fun q hq => e q (by omega) (by omega) (by omega) (by omega) (by omega)), ⟨D, a1, ShC_fr a2 (fun q _ _ => e q (by omega) (by omega) (by omega) (by omega) (by omega)), ShM_fr a3 (e49 0 (by decide)) (fun q _ _ => e q (by omega) (by omega) (by omega) (by omega) (by omega)), ?_, ?_, ?_, ⟨cc, cc, ?_, ?_, Nat.le_refl _, by omega⟩, fun _ => BestC_fr hB (e2 15 (by omega)) (e2 23 (by omega))⟩, ⟨R, W, RID_up (RID_fr iR (e49 11 (by decide)) (fun q hq => e q (by omega) (by omega) (by omega) (by omega) (by omega)))⟩, ⟨N, tw, dy, sm, LID_fr iL (by rw [e 46 (by omega) (by decide) (by decide) (by decide) (by decide)]) (e49 17 (by decide)) (fun q hq => e q (by omega) (by omega) (by omega) (by omega) (by omega))⟩⟩
  · rw [e 1 (by omega) (by decide) (by decide) (by decide) (by decide)]
    exact a4
  · rw [e 9 (by omega) (by decide) (by decide) (by decide) (by decide), e 10 (by omega) (by decide) (by decide) (by decide) (by decide), e 11 (by omega) (by decide) (by decide) (by decide) (by decide), e 12 (by omega) (by decide) (by decide) (by decide) (by decide), e 13 (by omega) (by decide) (by decide) (by decide) (by decide), e 14 (by omega) (by decide) (by decide) (by decide) (by decide)]
    exact a5
  · rw [e2 17 (by omega), e2 18 (by omega), e2 19 (by omega), e2 20 (by omega), e2 21 (by omega), e2 22 (by omega)]
    exact hR
  · rw [e2 15 (by omega), h15]
    exact b2
  · rw [e 1 (by omega) (by decide) (by decide) (by decide) (by decide)]
    exact b2
theorem ShM_Q {s t : Mem} {D : Shw} (h : ShM s D) (hf : FrQ s t) : ShM t D := ShM_fr h (by rw [hf 49 (by decide) (by decide) (by decide) (by decide) (by decide) (by decide) (by decide) (by decide) (by decide) (by decide)]) (fun q h1 h2 => hf q (by omega) (by omega) (by omega) (by omega) (by omega) (by omega) (by omega) (by omega) (by omega) (by omega))
theorem pr_best {l : Launch} {G : GG} : PairK Inv l G hX7_best hX8_best [] := by
  intro n s hn hI
  obtain ⟨D, iA⟩ := hI.2.1
  refine spec_post ?_ (S7_best (by decide) iA.1 iA.2.1 iA.2.2.2.2.2.1 iA.2.2.2.2.2.2.2)
  rintro r t ⟨rfl, h2, h3, h4, h5⟩
  refine spec_post ?_ (S8_best (by decide) iA.1 (ShM_Q iA.2.2.1 h5))
  rintro r' t' ⟨rfl, h7⟩
  exact ⟨rfl, Inv_Q hI iA h2 h3 h4 h5 h7⟩
theorem pr_bestAt {l : Launch} {G : GG} (a : Int32) : PairK Inv l G hX7_bestAt hX8_bestAt [.inl a] := by
  intro n s hn hI
  obtain ⟨D, iA⟩ := hI.2.1
  refine spec_post ?_ (S7_bestAt (by decide) iA.1 iA.2.1 iA.2.2.2.2.2.1 iA.2.2.2.2.2.2.2 a)
  rintro r t ⟨h1, h2, h3, h4, h5⟩
  refine spec_post ?_ (S8_bestAt (by decide) iA.1 (ShM_Q iA.2.2.1 h5) a)
  rintro r' t' ⟨h6, h7⟩
  exact ⟨btV_det iA.1.1 h1 h6, Inv_Q hI iA h2 h3 h4 h5 h7⟩
def twD (R : Shw) (x y z : Nat) : Shw := fun q i => if q = 0 then R 0 0 + 1 else if q = 1 then (if i = R 0 0 then x else R 1 i) else if q = 2 then (if i = R 0 0 then y else R 2 i) else if q = 3 then (if i = R 0 0 then z else R 3 i) else R q i
theorem pr_town {l : Launch} {G : GG} (a b c : Int32) : PairK Inv l G hX7_town hX8_town [.inl a, .inl b, .inl c] := by
  intro n s hn hI
  obtain ⟨iT, ⟨D, iA⟩, ⟨R, W, iR⟩, ⟨N, tw, dy, sm, iL⟩⟩ := id hI
  obtain ⟨a1, a2, a3, a4, a5, a6, a7, a8, ⟨ca, cc, b1, b2, b3, b4⟩, a10⟩ := id iR
  refine spec_post ?_ (S7_town (k := R 0 0) (by decide) a1.1 a b c a4.1)
  rintro r t (⟨h1, hk, rfl, rfl⟩ | ⟨h1, rfl, rfl⟩)
  · refine spec_post ?_ (S8_town (k := R 0 0) (by decide) a1.1 a b c a6.1)
    rintro r' t' (⟨h2, _, rfl, rfl⟩ | ⟨h2, _⟩)
    rotate_left
    · exact absurd ⟨h1, hk⟩ h2
    obtain ⟨⟨p1, p2⟩, ⟨p3, p4⟩, p5, p6⟩ := h1
    obtain ⟨x, hx, rfl⟩ := nI_of2 (x := a) (M := 10000) (n := 10000) (by decide) (by grind) p2
    obtain ⟨y, hy, rfl⟩ := nI_of2 (x := b) (M := 29) (n := 29) (by decide) (by grind) p4
    obtain ⟨z, hz, rfl⟩ := nI_of2 (x := c) (M := 29) (n := 29) (by decide) (by grind) p6
    obtain ⟨d0, d1, d2, d3⟩ := a1
    have fr : ∀ q, q ≠ 33 → q ≠ 34 → q ≠ 35 → q ≠ 36 → q ≠ 60 → q ≠ 61 → q ≠ 62 → q ≠ 49 → (twM (twC s (R 0 0) (nI x) (nI y) (nI z)) (R 0 0) (nI x) (nI y) (nI z)) q = s q := fun q q33 q34 q35 q36 q60 q61 q62 q49 => (stM_ne q49).trans ((stM_ne q62).trans ((stM_ne q61).trans ((stM_ne q60).trans ((stM_ne q33).trans ((stM_ne q33).trans ((stM_ne q36).trans ((stM_ne q35).trans (stM_ne q34))))))))
    refine ⟨rfl, TI_fr iT (fun q hq => fr q (by omega) (by omega) (by omega) (by omega) (by omega) (by omega) (by omega) (by omega)), ⟨D, AID_up (AID_fr iA rfl (fun q hq => fr q (by omega) (by omega) (by omega) (by omega) (by omega) (by omega) (by omega) (by omega)))⟩, ⟨twD R x y z, W, ?_, a2.mono (by show R 0 0 ≤ R 0 0 + 1; omega), a3, ⟨?_, ?_, a4.2.2⟩, a5, ⟨?_, ?_⟩, a7, a8, ⟨ca, cc + 1, b1, ?_, by omega, by omega⟩, ?_⟩, ⟨N, tw, dy, sm, LID_fr iL rfl rfl (fun q hq => fr q (by omega) (by omega) (by omega) (by omega) (by omega) (by omega) (by omega) (by omega))⟩⟩
    · refine ⟨?_, fun i => ?_, fun i => ?_, fun i => ?_⟩
      · show R 0 0 + 1 ≤ 8
        omega
      · show (if i = R 0 0 then x else R 1 i) ≤ 10000
        split
        · exact hx
        · exact d1 i
      · show (if i = R 0 0 then y else R 2 i) ≤ 29
        split
        · exact hy
        · exact d2 i
      · show (if i = R 0 0 then z else R 3 i) ≤ 29
        split
        · exact hz
        · exact d3 i
    · show s 33 0 + 1 = nI (R 0 0 + 1)
      rw [a4.1, nI_1]
    · intro i hi
      obtain ⟨f1, f2, f3⟩ := a4.2.1 i hi
      show upd (s 34) (R 0 0) (nI x) i = nI (if i = R 0 0 then x else R 1 i) ∧ upd (s 35) (R 0 0) (nI y) i = nI (if i = R 0 0 then y else R 2 i) ∧ upd (s 36) (R 0 0) (nI z) i = nI (if i = R 0 0 then z else R 3 i)
      exact ⟨upd_if f1, upd_if f2, upd_if f3⟩
    · show s 49 11 + 1 = nI (R 0 0 + 1)
      rw [a6.1, nI_1]
    · intro i hi
      obtain ⟨f1, f2, f3⟩ := a6.2 i hi
      show upd (s 60) (R 0 0) (nI x) i = nI (if i = R 0 0 then x else R 1 i) ∧ upd (s 61) (R 0 0) (nI y) i = nI (if i = R 0 0 then y else R 2 i) ∧ upd (s 62) (R 0 0) (nI z) i = nI (if i = R 0 0 then z else R 3 i)
      exact ⟨upd_if f1, upd_if f2, upd_if f3⟩
    · show s 33 6 + 1 = nI (cc + 1)
      rw [b2, nI_1]
    · refine cache_off (s := s) (n := n) (a := ca) (c := cc) b1 b3 b4 hn rfl ?_
      show s 33 6 + 1 = nI (cc + 1)
      rw [b2, nI_1]
  · refine spec_post ?_ (S8_town (k := R 0 0) (by decide) a1.1 a b c a6.1)
    rintro r' t' (⟨h2, h3, _⟩ | ⟨h2, rfl, rfl⟩)
    · exact absurd ⟨h2, h3⟩ h1
    · exact ⟨rfl, Inv_up hI⟩
theorem pr_way {l : Launch} {G : GG} (a b c : Int32) : PairK Inv l G hX7_way hX8_way [.inl a, .inl b, .inl c] := by
  intro n s hn hI
  obtain ⟨iT, ⟨D, iA⟩, ⟨R, W, iR⟩, ⟨N, tw, dy, sm, iL⟩⟩ := id hI
  obtain ⟨a1, a2, a3, a4, a5, a6, a7, a8, ⟨ca, cc, b1, b2, b3, b4⟩, a10⟩ := id iR
  have h0 := a1.1
  refine spec_post ?_ (S7_way (n := R 0 0) (by decide) a1.1 a b c a4.1 a2 a3 a5)
  rintro r t (⟨x, y, h, hx, hy, hxy, h1, h2, rfl, rfl, rfl, rfl, f, rfl, hf⟩ | ⟨h1, rfl, rfl⟩)
  · refine spec_post ?_ (S8_way (n := R 0 0) (by decide) a1.1 (nI x) (nI y) (nI h) a6.1)
    rintro r' t' (⟨x', y', h', hx', hy', _, _, _, e1, e2, e3, rfl, rfl⟩ | ⟨h3, _⟩)
    rotate_left
    · refine absurd ⟨⟨x, hx, rfl⟩, ⟨y, hy, rfl⟩, fun q => hxy ((nI_eq (a := x) (b := y) (by omega) (by omega)).mp q), nI_le (a := 1) h1 (by omega), nI_le (b := 99) h2 (by decide)⟩ h3
    have ex := (nI_eq (a := x) (b := x') (by omega) (by omega)).mp e1
    have ey := (nI_eq (a := y) (b := y') (by omega) (by omega)).mp e2
    subst ex ey
    have fr : ∀ q, q ≠ 33 → q ≠ 37 → q ≠ 38 → q ≠ 63 → (wyM (stM (wyC s x y (nI h)) 38 f) x y (nI h)) q = s q := fun q q33 q37 q38 q63 => (stM_ne q63).trans ((stM_ne q63).trans ((stM_ne q38).trans ((stM_ne q33).trans ((stM_ne q37).trans (stM_ne q37)))))
    have m8 : RAt R (s 44) (s 45) [] := a8
    have m37 := wset_E (h := h) a5 (show x < 8 by omega) (show y < 8 by omega) h2
    have m63 := wset_H a7 (show x < 8 by omega) (show y < 8 by omega) hxy h1 h2
    have mw := wset_ok (h := h) a2 hx hy hxy h2
    have mb := wset_B (a := x) (b := y) a3 h2
    clear a2 a3 a5 a7 a8 a10
    generalize wset W x y h = W' at *
    generalize hM : fwN W' 8 = M' at *
    refine ⟨rfl, TI_fr iT (fun q hq => fr q (by omega) (by omega) (by omega) (by omega)), ⟨D, AID_up (AID_fr iA rfl (fun q hq => fr q (by omega) (by omega) (by omega) (by omega)))⟩, ⟨R, W', a1, mw, mb, by rw [hM]; exact ⟨a4.1, a4.2.1, hf⟩, m37, a6, m63, m8, ⟨ca, cc + 1, b1, ?_, by omega, by omega⟩, ?_⟩, ⟨N, tw, dy, sm, LID_fr iL rfl rfl (fun q hq => fr q (by omega) (by omega) (by omega) (by omega))⟩⟩
    · show s 33 6 + 1 = nI (cc + 1)
      rw [b2, nI_1]
    · refine cache_off (s := s) (n := n) (a := ca) (c := cc) b1 b3 b4 hn rfl ?_
      show s 33 6 + 1 = nI (cc + 1)
      rw [b2, nI_1]
  · refine spec_post ?_ (S8_way (n := R 0 0) (by decide) a1.1 a b c a6.1)
    rintro r' t' (⟨x, y, h, hx, hy, hxy, k1, k2, rfl, rfl, rfl, _⟩ | ⟨h3, rfl, rfl⟩)
    · exact absurd ⟨⟨x, hx, rfl⟩, ⟨y, hy, rfl⟩, fun q => hxy ((nI_eq (a := x) (b := y) (by omega) (by omega)).mp q), nI_le (a := 1) k1 (by omega), nI_le (b := 99) k2 (by decide)⟩ h1
    · exact ⟨rfl, Inv_up hI⟩
theorem pr_hours {l : Launch} {G : GG} (a b : Int32) : PairK Inv l G hX7_hours hX8_hours [.inl a, .inl b] := by
  intro n s hn hI
  obtain ⟨R, W, iR⟩ := hI.2.2.1
  obtain ⟨a1, a2, a3, a4, a5, a6, a7, a8, _, _⟩ := id iR
  have h0 := a1.1
  have hW8 := a2.mono h0
  refine spec_post ?_ (S7_hours (n := R 0 0) (by decide) a1.1 a b a4.1 a4.2.2)
  rintro r t ⟨h1, rfl⟩
  refine spec_post ?_ (S8_hours (n := R 0 0) (by decide) a1.1 a b a6.1 hW8 a3 a7)
  rintro r' t' ⟨h2, f, rfl⟩
  refine ⟨?_, Inv_fr hI ⟨rfl, rfl, rfl⟩ rfl (fun q hq => stM_ne (by omega))⟩
  rcases h1 with ⟨x, y, hx, hy, rfl, rfl, rfl⟩ | ⟨h1, rfl⟩
  · rcases h2 with ⟨x', y', hx', hy', e1, e2, rfl⟩ | ⟨h2, _⟩
    · have ex := (nI_eq (a := x) (b := x') (by omega) (by omega)).mp e1
      have ey := (nI_eq (a := y) (b := y') (by omega) (by omega)).mp e2
      subst ex ey
      rfl
    · exact absurd ⟨⟨x, hx, rfl⟩, ⟨y, hy, rfl⟩⟩ h2
  · rcases h2 with ⟨x', y', hx', hy', e1, e2, _⟩ | ⟨_, rfl⟩
    · exact absurd ⟨⟨x', hx', e1⟩, ⟨y', hy', e2⟩⟩ h1
    · rfl
theorem Inv_G {n : Nat} {R : Shw} {W : Nat → Nat → Nat} {s t u : Mem} (h : Inv n s) (hA : RID n R W s) (hB : RBC t R (fwN W 8) (rtN R (fwN W 8))) (hR : RowR R (fwN W 8) (t 42) (t 43) (t 44) (t 45) []) (h39 : t 39 1 = s 33 6) (h1 : ∀ q, q ≠ 39 → q ≠ 40 → q ≠ 41 → q ≠ 42 → q ≠ 43 → q ≠ 44 → q ≠ 45 → t q = s q) (h2 : FrH t u) : Inv (n + 1) u := by
  obtain ⟨iT, ⟨D, iA⟩, _, ⟨N, tw, dy, sm, iL⟩⟩ := h
  obtain ⟨a1, a2, a3, a4, a5, a6, a7, a8, ⟨ca, cc, b1, b2, b3, b4⟩, a10⟩ := hA
  have e : ∀ q, (q < 39 ∨ 45 < q) → q ≠ 64 → q ≠ 68 → q ≠ 69 → q ≠ 70 → q ≠ 71 → q ≠ 72 → u q = s q := fun q hq k0 k1 k2 k3 k4 k5 => (h2 q k0 k1 k2 k3 k4 k5).trans (h1 q (by omega) (by omega) (by omega) (by omega) (by omega) (by omega) (by omega))
  have e2 : ∀ q, q < 64 → u q = t q := fun q hq => h2 q (by omega) (by omega) (by omega) (by omega) (by omega) (by omega)
  have e9 : u 49 = s 49 := e 49 (by omega) (by decide) (by decide) (by decide) (by decide) (by decide) (by decide)
  have e33 : u 33 = s 33 := e 33 (by omega) (by decide) (by decide) (by decide) (by decide) (by decide) (by decide)
  refine ⟨TI_fr iT (fun q hq => e q (by omega) (by omega) (by omega) (by omega) (by omega) (by omega) (by omega)), ⟨D, AID_up (AID_fr iA (by rw [e9]) (fun q hq => e q (by omega) (by omega) (by omega) (by omega) (by omega) (by omega) (by omega)))⟩, ⟨R, W, a1, a2, a3, RdC_fr a4 (fun q hq => e q (by omega) (by omega) (by omega) (by omega) (by omega) (by omega) (by omega)), ?_, RdM_fr a6 (by rw [e9]) (e 60 (by omega) (by decide) (by decide) (by decide) (by decide) (by decide) (by decide)) (e 61 (by omega) (by decide) (by decide) (by decide) (by decide) (by decide) (by decide)) (e 62 (by omega) (by decide) (by decide) (by decide) (by decide) (by decide) (by decide)), ?_, ?_, ⟨cc, cc, ?_, ?_, Nat.le_refl _, by omega⟩, fun _ => RBC_fr hB (e2 39 (by omega)) (e2 40 (by omega)) (e2 41 (by omega))⟩, ⟨N, tw, dy, sm, LID_fr iL (by rw [e 46 (by omega) (by decide) (by decide) (by decide) (by decide) (by decide) (by decide)]) (by rw [e9]) (fun q hq => e q (by omega) (by omega) (by omega) (by omega) (by omega) (by omega) (by omega))⟩⟩
  · rw [e 37 (by omega) (by decide) (by decide) (by decide) (by decide) (by decide) (by decide)]
    exact a5
  · rw [e 63 (by omega) (by decide) (by decide) (by decide) (by decide) (by decide) (by decide)]
    exact a7
  · rw [e2 42 (by omega), e2 43 (by omega), e2 44 (by omega), e2 45 (by omega)]
    exact hR
  · rw [e2 39 (by omega), h39]
    exact b2
  · rw [e33]
    exact b2
theorem pr_route {l : Launch} {G : GG} : PairK Inv l G hX7_route hX8_route [] := by
  intro n s hn hI
  obtain ⟨R, W, iR⟩ := hI.2.2.1
  obtain ⟨a1, a2, a3, a4, a5, a6, a7, a8, _, a10⟩ := id iR
  have hW8 := a2.mono a1.1
  refine spec_post ?_ (S7_route (by decide) a1 (M_ok hW8 a3) a4 a8 a10)
  rintro r t ⟨rfl, h2, h3, h4, h5⟩
  have e63 : t 63 = s 63 := h5 63 (by decide) (by decide) (by decide) (by decide) (by decide) (by decide) (by decide)
  have hM : RdM t R := RdM_fr a6 (by rw [h5 49 (by decide) (by decide) (by decide) (by decide) (by decide) (by decide) (by decide)]) (h5 60 (by decide) (by decide) (by decide) (by decide) (by decide) (by decide) (by decide)) (h5 61 (by decide) (by decide) (by decide) (by decide) (by decide) (by decide) (by decide)) (h5 62 (by decide) (by decide) (by decide) (by decide) (by decide) (by decide) (by decide))
  refine spec_post ?_ (S8_route (by decide) a1 hW8 a3 hM (by rw [e63]; exact a7))
  rintro r' t' ⟨rfl, h7⟩
  exact ⟨rfl, Inv_G hI iR h2 h3 h4 h5 h7⟩
theorem pr_routeAt {l : Launch} {G : GG} (a b : Int32) : PairK Inv l G hX7_routeAt hX8_routeAt [.inl a, .inl b] := by
  intro n s hn hI
  obtain ⟨R, W, iR⟩ := hI.2.2.1
  obtain ⟨a1, a2, a3, a4, a5, a6, a7, a8, _, a10⟩ := id iR
  have hW8 := a2.mono a1.1
  refine spec_post ?_ (S7_routeAt (by decide) a1 (M_ok hW8 a3) a4 a8 a10 a b)
  rintro r t ⟨h1, h2, h3, h4, h5⟩
  have e63 : t 63 = s 63 := h5 63 (by decide) (by decide) (by decide) (by decide) (by decide) (by decide) (by decide)
  have hM : RdM t R := RdM_fr a6 (by rw [h5 49 (by decide) (by decide) (by decide) (by decide) (by decide) (by decide) (by decide)]) (h5 60 (by decide) (by decide) (by decide) (by decide) (by decide) (by decide) (by decide)) (h5 61 (by decide) (by decide) (by decide) (by decide) (by decide) (by decide) (by decide)) (h5 62 (by decide) (by decide) (by decide) (by decide) (by decide) (by decide) (by decide))
  refine spec_post ?_ (S8_routeAt (by decide) a1 hW8 a3 hM (by rw [e63]; exact a7) a b)
  rintro r' t' ⟨h6, h7⟩
  exact ⟨rtV_det (rt_len a1) h1 h6, Inv_G hI iR h2 h3 h4 h5 h7⟩
