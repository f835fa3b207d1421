/-- the memory behind the two constructors -/
def J49 (t : Mem) : Prop := (∀ k, k < 49 → k ≠ 7 → k ≠ 37 → k ≠ 38 → ∀ j, t k j = 0) ∧ t 7 = upd (fun _ => 0) 1 1023 ∧ dg8 (t 37) 64 ∧ dg8 (t 38) 64
def J75 (t : Mem) : Prop := (∀ k, k < 75 → k ≠ 7 → k ≠ 37 → k ≠ 38 → k ≠ 55 → ∀ j, t k j = 0) ∧ t 7 = upd (fun _ => 0) 1 1023 ∧ dg8 (t 37) 64 ∧ dg8 (t 38) 64 ∧ ∀ q, q < 10 → t 55 q = 1
set_option maxRecDepth 100000 in
theorem sX7_init_0 {l : Launch} {D : va_G} {cI cZ : ClassId} : CSpec l D cI cZ 3 48 655 hX7_init [.inr 0] SH_1 (fun _ _ => 0) (fun sh t => sh = SH_17 ∧ J49 t) := by
  refine cspec_of iX7_init rfl (by decide +kernel) rfl (by decide) (kX7_init_0_0 ⟨1, 6, 44, _, by decide, by decide, by decide, sX4_init_1 _, ?_⟩)
  rintro sh1 s1 ⟨rfl, e1⟩
  refine kX7_init_0_12 ⟨1, 6, 53, _, by decide, by decide, by decide, sX2_init_8 _, ?_⟩
  rintro sh2 s2 ⟨rfl, e2⟩
  refine kX7_init_0_27 ⟨2, 10, 85, _, by decide, by decide, by decide, sX0_init_15 _, ?_⟩
  rintro sh3 s3 ⟨rfl, u, e3, eu⟩
  refine kX7_init_0_42 ⟨1, 6, 104, _, by decide, by decide, by decide, sX5_init_26 _, ?_⟩
  rintro sh4 s4 ⟨rfl, e4⟩
  refine kX7_init_0_53 ⟨1, 5, 152, _, by decide, by decide, by decide, sX3_init_33 _, ?_⟩
  rintro sh5 s5 ⟨rfl, f, g, e5, hf, hg⟩
  refine kX7_init_0_64 ⟨1, 6, 50, _, by decide, by decide, by decide, sX1_init_39 _, ?_⟩
  rintro sh6 s6 ⟨rfl, e6⟩
  refine kX7_init_0_79 ⟨1, 2, 112, _, by decide, by decide, by decide, sX6_init_46 _, ?_⟩
  rintro sh7 s7 ⟨rfl, e7⟩
  refine kX7_init_0_90 ⟨rfl, ?_⟩
  subst e7 e6 e5 e4 e3 eu e2 e1
  refine ⟨fun k hk h7 h37 h38 j => ?_, rfl, hf, hg⟩
  match k, hk with
  | 0, _ => rfl
  | 1, _ => rfl
  | 2, _ => rfl
  | 3, _ => rfl
  | 4, _ => rfl
  | 5, _ => rfl
  | 6, _ => rfl
  | 7, _ => exact absurd rfl h7
  | 8, _ => rfl
  | 9, _ => rfl
  | 10, _ => rfl
  | 11, _ => rfl
  | 12, _ => rfl
  | 13, _ => rfl
  | 14, _ => rfl
  | 15, _ => rfl
  | 16, _ => rfl
  | 17, _ => rfl
  | 18, _ => rfl
  | 19, _ => rfl
  | 20, _ => rfl
  | 21, _ => rfl
  | 22, _ => rfl
  | 23, _ => rfl
  | 24, _ => rfl
  | 25, _ => rfl
  | 26, _ => rfl
  | 27, _ => rfl
  | 28, _ => rfl
  | 29, _ => rfl
  | 30, _ => rfl
  | 31, _ => rfl
  | 32, _ => rfl
  | 33, _ => rfl
  | 34, _ => rfl
  | 35, _ => rfl
  | 36, _ => rfl
  | 37, _ => exact absurd rfl h37
  | 38, _ => exact absurd rfl h38
  | 39, _ => rfl
  | 40, _ => rfl
  | 41, _ => rfl
  | 42, _ => rfl
  | 43, _ => rfl
  | 44, _ => rfl
  | 45, _ => rfl
  | 46, _ => rfl
  | 47, _ => rfl
  | 48, _ => rfl
  | k + 49, hk => omega
theorem cspec_post {l : Launch} {D : va_G} {cI cZ : ClassId} {d mc ms : Nat} {h : HD} {As : List Vl} {sh : List CO} {s : Mem} {post post' : List CO → Mem → Prop} (k : ∀ sh t, post sh t → post' sh t) (q : CSpec l D cI cZ d mc ms h As sh s post) : CSpec l D cI cZ d mc ms h As sh s post' := by
  refine ⟨q.1, q.2.1, fun as0 sz has => ?_⟩
  intro p e ha hc hk S m args below hf happ hP hT
  obtain ⟨n, o, h1, h2, h3, ⟨⟨⟨as, sh', s', e1, e2, e3⟩, e4⟩, e5⟩⟩ := q.2.2 as0 sz has p e ha hc hk S m args below hf happ hP hT
  exact ⟨n, o, h1, h2, h3, ⟨⟨⟨as, sh', s', e1, k sh' s' e2, e3⟩, e4⟩, e5⟩⟩
set_option maxRecDepth 100000 in
theorem sX8_J {l : Launch} {D : va_G} {cI cZ : ClassId} {s : Mem} (h : J49 s) : CSpec l D cI cZ 1 25 1858 hX8_init [.inr 49] SH_19 (stM s 49 (fun _ => 0)) (fun sh t => sh = SH_18 ∧ J75 t) := by
  refine cspec_post ?_ (sX8_init_49 (stM s 49 (fun _ => 0)))
  rintro sh t ⟨rfl, rfl⟩
  refine ⟨rfl, fun k hk h7 h37 h38 h55 j => ?_, h.2.1, h.2.2.1, h.2.2.2, fun q hq => ?_⟩
  · match k, hk with
    | 0, _ => exact h.1 0 (by decide) (by decide) (by decide) (by decide) j
    | 1, _ => exact h.1 1 (by decide) (by decide) (by decide) (by decide) j
    | 2, _ => exact h.1 2 (by decide) (by decide) (by decide) (by decide) j
    | 3, _ => exact h.1 3 (by decide) (by decide) (by decide) (by decide) j
    | 4, _ => exact h.1 4 (by decide) (by decide) (by decide) (by decide) j
    | 5, _ => exact h.1 5 (by decide) (by decide) (by decide) (by decide) j
    | 6, _ => exact h.1 6 (by decide) (by decide) (by decide) (by decide) j
    | 7, _ => exact absurd rfl h7
    | 8, _ => exact h.1 8 (by decide) (by decide) (by decide) (by decide) j
    | 9, _ => exact h.1 9 (by decide) (by decide) (by decide) (by decide) j
    | 10, _ => exact h.1 10 (by decide) (by decide) (by decide) (by decide) j
    | 11, _ => exact h.1 11 (by decide) (by decide) (by decide) (by decide) j
    | 12, _ => exact h.1 12 (by decide) (by decide) (by decide) (by decide) j
    | 13, _ => exact h.1 13 (by decide) (by decide) (by decide) (by decide) j
    | 14, _ => exact h.1 14 (by decide) (by decide) (by decide) (by decide) j
    | 15, _ => exact h.1 15 (by decide) (by decide) (by decide) (by decide) j
    | 16, _ => exact h.1 16 (by decide) (by decide) (by decide) (by decide) j
    | 17, _ => exact h.1 17 (by decide) (by decide) (by decide) (by decide) j
    | 18, _ => exact h.1 18 (by decide) (by decide) (by decide) (by decide) j
    | 19, _ => exact h.1 19 (by decide) (by decide) (by decide) (by decide) j
    | 20, _ => exact h.1 20 (by decide) (by decide) (by decide) (by decide) j
    | 21, _ => exact h.1 21 (by decide) (by decide) (by decide) (by decide) j
    | 22, _ => exact h.1 22 (by decide) (by decide) (by decide) (by decide) j
    | 23, _ => exact h.1 23 (by decide) (by decide) (by decide) (by decide) j
    | 24, _ => exact h.1 24 (by decide) (by decide) (by decide) (by decide) j
    | 25, _ => exact h.1 25 (by decide) (by decide) (by decide) (by decide) j
    | 26, _ => exact h.1 26 (by decide) (by decide) (by decide) (by decide) j
    | 27, _ => exact h.1 27 (by decide) (by decide) (by decide) (by decide) j
    | 28, _ => exact h.1 28 (by decide) (by decide) (by decide) (by decide) j
    | 29, _ => exact h.1 29 (by decide) (by decide) (by decide) (by decide) j
    | 30, _ => exact h.1 30 (by decide) (by decide) (by decide) (by decide) j
    | 31, _ => exact h.1 31 (by decide) (by decide) (by decide) (by decide) j
    | 32, _ => exact h.1 32 (by decide) (by decide) (by decide) (by decide) j
    | 33, _ => exact h.1 33 (by decide) (by decide) (by decide) (by decide) j
    | 34, _ => exact h.1 34 (by decide) (by decide) (by decide) (by decide) j
    | 35, _ => exact h.1 35 (by decide) (by decide) (by decide) (by decide) j
    | 36, _ => exact h.1 36 (by decide) (by decide) (by decide) (by decide) j
    | 37, _ => exact absurd rfl h37
    | 38, _ => exact absurd rfl h38
    | 39, _ => exact h.1 39 (by decide) (by decide) (by decide) (by decide) j
    | 40, _ => exact h.1 40 (by decide) (by decide) (by decide) (by decide) j
    | 41, _ => exact h.1 41 (by decide) (by decide) (by decide) (by decide) j
    | 42, _ => exact h.1 42 (by decide) (by decide) (by decide) (by decide) j
    | 43, _ => exact h.1 43 (by decide) (by decide) (by decide) (by decide) j
    | 44, _ => exact h.1 44 (by decide) (by decide) (by decide) (by decide) j
    | 45, _ => exact h.1 45 (by decide) (by decide) (by decide) (by decide) j
    | 46, _ => exact h.1 46 (by decide) (by decide) (by decide) (by decide) j
    | 47, _ => exact h.1 47 (by decide) (by decide) (by decide) (by decide) j
    | 48, _ => exact h.1 48 (by decide) (by decide) (by decide) (by decide) j
    | 49, _ => rfl
    | 50, _ => rfl
    | 51, _ => rfl
    | 52, _ => rfl
    | 53, _ => rfl
    | 54, _ => rfl
    | 55, _ => exact absurd rfl h55
    | 56, _ => rfl
    | 57, _ => rfl
    | 58, _ => rfl
    | 59, _ => rfl
    | 60, _ => rfl
    | 61, _ => rfl
    | 62, _ => rfl
    | 63, _ => rfl
    | 64, _ => rfl
    | 65, _ => rfl
    | 66, _ => rfl
    | 67, _ => rfl
    | 68, _ => rfl
    | 69, _ => rfl
    | 70, _ => rfl
    | 71, _ => rfl
    | 72, _ => rfl
    | 73, _ => rfl
    | 74, _ => rfl
    | k + 75, hk => omega
  · match q, hq with
    | 0, _ => rfl
    | 1, _ => rfl
    | 2, _ => rfl
    | 3, _ => rfl
    | 4, _ => rfl
    | 5, _ => rfl
    | 6, _ => rfl
    | 7, _ => rfl
    | 8, _ => rfl
    | 9, _ => rfl
    | q + 10, hq => omega
abbrev PairK (Inv : Nat → Mem → Prop) (l : Launch) (G : GG) (hx hm : HD) (As : List Vl) : Prop := ∀ (n : Nat) (s : Mem), n < 512 → Inv n s → Spec l G 100 hx (.inr 0 :: As) s (fun r t => Spec l G 100 hm (.inr 49 :: As) t (fun r' t' => r = r' ∧ Inv (n + 1) t'))
theorem fa_lt_le {a b : Int32} (h : a < 0) (h2 : 0 ≤ b) : a < b := by
  rw [Int32.lt_iff_toInt_lt] at h ⊢
  rw [Int32.le_iff_toInt_le] at h2
  exact Int.lt_of_lt_of_le h h2
set_option maxHeartbeats 4000000 in
theorem law_loop_open {p : Program} {l : Launch} {ev : Env} {S : State} {m : MethodId} {below : List Frame} {meth : Method} {c : Code} {b n : Nat} {xs : Nat → Int32} {G : GG} (Inv : Nat → Mem → Prop) (hn : n ≤ 2048) (C : LC p S m meth c b n xs G)
    (p_none : ∀ k s, Inv k s → Inv (k + 1) s)
    (p_act : ∀ a b c : Int32, PairK Inv l G hX7_act hX8_act [.inl a, .inl b, .inl c])
    (p_rests : ∀ a b : Int32, PairK Inv l G hX7_rests hX8_rests [.inl a, .inl b])
    (p_ban : ∀ a b c : Int32, c = 0 ∨ c = 1 → PairK Inv l G hX7_ban hX8_ban [.inl a, .inl b, .inl c])
    (p_judge : ∀ a b c : Int32, PairK Inv l G hX7_judge hX8_judge [.inl a, .inl b, .inl c])
    (p_gaps : ∀ a b : Int32, PairK Inv l G hX7_gaps hX8_gaps [.inl a, .inl b])
    (p_best : PairK Inv l G hX7_best hX8_best [])
    (p_bestAt : ∀ a : Int32, PairK Inv l G hX7_bestAt hX8_bestAt [.inl a])
    (p_load : ∀ a b : Int32, PairK Inv l G hX7_load hX8_load [.inl a, .inl b])
    (p_share : ∀ a b c : Int32, PairK Inv l G hX7_share hX8_share [.inl a, .inl b, .inl c])
    (p_exposed : ∀ a b : Int32, PairK Inv l G hX7_exposed hX8_exposed [.inl a, .inl b])
    (p_part : ∀ a b : Int32, PairK Inv l G hX7_part hX8_part [.inl a, .inl b])
    (p_slack : ∀ a b : Int32, PairK Inv l G hX7_slack hX8_slack [.inl a, .inl b])
    (p_gone : ∀ a : Int32, PairK Inv l G hX7_gone hX8_gone [.inl a])
    (p_town : ∀ a b c : Int32, PairK Inv l G hX7_town hX8_town [.inl a, .inl b, .inl c])
    (p_way : ∀ a b c : Int32, PairK Inv l G hX7_way hX8_way [.inl a, .inl b, .inl c])
    (p_hours : ∀ a b : Int32, PairK Inv l G hX7_hours hX8_hours [.inl a, .inl b])
    (p_route : PairK Inv l G hX7_route hX8_route [])
    (p_routeAt : ∀ a b : Int32, PairK Inv l G hX7_routeAt hX8_routeAt [.inl a, .inl b])
    (p_took : ∀ a b c : Int32, PairK Inv l G hX7_took hX8_took [.inl a, .inl b, .inl c])
    (p_foretold : ∀ a b c : Int32, PairK Inv l G hX7_foretold hX8_foretold [.inl a, .inl b, .inl c])
    (p_count : ∀ a : Int32, PairK Inv l G hX7_count hX8_count [.inl a]) :
    ∀ (f k : Nat), 513 - k < f → k ≤ 512 → ∀ s : Mem, Inv k s → AL p l ev S m below meth c b G 18 [some (.inr 1000), some (.inr 0), some (.inr 49), some (.inl (nI (4 * k)))] [] s := by
  intro f
  induction f with
  | zero => intro k h; omega
  | succ f ih =>
    intro k hf hk s hI
    refine vL_18 C ⟨fun _ => rfl, fun q => ?_⟩
    have hlt : 4 * k + 4 ≤ n := by
      rcases Nat.lt_or_ge n (4 * k + 4) with h | h
      · exfalso
        apply q
        rw [show (4 : Int32) = nI 4 from rfl, show Int32.ofNat n = nI n from rfl]
        rcases Nat.lt_or_ge n 4 with h4 | h4
        · have := pk_sneg (a := n) (b := 4) (by decide) h4
          exact fa_lt_le this (nI_pos' (by omega))
        · rw [pk_sub h4]
          exact nI_lt (by omega) (by omega)
      · exact h
    have hk2 : k < 512 := by omega
    have v0 : vp_in (nI (4 * k)) n := vp_in_nI (by omega) (by omega)
    have e1 : nI (4 * k) + (1 : Int32) = nI (4 * k + 1) := nI_add _ 1
    have e2 : nI (4 * k) + (2 : Int32) = nI (4 * k + 2) := nI_add _ 2
    have e3 : nI (4 * k) + (3 : Int32) = nI (4 * k + 3) := nI_add _ 3
    have e4 : nI (4 * k) + (4 : Int32) = nI (4 * (k + 1)) := by rw [show 4 * (k + 1) = 4 * k + 4 by omega]; exact nI_add _ 4
    have v1 : vp_in (nI (4 * k) + (1 : Int32)) n := by rw [e1]; exact vp_in_nI (by omega) (by omega)
    have v2 : vp_in (nI (4 * k) + (2 : Int32)) n := by rw [e2]; exact vp_in_nI (by omega) (by omega)
    have v3 : vp_in (nI (4 * k) + (3 : Int32)) n := by rw [e3]; exact vp_in_nI (by omega) (by omega)
    have nx : ∀ t : Mem, Inv (k + 1) t → AL p l ev S m below meth c b G 851 [some (.inr 1000), some (.inr 0), some (.inr 49), some (.inl (nI (4 * k)))] [] t := by
      intro t ht
      refine vL_851 C ?_
      rw [e4]
      exact ih (k + 1) (by omega) (by omega) t ht
    have fin : ∀ (r1 r2 : Int32) (t : Mem), (r1 = r2 ∧ Inv (k + 1) t) → (r1 = r2 → AL p l ev S m below meth c b G 851 [some (.inr 1000), some (.inr 0), some (.inr 49), some (.inl (nI (4 * k)))] [] t) ∧ (¬ r1 = r2 → (0 : Int32) = 1) := fun r1 r2 t q => ⟨fun _ => nx t q.2, fun z => absurd q.1 z⟩
    refine ⟨v0, fun _ => nx s (p_none k s hI), fun _ => vL_132 C ⟨v1, v2, v3, 100, _, by decide, p_act _ _ _ k s hk2 hI, fun r t q => ⟨v1, v2, v3, 100, _, by decide, q, fun r' t' q' => fin r r' t' q'⟩⟩,
      fun _ => vL_175 C ⟨v1, v2, 100, _, by decide, p_rests _ _ k s hk2 hI, fun r t q => ⟨v1, v2, 100, _, by decide, q, fun r' t' q' => fin r r' t' q'⟩⟩,
      fun _ => vL_208 C ⟨v1, v2, v3, fun hz => ⟨100, _, by decide, p_ban _ _ _ (Or.inl rfl) k s hk2 hI, fun r t q => ⟨v1, v2, v3, fun _ => ⟨100, _, by decide, q, fun r' t' q' => fin r r' t' q'⟩, fun z => absurd hz z⟩⟩, fun hz => ⟨100, _, by decide, p_ban _ _ _ (Or.inr rfl) k s hk2 hI, fun r t q => ⟨v1, v2, v3, fun z => absurd z hz, fun _ => ⟨100, _, by decide, q, fun r' t' q' => fin r r' t' q'⟩⟩⟩⟩,
      fun _ => vL_267 C ⟨v1, v2, v3, 100, _, by decide, p_judge _ _ _ k s hk2 hI, fun r t q => ⟨v1, v2, v3, 100, _, by decide, q, fun r' t' q' => fin r r' t' q'⟩⟩,
      fun _ => vL_310 C ⟨v1, v2, 100, _, by decide, p_gaps _ _ k s hk2 hI, fun r t q => ⟨v1, v2, 100, _, by decide, q, fun r' t' q' => fin r r' t' q'⟩⟩,
      fun _ => vL_343 C ⟨100, _, by decide, p_best  k s hk2 hI, fun r t q => ⟨100, _, by decide, q, fun r' t' q' => fin r r' t' q'⟩⟩,
      fun _ => vL_356 C ⟨v1, 100, _, by decide, p_bestAt _ k s hk2 hI, fun r t q => ⟨v1, 100, _, by decide, q, fun r' t' q' => fin r r' t' q'⟩⟩,
      fun _ => vL_379 C ⟨v1, v2, 100, _, by decide, p_load _ _ k s hk2 hI, fun r t q => ⟨v1, v2, 100, _, by decide, q, fun r' t' q' => fin r r' t' q'⟩⟩,
      fun _ => vL_412 C ⟨v1, v2, v3, 100, _, by decide, p_share _ _ _ k s hk2 hI, fun r t q => ⟨v1, v2, v3, 100, _, by decide, q, fun r' t' q' => fin r r' t' q'⟩⟩,
      fun _ => vL_455 C ⟨v1, v2, 100, _, by decide, p_exposed _ _ k s hk2 hI, fun r t q => ⟨v1, v2, 100, _, by decide, q, fun r' t' q' => fin r r' t' q'⟩⟩,
      fun _ => vL_488 C ⟨v1, v2, 100, _, by decide, p_part _ _ k s hk2 hI, fun r t q => ⟨v1, v2, 100, _, by decide, q, fun r' t' q' => fin r r' t' q'⟩⟩,
      fun _ => vL_521 C ⟨v1, v2, 100, _, by decide, p_slack _ _ k s hk2 hI, fun r t q => ⟨v1, v2, 100, _, by decide, q, fun r' t' q' => fin r r' t' q'⟩⟩,
      fun _ => vL_554 C ⟨v1, 100, _, by decide, p_gone _ k s hk2 hI, fun r t q => ⟨v1, 100, _, by decide, q, fun r' t' q' => fin r r' t' q'⟩⟩,
      fun _ => vL_577 C ⟨v1, v2, v3, 100, _, by decide, p_town _ _ _ k s hk2 hI, fun r t q => ⟨v1, v2, v3, 100, _, by decide, q, fun r' t' q' => fin r r' t' q'⟩⟩,
      fun _ => vL_620 C ⟨v1, v2, v3, 100, _, by decide, p_way _ _ _ k s hk2 hI, fun r t q => ⟨v1, v2, v3, 100, _, by decide, q, fun r' t' q' => fin r r' t' q'⟩⟩,
      fun _ => vL_663 C ⟨v1, v2, 100, _, by decide, p_hours _ _ k s hk2 hI, fun r t q => ⟨v1, v2, 100, _, by decide, q, fun r' t' q' => fin r r' t' q'⟩⟩,
      fun _ => vL_696 C ⟨100, _, by decide, p_route  k s hk2 hI, fun r t q => ⟨100, _, by decide, q, fun r' t' q' => fin r r' t' q'⟩⟩,
      fun _ => vL_709 C ⟨v1, v2, 100, _, by decide, p_routeAt _ _ k s hk2 hI, fun r t q => ⟨v1, v2, 100, _, by decide, q, fun r' t' q' => fin r r' t' q'⟩⟩,
      fun _ => vL_742 C ⟨v1, v2, v3, 100, _, by decide, p_took _ _ _ k s hk2 hI, fun r t q => ⟨v1, v2, v3, 100, _, by decide, q, fun r' t' q' => fin r r' t' q'⟩⟩,
      fun _ => vL_785 C ⟨v1, v2, v3, 100, _, by decide, p_foretold _ _ _ k s hk2 hI, fun r t q => ⟨v1, v2, v3, 100, _, by decide, q, fun r' t' q' => fin r r' t' q'⟩⟩,
      fun _ => vL_828 C ⟨v1, 100, _, by decide, p_count _ k s hk2 hI, fun r t q => ⟨v1, 100, _, by decide, q, fun r' t' q' => fin r r' t' q'⟩⟩,
      trivial⟩
