def leL : LL → LL → Prop
  | [], _ => True
  | none :: r, [] => leL r []
  | none :: r, _ :: q => leL r q
  | some v :: r, some w :: q => v = w ∧ leL r q
  | some _ :: _, _ => False
theorem leL_at : ∀ {L M : LL} {i : Nat} {v : Vl}, leL L M → L[i]? = some (some v) → M[i]? = some (some v)
  | [], _, i, v, _, h => by simp at h
  | none :: r, [], 0, v, _, h => by simp at h
  | none :: r, [], i + 1, v, q, h => by
    have := leL_at (L := r) (M := []) (i := i) (v := v) q (by simpa using h)
    simp at this
  | none :: r, _ :: w, 0, v, _, h => by simp at h
  | none :: r, _ :: w, i + 1, v, q, h => by
    have := leL_at (L := r) (M := w) (i := i) (v := v) q (by simpa using h)
    simpa using this
  | some a :: r, some b :: w, 0, v, q, h => by
    simp at h
    rw [← h, q.1]
    rfl
  | some a :: r, some b :: w, i + 1, v, q, h => by
    have := leL_at (L := r) (M := w) (i := i) (v := v) q.2 (by simpa using h)
    simpa using this
theorem aw_weak {l : Launch} {G : GG} {d : Nat} {h : HD} {pc : Nat} {L M : LL} {st : List Vl} {s : Mem} {post : Int32 → Mem → Prop} (q : leL L M) (k : AW l G d h pc L st s post) : AW l G d h pc M st s post := by
  intro p e S m args below meth c H locs ls X K P I Z N
  exact k p e S m args below meth c H locs ls X K P I Z ⟨N.1, N.2.1, fun i v hi => N.2.2 i v (leL_at q hi)⟩
theorem ac_weak {l : Launch} {D : va_G} {cI cZ : ClassId} {d mc ms : Nat} {h : HD} {post : List CO → Mem → Prop} {pc : Nat} {L M : LL} {st : List Vl} {sh : List CO} {s : Mem} {cells slots : Nat} (q : leL L M) (k : AC l D cI cZ d mc ms h post pc L st sh s cells slots) : AC l D cI cZ d mc ms h post pc M st sh s cells slots := by
  intro p e S m args below meth c H locs ls as0 as sz X hi K hz hp hl P hD Z N
  exact k p e S m args below meth c H locs ls as0 as sz X hi K hz hp hl P hD Z ⟨N.1, N.2.1, fun i v hi => N.2.2 i v (leL_at q hi)⟩
theorem spec_post {l : Launch} {G : GG} {d : Nat} {h : HD} {As : List Vl} {s : Mem} {post post' : Int32 → Mem → Prop} (k : ∀ r t, post r t → post' r t) (q : Spec l G d h As s post) : Spec l G d h As s post' := by
  refine ⟨q.1, ?_⟩
  intro p e ha hc hk S m args below hf happ hP hT
  obtain ⟨n, o, h1, h2, h3, ⟨⟨⟨r, τ, e1, e2, e3⟩, e4⟩, e5⟩⟩ := q.2 p e ha hc hk S m args below hf happ hP hT
  exact ⟨n, o, h1, h2, h3, ⟨⟨⟨r, τ, e1, k r τ e2, e3⟩, e4⟩, e5⟩⟩
theorem vin {i : Int32} {n : Nat} (h : decide (¬ (i < 0 ∨ n ≤ i.toNatClampNeg)) = true) : vp_in i n := by
  unfold vp_in
  exact of_decide_eq_true h
set_option maxRecDepth 100000 in
theorem sX4_init_1 {l : Launch} {D : va_G} {cI cZ : ClassId} (s : Mem) : CSpec l D cI cZ 1 6 44 hX4_init [.inr 1] SH_0 s (fun sh t => sh = SH_2 ∧ t = wrM (stM (stM (stM (stM (stM (stM s 2 (fun _ => 0)) 3 (fun _ => 0)) 4 (fun _ => 0)) 5 (fun _ => 0)) 6 (fun _ => 0)) 7 (fun _ => 0)) 7 (1 : Int32).toNatClampNeg (1023 : Int32)) := cspec_of iX4_init rfl (by decide +kernel) rfl (by decide) (kX4_init_1_0 ⟨vin (by decide), ⟨rfl, rfl⟩⟩)
set_option maxRecDepth 100000 in
theorem sX2_init_8 {l : Launch} {D : va_G} {cI cZ : ClassId} (s : Mem) : CSpec l D cI cZ 1 6 53 hX2_init [.inr 8, .inr 1] SH_3 s (fun sh t => sh = SH_4 ∧ t = stM (stM (stM (stM (stM (stM s 9 (fun _ => 0)) 10 (fun _ => 0)) 11 (fun _ => 0)) 12 (fun _ => 0)) 13 (fun _ => 0)) 14 (fun _ => 0)) := cspec_of iX2_init rfl (by decide +kernel) rfl (by decide) (kX2_init_8_0 ⟨rfl, rfl⟩)
set_option maxRecDepth 100000 in
theorem sX2_init_16 {l : Launch} {D : va_G} {cI cZ : ClassId} (s : Mem) : CSpec l D cI cZ 1 6 53 hX2_init [.inr 16, .inr 1] SH_6 s (fun sh t => sh = SH_7 ∧ t = stM (stM (stM (stM (stM (stM s 17 (fun _ => 0)) 18 (fun _ => 0)) 19 (fun _ => 0)) 20 (fun _ => 0)) 21 (fun _ => 0)) 22 (fun _ => 0)) := cspec_of iX2_init rfl (by decide +kernel) rfl (by decide) (kX2_init_16_0 ⟨rfl, rfl⟩)
set_option maxRecDepth 100000 in
theorem sX5_init_26 {l : Launch} {D : va_G} {cI cZ : ClassId} (s : Mem) : CSpec l D cI cZ 1 6 104 hX5_init [.inr 26] SH_9 s (fun sh t => sh = SH_10 ∧ t = stM (stM (stM (stM (stM (stM s 27 (fun _ => 0)) 28 (fun _ => 0)) 29 (fun _ => 0)) 30 (fun _ => 0)) 31 (fun _ => 0)) 32 (fun _ => 0)) := cspec_of iX5_init rfl (by decide +kernel) rfl (by decide) (kX5_init_26_0 ⟨rfl, rfl⟩)
set_option maxRecDepth 100000 in
theorem sX1_init_39 {l : Launch} {D : va_G} {cI cZ : ClassId} (s : Mem) : CSpec l D cI cZ 1 6 50 hX1_init [.inr 39, .inr 33] SH_13 s (fun sh t => sh = SH_14 ∧ t = stM (stM (stM (stM (stM (stM s 40 (fun _ => 0)) 41 (fun _ => 0)) 42 (fun _ => 0)) 43 (fun _ => 0)) 44 (fun _ => 0)) 45 (fun _ => 0)) := cspec_of iX1_init rfl (by decide +kernel) rfl (by decide) (kX1_init_39_0 ⟨rfl, rfl⟩)
set_option maxRecDepth 100000 in
theorem sX6_init_46 {l : Launch} {D : va_G} {cI cZ : ClassId} (s : Mem) : CSpec l D cI cZ 1 2 112 hX6_init [.inr 46] SH_15 s (fun sh t => sh = SH_16 ∧ t = stM (stM s 47 (fun _ => 0)) 48 (fun _ => 0)) := cspec_of iX6_init rfl (by decide +kernel) rfl (by decide) (kX6_init_46_0 ⟨rfl, rfl⟩)
def dg8 (f : Nat → Int32) (n : Nat) : Prop := ∀ a b, a < 8 → b < 8 → a * 8 + b < n → f (a * 8 + b) = if a = b then 0 else -1
theorem dg8_s {f : Nat → Int32} {a b : Nat} {v : Int32} (ha : a < 8) (hb : b < 8) (h : dg8 f (a * 8 + b)) (hv : v = if a = b then 0 else -1) : dg8 (upd f (a * 8 + b) v) (a * 8 + b + 1) := by
  intro a' b' ha' hb' hlt
  unfold upd
  by_cases he : a' * 8 + b' = a * 8 + b
  · rw [if_pos he, hv]
    have h1 : a' = a := by omega
    have h2 : b' = b := by omega
    rw [h1, h2]
  · rw [if_neg he]
    exact h a' b' ha' hb' (by omega)
theorem dg_ix {a b : Nat} (ha : a < 8) (hb : b < 8) : nI a * (8 : Int32) + nI b = nI (a * 8 + b) := by
  rw [show (8 : Int32) = nI 8 from rfl, pk_mul, nI_add]
set_option maxRecDepth 100000 in
theorem sX3_init_33 {l : Launch} {D : va_G} {cI cZ : ClassId} (s : Mem) : CSpec l D cI cZ 1 5 152 hX3_init [.inr 33] SH_11 s (fun sh t => sh = SH_12 ∧ ∃ f g, t = stM (stM (stM (stM (stM (stM (stM s 34 (fun _ => 0)) 35 (fun _ => 0)) 36 (fun _ => 0)) 37 (fun _ => 0)) 38 (fun _ => 0)) 37 f) 38 g ∧ dg8 f 64 ∧ dg8 g 64) := by
  refine cspec_of iX3_init rfl (by decide +kernel) rfl (by decide) (kX3_init_33_0 ?_)
  have inner : ∀ (k a b : Nat), a < 8 → b ≤ 8 → 8 - b < k → ∀ (t : Mem) (f g : Nat → Int32), t = stM (stM (stM (stM (stM (stM (stM s 34 (fun _ => 0)) 35 (fun _ => 0)) 36 (fun _ => 0)) 37 (fun _ => 0)) 38 (fun _ => 0)) 37 f) 38 g → dg8 f (a * 8 + b) → dg8 g (a * 8 + b) →
      (∀ (t : Mem) (f g : Nat → Int32), t = stM (stM (stM (stM (stM (stM (stM s 34 (fun _ => 0)) 35 (fun _ => 0)) 36 (fun _ => 0)) 37 (fun _ => 0)) 38 (fun _ => 0)) 37 f) 38 g → dg8 f (a * 8 + 8) → dg8 g (a * 8 + 8) → AC l D cI cZ 1 5 152 hX3_init (fun sh t => sh = SH_12 ∧ ∃ f g, t = stM (stM (stM (stM (stM (stM (stM s 34 (fun _ => 0)) 35 (fun _ => 0)) 36 (fun _ => 0)) 37 (fun _ => 0)) 38 (fun _ => 0)) 37 f) 38 g ∧ dg8 f 64 ∧ dg8 g 64) 46 [some (.inr 33), some (.inl (nI (a + 1))), none] [] SH_12 t 5 152) →
      AC l D cI cZ 1 5 152 hX3_init (fun sh t => sh = SH_12 ∧ ∃ f g, t = stM (stM (stM (stM (stM (stM (stM s 34 (fun _ => 0)) 35 (fun _ => 0)) 36 (fun _ => 0)) 37 (fun _ => 0)) 38 (fun _ => 0)) 37 f) 38 g ∧ dg8 f 64 ∧ dg8 g 64) 54 [some (.inr 33), some (.inl (nI a)), some (.inl (nI b))] [] SH_12 t 5 152 := by
    intro k
    induction k with
    | zero => intro a b _ _ h; omega
    | succ k ih =>
      intro a b ha hb hk t f g ht hf hg hend
      refine kX3_init_33_54 ⟨fun q => ?_, fun q => ?_⟩
      · have hb8 : b = 8 := by
          rcases Nat.lt_or_ge b 8 with h | h
          · exact absurd q (by rw [show (8 : Int32) = nI 8 from rfl]; exact nI_ge h (by decide))
          · omega
        subst hb8
        rw [nI_1]
        exact ac_weak (L := [some (.inr 33), some (.inl (nI (a + 1))), none]) ⟨rfl, rfl, trivial⟩ (hend t f g ht hf hg)
      · have hb8 : b < 8 := by
          rcases Nat.lt_or_ge b 8 with h | h
          · exact h
          · exact absurd (by rw [show (8 : Int32) = nI 8 from rfl]; exact nI_le h (by omega)) q
        have hi : vp_in (nI a * (8 : Int32) + nI b) 64 := by rw [dg_ix ha hb8]; exact vp_in_nI (by omega) (by decide)
        have hc : (nI a * (8 : Int32) + nI b).toNatClampNeg = a * 8 + b := by rw [dg_ix ha hb8]; exact nI_clamp (by omega)
        have heq : nI a = nI b ↔ a = b := nI_eq (by omega) (by omega)
        have step : ∀ v : Int32, v = (if a = b then 0 else -1) → AC l D cI cZ 1 5 152 hX3_init (fun sh t => sh = SH_12 ∧ ∃ f g, t = stM (stM (stM (stM (stM (stM (stM s 34 (fun _ => 0)) 35 (fun _ => 0)) 36 (fun _ => 0)) 37 (fun _ => 0)) 38 (fun _ => 0)) 37 f) 38 g ∧ dg8 f 64 ∧ dg8 g 64) 54 [some (.inr 33), some (.inl (nI a)), some (.inl (nI b + (1 : Int32)))] [] SH_12 (wrM (wrM t 37 (nI a * (8 : Int32) + nI b).toNatClampNeg v) 38 (nI a * (8 : Int32) + nI b).toNatClampNeg v) 5 152 := by
          intro v hv
          rw [nI_1, hc]
          refine ih a (b + 1) ha (by omega) (by omega) _ (upd f (a * 8 + b) v) (upd g (a * 8 + b) v) ?_ (dg8_s ha hb8 hf hv) (dg8_s ha hb8 hg hv) hend
          subst ht
          funext q j
          by_cases h1 : q = 38
          · subst h1
            rfl
          · by_cases h2 : q = 37
            · subst h2
              rfl
            · simp [stM, h1, h2]
        refine ⟨fun hne => ⟨hi, fun _ => ⟨hi, step (-1) (by rw [if_neg (fun z => hne (heq.mpr z))])⟩, fun h => absurd h hne⟩, fun he => ⟨hi, fun h => absurd he h, fun _ => ⟨hi, step 0 (by rw [if_pos (heq.mp he)])⟩⟩⟩
  have outer : ∀ (k a : Nat), a ≤ 8 → 8 - a < k → ∀ (t : Mem) (f g : Nat → Int32), t = stM (stM (stM (stM (stM (stM (stM s 34 (fun _ => 0)) 35 (fun _ => 0)) 36 (fun _ => 0)) 37 (fun _ => 0)) 38 (fun _ => 0)) 37 f) 38 g → dg8 f (a * 8) → dg8 g (a * 8) → AC l D cI cZ 1 5 152 hX3_init (fun sh t => sh = SH_12 ∧ ∃ f g, t = stM (stM (stM (stM (stM (stM (stM s 34 (fun _ => 0)) 35 (fun _ => 0)) 36 (fun _ => 0)) 37 (fun _ => 0)) 38 (fun _ => 0)) 37 f) 38 g ∧ dg8 f 64 ∧ dg8 g 64) 46 [some (.inr 33), some (.inl (nI a)), none] [] SH_12 t 5 152 := by
    intro k
    induction k with
    | zero => intro a _ h; omega
    | succ k ih =>
      intro a ha hk t f g ht hf hg
      have key : ((8 : Int32) ≤ nI a → (SH_12 = SH_12 ∧ ∃ f g, t = stM (stM (stM (stM (stM (stM (stM s 34 (fun _ => 0)) 35 (fun _ => 0)) 36 (fun _ => 0)) 37 (fun _ => 0)) 38 (fun _ => 0)) 37 f) 38 g ∧ dg8 f 64 ∧ dg8 g 64)) ∧ (¬ (8 : Int32) ≤ nI a → AC l D cI cZ 1 5 152 hX3_init (fun sh t => sh = SH_12 ∧ ∃ f g, t = stM (stM (stM (stM (stM (stM (stM s 34 (fun _ => 0)) 35 (fun _ => 0)) 36 (fun _ => 0)) 37 (fun _ => 0)) 38 (fun _ => 0)) 37 f) 38 g ∧ dg8 f 64 ∧ dg8 g 64) 54 [some (.inr 33), some (.inl (nI a)), some (.inl (0 : Int32))] [] SH_12 t 5 152) := by
        refine ⟨fun q => ?_, fun q => ?_⟩
        · have ha8 : a = 8 := by
            rcases Nat.lt_or_ge a 8 with h | h
            · exact absurd q (by rw [show (8 : Int32) = nI 8 from rfl]; exact nI_ge h (by decide))
            · omega
          subst ha8
          exact ⟨rfl, f, g, ht, hf, hg⟩
        · have ha8 : a < 8 := by
            rcases Nat.lt_or_ge a 8 with h | h
            · exact h
            · exact absurd (by rw [show (8 : Int32) = nI 8 from rfl]; exact nI_le h (by omega)) q
          exact inner 9 a 0 ha8 (by omega) (by omega) t f g ht hf hg (fun t f g ht hf hg => ih (a + 1) (by omega) (by omega) t f g ht (by rw [Nat.succ_mul]; exact hf) (by rw [Nat.succ_mul]; exact hg))
      exact kX3_init_33_46 key
  refine outer 9 0 (by omega) (by omega) _ (fun _ => 0) (fun _ => 0) ?_ (fun a b _ _ h => by omega) (fun a b _ _ h => by omega)
  funext q j
  by_cases h1 : q = 38
  · subst h1
    rfl
  · by_cases h2 : q = 37
    · subst h2
      rfl
    · simp [stM, h1, h2]
set_option maxRecDepth 100000 in
theorem sX0_init_15 {l : Launch} {D : va_G} {cI cZ : ClassId} (s : Mem) : CSpec l D cI cZ 2 10 85 hX0_init [.inr 15, .inr 1] SH_5 s (fun sh t => sh = SH_8 ∧ ∃ u : Mem, t = stM (stM (stM u 23 (fun _ => 0)) 24 (fun _ => 0)) 25 (fun _ => 0) ∧ u = stM (stM (stM (stM (stM (stM (stM s 16 (fun _ => 0)) 17 (fun _ => 0)) 18 (fun _ => 0)) 19 (fun _ => 0)) 20 (fun _ => 0)) 21 (fun _ => 0)) 22 (fun _ => 0)) := by
  refine cspec_of iX0_init rfl (by decide +kernel) rfl (by decide) (kX0_init_15_0 ⟨1, 6, 53, _, by decide, by decide, by decide, sX2_init_16 _, ?_⟩)
  rintro sh' s' ⟨rfl, e2⟩
  exact kX0_init_15_18 ⟨rfl, s', rfl, e2⟩
set_option maxRecDepth 100000 in
theorem sX8_init_49 {l : Launch} {D : va_G} {cI cZ : ClassId} (s : Mem) : CSpec l D cI cZ 1 25 1858 hX8_init [.inr 49] SH_19 s (fun sh t => sh = SH_18 ∧ t = stM (stM (stM (stM (stM (stM (stM (stM (stM (stM (stM (stM (stM (stM (stM (stM (stM (stM (stM (wrM (wrM (wrM (wrM (wrM (wrM (wrM (wrM (wrM (wrM (stM (stM (stM (stM (stM (stM s 50 (fun _ => 0)) 51 (fun _ => 0)) 52 (fun _ => 0)) 53 (fun _ => 0)) 54 (fun _ => 0)) 55 (fun _ => 0)) 55 (0 : Int32).toNatClampNeg (1 : Int32)) 55 (1 : Int32).toNatClampNeg (1 : Int32)) 55 (2 : Int32).toNatClampNeg (1 : Int32)) 55 (3 : Int32).toNatClampNeg (1 : Int32)) 55 (4 : Int32).toNatClampNeg (1 : Int32)) 55 (5 : Int32).toNatClampNeg (1 : Int32)) 55 (6 : Int32).toNatClampNeg (1 : Int32)) 55 (7 : Int32).toNatClampNeg (1 : Int32)) 55 (8 : Int32).toNatClampNeg (1 : Int32)) 55 (9 : Int32).toNatClampNeg (1 : Int32)) 56 (fun _ => 0)) 57 (fun _ => 0)) 58 (fun _ => 0)) 59 (fun _ => 0)) 60 (fun _ => 0)) 61 (fun _ => 0)) 62 (fun _ => 0)) 63 (fun _ => 0)) 64 (fun _ => 0)) 65 (fun _ => 0)) 66 (fun _ => 0)) 67 (fun _ => 0)) 68 (fun _ => 0)) 69 (fun _ => 0)) 70 (fun _ => 0)) 71 (fun _ => 0)) 72 (fun _ => 0)) 73 (fun _ => 0)) 74 (fun _ => 0)) := cspec_of iX8_init rfl (by decide +kernel) rfl (by decide) (kX8_init_49_0 ⟨vin (by decide), ⟨vin (by decide), ⟨vin (by decide), ⟨vin (by decide), ⟨vin (by decide), ⟨vin (by decide), ⟨vin (by decide), ⟨vin (by decide), ⟨vin (by decide), ⟨vin (by decide), ⟨rfl, rfl⟩⟩⟩⟩⟩⟩⟩⟩⟩⟩⟩)
