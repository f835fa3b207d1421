/-- the cells: arrays (0 int, 1 boolean; length), objects (class; a field is a number or a cell): 0 cr, 1 show, 2 show.minutes, 3 show.kinds, 4 show.worths, 5 show.people, 6 show.props, 7 show.resters, 8 told, 9 told.acts, 10 told.used, 11 told.ring, 12 told.pause, 13 told.gapSum, 14 told.worthSum, 15 bo, 16 row, 17 row.acts, 18 row.used, 19 row.ring, 20 row.pause, 21 row.gapSum, 22 row.worthSum, 23 bo.acts, 24 bo.leastChange, 25 bo.byWorth, 26 tent, 27 tent.loads, 28 tent.shares, 29 tent.exposures, 30 tent.parts, 31 tent.bears, 32 tent.slackened, 33 road, 34 road.takes, 35 road.firsts, 36 road.lasts, 37 road.ways, 38 road.least, 39 br, 40 br.towns, 41 br.nights, 42 br.row, 43 br.rowNights, 44 br.used, 45 br.takeSum, 46 till, 47 till.sums, 48 till.times, 49 md, 50 md.minutes, 51 md.kind, 52 md.worth, 53 md.who, 54 md.props, 55 md.rest, 56 md.isBanned, 57 md.loads, 58 md.shares, 59 md.exposed, 60 md.take, 61 md.first, 62 md.last, 63 md.hours, 64 md.least, 65 md.takenTown, 66 md.takenDay, 67 md.takenSum, 68 md.row, 69 md.choice, 70 md.found, 71 md.foundAt, 72 md.night, 73 md.parts, 74 md.isSlack -/
abbrev SHl : List ((Nat × Nat) ⊕ (Nat × List (Option Nat))) := [.inr (7, [some 1, some 8, some 15, some 26, some 33, some 39, some 46]), .inr (4, [none, some 2, some 3, some 4, some 5, some 6, some 7, none, none]), .inl (0, 8), .inl (0, 8), .inl (0, 8), .inl (0, 8), .inl (0, 8), .inl (0, 4), .inr (2, [some 1, some 9, some 10, some 11, some 12, some 13, some 14, none]), .inl (0, 8), .inl (0, 9), .inl (0, 9), .inl (0, 9), .inl (0, 9), .inl (0, 9), .inr (0, [some 1, some 16, none, none, none, none, some 23, some 24, some 25]), .inr (2, [some 1, some 17, some 18, some 19, some 20, some 21, some 22, none]), .inl (0, 8), .inl (0, 9), .inl (0, 9), .inl (0, 9), .inl (0, 9), .inl (0, 9), .inl (0, 8), .inl (0, 8), .inl (0, 8), .inr (5, [some 27, some 28, some 29, some 30, some 31, some 32, none]), .inl (0, 8), .inl (0, 64), .inl (0, 8), .inl (0, 8), .inl (1, 8), .inl (1, 8), .inr (3, [none, some 34, some 35, some 36, some 37, some 38, none]), .inl (0, 8), .inl (0, 8), .inl (0, 8), .inl (0, 64), .inl (0, 64), .inr (1, [some 33, none, none, none, some 40, some 41, some 42, some 43, some 44, some 45]), .inl (0, 8), .inl (0, 8), .inl (0, 8), .inl (0, 8), .inl (0, 9), .inl (0, 9), .inr (6, [none, some 47, some 48, none, none]), .inl (0, 56), .inl (0, 56), .inr (8, [none, some 50, some 51, some 52, some 53, some 54, some 55, some 56, some 57, some 58, some 59, none, some 60, some 61, some 62, some 63, some 64, none, some 65, some 66, some 67, some 68, some 69, some 70, some 71, some 72, none, some 73, some 74, none]), .inl (0, 8), .inl (0, 8), .inl (0, 8), .inl (0, 8), .inl (0, 8), .inl (0, 10), .inl (1, 16), .inl (0, 8), .inl (0, 64), .inl (0, 8), .inl (0, 8), .inl (0, 8), .inl (0, 8), .inl (0, 64), .inl (0, 64), .inl (0, 500), .inl (0, 500), .inl (0, 500), .inl (0, 9), .inl (0, 10), .inl (0, 8), .inl (0, 8), .inl (0, 9), .inl (0, 8), .inl (1, 8)]
theorem lay_all : ∀ q ∈ vwCl, ∀ w ∈ u_ws q.1 q.2.1 q.2.2, w ∈ lw_tbl := by decide +kernel
theorem cls_ok {ci N : Nat} {C : String} {T : u_T} (h : vwCl[ci]? = some (C, T, N)) : ∃ ty0 : Nat → FieldType, (∀ k, k < N → parseFieldDescriptor (T k).2.2.1 = some (ty0 k)) ∧ ∀ a, a < N → ∀ b, b < N → a ≠ b → (T a).2.1 ≠ (T b).2.1 := by
  match ci, h with
  | 0, h => cases h; exact ⟨tyX0, tyX0_ok, nmX0⟩
  | 1, h => cases h; exact ⟨tyX1, tyX1_ok, nmX1⟩
  | 2, h => cases h; exact ⟨tyX2, tyX2_ok, nmX2⟩
  | 3, h => cases h; exact ⟨tyX3, tyX3_ok, nmX3⟩
  | 4, h => cases h; exact ⟨tyX4, tyX4_ok, nmX4⟩
  | 5, h => cases h; exact ⟨tyX5, tyX5_ok, nmX5⟩
  | 6, h => cases h; exact ⟨tyX6, tyX6_ok, nmX6⟩
  | 7, h => cases h; exact ⟨tyX7, tyX7_ok, nmX7⟩
  | 8, h => cases h; exact ⟨tyX8, tyX8_ok, nmX8⟩
  | ci + 9, h => simp [vwCl] at h
/-! ===== the machine, made small: a memory of numbers, a judgement AW over it, a rule an instruction ===== -/
abbrev HD : Type := MethodName × ByteArray × Nat × Option FieldType
abbrev Vl : Type := Int32 ⊕ Nat
abbrev LL : Type := List (Option Vl)
abbrev Mem : Type := Nat → Nat → Int32
abbrev CD : Type := (Nat × Nat) ⊕ (Nat × List (Option Nat))
abbrev GG : Type := va_G × ClassId × ClassId × (Nat → Nat)
abbrev En : Type := Instr × Nat × Nat × Nat × Int32 × HD × List Nat
def stM (s : Mem) (k : Nat) (f : Nat → Int32) : Mem := fun q => if q = k then f else s q
abbrev wrM (s : Mem) (k i : Nat) (v : Int32) : Mem := stM s k (upd (s k) i v)
def vv (G : GG) : Vl → Value
  | .inl x => .int x
  | .inr k => .ref (G.2.2.2 k)
def fld (G : GG) (f : Nat → Int32) (j : Nat) : Option Nat → Value
  | none => .int (f j)
  | some q => .ref (G.2.2.2 q)
def ent (G : GG) (s : Mem) (k : Nat) : CD → va_E
  | .inl (t, n) => .inl (if t = 0 then G.2.1 else G.2.2.1, n, .inl (s k))
  | .inr (ci, fs) => .inr (ci, fs.mapIdx (fld G (s k)))
def wd (G : GG) (s : Mem) : va_W := SHl.mapIdx (fun k c => (G.2.2.2 k, ent G s k c))
def adI (G : GG) : Prop := ∀ i j, i < SHl.length → j < SHl.length → G.2.2.2 i = G.2.2.2 j → i = j
def AA (G : GG) : Nat → Prop := fun q => ∃ k, k < SHl.length ∧ q = G.2.2.2 k
theorem stM_self {s : Mem} {k : Nat} {f : Nat → Int32} : stM s k f k = f := by simp [stM]
theorem stM_ne {s : Mem} {k q : Nat} {f : Nat → Int32} (h : q ≠ k) : stM s k f q = s q := by simp [stM, h]
theorem wd_get {G : GG} {s : Mem} {k : Nat} {c : CD} (h : SHl[k]? = some c) : (wd G s)[k]? = some (G.2.2.2 k, ent G s k c) := by
  simp only [wd, List.getElem?_mapIdx, h, Option.map_some]
theorem ent_ne {G : GG} {s : Mem} {k q : Nat} {f : Nat → Int32} (h : q ≠ k) (c : CD) : ent G (stM s k f) q c = ent G s q c := by
  rcases c with ⟨t, n⟩ | ⟨ci, fs⟩ <;> simp [ent, stM_ne h]
theorem wd_set {G : GG} {s : Mem} {k : Nat} {f : Nat → Int32} {c : CD} (h : SHl[k]? = some c) : (wd G s).set k (G.2.2.2 k, ent G (stM s k f) k c) = wd G (stM s k f) := by
  apply List.ext_getElem?
  intro i
  by_cases hi : i = k
  · subst hi
    have hl : i < (wd G s).length := by
      have := (List.getElem?_eq_some_iff.mp h).1
      simpa [wd] using this
    rw [List.getElem?_set_self hl, wd_get h]
  · rw [List.getElem?_set_ne (Ne.symm hi)]
    simp only [wd, List.getElem?_mapIdx]
    cases SHl[i]? with
    | none => rfl
    | some c' => simp only [Option.map_some, ent_ne hi]
theorem wd_D {G : GG} (h : adI G) (s : Mem) : va_D (AA G) (wd G s) := by
  have key : ∀ (k : Nat) (q : Nat × va_E), (wd G s)[k]? = some q → k < SHl.length ∧ q.1 = G.2.2.2 k := by
    intro k q hk
    simp only [wd, List.getElem?_mapIdx] at hk
    cases hc : SHl[k]? with
    | none => rw [hc] at hk; cases hk
    | some c =>
      rw [hc] at hk
      cases hk
      exact ⟨(List.getElem?_eq_some_iff.mp hc).1, rfl⟩
  refine ⟨fun i j p q hi hj hpq => ?_, fun k q hk => ⟨k, key k q hk⟩⟩
  obtain ⟨h1, h2⟩ := key i p hi
  obtain ⟨h3, h4⟩ := key j q hj
  exact h i j h1 h3 (by rw [← h2, ← h4]; exact hpq)
theorem ent_arr {G : GG} {s : Mem} {k t n : Nat} {f : Nat → Int32} : ent G (stM s k f) k (.inl (t, n)) = .inl (if t = 0 then G.2.1 else G.2.2.1, n, .inl f) := by simp [ent, stM_self]
theorem ent_obj {G : GG} {s : Mem} {k ci j : Nat} {fs : List (Option Nat)} {v : Int32} (h : fs[j]? = some none) : ent G (stM s k (upd (s k) j v)) k (.inr (ci, fs)) = .inr (ci, (fs.mapIdx (fld G (s k))).set j (.int v)) := by
  have e : fs.mapIdx (fld G (upd (s k) j v)) = (fs.mapIdx (fld G (s k))).set j (.int v) := by
    apply List.ext_getElem?
    intro i
    by_cases hi : i = j
    · subst hi
      have hl : i < (fs.mapIdx (fld G (s k))).length := by
        have := (List.getElem?_eq_some_iff.mp h).1
        simpa using this
      rw [List.getElem?_set_self hl, List.getElem?_mapIdx, h]
      simp [fld, upd]
    · rw [List.getElem?_set_ne (Ne.symm hi), List.getElem?_mapIdx, List.getElem?_mapIdx]
      cases fs[i]? with
      | none => rfl
      | some o => cases o <;> simp [fld, upd, hi]
  simp only [ent, stM_self, e]
def rm (d : Nat) : Room := { frames := d, cells := 0, slots := 0, locals := 60 * d }
def isNest : Cond → Bool
  | .fieldLinkNest .. => true
  | .methodLinkNest .. => true
  | _ => false
def NWS (U : State) : Prop := ∀ w ∈ lw_tbl, isNest w = true → va_Nw w U
theorem NWS.warm {s U : State} (hW : s.WarmedH U.vm) (h : NWS s) : NWS U := by
  intro w hw hn
  have h1 := h w hw hn
  cases w <;> first | (simp [isNest] at hn; done) | exact va_Nw.warmF hW h1 | exact va_Nw.warmM hW h1
theorem NWS.same {s U : State} (e : s.vm = U.vm) (h : NWS s) : NWS U := by
  intro w hw hn
  have h1 := h w hw hn
  cases w <;> first | (simp [isNest] at hn; done) | exact va_Nw.same rfl e h1
abbrev tysL (G : GG) : List (ClassId × FieldType) := [(G.2.1, .int), (G.2.2.1, .boolean)]
def PK (G : GG) (U : State) : Prop := va_K G.1 vwCl (tysL G) U
def rv (h : HD) (r : Int32) : Option Value := match h.2.2.2 with
  | none => none
  | some _ => some (.int r)
def pv (h : HD) (r : Int32) (st : List Vl) : List Vl := match h.2.2.2 with
  | none => st
  | some _ => .inl r :: st
def QQ (G : GG) (h : HD) (post : Int32 → Mem → Prop) : Array Value → State → Outcome → State → Prop := fun _ st oc t =>
  (∃ (r : Int32) (τ : Mem), oc = .returned (rv h r) ∧ post r τ ∧ va_P G.1 vwCl (wd G τ) t.heap) ∧ va_F (AA G) st t
def CX (p : Program) (S : State) (m : MethodId) (args : Array Value) (meth : Method) (c : Code) (h : HD) : Prop :=
  p.tables.exec = Jvm.exec ∧ c.code = h.2.1 ∧ meth.sig.returnType = h.2.2.2 ∧ c.maxLocals = h.2.2.1 ∧ S.vm.findClass h.1.cls = some m.cls ∧ (∀ w ∈ lw_tbl, goodWord w = true → w.before args S = true) ∧ NWS S ∧ meth.locks = false
def lvh (G : GG) (ls : Array Slot) (n : Nat) (L : LL) : Prop := ls.size = n ∧ lv_wf ls ∧ ∀ (i : Nat) (v : Vl), L[i]? = some (some v) → ls[i]? = some (Slot.val (vv G v))
def lvl (G : GG) (L : LL) : List (Nat × Value) := (L.mapIdx (fun i o => (o.map (fun v => (i, vv G v))))).filterMap id
theorem lvl_mem {G : GG} {L : LL} {q : Nat × Value} : q ∈ lvl G L ↔ ∃ i v, L[i]? = some (some v) ∧ q = (i, vv G v) := by
  simp only [lvl, List.mem_filterMap, id]
  constructor
  · rintro ⟨a, ha, rfl⟩
    obtain ⟨i, hi⟩ := List.getElem?_of_mem ha
    rw [List.getElem?_mapIdx] at hi
    cases hL : L[i]? with
    | none => rw [hL] at hi; cases hi
    | some o =>
      rw [hL] at hi
      cases o with
      | none => cases hi
      | some v => cases hi; exact ⟨i, v, hL, rfl⟩
  · rintro ⟨i, v, hL, rfl⟩
    refine ⟨some (i, vv G v), List.mem_of_getElem? (i := i) ?_, rfl⟩
    rw [List.getElem?_mapIdx, hL]
    rfl
theorem lvh_has {G : GG} {ls : Array Slot} {n : Nat} {L : LL} (h : lvh G ls n L) : lv_has ls n (lvl G L) := by
  refine ⟨h.1, h.2.1, fun q hq => ?_⟩
  obtain ⟨i, v, hL, rfl⟩ := lvl_mem.mp hq
  exact h.2.2 i v hL
theorem vv_cat (G : GG) (v : Vl) : (vv G v).category = 1 := by cases v <;> rfl
theorem lvh_set {G : GG} {ls : Array Slot} {n i : Nat} {L : LL} {x : Vl} (h : lv_has ls n ((i, vv G x) :: (lvl G L).filter (fun q => !(q.1 == i) && !(q.1 + 1 == i && q.2.category == 2)))) : lvh G ls n (L.set i (some x)) := by
  refine ⟨h.1, h.2.1, fun j v hj => ?_⟩
  by_cases hji : j = i
  · subst hji
    by_cases hl : j < L.length
    · rw [List.getElem?_set_self hl] at hj
      cases hj
      exact h.2.2 (j, vv G x) List.mem_cons_self
    · rw [List.getElem?_eq_none (by simpa using hl)] at hj
      cases hj
  · rw [List.getElem?_set_ne (Ne.symm hji)] at hj
    refine h.2.2 (j, vv G v) (List.mem_cons_of_mem _ (List.mem_filter.mpr ⟨lvl_mem.mpr ⟨j, v, hj, rfl⟩, ?_⟩))
    simp [hji, vv_cat]
def AW (l : Launch) (G : GG) (d : Nat) (h : HD) (pc : Nat) (L : LL) (st : List Vl) (s : Mem) (post : Int32 → Mem → Prop) : Prop :=
  ∀ (p : Program) (e : Env) (S : State) (m : MethodId) (args : Array Value) (below : List Frame) (meth : Method) (c : Code) (H : Heap) (locs : List Loc) (ls : Array Slot),
    CX p S m args meth c h → PK G S → va_P G.1 vwCl (wd G s) H → adI G → va_S (AA G) S.heap H locs → lvh G ls h.2.2.1 L →
    W p l e (rm d) S m args below meth c H locs 0 0 (MQ below (QQ G h post) args S 0 0 (AA G)) (F0 m pc ls (st.map (vv G)))
def WSg : List Cond := lw_tbl.filter goodWord
def PIC (G : GG) (s : Mem) (U : State) : Prop := va_P G.1 vwCl (wd G s) U.heap ∧ PK G U ∧ adI G ∧ NWS U
def Spec (l : Launch) (G : GG) (d : Nat) (h : HD) (As : List Vl) (s : Mem) (post : Int32 → Mem → Prop) : Prop :=
  Cond.code h.1 h.2.1 h.2.2.1 h.2.2.2 ∈ lw_tbl ∧ Met l h.1 (Cond.code h.1 h.2.1 h.2.2.1 h.2.2.2 :: WSg) (rm d) (va_Pc (As.map (vv G)) (PIC G s)) (QQ G h post) 0 0 (AA G)
section MA
variable {l : Launch} {G : GG} {d : Nat} {h : HD} {pc : Nat} {L : LL} {st : List Vl} {s : Mem} {post : Int32 → Mem → Prop} {x y v : Int32}
theorem as_iconst {n : Int} (hd : decode h.2.1 pc = .ok (.iconst n, 1)) (hv : Int32.ofInt n = v) (k : AW l G d h (pc + 1) L (.inl v :: st) s post) : AW l G d h pc L st s post := by
  intro p e S m args below meth c H locs ls X K P I Z N
  exact lv_iconst X.1 X.2.1 hd hv (k p e S m args below meth c H locs ls X K P I Z N)
theorem as_bipush {n : Int} (hd : decode h.2.1 pc = .ok (.bipush n, 2)) (hv : (Int8.ofInt n).toInt32 = v) (k : AW l G d h (pc + 2) L (.inl v :: st) s post) : AW l G d h pc L st s post := by
  intro p e S m args below meth c H locs ls X K P I Z N
  exact lv_bipush X.1 X.2.1 hd hv (k p e S m args below meth c H locs ls X K P I Z N)
theorem as_sipush {n : Int} (hd : decode h.2.1 pc = .ok (.sipush n, 3)) (hv : (Int16.ofInt n).toInt32 = v) (k : AW l G d h (pc + 3) L (.inl v :: st) s post) : AW l G d h pc L st s post := by
  intro p e S m args below meth c H locs ls X K P I Z N
  exact lv_sipush X.1 X.2.1 hd hv (k p e S m args below meth c H locs ls X K P I Z N)
theorem as_ldc {n : Nat} (hd : decode h.2.1 pc = .ok (.ldc n, 2)) (hv : Cond.constant h.1.cls n v ∈ lw_tbl) (k : AW l G d h (pc + 2) L (.inl v :: st) s post) : AW l G d h pc L st s post := by
  intro p e S m args below meth c H locs ls X K P I Z N
  exact lv_ldc X.1 X.2.1 X.2.2.2.2.1 (X.2.2.2.2.2.1 _ hv rfl) hd (k p e S m args below meth c H locs ls X K P I Z N)
theorem as_ldcw {n : Nat} (hd : decode h.2.1 pc = .ok (.ldc_w n, 3)) (hv : Cond.constant h.1.cls n v ∈ lw_tbl) (k : AW l G d h (pc + 3) L (.inl v :: st) s post) : AW l G d h pc L st s post := by
  intro p e S m args below meth c H locs ls X K P I Z N
  exact lv_ldcw X.1 X.2.1 X.2.2.2.2.1 (X.2.2.2.2.2.1 _ hv rfl) hd (k p e S m args below meth c H locs ls X K P I Z N)
theorem as_iload {i : Nat} (hd : decode h.2.1 pc = .ok (.iload i, 2)) (hL : L[i]? = some (some (.inl x))) (k : AW l G d h (pc + 2) L (.inl x :: st) s post) : AW l G d h pc L st s post := by
  intro p e S m args below meth c H locs ls X K P I Z N
  exact lv_iload X.1 X.2.1 hd (N.2.2 i _ hL) (k p e S m args below meth c H locs ls X K P I Z N)
theorem as_iload_n {i : Fin 4} (hd : decode h.2.1 pc = .ok (.iload_n i, 1)) (hL : L[(i : Nat)]? = some (some (.inl x))) (k : AW l G d h (pc + 1) L (.inl x :: st) s post) : AW l G d h pc L st s post := by
  intro p e S m args below meth c H locs ls X K P I Z N
  exact lv_iload_n X.1 X.2.1 hd rfl (N.2.2 i _ hL) (k p e S m args below meth c H locs ls X K P I Z N)
theorem as_aload_n {i : Fin 4} {o : Nat} (hd : decode h.2.1 pc = .ok (.aload_n i, 1)) (hL : L[(i : Nat)]? = some (some (.inr o))) (k : AW l G d h (pc + 1) L (.inr o :: st) s post) : AW l G d h pc L st s post := by
  intro p e S m args below meth c H locs ls X K P I Z N
  exact lv_aload_n X.1 X.2.1 hd rfl (N.2.2 i _ hL) (k p e S m args below meth c H locs ls X K P I Z N)
theorem as_istore {i : Nat} (hd : decode h.2.1 pc = .ok (.istore i, 2)) (hi : i < h.2.2.1) (k : AW l G d h (pc + 2) (L.set i (some (.inl x))) st s post) : AW l G d h pc L (.inl x :: st) s post := by
  intro p e S m args below meth c H locs ls X K P I Z N
  exact lv_istore X.1 X.2.1 hd (lvh_has N) hi rfl (fun ls' hl => k p e S m args below meth c H locs ls' X K P I Z (lvh_set hl))
theorem as_istore_n {i : Fin 4} (hd : decode h.2.1 pc = .ok (.istore_n i, 1)) (hi : (i : Nat) < h.2.2.1) (k : AW l G d h (pc + 1) (L.set i (some (.inl x))) st s post) : AW l G d h pc L (.inl x :: st) s post := by
  intro p e S m args below meth c H locs ls X K P I Z N
  exact lv_istore_n X.1 X.2.1 hd rfl (lvh_has N) hi rfl (fun ls' hl => k p e S m args below meth c H locs ls' X K P I Z (lvh_set hl))
theorem as_iinc {i : Nat} {n : Int} (hd : decode h.2.1 pc = .ok (.iinc i n, 3)) (hL : L[i]? = some (some (.inl x))) (hv : Int32.ofInt n = v) (hi : i < h.2.2.1) (k : AW l G d h (pc + 3) (L.set i (some (.inl (x + v)))) st s post) : AW l G d h pc L st s post := by
  intro p e S m args below meth c H locs ls X K P I Z N
  subst hv
  obtain ⟨kk, hk⟩ := List.getElem?_of_mem (lvl_mem.mpr ⟨i, _, hL, rfl⟩ : (i, vv G (.inl x)) ∈ lvl G L)
  exact lv_iinc X.1 X.2.1 hd (lvh_has N) hk rfl hi rfl (fun ls' hl => k p e S m args below meth c H locs ls' X K P I Z (lvh_set hl))
theorem as_iadd (hd : decode h.2.1 pc = .ok (.iadd, 1)) (k : AW l G d h (pc + 1) L (.inl (x + y) :: st) s post) : AW l G d h pc L (.inl y :: .inl x :: st) s post := by
  intro p e S m args below meth c H locs ls X K P I Z N
  exact lv_iadd X.1 X.2.1 hd (k p e S m args below meth c H locs ls X K P I Z N)
theorem as_isub (hd : decode h.2.1 pc = .ok (.isub, 1)) (k : AW l G d h (pc + 1) L (.inl (x - y) :: st) s post) : AW l G d h pc L (.inl y :: .inl x :: st) s post := by
  intro p e S m args below meth c H locs ls X K P I Z N
  exact lv_isub X.1 X.2.1 hd (k p e S m args below meth c H locs ls X K P I Z N)
theorem as_imul (hd : decode h.2.1 pc = .ok (.imul, 1)) (k : AW l G d h (pc + 1) L (.inl (x * y) :: st) s post) : AW l G d h pc L (.inl y :: .inl x :: st) s post := by
  intro p e S m args below meth c H locs ls X K P I Z N
  exact lv_imul X.1 X.2.1 hd (k p e S m args below meth c H locs ls X K P I Z N)
theorem as_iand (hd : decode h.2.1 pc = .ok (.iand, 1)) (k : AW l G d h (pc + 1) L (.inl (x &&& y) :: st) s post) : AW l G d h pc L (.inl y :: .inl x :: st) s post := by
  intro p e S m args below meth c H locs ls X K P I Z N
  exact lv_iand X.1 X.2.1 hd (k p e S m args below meth c H locs ls X K P I Z N)
theorem as_ior (hd : decode h.2.1 pc = .ok (.ior, 1)) (k : AW l G d h (pc + 1) L (.inl (x ||| y) :: st) s post) : AW l G d h pc L (.inl y :: .inl x :: st) s post := by
  intro p e S m args below meth c H locs ls X K P I Z N
  exact lv_ior X.1 X.2.1 hd (k p e S m args below meth c H locs ls X K P I Z N)
theorem as_ixor (hd : decode h.2.1 pc = .ok (.ixor, 1)) (k : AW l G d h (pc + 1) L (.inl (x ^^^ y) :: st) s post) : AW l G d h pc L (.inl y :: .inl x :: st) s post := by
  intro p e S m args below meth c H locs ls X K P I Z N
  exact lv_ixor X.1 X.2.1 hd (k p e S m args below meth c H locs ls X K P I Z N)
theorem as_ishl (hd : decode h.2.1 pc = .ok (.ishl, 1)) (k : AW l G d h (pc + 1) L (.inl (x <<< (y &&& 31)) :: st) s post) : AW l G d h pc L (.inl y :: .inl x :: st) s post := by
  intro p e S m args below meth c H locs ls X K P I Z N
  exact lv_ishl X.1 X.2.1 hd (k p e S m args below meth c H locs ls X K P I Z N)
theorem as_ishr (hd : decode h.2.1 pc = .ok (.ishr, 1)) (k : AW l G d h (pc + 1) L (.inl (x >>> (y &&& 31)) :: st) s post) : AW l G d h pc L (.inl y :: .inl x :: st) s post := by
  intro p e S m args below meth c H locs ls X K P I Z N
  exact lv_ishr X.1 X.2.1 hd (k p e S m args below meth c H locs ls X K P I Z N)
theorem as_idiv (hd : decode h.2.1 pc = .ok (.idiv, 1)) (hy : ¬ y = 0) (k : AW l G d h (pc + 1) L (.inl (x / y) :: st) s post) : AW l G d h pc L (.inl y :: .inl x :: st) s post := by
  intro p e S m args below meth c H locs ls X K P I Z N
  exact lv_idiv X.1 X.2.1 hd hy (k p e S m args below meth c H locs ls X K P I Z N)
theorem as_irem (hd : decode h.2.1 pc = .ok (.irem, 1)) (hy : ¬ y = 0) (k : AW l G d h (pc + 1) L (.inl (x - x / y * y) :: st) s post) : AW l G d h pc L (.inl y :: .inl x :: st) s post := by
  intro p e S m args below meth c H locs ls X K P I Z N
  exact lv_irem X.1 X.2.1 hd hy (k p e S m args below meth c H locs ls X K P I Z N)
theorem as_if_eq {off : Int} {tgt : Nat} (hd : decode h.2.1 pc = .ok (.ifCond .eq off, 3)) (ht : (pc : Int) + off = (tgt : Int)) (kt : x = 0 → AW l G d h tgt L st s post) (kf : ¬ x = 0 → AW l G d h (pc + 3) L st s post) : AW l G d h pc L (.inl x :: st) s post := by
  intro p e S m args below meth c H locs ls X K P I Z N
  exact lv_if_eq X.1 X.2.1 hd ht (fun q => kt q p e S m args below meth c H locs ls X K P I Z N) (fun q => kf q p e S m args below meth c H locs ls X K P I Z N)
theorem as_icmp_eq {off : Int} {tgt : Nat} (hd : decode h.2.1 pc = .ok (.if_icmp .eq off, 3)) (ht : (pc : Int) + off = (tgt : Int)) (kt : x = y → AW l G d h tgt L st s post) (kf : ¬ x = y → AW l G d h (pc + 3) L st s post) : AW l G d h pc L (.inl y :: .inl x :: st) s post := by
  intro p e S m args below meth c H locs ls X K P I Z N
  exact lv_icmp_eq X.1 X.2.1 hd ht (fun q => kt q p e S m args below meth c H locs ls X K P I Z N) (fun q => kf q p e S m args below meth c H locs ls X K P I Z N)
theorem as_if_ne {off : Int} {tgt : Nat} (hd : decode h.2.1 pc = .ok (.ifCond .ne off, 3)) (ht : (pc : Int) + off = (tgt : Int)) (kt : ¬ x = 0 → AW l G d h tgt L st s post) (kf : x = 0 → AW l G d h (pc + 3) L st s post) : AW l G d h pc L (.inl x :: st) s post := by
  intro p e S m args below meth c H locs ls X K P I Z N
  exact lv_if_ne X.1 X.2.1 hd ht (fun q => kt q p e S m args below meth c H locs ls X K P I Z N) (fun q => kf q p e S m args below meth c H locs ls X K P I Z N)
theorem as_icmp_ne {off : Int} {tgt : Nat} (hd : decode h.2.1 pc = .ok (.if_icmp .ne off, 3)) (ht : (pc : Int) + off = (tgt : Int)) (kt : ¬ x = y → AW l G d h tgt L st s post) (kf : x = y → AW l G d h (pc + 3) L st s post) : AW l G d h pc L (.inl y :: .inl x :: st) s post := by
  intro p e S m args below meth c H locs ls X K P I Z N
  exact lv_icmp_ne X.1 X.2.1 hd ht (fun q => kt q p e S m args below meth c H locs ls X K P I Z N) (fun q => kf q p e S m args below meth c H locs ls X K P I Z N)
theorem as_if_lt {off : Int} {tgt : Nat} (hd : decode h.2.1 pc = .ok (.ifCond .lt off, 3)) (ht : (pc : Int) + off = (tgt : Int)) (kt : x < 0 → AW l G d h tgt L st s post) (kf : ¬ x < 0 → AW l G d h (pc + 3) L st s post) : AW l G d h pc L (.inl x :: st) s post := by
  intro p e S m args below meth c H locs ls X K P I Z N
  exact lv_if_lt X.1 X.2.1 hd ht (fun q => kt q p e S m args below meth c H locs ls X K P I Z N) (fun q => kf q p e S m args below meth c H locs ls X K P I Z N)
theorem as_icmp_lt {off : Int} {tgt : Nat} (hd : decode h.2.1 pc = .ok (.if_icmp .lt off, 3)) (ht : (pc : Int) + off = (tgt : Int)) (kt : x < y → AW l G d h tgt L st s post) (kf : ¬ x < y → AW l G d h (pc + 3) L st s post) : AW l G d h pc L (.inl y :: .inl x :: st) s post := by
  intro p e S m args below meth c H locs ls X K P I Z N
  exact lv_icmp_lt X.1 X.2.1 hd ht (fun q => kt q p e S m args below meth c H locs ls X K P I Z N) (fun q => kf q p e S m args below meth c H locs ls X K P I Z N)
theorem as_if_ge {off : Int} {tgt : Nat} (hd : decode h.2.1 pc = .ok (.ifCond .ge off, 3)) (ht : (pc : Int) + off = (tgt : Int)) (kt : 0 ≤ x → AW l G d h tgt L st s post) (kf : ¬ 0 ≤ x → AW l G d h (pc + 3) L st s post) : AW l G d h pc L (.inl x :: st) s post := by
  intro p e S m args below meth c H locs ls X K P I Z N
  exact lv_if_ge X.1 X.2.1 hd ht (fun q => kt q p e S m args below meth c H locs ls X K P I Z N) (fun q => kf q p e S m args below meth c H locs ls X K P I Z N)
theorem as_icmp_ge {off : Int} {tgt : Nat} (hd : decode h.2.1 pc = .ok (.if_icmp .ge off, 3)) (ht : (pc : Int) + off = (tgt : Int)) (kt : y ≤ x → AW l G d h tgt L st s post) (kf : ¬ y ≤ x → AW l G d h (pc + 3) L st s post) : AW l G d h pc L (.inl y :: .inl x :: st) s post := by
  intro p e S m args below meth c H locs ls X K P I Z N
  exact lv_icmp_ge X.1 X.2.1 hd ht (fun q => kt q p e S m args below meth c H locs ls X K P I Z N) (fun q => kf q p e S m args below meth c H locs ls X K P I Z N)
theorem as_if_gt {off : Int} {tgt : Nat} (hd : decode h.2.1 pc = .ok (.ifCond .gt off, 3)) (ht : (pc : Int) + off = (tgt : Int)) (kt : 0 < x → AW l G d h tgt L st s post) (kf : ¬ 0 < x → AW l G d h (pc + 3) L st s post) : AW l G d h pc L (.inl x :: st) s post := by
  intro p e S m args below meth c H locs ls X K P I Z N
  exact lv_if_gt X.1 X.2.1 hd ht (fun q => kt q p e S m args below meth c H locs ls X K P I Z N) (fun q => kf q p e S m args below meth c H locs ls X K P I Z N)
theorem as_icmp_gt {off : Int} {tgt : Nat} (hd : decode h.2.1 pc = .ok (.if_icmp .gt off, 3)) (ht : (pc : Int) + off = (tgt : Int)) (kt : y < x → AW l G d h tgt L st s post) (kf : ¬ y < x → AW l G d h (pc + 3) L st s post) : AW l G d h pc L (.inl y :: .inl x :: st) s post := by
  intro p e S m args below meth c H locs ls X K P I Z N
  exact lv_icmp_gt X.1 X.2.1 hd ht (fun q => kt q p e S m args below meth c H locs ls X K P I Z N) (fun q => kf q p e S m args below meth c H locs ls X K P I Z N)
theorem as_if_le {off : Int} {tgt : Nat} (hd : decode h.2.1 pc = .ok (.ifCond .le off, 3)) (ht : (pc : Int) + off = (tgt : Int)) (kt : x ≤ 0 → AW l G d h tgt L st s post) (kf : ¬ x ≤ 0 → AW l G d h (pc + 3) L st s post) : AW l G d h pc L (.inl x :: st) s post := by
  intro p e S m args below meth c H locs ls X K P I Z N
  exact lv_if_le X.1 X.2.1 hd ht (fun q => kt q p e S m args below meth c H locs ls X K P I Z N) (fun q => kf q p e S m args below meth c H locs ls X K P I Z N)
theorem as_icmp_le {off : Int} {tgt : Nat} (hd : decode h.2.1 pc = .ok (.if_icmp .le off, 3)) (ht : (pc : Int) + off = (tgt : Int)) (kt : x ≤ y → AW l G d h tgt L st s post) (kf : ¬ x ≤ y → AW l G d h (pc + 3) L st s post) : AW l G d h pc L (.inl y :: .inl x :: st) s post := by
  intro p e S m args below meth c H locs ls X K P I Z N
  exact lv_icmp_le X.1 X.2.1 hd ht (fun q => kt q p e S m args below meth c H locs ls X K P I Z N) (fun q => kf q p e S m args below meth c H locs ls X K P I Z N)
theorem as_ineg (hd : decode h.2.1 pc = .ok (.ineg, 1)) (k : AW l G d h (pc + 1) L (.inl (-x) :: st) s post) : AW l G d h pc L (.inl x :: st) s post := by
  intro p e S m args below meth c H locs ls X K P I Z N
  exact lv_ineg X.1 X.2.1 hd (k p e S m args below meth c H locs ls X K P I Z N)
theorem as_iushr (hd : decode h.2.1 pc = .ok (.iushr, 1)) (k : AW l G d h (pc + 1) L (.inl ((x.toUInt32 >>> (y.toUInt32 &&& Int32.toUInt32 31)).toInt32) :: st) s post) : AW l G d h pc L (.inl y :: .inl x :: st) s post := by
  intro p e S m args below meth c H locs ls X K P I Z N
  exact lv_iushr X.1 X.2.1 hd rfl (k p e S m args below meth c H locs ls X K P I Z N)
theorem as_goto {off : Int} {tgt : Nat} (hd : decode h.2.1 pc = .ok (.goto off, 3)) (ht : (pc : Int) + off = (tgt : Int)) (k : AW l G d h tgt L st s post) : AW l G d h pc L st s post := by
  intro p e S m args below meth c H locs ls X K P I Z N
  exact lv_goto X.1 X.2.1 hd ht (k p e S m args below meth c H locs ls X K P I Z N)
theorem as_dup {a : Vl} (hd : decode h.2.1 pc = .ok (.dup, 1)) (k : AW l G d h (pc + 1) L (a :: a :: st) s post) : AW l G d h pc L (a :: st) s post := by
  intro p e S m args below meth c H locs ls X K P I Z N
  exact lv_dup X.1 X.2.1 hd (vv_cat G a) (k p e S m args below meth c H locs ls X K P I Z N)
theorem as_dup2 {a b : Vl} (hd : decode h.2.1 pc = .ok (.dup2, 1)) (k : AW l G d h (pc + 1) L (a :: b :: a :: b :: st) s post) : AW l G d h pc L (a :: b :: st) s post := by
  intro p e S m args below meth c H locs ls X K P I Z N
  exact lv_dup2_11 X.1 X.2.1 hd (vv_cat G a) (vv_cat G b) (k p e S m args below meth c H locs ls X K P I Z N)
theorem as_iaload {o n : Nat} (hd : decode h.2.1 pc = .ok (.iaload, 1)) (ho : SHl[o]? = some (.inl (0, n))) (hi : vp_in x n) (k : AW l G d h (pc + 1) L (.inl (s o x.toNatClampNeg) :: st) s post) : AW l G d h pc L (.inl x :: .inr o :: st) s post := by
  intro p e S m args below meth c H locs ls X K P I Z N
  exact va_iald X.1 X.2.1 K P o 0 (wd_get ho) rfl hi hd (k p e S m args below meth c H locs ls X K P I Z N)
theorem as_baload {o n : Nat} (hd : decode h.2.1 pc = .ok (.baload, 1)) (ho : SHl[o]? = some (.inl (1, n))) (hi : vp_in x n) (k : AW l G d h (pc + 1) L (.inl (s o x.toNatClampNeg) :: st) s post) : AW l G d h pc L (.inl x :: .inr o :: st) s post := by
  intro p e S m args below meth c H locs ls X K P I Z N
  exact va_zald X.1 X.2.1 K P o 1 (wd_get ho) rfl hi hd (k p e S m args below meth c H locs ls X K P I Z N)
theorem as_iastore {o n : Nat} (hd : decode h.2.1 pc = .ok (.iastore, 1)) (ho : SHl[o]? = some (.inl (0, n))) (hi : vp_in y n) (k : AW l G d h (pc + 1) L st (wrM s o y.toNatClampNeg x) post) : AW l G d h pc L (.inl x :: .inl y :: .inr o :: st) s post := by
  intro p e S m args below meth c H locs ls X K P I Z N
  refine va_iast X.1 X.2.1 K P (wd_D I s) Z o 0 (wd_get ho) rfl hi hd (fun H1 locs1 P1 _ Z1 => ?_)
  refine k p e S m args below meth c H1 locs1 ls X K ?_ I Z1 N
  rw [← wd_set ho, ent_arr]
  exact P1
theorem as_bastore {o n : Nat} (hd : decode h.2.1 pc = .ok (.bastore, 1)) (ho : SHl[o]? = some (.inl (1, n))) (hi : vp_in y n) (k : AW l G d h (pc + 1) L st (wrM s o y.toNatClampNeg (vp_nar .boolean x)) post) : AW l G d h pc L (.inl x :: .inl y :: .inr o :: st) s post := by
  intro p e S m args below meth c H locs ls X K P I Z N
  refine va_zast X.1 X.2.1 K P (wd_D I s) Z o 1 (wd_get ho) rfl hi hd (fun H1 locs1 P1 _ Z1 => ?_)
  refine k p e S m args below meth c H1 locs1 ls X K ?_ I Z1 N
  rw [← wd_set ho, ent_arr]
  exact P1
/-- the words of a class that the worlds hold stand among the tables' words -/
theorem lay_in {ci N : Nat} {C : String} {T : u_T} (hc : vwCl[ci]? = some (C, T, N)) : ∀ w ∈ u_ws C T N, w ∈ WSg := by
  have key : ∀ q ∈ vwCl, ∀ w ∈ u_ws q.1 q.2.1 q.2.2, w ∈ lw_tbl := lay_all
  intro w hw
  refine List.mem_filter.mpr ⟨key (C, T, N) (List.mem_of_getElem? hc) w hw, ?_⟩
  obtain ⟨j, -, rfl⟩ := List.mem_map.mp hw
  unfold u_lay
  split <;> rfl
theorem cx_ws {p : Program} {S : State} {m : MethodId} {args : Array Value} {meth : Method} {c : Code} (X : CX p S m args meth c h) : ∀ w ∈ WSg, w.before args S = true := fun w hw => X.2.2.2.2.2.1 w (List.mem_filter.mp hw).1 (List.mem_filter.mp hw).2
def lnkF (h : HD) (i : Nat) (C : String) (nm ds : String) : Prop := Cond.fieldLink h.1.cls i C nm ds ∈ lw_tbl ∨ Cond.fieldLinkNest h.1.cls i C nm ds "CircusRoad" ∈ lw_tbl
theorem as_get {i o ci j N : Nat} {C : String} {T : u_T} {fs : List (Option Nat)} {f : Option Nat} (hd : decode h.2.1 pc = .ok (.getfield i, 3)) (ho : SHl[o]? = some (.inr (ci, fs))) (hc : vwCl[ci]? = some (C, T, N)) (hj : j < N) (hl : lnkF h i (T j).1 (T j).2.1 (T j).2.2.1) (hf : fs[j]? = some f) (w : Vl) (hw : fld G (s o) j f = vv G w)
    (k : AW l G d h (pc + 3) L (w :: st) s post) : AW l G d h pc L (.inr o :: st) s post := by
  intro p e S m args below meth c H locs ls X K P I Z N
  have hv : (fs.mapIdx (fld G (s o)))[j]? = some (vv G w) := by rw [List.getElem?_mapIdx, hf, ← hw]; rfl
  rcases hl with hl | hl
  · exact va_get X.1 X.2.1 (cx_ws X) (lay_in hc) X.2.2.2.2.1 K P o (wd_get ho) hc j hj (X.2.2.2.2.2.1 _ hl rfl) (fun _ q => q) hv hd (k p e S m args below meth c H locs ls X K P I Z N)
  · exact va_getN X.1 X.2.1 (cx_ws X) (lay_in hc) X.2.2.2.2.1 K P o (wd_get ho) hc j hj (va_Nw.use rfl (X.2.2.2.2.2.2.1 _ hl rfl)) (fun _ q => q) hv hd (k p e S m args below meth c H locs ls X K P I Z N)
theorem as_put {i o ci j N : Nat} {C : String} {T : u_T} {fs : List (Option Nat)} {ty : FieldType} (hd : decode h.2.1 pc = .ok (.putfield i, 3)) (ho : SHl[o]? = some (.inr (ci, fs))) (hc : vwCl[ci]? = some (C, T, N)) (hj : j < N) (hl : lnkF h i (T j).1 (T j).2.1 (T j).2.2.1) (hf : fs[j]? = some none) (hfin : (T j).2.2.2 = false) (hty : parseFieldDescriptor (T j).2.2.1 = some ty) (hn : narrow ty (.int x) = .int x) (hfit : fits ty (.int x) = true)
    (k : AW l G d h (pc + 3) L st (wrM s o j x) post) : AW l G d h pc L (.inl x :: .inr o :: st) s post := by
  intro p e S m args below meth c H locs ls X K P I Z N
  obtain ⟨ty0, ht0, hnm0⟩ := cls_ok hc
  have hjl : j < (fs.mapIdx (fld G (s o))).length := by
    have := (List.getElem?_eq_some_iff.mp hf).1
    simpa using this
  have fin : ∀ (H1 : Heap) (locs1 : List Loc), va_P G.1 vwCl ((wd G s).set o (G.2.2.2 o, .inr (ci, (fs.mapIdx (fld G (s o))).set j (.int x)))) H1 → va_D (AA G) ((wd G s).set o (G.2.2.2 o, .inr (ci, (fs.mapIdx (fld G (s o))).set j (.int x)))) → va_S (AA G) S.heap H1 locs1 → W p l e (rm d) S m args below meth c H1 locs1 0 0 (MQ below (QQ G h post) args S 0 0 (AA G)) (F0 m (pc + 3) ls (st.map (vv G))) := by
    intro H1 locs1 P1 _ Z1
    refine k p e S m args below meth c H1 locs1 ls X K ?_ I Z1 N
    rw [← wd_set ho, ent_obj hf]
    exact P1
  rcases hl with hl | hl
  · exact va_put X.1 X.2.1 (cx_ws X) (lay_in hc) ty0 ht0 hnm0 X.2.2.2.2.1 K P (wd_D I s) Z o (wd_get ho) hc j hj (X.2.2.2.2.2.1 _ hl rfl) (fun _ q => q) hfin hty hn hfit hjl hd fin
  · exact va_putN X.1 X.2.1 (cx_ws X) (lay_in hc) ty0 ht0 hnm0 X.2.2.2.2.1 K P (wd_D I s) Z o (wd_get ho) hc j hj (va_Nw.use rfl (X.2.2.2.2.2.2.1 _ hl rfl)) (fun _ q => q) hfin hty hn hfit hjl hd fin
theorem as_iret {ty : FieldType} (hd : decode h.2.1 pc = .ok (.ireturn, 1)) (hr : h.2.2.2 = some ty) (hn : narrow ty (.int x) = .int x) (hp : post x s) : AW l G d h pc L [.inl x] s post := by
  intro p e S m args below meth c H locs ls X K P I Z N
  refine W.zret X.1 X.2.1 (X.2.2.1.trans hr) hn (fun t ht hW => ⟨⟨x, s, ?_, hp, by rw [ht]; exact P⟩, Z.F ht⟩) Z.2.2 hd X.2.2.2.2.2.2.2
  simp [rv, hr]
theorem as_vret (hd : decode h.2.1 pc = .ok (.return_, 1)) (hr : h.2.2.2 = none) (hp : post 0 s) : AW l G d h pc L [] s post := by
  intro p e S m args below meth c H locs ls X K P I Z N
  refine W.vret X.1 X.2.1 (X.2.2.1.trans hr) (fun t ht hW => ⟨⟨0, s, ?_, hp, by rw [ht]; exact P⟩, Z.F ht⟩) Z.2.2 hd X.2.2.2.2.2.2.2
  simp [rv, hr]
theorem st_cat : ∀ st : List Vl, ((st.map (vv G)).map fun v => v.category).sum = st.length
  | [] => rfl
  | a :: r => by simp only [List.map_cons, List.sum_cons, vv_cat, st_cat r, List.length_cons]; omega
theorem pic_blind {As : List Vl} : FrameBlind (va_Pc (As.map (vv G)) (PIC G s)) := by
  rintro a U g mk ⟨q0, qP, qK, qI, qN⟩
  exact ⟨q0, qP, va_K.moved (u := U) (U := U.calling g mk a) (Vm.Alike.refl U.vm) qK, qI, NWS.same (s := U) (U := U.calling g mk a) rfl qN⟩
theorem pic_at {S U : State} {H : Heap} (hU : U.heap = H) (hW : S.WarmedH U.vm) (K : PK G S) (P : va_P G.1 vwCl (wd G s) H) (I : adI G) (N : NWS S) : PIC G s U := ⟨by rw [hU]; exact P, va_K.moved hW.alike K, I, NWS.warm hW N⟩
theorem ws_good {hc h : HD} (hin : Cond.code hc.1 hc.2.1 hc.2.2.1 hc.2.2.2 ∈ lw_tbl) : GoodIn WSg (Cond.code hc.1 hc.2.1 hc.2.2.1 hc.2.2.2 :: WSg) := by
  intro w hw
  rcases List.mem_cons.mp hw with rfl | hw
  · exact ⟨List.mem_filter.mpr ⟨hin, rfl⟩, Or.inl rfl⟩
  · exact ⟨hw, good_of_word (List.mem_filter.mp hw).2⟩
theorem as_back {hc : HD} {Q : Int32 → Mem → Prop} {p : Program} {e : Env} {S : State} {m : MethodId} {args : Array Value} {below : List Frame} {meth : Method} {c : Code} {H : Heap} {locs : List Loc} {ls : Array Slot} {st0 : List Value} {ar : Array Value}
    (X : CX p S m args meth c h) (K : PK G S) (I : adI G) (Z : va_S (AA G) S.heap H locs) (N : lvh G ls h.2.2.1 L)
    (hr : va_Run p l e (rm d) S m args below meth c H locs 0 0 0 0 (F0 m pc ls st0) (st.map (vv G)) (QQ G hc Q ar) (AA G))
    (k : ∀ (r : Int32) (τ : Mem), Q r τ → AW l G d h (pc + 3) L (pv hc r st) τ post) : W p l e (rm d) S m args below meth c H locs 0 0 (MQ below (QQ G h post) args S 0 0 (AA G)) (F0 m pc ls st0) := by
  intro T hT XS
  obtain ⟨v, st₀, t, T', L', h0, X', hL, e1, e2, ⟨⟨r, τ, hv, hp, hb⟩, hz, hk⟩, stp⟩ := hr T hT XS
  rw [h0] at hz hk
  have Z1 : va_S (AA G) S.heap T'.heap (locs ++ L') := ⟨Nat.le_trans Z.1 (by rw [e1]; exact hz), fun q h1 h2 => by rw [e1, hk q (Nat.lt_of_lt_of_le h1 Z.1) h2]; exact Z.2.1 q h1 h2, fun q hq => by
    rcases List.mem_append.mp hq with h | h
    · exact Z.2.2 q h
    · exact hL q h⟩
  obtain ⟨t2, a1, b1⟩ := k r τ hp p e S m args below meth c T'.heap (locs ++ L') ls X K (by rw [e1]; exact hb) I Z1 N T' rfl X'
  refine ⟨t2, stp t2 ?_, b1⟩
  have hv' : v = rv hc r := Outcome.returned.inj hv
  have e3 : v.toList ++ st.map (vv G) = (pv hc r st).map (vv G) := by
    rw [hv']
    unfold rv pv
    cases hc.2.2.2 <;> rfl
  show Steps p.tables e below (T'.setTop (F0 m (pc + 3) ls (v.toList ++ st.map (vv G)))) t2
  rw [e3]
  exact a1
def lnkM (h : HD) (i : Nat) (y : MethodName) : Prop := Cond.methodLink h.1.cls i y ∈ lw_tbl ∨ Cond.methodLinkNest h.1.cls i y "CircusRoad" ∈ lw_tbl
def nameOk (hc : HD) (n : Nat) : Prop := hc.1.cls ≠ "java/lang/invoke/MethodHandle" ∧ hc.1.cls ≠ "java/lang/invoke/VarHandle" ∧ (parseMethodDescriptor hc.1.desc).map (fun d => d.parameters.length) = some n
theorem as_callS {hc : HD} {As : List Vl} {Q : Int32 → Mem → Prop} {i d' : Nat} (hd : decode h.2.1 pc = .ok (.invokestatic i, 3)) (hlt : d' < d) (hl : lnkM h i hc.1) (hs : Cond.static hc.1 ∈ lw_tbl) (hini : Cond.initialized hc.1.cls ∈ lw_tbl) (hno : nameOk hc As.length) (hmx : hc.2.2.1 ≤ 41) (hst : st.length ≤ 8)
    (M : Spec l G d' hc As s Q) (k : ∀ (r : Int32) (τ : Mem), Q r τ → AW l G d h (pc + 3) L (pv hc r st) τ post) : AW l G d h pc L (As.reverse ++ st) s post := by
  intro p e S m args below meth c H locs ls X K P I Z N
  have hroom : (rm d').frames + 1 ≤ (rm d).frames ∧ 8 + (hc.2.2.1 + 11) + (rm d').locals ≤ (rm d).locals := ⟨hlt, by show 8 + (hc.2.2.1 + 11) + 60 * d' ≤ 60 * d; omega⟩
  have hpre : PreS S H (va_Pc (As.map (vv G)) (PIC G s)) (As.map (vv G)) := ⟨pic_blind, fun U hU hW => ⟨rfl, pic_at hU hW K P I X.2.2.2.2.2.2.1⟩⟩
  have hfix : CallFix p m c h.2.1 h.2.2.1 S args WSg h.1.cls := ⟨X.1, X.2.1, X.2.2.2.1, X.2.2.2.2.1, cx_ws X⟩
  have hstk : (F0 m pc ls ((As.reverse ++ st).map (vv G))).stack = (As.map (vv G)).reverse ++ st.map (vv G) := by simp
  have hwd : 2 * (F0 m pc ls ((As.reverse ++ st).map (vv G))).monitorRoom + ((st.map (vv G)).map fun v => v.category).sum ≤ 8 := lv_room (by rw [st_cat]; exact hst)
  refine as_back (ar := (As.map (vv G)).toArray) X K I Z N ?_ k
  rcases hl with hl | hl
  · exact va_runS hfix M.2 ⟨callB_of As.length (cx_ws X) (ws_good (h := h) M.1) rfl rfl rfl (X.2.2.2.2.2.1 _ hini rfl) (X.2.2.2.2.2.1 _ hl rfl) hno hroom, X.2.2.2.2.2.1 _ hs rfl⟩ hpre rfl (by simp) N.1 hstk hwd hd ⟨Nat.le_refl _, Nat.le_refl _⟩
  · exact va_runSN hfix M.2 ⟨va_cnB As.length (cx_ws X) (ws_good (h := h) M.1) rfl rfl rfl (X.2.2.2.2.2.2.1 _ hl rfl) (X.2.2.2.2.2.1 _ hini rfl) hno hroom, X.2.2.2.2.2.1 _ hs rfl, trivial⟩ hpre rfl (by simp) N.1 hstk hwd hd ⟨Nat.le_refl _, Nat.le_refl _⟩
theorem as_callV {hc : HD} {As : List Vl} {Q : Int32 → Mem → Prop} {i d' o ci : Nat} {T : u_T} {nF : Nat} {fs : List (Option Nat)} (hd : decode h.2.1 pc = .ok (.invokevirtual i, 3)) (hlt : d' < d) (ho : SHl[o]? = some (.inr (ci, fs))) (hcl : vwCl[ci]? = some (hc.1.cls, T, nF)) (hl : lnkM h i hc.1) (hs : Cond.instanceMethod hc.1 ∈ lw_tbl) (hse : Cond.selects hc.1.cls hc.1 hc.1 ∈ lw_tbl) (hini : Cond.initialized hc.1.cls ∈ lw_tbl) (hno : nameOk hc As.length) (hmx : hc.2.2.1 ≤ 41) (hst : st.length ≤ 8)
    (M : Spec l G d' hc (.inr o :: As) s Q) (k : ∀ (r : Int32) (τ : Mem), Q r τ → AW l G d h (pc + 3) L (pv hc r st) τ post) : AW l G d h pc L (As.reverse ++ .inr o :: st) s post := by
  intro p e S m args below meth c H locs ls X K P I Z N
  have hroom : (rm d').frames + 1 ≤ (rm d).frames ∧ 8 + (hc.2.2.1 + 11) + (rm d').locals ≤ (rm d).locals := ⟨hlt, by show 8 + (hc.2.2.1 + 11) + 60 * d' ≤ 60 * d; omega⟩
  have hpre : PreV S H hc.1.cls (G.2.2.2 o) (va_Pc ((.inr o :: As : List Vl).map (vv G)) (PIC G s)) (As.map (vv G)) := ⟨pic_blind, va_recv K P hcl (wd_get ho), fun U hU hW => ⟨rfl, pic_at hU hW K P I X.2.2.2.2.2.2.1⟩⟩
  have hfix : CallFix p m c h.2.1 h.2.2.1 S args WSg h.1.cls := ⟨X.1, X.2.1, X.2.2.2.1, X.2.2.2.2.1, cx_ws X⟩
  have hstk : (F0 m pc ls ((As.reverse ++ .inr o :: st).map (vv G))).stack = (As.map (vv G)).reverse ++ .ref (G.2.2.2 o) :: st.map (vv G) := by simp [vv]
  have hwd : 2 * (F0 m pc ls ((As.reverse ++ .inr o :: st).map (vv G))).monitorRoom + ((st.map (vv G)).map fun v => v.category).sum ≤ 8 := lv_room (by rw [st_cat]; exact hst)
  refine as_back (ar := (Value.ref (G.2.2.2 o) :: As.map (vv G)).toArray) X K I Z N ?_ k
  rcases hl with hl | hl
  · exact va_runV hfix M.2 ⟨callB_of As.length (cx_ws X) (ws_good (h := h) M.1) rfl rfl rfl (X.2.2.2.2.2.1 _ hini rfl) (X.2.2.2.2.2.1 _ hl rfl) hno hroom, X.2.2.2.2.2.1 _ hs rfl, X.2.2.2.2.2.1 _ hse rfl⟩ hpre rfl (by simp) N.1 hstk hwd hd ⟨Nat.le_refl _, Nat.le_refl _⟩
  · exact va_runVN hfix M.2 ⟨va_cnB As.length (cx_ws X) (ws_good (h := h) M.1) rfl rfl rfl (X.2.2.2.2.2.2.1 _ hl rfl) (X.2.2.2.2.2.1 _ hini rfl) hno hroom, X.2.2.2.2.2.1 _ hs rfl, X.2.2.2.2.2.1 _ hse rfl⟩ hpre rfl (by simp) N.1 hstk hwd hd ⟨Nat.le_refl _, Nat.le_refl _⟩
theorem as_copy {i a0 a n0 n1 : Nat} {sp dp n : Int32} (hd : decode h.2.1 pc = .ok (.invokestatic i, 3)) (hl : Cond.methodLink h.1.cls i arraycopyName ∈ lw_tbl) (hnat : Cond.native arraycopyName ∈ lw_tbl) (hsta : Cond.static arraycopyName ∈ lw_tbl) (hini : Cond.initialized "java/lang/System" ∈ lw_tbl)
    (h0 : SHl[a0]? = some (.inl (0, n0))) (h1 : SHl[a]? = some (.inl (0, n1))) (p1 : ¬ sp < 0) (p2 : ¬ dp < 0) (p3 : ¬ n < 0) (p4 : sp.toNatClampNeg + n.toNatClampNeg ≤ n0) (p5 : dp.toNatClampNeg + n.toNatClampNeg ≤ n1) (hst : st.length ≤ 8) (hd1 : 1 ≤ d)
    (k : AW l G d h (pc + 3) L st (stM s a (va_cpy (s a0) (s a) sp.toNatClampNeg dp.toNatClampNeg n.toNatClampNeg)) post) : AW l G d h pc L (.inl n :: .inl dp :: .inr a :: .inl sp :: .inr a0 :: st) s post := by
  intro p e S m args below meth c H locs ls X K P I Z N
  refine va_copyi X.1 X.2.1 (X.2.2.2.1.trans N.1.symm) X.2.2.2.2.1 (X.2.2.2.2.2.1 _ hl rfl) (X.2.2.2.2.2.1 _ hnat rfl) (X.2.2.2.2.2.1 _ hsta rfl) (X.2.2.2.2.2.1 _ hini rfl) K P (wd_D I s) Z a0 a 0 0 (wd_get h0) (wd_get h1) rfl rfl rfl p1 p2 p3 p4 p5 (fun _ _ => rfl) hd1 ?_ hd (fun H1 locs1 P1 _ Z1 => ?_)
  · rw [st_cat]
    have e1 : nativeFrameWords "java/lang/System" "arraycopy" 5 ≤ 40 := by decide +kernel
    show st.length + (nativeFrameWords "java/lang/System" "arraycopy" 5 + 11) ≤ 60 * d
    omega
  · refine k p e S m args below meth c H1 locs1 ls X K ?_ I Z1 N
    rw [← wd_set h1, ent_arr]
    exact P1
theorem as_max {i : Nat} (hd : decode h.2.1 pc = .ok (.invokestatic i, 3)) (hl : Cond.methodLink h.1.cls i Lib.Math.max.name ∈ lw_tbl) (hsta : Cond.static Lib.Math.max.name ∈ lw_tbl) (hini : Cond.initialized "java/lang/Math" ∈ lw_tbl) (hco : Cond.code Lib.Math.max.name Lib.Math.max.code 2 (some .int) ∈ lw_tbl) (hst : st.length ≤ 8) (hd1 : 1 ≤ d)
    (k : AW l G d h (pc + 3) L (.inl (if x < y then y else x) :: st) s post) : AW l G d h pc L (.inl y :: .inl x :: st) s post := by
  intro p e S m args below meth c H locs ls X K P I Z N
  refine va_mmax X.1 X.2.1 (X.2.2.2.1.trans N.1.symm) X.2.2.2.2.1 (X.2.2.2.2.2.1 _ hl rfl) (X.2.2.2.2.2.1 _ hsta rfl) (X.2.2.2.2.2.1 _ hini rfl) (X.2.2.2.2.2.1 _ hco rfl) hd1 ?_ (Nat.le_refl _) (Nat.le_refl _) hd (k p e S m args below meth c H locs ls X K P I Z N)
  rw [st_cat]
  show st.length + 13 ≤ 60 * d
  omega
theorem as_min {i : Nat} (hd : decode h.2.1 pc = .ok (.invokestatic i, 3)) (hl : Cond.methodLink h.1.cls i Lib.Math.min.name ∈ lw_tbl) (hsta : Cond.static Lib.Math.min.name ∈ lw_tbl) (hini : Cond.initialized "java/lang/Math" ∈ lw_tbl) (hco : Cond.code Lib.Math.min.name Lib.Math.min.code 2 (some .int) ∈ lw_tbl) (hst : st.length ≤ 8) (hd1 : 1 ≤ d)
    (k : AW l G d h (pc + 3) L (.inl (if y < x then y else x) :: st) s post) : AW l G d h pc L (.inl y :: .inl x :: st) s post := by
  intro p e S m args below meth c H locs ls X K P I Z N
  refine va_mmin X.1 X.2.1 (X.2.2.2.1.trans N.1.symm) X.2.2.2.2.1 (X.2.2.2.2.2.1 _ hl rfl) (X.2.2.2.2.2.1 _ hsta rfl) (X.2.2.2.2.2.1 _ hini rfl) (X.2.2.2.2.2.1 _ hco rfl) hd1 ?_ (Nat.le_refl _) (Nat.le_refl _) hd (k p e S m args below meth c H locs ls X K P I Z N)
  rw [st_cat]
  show st.length + 13 ≤ 60 * d
  omega
def swt (x : Int32) (K : Nat → Prop) (pc : Nat) : Int → List Int → Prop
  | _, [] => True
  | lo, o :: r => (x.toInt = lo → K ((pc : Int) + o).toNat) ∧ swt x K pc (lo + 1) r
theorem swt_at {x : Int32} {K : Nat → Prop} {pc : Nat} : ∀ {lo : Int} {os : List Int} {j : Nat} {o : Int}, swt x K pc lo os → os[j]? = some o → x.toInt = lo + j → K ((pc : Int) + o).toNat
  | lo, [], j, o, _, h1, _ => by simp at h1
  | lo, a :: r, 0, o, h, h1, h2 => by
    simp at h1
    subst h1
    exact h.1 (by simpa using h2)
  | lo, a :: r, j + 1, o, h, h1, h2 => swt_at (lo := lo + 1) (os := r) (j := j) h.2 (by simpa using h1) (by rw [h2]; push_cast; omega)
theorem as_tsw {dflt lo hi : Int} {offs : Array Int} {len tgt : Nat} (hd : decode h.2.1 pc = .ok (.tableswitch dflt lo hi offs, len)) (ht : (pc : Int) + dflt = (tgt : Int)) (hlen : hi + 1 = lo + offs.size) (hpos : ∀ o ∈ offs.toList, 0 ≤ (pc : Int) + o)
    (k1 : (x.toInt < lo ∨ hi < x.toInt) → AW l G d h tgt L st s post) (k2 : swt x (fun t => AW l G d h t L st s post) pc lo offs.toList) : AW l G d h pc L (.inl x :: st) s post := by
  intro p e S m args below meth c H locs ls X K P I Z N
  by_cases hx : x.toInt < lo ∨ hi < x.toInt
  · exact lv_tableOut X.1 X.2.1 hd hx ht (k1 hx p e S m args below meth c H locs ls X K P I Z N)
  · have hj : (x.toInt - lo).toNat < offs.size := by omega
    have ho : offs[(x.toInt - lo).toNat]? = some offs[(x.toInt - lo).toNat] := Array.getElem?_eq_getElem hj
    have h2 := hpos _ (Array.getElem_mem_toList hj)
    refine lv_tableIn X.1 X.2.1 hd (fun q => hx (Or.inl q)) (fun q => hx (Or.inr q)) ho (tgt := ((pc : Int) + offs[(x.toInt - lo).toNat]).toNat) (by omega) ?_
    exact swt_at k2 (by rw [Array.getElem?_toList]; exact ho) (by omega) p e S m args below meth c H locs ls X K P I Z N
end MA
theorem spec_of {l : Launch} {G : GG} {d : Nat} {h : HD} {As : List Vl} {s : Mem} {post : Int32 → Mem → Prop} (hin : Cond.code h.1 h.2.1 h.2.2.1 h.2.2.2 ∈ lw_tbl) (hp : plainName h.1.cls = true) (hl : As.length ≤ h.2.2.1) (k : AW l G d h 0 (As.map some ++ List.replicate (h.2.2.1 - As.length) none) [] s post) : Spec l G d h As s post := by
  refine ⟨hin, Met.ofW (cc := h.2.1) (maxL := h.2.2.1) (ret := h.2.2.2) hp rfl ?_⟩
  intro p e S m args below meth c s₁ B hml hv
  obtain ⟨rfl, hP, hK, hI, hN⟩ := hv
  have hts := atoms_spec (ws := Cond.code h.1 h.2.1 h.2.2.1 h.2.2.2 :: WSg) B.pre
  have X : CX p S m (As.map (vv G)).toArray meth c h := ⟨B.exec, B.bytes, B.returns, hml, findClass_of_methodNamed B.named, fun w hw hg => hts w (List.mem_cons_of_mem _ (List.mem_filter.mpr ⟨hw, hg⟩)), hN, B.notSynchronized⟩
  have lsl : ∀ A : List Vl, (lg_sl (A.map (vv G))).length = A.length := by
    intro A
    induction A with
    | nil => rfl
    | cons a r ih =>
      simp only [lg_sl, List.map_cons, List.flatMap_cons, vv_cat, List.length_append, List.length_cons] at ih ⊢
      simp [ih]
      omega
  have hle := lv_entry (As.map (vv G)) (n := h.2.2.1) (by rw [lsl]; exact hl)
  rw [lg_entry_eq]
  have arg : ∀ (A : List Vl) (n i : Nat) (v : Vl), A[i]? = some v → (n + i, vv G v) ∈ lv_args n (A.map (vv G)) := by
    intro A
    induction A with
    | nil => intro n i v hi; simp at hi
    | cons a r ih =>
      intro n i v hi
      cases i with
      | zero => simp at hi; subst hi; simp [lv_args]
      | succ i =>
        simp at hi
        have := ih (n + 1) i v hi
        simp only [List.map_cons, lv_args, vv_cat]
        refine List.mem_cons_of_mem _ ?_
        rw [show n + (i + 1) = n + 1 + i by omega]
        exact this
  refine k p e S m _ below meth c S.heap [] _ X hK hP hI va_S.rf ⟨hle.1, hle.2.1, fun i v hi => ?_⟩
  by_cases hil : i < (As.map some).length
  · rw [List.getElem?_append_left hil, List.getElem?_map] at hi
    cases ha : As[i]? with
    | none => rw [ha] at hi; cases hi
    | some w =>
      rw [ha] at hi
      cases hi
      have := hle.2.2 (0 + i, vv G v) (arg As 0 i v ha)
      simpa using this
  · rw [List.getElem?_append_right (by omega), List.getElem?_replicate] at hi
    split at hi <;> cases hi
