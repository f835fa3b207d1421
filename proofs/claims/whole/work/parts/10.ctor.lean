/-! ===== constructors: a world that grows ===== -/
abbrev CO : Type := (Nat × Nat) ⊕ (Nat × List (Option (Option Nat)))
def gA (D : va_G) (cI cZ : ClassId) (as : List Nat) : GG := (D, cI, cZ, fun k => as.getD k 0)
def fldC (as : List Nat) (f : Nat → Int32) (j : Nat) : Option (Option Nat) → Value
  | none => .int (f j)
  | some none => .null
  | some (some q) => .ref (as.getD q 0)
def entC (cI cZ : ClassId) (as : List Nat) (s : Mem) (k : Nat) : CO → va_E
  | .inl (t, n) => .inl (if t = 0 then cI else cZ, n, .inl (s k))
  | .inr (ci, fs) => .inr (ci, fs.mapIdx (fldC as (s k)))
def wdC (cI cZ : ClassId) (as : List Nat) (sh : List CO) (s : Mem) : va_W := sh.mapIdx (fun k c => (as.getD k 0, entC cI cZ as s k c))
def fok (n : Nat) : Option (Option Nat) → Bool
  | some (some k) => Nat.blt k n
  | _ => true
def cok (n : Nat) : CO → Bool
  | .inr (_, fs) => fs.all (fok n)
  | _ => true
def clo (n : Nat) (sh : List CO) : Bool := sh.all (cok n)
def vok (n : Nat) : Vl → Bool
  | .inr k => Nat.blt k n
  | _ => true
def lok (n : Nat) : Option Vl → Bool
  | some v => vok n v
  | none => true
theorem blt_lt {a b : Nat} (h : Nat.blt a b = true) : a < b := Nat.le_of_ble_eq_true h
theorem getD_ext {as : List Nat} {q k : Nat} (h : k < as.length) : (as ++ [q]).getD k 0 = as.getD k 0 := by
  simp only [List.getD_eq_getElem?_getD, List.getElem?_append_left h]
theorem getD_new {as : List Nat} {q : Nat} : (as ++ [q]).getD as.length 0 = q := by
  simp [List.getD_eq_getElem?_getD]
theorem fldC_ext {as : List Nat} {q j : Nat} {f : Nat → Int32} {o : Option (Option Nat)} (h : fok as.length o = true) : fldC (as ++ [q]) f j o = fldC as f j o := by
  match o, h with
  | none, _ => rfl
  | some none, _ => rfl
  | some (some k), h => simp only [fldC]; rw [getD_ext (blt_lt h)]
theorem wdC_get {cI cZ : ClassId} {as : List Nat} {sh : List CO} {s : Mem} {k : Nat} {c : CO} (h : sh[k]? = some c) : (wdC cI cZ as sh s)[k]? = some (as.getD k 0, entC cI cZ as s k c) := by
  simp only [wdC, List.getElem?_mapIdx, h, Option.map_some]
theorem entC_ne {cI cZ : ClassId} {as : List Nat} {s : Mem} {k q : Nat} {f : Nat → Int32} (h : q ≠ k) (c : CO) : entC cI cZ as (stM s k f) q c = entC cI cZ as s q c := by
  rcases c with ⟨t, n⟩ | ⟨ci, fs⟩ <;> simp [entC, stM_ne h]
theorem entC_ext {cI cZ : ClassId} {as : List Nat} {s : Mem} {k q : Nat} {c : CO} (h : cok as.length c = true) : entC cI cZ (as ++ [q]) s k c = entC cI cZ as s k c := by
  match c, h with
  | .inl (t, n), _ => rfl
  | .inr (ci, fs), h =>
    have e : fs.mapIdx (fldC (as ++ [q]) (s k)) = fs.mapIdx (fldC as (s k)) := by
      apply List.ext_getElem?
      intro i
      rw [List.getElem?_mapIdx, List.getElem?_mapIdx]
      cases hf : fs[i]? with
      | none => rfl
      | some o =>
        have h1 := List.all_eq_true.mp h o (List.mem_of_getElem? hf)
        simp only [Option.map_some, fldC_ext h1]
    simp only [entC, e]
theorem wdC_ext {cI cZ : ClassId} {as : List Nat} {sh : List CO} {s : Mem} {q : Nat} {c : CO} {f : Nat → Int32} (hl : as.length = sh.length) (hc : clo sh.length sh = true) : wdC cI cZ (as ++ [q]) (sh ++ [c]) (stM s sh.length f) = wdC cI cZ as sh s ++ [(q, entC cI cZ (as ++ [q]) (stM s sh.length f) sh.length c)] := by
  apply List.ext_getElem?
  intro i
  have hlen : (wdC cI cZ as sh s).length = sh.length := by simp [wdC]
  by_cases hi : i < sh.length
  · rw [List.getElem?_append_left (by rw [hlen]; exact hi)]
    simp only [wdC, List.getElem?_mapIdx, List.getElem?_append_left hi]
    cases hs : sh[i]? with
    | none => rfl
    | some c' =>
      have h1 : cok as.length c' = true := by rw [hl]; exact List.all_eq_true.mp hc c' (List.mem_of_getElem? hs)
      simp only [Option.map_some, getD_ext (show i < as.length by omega), entC_ne (show i ≠ sh.length by omega), entC_ext h1]
  · rw [List.getElem?_append_right (by omega), hlen]
    simp only [wdC, List.getElem?_mapIdx]
    by_cases hj : i = sh.length
    · subst hj
      have hg : (as ++ [q]).getD sh.length 0 = q := by rw [← hl]; exact getD_new
      rw [List.getElem?_append_right (Nat.le_refl _)]
      simp only [Nat.sub_self, List.getElem?_cons_zero, Option.map_some, hg]
    · rw [List.getElem?_append_right (by omega)]
      rw [List.getElem?_eq_none (by simp; omega), List.getElem?_eq_none (by simp; omega)]
      rfl
theorem wdC_set {cI cZ : ClassId} {as : List Nat} {sh : List CO} {s : Mem} {k : Nat} {f : Nat → Int32} {c : CO} (h : sh[k]? = some c) : (wdC cI cZ as sh s).set k (as.getD k 0, entC cI cZ as (stM s k f) k c) = wdC cI cZ as sh (stM s k f) := by
  apply List.ext_getElem?
  intro i
  by_cases hi : i = k
  · subst hi
    have hl : i < (wdC cI cZ as sh s).length := by
      have := (List.getElem?_eq_some_iff.mp h).1
      simpa [wdC] using this
    rw [List.getElem?_set_self hl, wdC_get h]
  · rw [List.getElem?_set_ne (Ne.symm hi)]
    simp only [wdC, List.getElem?_mapIdx]
    cases sh[i]? with
    | none => rfl
    | some c' => simp only [Option.map_some, entC_ne hi]
theorem wdC_fld {cI cZ : ClassId} {as : List Nat} {sh : List CO} {s : Mem} {k ci j q : Nat} {fs : List (Option (Option Nat))} (h : sh[k]? = some (.inr (ci, fs))) : (wdC cI cZ as sh s).set k (as.getD k 0, .inr (ci, (fs.mapIdx (fldC as (s k))).set j (.ref (as.getD q 0)))) = wdC cI cZ as (sh.set k (.inr (ci, fs.set j (some (some q))))) s := by
  have e : (fs.mapIdx (fldC as (s k))).set j (.ref (as.getD q 0)) = (fs.set j (some (some q))).mapIdx (fldC as (s k)) := by
    apply List.ext_getElem?
    intro i
    by_cases hi : i = j
    · subst hi
      by_cases hl : i < fs.length
      · rw [List.getElem?_set_self (by simpa using hl), List.getElem?_mapIdx, List.getElem?_set_self hl]
        rfl
      · rw [List.getElem?_eq_none (by simpa using hl), List.getElem?_mapIdx, List.getElem?_eq_none (by simpa using hl)]
        rfl
    · rw [List.getElem?_set_ne (Ne.symm hi), List.getElem?_mapIdx, List.getElem?_mapIdx, List.getElem?_set_ne (Ne.symm hi)]
  apply List.ext_getElem?
  intro i
  by_cases hi : i = k
  · subst hi
    have hl := (List.getElem?_eq_some_iff.mp h).1
    rw [List.getElem?_set_self (by simpa [wdC] using hl)]
    simp only [wdC, List.getElem?_mapIdx, List.getElem?_set_self hl, Option.map_some, entC, e]
  · rw [List.getElem?_set_ne (Ne.symm hi)]
    simp only [wdC, List.getElem?_mapIdx, List.getElem?_set_ne (Ne.symm hi)]

def blkOk (ci : Nat) (fs : List (Option (Option Nat))) : Prop := ∀ (C : String) (T : u_T) (n : Nat), vwCl[ci]? = some (C, T, n) → ∃ ty0 : Nat → FieldType, (∀ k, k < n → parseFieldDescriptor (T k).2.2.1 = some (ty0 k)) ∧ (∀ j, j < n → defaultValue (ty0 j) = vp_V (fs.mapIdx (fldC [] (fun _ => 0))) j) ∧ ∀ as : List Nat, fs.mapIdx (fldC as (fun _ => 0)) = fs.mapIdx (fldC [] (fun _ => 0))

def blk (ci : Nat) : List (Option (Option Nat)) := match ci with
  | 0 => [some none, some none, none, none, none, none, some none, some none, some none]
  | 1 => [some none, none, none, none, some none, some none, some none, some none, some none, some none]
  | 2 => [some none, some none, some none, some none, some none, some none, some none, none]
  | 3 => [none, some none, some none, some none, some none, some none, none]
  | 4 => [none, some none, some none, some none, some none, some none, some none, none, none]
  | 5 => [some none, some none, some none, some none, some none, some none, none]
  | 6 => [none, some none, some none, none, none]
  | 7 => [some none, some none, some none, some none, some none, some none, some none]
  | 8 => [none, some none, some none, some none, some none, some none, some none, some none, some none, some none, some none, none, some none, some none, some none, some none, some none, none, some none, some none, some none, some none, some none, some none, some none, some none, none, some none, some none, none]
  | _ => []
theorem blk_ok (ci : Nat) : blkOk ci (blk ci) := by
  intro C T n h
  match ci, h with
  | 0, h =>
    cases h
    refine ⟨tyX0, tyX0_ok, fun j hj => ?_, fun as => rfl⟩
    match j, hj with
    | 0, _ => rfl
    | 1, _ => rfl
    | 2, _ => rfl
    | 3, _ => rfl
    | 4, _ => rfl
    | 5, _ => rfl
    | 6, _ => rfl
    | 7, _ => rfl
    | 8, _ => rfl
    | j + 9, hj => omega
  | 1, h =>
    cases h
    refine ⟨tyX1, tyX1_ok, fun j hj => ?_, fun as => rfl⟩
    match j, hj with
    | 0, _ => rfl
    | 1, _ => rfl
    | 2, _ => rfl
    | 3, _ => rfl
    | 4, _ => rfl
    | 5, _ => rfl
    | 6, _ => rfl
    | 7, _ => rfl
    | 8, _ => rfl
    | 9, _ => rfl
    | j + 10, hj => omega
  | 2, h =>
    cases h
    refine ⟨tyX2, tyX2_ok, fun j hj => ?_, fun as => rfl⟩
    match j, hj with
    | 0, _ => rfl
    | 1, _ => rfl
    | 2, _ => rfl
    | 3, _ => rfl
    | 4, _ => rfl
    | 5, _ => rfl
    | 6, _ => rfl
    | 7, _ => rfl
    | j + 8, hj => omega
  | 3, h =>
    cases h
    refine ⟨tyX3, tyX3_ok, fun j hj => ?_, fun as => rfl⟩
    match j, hj with
    | 0, _ => rfl
    | 1, _ => rfl
    | 2, _ => rfl
    | 3, _ => rfl
    | 4, _ => rfl
    | 5, _ => rfl
    | 6, _ => rfl
    | j + 7, hj => omega
  | 4, h =>
    cases h
    refine ⟨tyX4, tyX4_ok, fun j hj => ?_, fun as => rfl⟩
    match j, hj with
    | 0, _ => rfl
    | 1, _ => rfl
    | 2, _ => rfl
    | 3, _ => rfl
    | 4, _ => rfl
    | 5, _ => rfl
    | 6, _ => rfl
    | 7, _ => rfl
    | 8, _ => rfl
    | j + 9, hj => omega
  | 5, h =>
    cases h
    refine ⟨tyX5, tyX5_ok, fun j hj => ?_, fun as => rfl⟩
    match j, hj with
    | 0, _ => rfl
    | 1, _ => rfl
    | 2, _ => rfl
    | 3, _ => rfl
    | 4, _ => rfl
    | 5, _ => rfl
    | 6, _ => rfl
    | j + 7, hj => omega
  | 6, h =>
    cases h
    refine ⟨tyX6, tyX6_ok, fun j hj => ?_, fun as => rfl⟩
    match j, hj with
    | 0, _ => rfl
    | 1, _ => rfl
    | 2, _ => rfl
    | 3, _ => rfl
    | 4, _ => rfl
    | j + 5, hj => omega
  | 7, h =>
    cases h
    refine ⟨tyX7, tyX7_ok, fun j hj => ?_, fun as => rfl⟩
    match j, hj with
    | 0, _ => rfl
    | 1, _ => rfl
    | 2, _ => rfl
    | 3, _ => rfl
    | 4, _ => rfl
    | 5, _ => rfl
    | 6, _ => rfl
    | j + 7, hj => omega
  | 8, h =>
    cases h
    refine ⟨tyX8, tyX8_ok, fun j hj => ?_, fun as => rfl⟩
    match j, hj with
    | 0, _ => rfl
    | 1, _ => rfl
    | 2, _ => rfl
    | 3, _ => rfl
    | 4, _ => rfl
    | 5, _ => rfl
    | 6, _ => rfl
    | 7, _ => rfl
    | 8, _ => rfl
    | 9, _ => rfl
    | 10, _ => rfl
    | 11, _ => rfl
    | 12, _ => rfl
    | 13, _ => rfl
    | 14, _ => rfl
    | 15, _ => rfl
    | 16, _ => rfl
    | 17, _ => rfl
    | 18, _ => rfl
    | 19, _ => rfl
    | 20, _ => rfl
    | 21, _ => rfl
    | 22, _ => rfl
    | 23, _ => rfl
    | 24, _ => rfl
    | 25, _ => rfl
    | 26, _ => rfl
    | 27, _ => rfl
    | 28, _ => rfl
    | 29, _ => rfl
    | j + 30, hj => omega
  | ci + 9, h => simp [vwCl] at h
theorem objI_in : Cond.instanceMethod objectInit ∈ lw_tbl := List.mem_of_getElem? (i := 75) (by decide +kernel)
theorem objC_in : Cond.code objectInit ⟨#[0xb1]⟩ 1 none ∈ lw_tbl := List.mem_of_getElem? (i := 76) (by decide +kernel)
def rmC (d mc ms : Nat) : Room := { frames := d, cells := mc, slots := ms, locals := 60 * d }
def A0 (as0 : List Nat) (sz : Nat) : Nat → Prop := fun q => q ∈ as0 ∨ sz ≤ q
def QC (D : va_G) (cI cZ : ClassId) (as0 : List Nat) (sz : Nat) (post : List CO → Mem → Prop) : Array Value → State → Outcome → State → Prop := fun _ st oc t =>
  (∃ (as : List Nat) (sh : List CO) (s : Mem), oc = .returned none ∧ post sh s ∧ as0 <+: as ∧ as.length = sh.length ∧ va_P D vwCl (wdC cI cZ as sh s) t.heap ∧ va_D (A0 as0 sz) (wdC cI cZ as sh s)) ∧ va_F (A0 as0 sz) st t
def AC (l : Launch) (D : va_G) (cI cZ : ClassId) (d mc ms : Nat) (h : HD) (post : List CO → Mem → Prop) (pc : Nat) (L : LL) (st : List Vl) (sh : List CO) (s : Mem) (cells slots : Nat) : Prop :=
  ∀ (p : Program) (e : Env) (S : State) (m : MethodId) (args : Array Value) (below : List Frame) (meth : Method) (c : Code) (H : Heap) (locs : List Loc) (ls : Array Slot) (as0 as : List Nat) (sz : Nat),
    CX p S m args meth c h → meth.name = "<init>" → PK (gA D cI cZ as) S → S.heap.size = sz → as0 <+: as → as.length = sh.length → va_P D vwCl (wdC cI cZ as sh s) H → va_D (A0 as0 sz) (wdC cI cZ as sh s) → va_S (A0 as0 sz) S.heap H locs → lvh (gA D cI cZ as) ls h.2.2.1 L →
    W p l e (rmC d mc ms) S m args below meth c H locs cells slots (MQ below (QC D cI cZ as0 sz post) args S mc ms (A0 as0 sz)) (F0 m pc ls (st.map (vv (gA D cI cZ as))))
def CSpec (l : Launch) (D : va_G) (cI cZ : ClassId) (d mc ms : Nat) (h : HD) (As : List Vl) (sh : List CO) (s : Mem) (post : List CO → Mem → Prop) : Prop :=
  Cond.code h.1 h.2.1 h.2.2.1 h.2.2.2 ∈ lw_tbl ∧ h.2.2.2 = none ∧ ∀ (as0 : List Nat) (sz : Nat), as0.length = sh.length →
    Met l h.1 (Cond.code h.1 h.2.1 h.2.2.1 h.2.2.2 :: WSg) (rmC d mc ms) (va_Pc (As.map (vv (gA D cI cZ as0))) (fun U => U.heap.size = sz ∧ va_P D vwCl (wdC cI cZ as0 sh s) U.heap ∧ PK (gA D cI cZ as0) U ∧ va_D (fun _ => True) (wdC cI cZ as0 sh s) ∧ NWS U)) (QC D cI cZ as0 sz post) mc ms (A0 as0 sz)
theorem vv_ext {D : va_G} {cI cZ : ClassId} {as : List Nat} {q : Nat} {v : Vl} (h : vok as.length v = true) : vv (gA D cI cZ (as ++ [q])) v = vv (gA D cI cZ as) v := by
  cases v with
  | inl x => rfl
  | inr k => simp only [vv, gA]; rw [getD_ext (blt_lt h)]
theorem st_ext {D : va_G} {cI cZ : ClassId} {as : List Nat} {q : Nat} {st : List Vl} (h : st.all (vok as.length) = true) : st.map (vv (gA D cI cZ (as ++ [q]))) = st.map (vv (gA D cI cZ as)) := List.map_congr_left (fun v hv => vv_ext (List.all_eq_true.mp h v hv))
theorem lvh_ext {D : va_G} {cI cZ : ClassId} {as : List Nat} {q n : Nat} {ls : Array Slot} {L : LL} (h : L.all (lok as.length) = true) (N : lvh (gA D cI cZ as) ls n L) : lvh (gA D cI cZ (as ++ [q])) ls n L := by
  refine ⟨N.1, N.2.1, fun i v hi => ?_⟩
  have h1 : vok as.length v = true := List.all_eq_true.mp h (some v) (List.mem_of_getElem? hi)
  rw [vv_ext h1]
  exact N.2.2 i v hi
theorem getD_pre {as bs : List Nat} {k : Nat} (h : as <+: bs) (hk : k < as.length) : bs.getD k 0 = as.getD k 0 := by
  obtain ⟨r, rfl⟩ := h
  simp only [List.getD_eq_getElem?_getD, List.getElem?_append_left hk]
theorem vv_pre {D : va_G} {cI cZ : ClassId} {as bs : List Nat} {v : Vl} (hp : as <+: bs) (h : vok as.length v = true) : vv (gA D cI cZ bs) v = vv (gA D cI cZ as) v := by
  cases v with
  | inl x => rfl
  | inr k => simp only [vv, gA]; rw [getD_pre hp (blt_lt h)]
theorem st_pre {D : va_G} {cI cZ : ClassId} {as bs : List Nat} {st : List Vl} (hp : as <+: bs) (h : st.all (vok as.length) = true) : st.map (vv (gA D cI cZ bs)) = st.map (vv (gA D cI cZ as)) := List.map_congr_left (fun v hv => vv_pre hp (List.all_eq_true.mp h v hv))
theorem lvh_pre {D : va_G} {cI cZ : ClassId} {as bs : List Nat} {n : Nat} {ls : Array Slot} {L : LL} (hp : as <+: bs) (h : L.all (lok as.length) = true) (N : lvh (gA D cI cZ as) ls n L) : lvh (gA D cI cZ bs) ls n L := by
  refine ⟨N.1, N.2.1, fun i v hi => ?_⟩
  have h1 : vok as.length v = true := List.all_eq_true.mp h (some v) (List.mem_of_getElem? hi)
  rw [vv_pre hp h1]
  exact N.2.2 i v hi
section CA
variable {l : Launch} {D : va_G} {cI cZ : ClassId} {d mc ms : Nat} {h : HD} {post : List CO → Mem → Prop} {pc : Nat} {L : LL} {st : List Vl} {sh : List CO} {s : Mem} {cells slots : Nat} {x y v : Int32}
theorem ac_iconst {n : Int} (hd : decode h.2.1 pc = .ok (.iconst n, 1)) (hv : Int32.ofInt n = v) (k : AC l D cI cZ d mc ms h post (pc + 1) L (.inl v :: st) sh s cells slots) : AC l D cI cZ d mc ms h post pc L st sh s cells slots := by
  intro p e S m args below meth c H locs ls as0 as sz X hi K hz hp hl P hD Z N
  exact lv_iconst X.1 X.2.1 hd hv (k p e S m args below meth c H locs ls as0 as sz X hi K hz hp hl P hD Z N)
theorem ac_bipush {n : Int} (hd : decode h.2.1 pc = .ok (.bipush n, 2)) (hv : (Int8.ofInt n).toInt32 = v) (k : AC l D cI cZ d mc ms h post (pc + 2) L (.inl v :: st) sh s cells slots) : AC l D cI cZ d mc ms h post pc L st sh s cells slots := by
  intro p e S m args below meth c H locs ls as0 as sz X hi K hz hp hl P hD Z N
  exact lv_bipush X.1 X.2.1 hd hv (k p e S m args below meth c H locs ls as0 as sz X hi K hz hp hl P hD Z N)
theorem ac_sipush {n : Int} (hd : decode h.2.1 pc = .ok (.sipush n, 3)) (hv : (Int16.ofInt n).toInt32 = v) (k : AC l D cI cZ d mc ms h post (pc + 3) L (.inl v :: st) sh s cells slots) : AC l D cI cZ d mc ms h post pc L st sh s cells slots := by
  intro p e S m args below meth c H locs ls as0 as sz X hi K hz hp hl P hD Z N
  exact lv_sipush X.1 X.2.1 hd hv (k p e S m args below meth c H locs ls as0 as sz X hi K hz hp hl P hD Z N)
theorem ac_iload_n {i : Fin 4} (hd : decode h.2.1 pc = .ok (.iload_n i, 1)) (hL : L[(i : Nat)]? = some (some (.inl x))) (k : AC l D cI cZ d mc ms h post (pc + 1) L (.inl x :: st) sh s cells slots) : AC l D cI cZ d mc ms h post pc L st sh s cells slots := by
  intro p e S m args below meth c H locs ls as0 as sz X hi K hz hp hl P hD Z N
  exact lv_iload_n X.1 X.2.1 hd rfl (N.2.2 i _ hL) (k p e S m args below meth c H locs ls as0 as sz X hi K hz hp hl P hD Z N)
theorem ac_aload_n {i : Fin 4} {o : Nat} (hd : decode h.2.1 pc = .ok (.aload_n i, 1)) (hL : L[(i : Nat)]? = some (some (.inr o))) (k : AC l D cI cZ d mc ms h post (pc + 1) L (.inr o :: st) sh s cells slots) : AC l D cI cZ d mc ms h post pc L st sh s cells slots := by
  intro p e S m args below meth c H locs ls as0 as sz X hi K hz hp hl P hD Z N
  exact lv_aload_n X.1 X.2.1 hd rfl (N.2.2 i _ hL) (k p e S m args below meth c H locs ls as0 as sz X hi K hz hp hl P hD Z N)
theorem ac_istore_n {i : Fin 4} (hd : decode h.2.1 pc = .ok (.istore_n i, 1)) (hn : (i : Nat) < h.2.2.1) (k : AC l D cI cZ d mc ms h post (pc + 1) (L.set i (some (.inl x))) st sh s cells slots) : AC l D cI cZ d mc ms h post pc L (.inl x :: st) sh s cells slots := by
  intro p e S m args below meth c H locs ls as0 as sz X hi K hz hp hl P hD Z N
  exact lv_istore_n X.1 X.2.1 hd rfl (lvh_has N) hn rfl (fun ls' hl2 => k p e S m args below meth c H locs ls' as0 as sz X hi K hz hp hl P hD Z (lvh_set hl2))
theorem ac_iadd (hd : decode h.2.1 pc = .ok (.iadd, 1)) (k : AC l D cI cZ d mc ms h post (pc + 1) L (.inl (x + y) :: st) sh s cells slots) : AC l D cI cZ d mc ms h post pc L (.inl y :: .inl x :: st) sh s cells slots := by
  intro p e S m args below meth c H locs ls as0 as sz X hi K hz hp hl P hD Z N
  exact lv_iadd X.1 X.2.1 hd (k p e S m args below meth c H locs ls as0 as sz X hi K hz hp hl P hD Z N)
theorem ac_imul (hd : decode h.2.1 pc = .ok (.imul, 1)) (k : AC l D cI cZ d mc ms h post (pc + 1) L (.inl (x * y) :: st) sh s cells slots) : AC l D cI cZ d mc ms h post pc L (.inl y :: .inl x :: st) sh s cells slots := by
  intro p e S m args below meth c H locs ls as0 as sz X hi K hz hp hl P hD Z N
  exact lv_imul X.1 X.2.1 hd (k p e S m args below meth c H locs ls as0 as sz X hi K hz hp hl P hD Z N)
theorem ac_dup {a : Vl} (hd : decode h.2.1 pc = .ok (.dup, 1)) (k : AC l D cI cZ d mc ms h post (pc + 1) L (a :: a :: st) sh s cells slots) : AC l D cI cZ d mc ms h post pc L (a :: st) sh s cells slots := by
  intro p e S m args below meth c H locs ls as0 as sz X hi K hz hp hl P hD Z N
  exact lv_dup X.1 X.2.1 hd (vv_cat _ a) (k p e S m args below meth c H locs ls as0 as sz X hi K hz hp hl P hD Z N)
theorem ac_iinc {i : Nat} {n : Int} (hd : decode h.2.1 pc = .ok (.iinc i n, 3)) (hL : L[i]? = some (some (.inl x))) (hv : Int32.ofInt n = v) (hn : i < h.2.2.1) (k : AC l D cI cZ d mc ms h post (pc + 3) (L.set i (some (.inl (x + v)))) st sh s cells slots) : AC l D cI cZ d mc ms h post pc L st sh s cells slots := by
  intro p e S m args below meth c H locs ls as0 as sz X hi K hz hp hl P hD Z N
  subst hv
  obtain ⟨kk, hk⟩ := List.getElem?_of_mem (lvl_mem.mpr ⟨i, _, hL, rfl⟩ : (i, vv (gA D cI cZ as) (.inl x)) ∈ lvl (gA D cI cZ as) L)
  exact lv_iinc X.1 X.2.1 hd (lvh_has N) hk rfl hn rfl (fun ls' hl2 => k p e S m args below meth c H locs ls' as0 as sz X hi K hz hp hl P hD Z (lvh_set hl2))
theorem ac_goto {off : Int} {tgt : Nat} (hd : decode h.2.1 pc = .ok (.goto off, 3)) (ht : (pc : Int) + off = (tgt : Int)) (k : AC l D cI cZ d mc ms h post tgt L st sh s cells slots) : AC l D cI cZ d mc ms h post pc L st sh s cells slots := by
  intro p e S m args below meth c H locs ls as0 as sz X hi K hz hp hl P hD Z N
  exact lv_goto X.1 X.2.1 hd ht (k p e S m args below meth c H locs ls as0 as sz X hi K hz hp hl P hD Z N)
theorem ac_icmp_ge {off : Int} {tgt : Nat} (hd : decode h.2.1 pc = .ok (.if_icmp .ge off, 3)) (ht : (pc : Int) + off = (tgt : Int)) (kt : y ≤ x → AC l D cI cZ d mc ms h post tgt L st sh s cells slots) (kf : ¬ y ≤ x → AC l D cI cZ d mc ms h post (pc + 3) L st sh s cells slots) : AC l D cI cZ d mc ms h post pc L (.inl y :: .inl x :: st) sh s cells slots := by
  intro p e S m args below meth c H locs ls as0 as sz X hi K hz hp hl P hD Z N
  exact lv_icmp_ge X.1 X.2.1 hd ht (fun q => kt q p e S m args below meth c H locs ls as0 as sz X hi K hz hp hl P hD Z N) (fun q => kf q p e S m args below meth c H locs ls as0 as sz X hi K hz hp hl P hD Z N)
theorem ac_icmp_ne {off : Int} {tgt : Nat} (hd : decode h.2.1 pc = .ok (.if_icmp .ne off, 3)) (ht : (pc : Int) + off = (tgt : Int)) (kt : ¬ x = y → AC l D cI cZ d mc ms h post tgt L st sh s cells slots) (kf : x = y → AC l D cI cZ d mc ms h post (pc + 3) L st sh s cells slots) : AC l D cI cZ d mc ms h post pc L (.inl y :: .inl x :: st) sh s cells slots := by
  intro p e S m args below meth c H locs ls as0 as sz X hi K hz hp hl P hD Z N
  exact lv_icmp_ne X.1 X.2.1 hd ht (fun q => kt q p e S m args below meth c H locs ls as0 as sz X hi K hz hp hl P hD Z N) (fun q => kf q p e S m args below meth c H locs ls as0 as sz X hi K hz hp hl P hD Z N)
theorem ac_iastore {o n : Nat} (hd : decode h.2.1 pc = .ok (.iastore, 1)) (ho : sh[o]? = some (.inl (0, n))) (hin : vp_in y n) (k : AC l D cI cZ d mc ms h post (pc + 1) L st sh (wrM s o y.toNatClampNeg x) cells slots) : AC l D cI cZ d mc ms h post pc L (.inl x :: .inl y :: .inr o :: st) sh s cells slots := by
  intro p e S m args below meth c H locs ls as0 as sz X hi K hz hp hl P hD Z N
  refine va_iast X.1 X.2.1 K P hD Z o 0 (wdC_get ho) rfl hin hd (fun H1 locs1 P1 D1 Z1 => ?_)
  have e1 : wdC cI cZ as sh (wrM s o y.toNatClampNeg x) = (wdC cI cZ as sh s).set o (as.getD o 0, .inl (cI, n, .inl (upd (s o) y.toNatClampNeg x))) := by
    rw [← wdC_set ho]
    simp [entC, stM_self]
  exact k p e S m args below meth c H1 locs1 ls as0 as sz X hi K hz hp hl (by rw [e1]; exact P1) (by rw [e1]; exact D1) Z1 N
theorem ac_get {i o ci j n q : Nat} {C : String} {T : u_T} {fs : List (Option (Option Nat))} (hd : decode h.2.1 pc = .ok (.getfield i, 3)) (ho : sh[o]? = some (.inr (ci, fs))) (hc : vwCl[ci]? = some (C, T, n)) (hj : j < n) (hlk : lnkF h i (T j).1 (T j).2.1 (T j).2.2.1) (hf : fs[j]? = some (some (some q)))
    (k : AC l D cI cZ d mc ms h post (pc + 3) L (.inr q :: st) sh s cells slots) : AC l D cI cZ d mc ms h post pc L (.inr o :: st) sh s cells slots := by
  intro p e S m args below meth c H locs ls as0 as sz X hi K hz hp hl P hD Z N
  have hv : (fs.mapIdx (fldC as (s o)))[j]? = some (.ref (as.getD q 0)) := by rw [List.getElem?_mapIdx, hf]; rfl
  rcases hlk with hlk | hlk
  · exact va_get X.1 X.2.1 (cx_ws X) (lay_in hc) X.2.2.2.2.1 K P o (wdC_get ho) hc j hj (X.2.2.2.2.2.1 _ hlk rfl) (fun _ q => q) hv hd (k p e S m args below meth c H locs ls as0 as sz X hi K hz hp hl P hD Z N)
  · exact va_getN X.1 X.2.1 (cx_ws X) (lay_in hc) X.2.2.2.2.1 K P o (wdC_get ho) hc j hj (va_Nw.use rfl (X.2.2.2.2.2.2.1 _ hlk rfl)) (fun _ q => q) hv hd (k p e S m args below meth c H locs ls as0 as sz X hi K hz hp hl P hD Z N)
theorem ac_putF {i o ci j n q : Nat} {C : String} {T : u_T} {fs : List (Option (Option Nat))} {ty : FieldType} (hd : decode h.2.1 pc = .ok (.putfield i, 3)) (ho : sh[o]? = some (.inr (ci, fs))) (hc : vwCl[ci]? = some (C, T, n)) (hj : j < n) (hlk : Cond.fieldLink h.1.cls i (T j).1 (T j).2.1 (T j).2.2.1 ∈ lw_tbl) (hjl : j < fs.length) (hfin : (T j).2.2.2 = true) (hdec : (T j).1 = h.1.cls) (hty : parseFieldDescriptor (T j).2.2.1 = some ty) (hn : narrow ty (.ref 0) = .ref 0 ∧ fits ty (.ref 0) = true)
    (k : AC l D cI cZ d mc ms h post (pc + 3) L st (sh.set o (.inr (ci, fs.set j (some (some q))))) s cells slots) : AC l D cI cZ d mc ms h post pc L (.inr q :: .inr o :: st) sh s cells slots := by
  intro p e S m args below meth c H locs ls as0 as sz X hi K hz hp hl P hD Z N
  obtain ⟨ty0, ht0, hnm0⟩ := cls_ok hc
  have hn2 : ∀ a : Nat, narrow ty (.ref a) = .ref a ∧ fits ty (.ref a) = true := by
    intro a
    cases ty <;> first | exact ⟨rfl, rfl⟩ | exact absurd hn.2 (by decide)
  refine va_putF X.1 X.2.1 (cx_ws X) (lay_in hc) ty0 ht0 hnm0 X.2.2.2.2.1 K P hD Z o (wdC_get ho) hc j hj (X.2.2.2.2.2.1 _ hlk rfl) (fun _ q => q) hfin hi hdec hty (hn2 _).1 (hn2 _).2 (by simpa using hjl) hd (fun H1 locs1 P1 D1 Z1 => ?_)
  refine k p e S m args below meth c H1 locs1 ls as0 as sz X hi K hz hp (by simpa using hl) ?_ ?_ Z1 N
  · rw [← wdC_fld ho]; exact P1
  · rw [← wdC_fld ho]; exact D1
theorem ac_newa {aty : ArrayType} {t N' : Nat} {ty : FieldType} (hd : decode h.2.1 pc = .ok (.newarray aty, 2)) (hty : newarray.typeOf aty = ty) (ht : (t = 0 ∧ ty = .int) ∨ (t = 1 ∧ ty = .boolean)) (harr : Cond.arrayClass ty ∈ lw_tbl) (hx0 : ¬ x < 0) (hN : x.toNatClampNeg = N') (hbytes : N' ≤ 100000) (hcells : cells + 1 ≤ mc) (hslots : slots + N' ≤ ms) (hcl : clo sh.length sh = true) (hst : st.all (vok sh.length) = true) (hLL : L.all (lok sh.length) = true)
    (k : AC l D cI cZ d mc ms h post (pc + 2) L (.inr sh.length :: st) (sh ++ [.inl (t, N')]) (stM s sh.length (fun _ => 0)) (cells + 1) (slots + N')) : AC l D cI cZ d mc ms h post pc L (.inl x :: st) sh s cells slots := by
  intro p e S m args below meth c H locs ls as0 as sz X hi K hz hp hl P hD Z N
  have hA : ∀ q, S.heap.size ≤ q → A0 as0 sz q := fun q hq => Or.inr (by rw [← hz]; exact hq)
  subst hty
  have hb1 : N' * componentBytes (newarray.typeOf aty) ≤ 536870912 := by
    rcases ht with ⟨-, e1⟩ | ⟨-, e1⟩ <;> rw [e1] <;> simp only [componentBytes] <;> omega
  refine va_newaK X.1 X.2.1 (X.2.2.2.2.2.1 _ harr (by rcases ht with ⟨-, e1⟩ | ⟨-, e1⟩ <;> rw [e1] <;> rfl)) rfl hd rfl hx0 hN hb1 hcells hslots rfl (fun H1 cA e1 z1 o1 hAr hNm => ?_)
  have hcA : cA = if t = 0 then cI else cZ := by
    rcases ht with ⟨rfl, e2⟩ | ⟨rfl, e2⟩
    · rw [e2] at hNm
      exact Option.some.inj (hNm.symm.trans (K.2 0 _ rfl).2)
    · rw [e2] at hNm
      exact Option.some.inj (hNm.symm.trans (K.2 1 _ rfl).2)
  have hk : ∀ (k : Nat) (z : Nat × va_E), (wdC cI cZ as sh s)[k]? = some z → H1[z.1]? = H[z.1]? := fun k z hz => o1 z.1 ((P k z hz).lt)
  have ew := wdC_ext (cI := cI) (cZ := cZ) (s := s) (q := H.size) (c := .inl (t, N')) (f := fun _ => 0) hl hcl
  have hl1 : (as ++ [H.size]).length = (sh ++ [(.inl (t, N') : CO)]).length := by simp [hl]
  have ee : entC cI cZ (as ++ [H.size]) (stM s sh.length (fun _ => 0)) sh.length (.inl (t, N')) = .inl (if t = 0 then cI else cZ, N', .inl (fun _ => 0)) := by simp [entC, stM_self]
  rw [ee] at ew
  refine (W.eq (g2 := F0 m (pc + 2) ls ((.inr sh.length :: st).map (vv (gA D cI cZ (as ++ [H.size]))))) ?_ (k p e S m args below meth c H1 locs ls as0 (as ++ [H.size]) sz X hi K hz (hp.trans (List.prefix_append _ _)) hl1 ?_ ?_ ⟨Nat.le_trans Z.1 (by omega), fun q h1 h2 => (o1 q (Nat.lt_of_lt_of_le h1 Z.1)).trans (Z.2.1 q h1 h2), Z.2.2⟩ (lvh_ext (by rw [hl]; exact hLL) N)))
  · have e3 : vv (gA D cI cZ (as ++ [H.size])) (.inr sh.length) = .ref H.size := by
      simp only [vv, gA]
      rw [← hl, getD_new]
    show F0 m (pc + 2) ls (Value.ref H.size :: st.map (vv (gA D cI cZ as))) = F0 m (pc + 2) ls (vv (gA D cI cZ (as ++ [H.size])) (.inr sh.length) :: st.map (vv (gA D cI cZ (as ++ [H.size]))))
    rw [e3, st_ext (by rw [hl]; exact hst)]
  · rw [ew]
    refine (P.kept hk).app (fun k z hz => ?_)
    have hz' : k < 1 := (List.getElem?_eq_some_iff.mp hz).1
    rw [show k = 0 by omega] at hz
    cases hz
    show H1[H.size]? = some (vp_cell _ _)
    rw [e1, hcA, vp_cell_i]
    congr 2
    rcases ht with ⟨-, e2⟩ | ⟨-, e2⟩ <;> rw [e2] <;> rfl
  · rw [ew]
    exact hD.push P rfl (hA _ Z.1)
theorem ac_new {i ci n : Nat} {C : String} {T : u_T} {fs : List (Option (Option Nat))} (hd : decode h.2.1 pc = .ok (.new i, 3)) (hc : vwCl[ci]? = some (C, T, n)) (hlk : Cond.classLink h.1.cls i C ∈ lw_tbl) (hins : Cond.instantiable C n ∈ lw_tbl) (hini : Cond.initialized C ∈ lw_tbl) (hb : blkOk ci fs) (hcells : cells + 1 ≤ mc) (hslots : slots + n ≤ ms) (hcl : clo sh.length sh = true) (hst : st.all (vok sh.length) = true) (hLL : L.all (lok sh.length) = true)
    (k : AC l D cI cZ d mc ms h post (pc + 3) L (.inr sh.length :: st) (sh ++ [.inr (ci, fs)]) (stM s sh.length (fun _ => 0)) (cells + 1) (slots + n)) : AC l D cI cZ d mc ms h post pc L st sh s cells slots := by
  intro p e S m args below meth c H locs ls as0 as sz X hi K hz hp hl P hD Z N
  have hA : ∀ q, S.heap.size ≤ q → A0 as0 sz q := fun q hq => Or.inr (by rw [← hz]; exact hq)
  obtain ⟨ty0, ht0, hb0⟩ := hb C T n hc
  refine va_new (fs := fs.mapIdx (fldC [] (fun _ => 0))) X.1 X.2.1 (cx_ws X) (lay_in hc) ty0 ht0 X.2.2.2.2.1 (X.2.2.2.2.2.1 _ hlk rfl) (X.2.2.2.2.2.1 _ hins rfl) (X.2.2.2.2.2.1 _ hini rfl) K P hD Z hA hc hb0.1 hcells hslots hd (fun q H1 P1 D1 Z1 => ?_)
  have ew := wdC_ext (cI := cI) (cZ := cZ) (s := s) (q := q) (c := .inr (ci, fs)) (f := fun _ => 0) hl hcl
  have hl1 : (as ++ [q]).length = (sh ++ [(.inr (ci, fs) : CO)]).length := by simp [hl]
  have ee : entC cI cZ (as ++ [q]) (stM s sh.length (fun _ => 0)) sh.length (.inr (ci, fs)) = .inr (ci, fs.mapIdx (fldC [] (fun _ => 0))) := by
    simp only [entC, stM_self]
    rw [hb0.2 (as ++ [q])]
  rw [ee] at ew
  refine (W.eq (g2 := F0 m (pc + 3) ls ((.inr sh.length :: st).map (vv (gA D cI cZ (as ++ [q]))))) ?_ (k p e S m args below meth c H1 locs ls as0 (as ++ [q]) sz X hi K hz (hp.trans (List.prefix_append _ _)) hl1 (by rw [ew]; exact P1) (by rw [ew]; exact D1) Z1 (lvh_ext (by rw [hl]; exact hLL) N)))
  have e3 : vv (gA D cI cZ (as ++ [q])) (.inr sh.length) = .ref q := by
    simp only [vv, gA]
    rw [← hl, getD_new]
  rw [List.map_cons, e3, st_ext (by rw [hl]; exact hst)]
theorem ac_obj {i o : Nat} (hd : decode h.2.1 pc = .ok (.invokespecial i, 3)) (hlk : Cond.methodLink h.1.cls i objectInit ∈ lw_tbl) (hst : st.length ≤ 8) (hd1 : 1 ≤ d)
    (k : AC l D cI cZ d mc ms h post (pc + 3) L st sh s cells slots) : AC l D cI cZ d mc ms h post pc L (.inr o :: st) sh s cells slots := by
  intro p e S m args below meth c H locs ls as0 as sz X hi K hz hp hl P hD Z N
  refine W.objInit X.1 X.2.1 X.2.2.2.2.1 (X.2.2.2.2.2.1 _ hlk rfl) (X.2.2.2.2.2.1 _ objI_in rfl) (X.2.2.2.2.2.1 _ objC_in rfl) rfl (N.1.trans X.2.2.2.1.symm) rfl hd hd1 ?_ (k p e S m args below meth c H locs ls as0 as sz X hi K hz hp hl P hD Z N)
  show 2 * 0 + ((st.map (vv (gA D cI cZ as))).map fun v => v.category).sum + 12 ≤ 60 * d
  rw [st_cat]
  omega
theorem ac_ret (hd : decode h.2.1 pc = .ok (.return_, 1)) (hr : h.2.2.2 = none) (hc1 : cells ≤ mc) (hs1 : slots ≤ ms) (hp1 : post sh s) : AC l D cI cZ d mc ms h post pc L [] sh s cells slots := by
  intro p e S m args below meth c H locs ls as0 as sz X hi K hz hp hl P hD Z N
  refine W.widen (k := mc) (n := ms) hc1 hs1 ?_
  exact W.vret X.1 X.2.1 (X.2.2.1.trans hr) (fun t ht hW => ⟨⟨as, sh, s, rfl, hp1, hp, hl, by rw [ht]; exact P, hD⟩, Z.F ht⟩) Z.2.2 hd X.2.2.2.2.2.2.2
theorem ac_call {hc : HD} {As : List Vl} {o i d' mc' ms' : Nat} {post' : List CO → Mem → Prop} (hd : decode h.2.1 pc = .ok (.invokespecial i, 3)) (hlt : d' < d) (hlk : lnkM h i hc.1) (hs : Cond.instanceMethod hc.1 ∈ lw_tbl) (hini : Cond.initialized hc.1.cls ∈ lw_tbl) (hnm : hc.1.name = "<init>") (hno : nameOk hc As.length) (hmx : hc.2.2.1 ≤ 41) (hcells : cells + mc' ≤ mc) (hslots : slots + ms' ≤ ms) (hst : st.all (vok sh.length) = true) (hsl : st.length ≤ 8) (hLL : L.all (lok sh.length) = true)
    (M : CSpec l D cI cZ d' mc' ms' hc (.inr o :: As) sh s post')
    (k : ∀ (sh' : List CO) (s' : Mem), post' sh' s' → AC l D cI cZ d mc ms h post (pc + 3) L st sh' s' (cells + mc') (slots + ms')) : AC l D cI cZ d mc ms h post pc L (As.reverse ++ .inr o :: st) sh s cells slots := by
  intro p e S m args below meth c H locs ls as0 as sz X hi K hz hp hl P hD Z N
  have hA : ∀ q, S.heap.size ≤ q → A0 as0 sz q := fun q hq => Or.inr (by rw [← hz]; exact hq)
  obtain ⟨hin, hrt, M⟩ := M
  have hroom : (rmC d' mc' ms').frames + 1 ≤ (rmC d mc ms).frames ∧ 8 + (hc.2.2.1 + 11) + (rmC d' mc' ms').locals ≤ (rmC d mc ms).locals := ⟨hlt, by show 8 + (hc.2.2.1 + 11) + 60 * d' ≤ 60 * d; omega⟩
  have hsub : ∀ q, A0 as H.size q → A0 as0 sz q := by
    rintro q (hq | hq)
    · obtain ⟨j, hj⟩ := List.getElem?_of_mem hq
      have hjl := (List.getElem?_eq_some_iff.mp hj).1
      have hsj : ∃ cc, sh[j]? = some cc := ⟨_, List.getElem?_eq_getElem (by omega)⟩
      obtain ⟨cc, hcc⟩ := hsj
      have := hD.2 j _ (wdC_get hcc)
      simpa [List.getD_eq_getElem?_getD, hj] using this
    · exact hA q (Nat.le_trans Z.1 hq)
  have hpre : PreS S H (va_Pc ((.inr o :: As : List Vl).map (vv (gA D cI cZ as))) (fun U => U.heap.size = H.size ∧ va_P D vwCl (wdC cI cZ as sh s) U.heap ∧ PK (gA D cI cZ as) U ∧ va_D (fun _ => True) (wdC cI cZ as sh s) ∧ NWS U)) (.ref (as.getD o 0) :: As.map (vv (gA D cI cZ as))) := by
    refine ⟨?_, fun U hU hW => ⟨rfl, by rw [hU], by rw [hU]; exact P, va_K.moved hW.alike K, hD.weaken (fun _ _ _ _ => trivial), NWS.warm hW X.2.2.2.2.2.2.1⟩⟩
    rintro a U g mk ⟨q0, q1, qP, qK, qD, qN⟩
    exact ⟨q0, q1, qP, va_K.moved (u := U) (U := U.calling g mk a) (Vm.Alike.refl U.vm) qK, qD, NWS.same (s := U) (U := U.calling g mk a) rfl qN⟩
  have hfix : CallFix p m c h.2.1 h.2.2.1 S args WSg h.1.cls := ⟨X.1, X.2.1, X.2.2.2.1, X.2.2.2.2.1, cx_ws X⟩
  have hstk : (F0 m pc ls ((As.reverse ++ .inr o :: st).map (vv (gA D cI cZ as)))).stack = (As.map (vv (gA D cI cZ as))).reverse ++ .ref (as.getD o 0) :: st.map (vv (gA D cI cZ as)) := by simp [vv, gA]
  have hwd : 2 * (F0 m pc ls ((As.reverse ++ .inr o :: st).map (vv (gA D cI cZ as)))).monitorRoom + ((st.map (vv (gA D cI cZ as))).map fun v => v.category).sum ≤ 8 := lv_room (by rw [st_cat]; exact hsl)
  have hrun : va_Run p l e (rmC d mc ms) S m args below meth c H locs cells slots mc' ms' (F0 m pc ls ((As.reverse ++ .inr o :: st).map (vv (gA D cI cZ as)))) (st.map (vv (gA D cI cZ as))) (QC D cI cZ as H.size post' (Value.ref (as.getD o 0) :: As.map (vv (gA D cI cZ as))).toArray) (A0 as H.size) := by
    have hw2 : Cond.code hc.1 hc.2.1 hc.2.2.1 hc.2.2.2 :: WSg = Cond.code hc.1 hc.2.1 hc.2.2.1 none :: WSg := by rw [hrt]
    rcases hlk with hlk | hlk
    · exact va_runI hfix (M as H.size hl) ⟨callB_of As.length (cx_ws X) (ws_good (h := h) hin) hw2 rfl rfl (X.2.2.2.2.2.1 _ hini rfl) (X.2.2.2.2.2.1 _ hlk rfl) hno hroom, hnm, X.2.2.2.2.2.1 _ hs rfl⟩ hpre rfl (by simp) N.1 hstk hwd hd ⟨hcells, hslots⟩
    · exact va_runIN hfix (M as H.size hl) ⟨va_cnB As.length (cx_ws X) (ws_good (h := h) hin) hw2 rfl rfl (X.2.2.2.2.2.2.1 _ hlk rfl) (X.2.2.2.2.2.1 _ hini rfl) hno hroom, hnm, X.2.2.2.2.2.1 _ hs rfl⟩ hpre rfl (by simp) N.1 hstk hwd hd ⟨hcells, hslots⟩
  intro T hT XS
  obtain ⟨v, st₀, t, T', L', h0, X', hL, e1, e2, ⟨⟨as1, sh1, s1, hv, hp1, hpre1, hl1, hP1, hD1⟩, hz1, hk⟩, stp⟩ := hrun T hT XS
  rw [h0] at hz1 hk
  have Z1 : va_S (A0 as0 sz) S.heap T'.heap (locs ++ L') := ⟨Nat.le_trans Z.1 (by rw [e1]; exact hz1), fun q h1 h2 => by rw [e1, hk q (Nat.lt_of_lt_of_le h1 Z.1) (fun z => h2 (hsub q z))]; exact Z.2.1 q h1 h2, fun q hq => by
    rcases List.mem_append.mp hq with h | h
    · exact Z.2.2 q h
    · exact hsub _ (hL q h)⟩
  obtain ⟨t2, a1, b1⟩ := k sh1 s1 hp1 p e S m args below meth c T'.heap (locs ++ L') ls as0 as1 sz X hi K hz (hp.trans hpre1) hl1 (by rw [e1]; exact hP1) (hD1.weaken (fun _ q _ hq => hsub q.1 hq)) Z1 (lvh_pre hpre1 (by rw [hl]; exact hLL) N) T' rfl X'
  refine ⟨t2, stp t2 ?_, b1⟩
  have hv' : v = none := Outcome.returned.inj hv
  rw [st_pre hpre1 (by rw [hl]; exact hst)] at a1
  rw [hv']
  exact a1
end CA

theorem cspec_of {l : Launch} {D : va_G} {cI cZ : ClassId} {d mc ms : Nat} {h : HD} {As : List Vl} {sh : List CO} {s : Mem} {post : List CO → Mem → Prop} (hin : Cond.code h.1 h.2.1 h.2.2.1 h.2.2.2 ∈ lw_tbl) (hr : h.2.2.2 = none) (hp : plainName h.1.cls = true) (hnm : h.1.name = "<init>") (hl : As.length ≤ h.2.2.1) (k : AC l D cI cZ d mc ms h post 0 (As.map some ++ List.replicate (h.2.2.1 - As.length) none) [] sh s 0 0) : CSpec l D cI cZ d mc ms h As sh s post := by
  refine ⟨hin, hr, fun as0 sz has => Met.ofW (cc := h.2.1) (maxL := h.2.2.1) (ret := h.2.2.2) hp rfl ?_⟩
  intro p e S m args below meth c s₁ B hml hv
  obtain ⟨rfl, hsz, hP, hK, hD, hN⟩ := hv
  have hts := atoms_spec (ws := Cond.code h.1 h.2.1 h.2.2.1 h.2.2.2 :: WSg) B.pre
  have X : CX p S m (As.map (vv (gA D cI cZ as0))).toArray meth c h := ⟨B.exec, B.bytes, B.returns, hml, findClass_of_methodNamed B.named, fun w hw hg => hts w (List.mem_cons_of_mem _ (List.mem_filter.mpr ⟨hw, hg⟩)), hN, B.notSynchronized⟩
  have hinit : meth.name = "<init>" := (name_of_methodNamed B.named B.method).1.trans hnm
  have lsl : ∀ A : List Vl, (lg_sl (A.map (vv (gA D cI cZ as0)))).length = A.length := by
    intro A
    induction A with
    | nil => rfl
    | cons a r ih =>
      simp only [lg_sl, List.map_cons, List.flatMap_cons, vv_cat, List.length_append, List.length_cons] at ih ⊢
      simp [ih]
      omega
  have hle := lv_entry (As.map (vv (gA D cI cZ as0))) (n := h.2.2.1) (by rw [lsl]; exact hl)
  rw [lg_entry_eq]
  have arg : ∀ (A : List Vl) (n i : Nat) (v : Vl), A[i]? = some v → (n + i, vv (gA D cI cZ as0) v) ∈ lv_args n (A.map (vv (gA D cI cZ as0))) := by
    intro A
    induction A with
    | nil => intro n i v hi; simp at hi
    | cons a r ih =>
      intro n i v hi
      cases i with
      | zero => simp at hi; subst hi; simp [lv_args]
      | succ i =>
        simp at hi
        have := ih (n + 1) i v hi
        simp only [List.map_cons, lv_args, vv_cat]
        refine List.mem_cons_of_mem _ ?_
        rw [show n + (i + 1) = n + 1 + i by omega]
        exact this
  have hD0 : va_D (A0 as0 sz) (wdC cI cZ as0 sh s) := by
    refine ⟨hD.1, fun k q hk => Or.inl ?_⟩
    simp only [wdC, List.getElem?_mapIdx] at hk
    cases hc : sh[k]? with
    | none => rw [hc] at hk; cases hk
    | some cc =>
      rw [hc] at hk
      cases hk
      have hlt : k < as0.length := by rw [has]; exact (List.getElem?_eq_some_iff.mp hc).1
      have : as0.getD k 0 = as0[k] := by simp [List.getD_eq_getElem?_getD, hlt]
      show as0.getD k 0 ∈ as0
      rw [this]
      exact List.getElem_mem hlt
  refine k p e S m _ below meth c S.heap [] _ as0 as0 sz X hinit hK hsz (List.prefix_refl _) has hP hD0 va_S.rf ⟨hle.1, hle.2.1, fun i v hi => ?_⟩
  by_cases hil : i < (As.map some).length
  · rw [List.getElem?_append_left hil, List.getElem?_map] at hi
    cases ha : As[i]? with
    | none => rw [ha] at hi; cases hi
    | some w =>
      rw [ha] at hi
      cases hi
      have := hle.2.2 (0 + i, vv (gA D cI cZ as0) v) (arg As 0 i v ha)
      simpa using this
  · rw [List.getElem?_append_right (by omega), List.getElem?_replicate] at hi
    split at hi <;> cases hi
def okRef (n : Nat) (L : LL) (st : List Vl) : Bool := L.all (lok n) && st.all (vok n) && Nat.ble st.length 8
def semC (l : Launch) (D : va_G) (cI cZ : ClassId) (d mc ms : Nat) (h : HD) (e : En) (pc : Nat) (L : LL) (st : List Vl) (sh : List CO) (s : Mem) (cells slots : Nat) (post : List CO → Mem → Prop) (K : Nat → LL → List Vl → List CO → Mem → Nat → Nat → Prop) : Prop :=
  match e.1 with
  | .iconst _ => K (pc + 1) L (.inl e.2.2.2.2.1 :: st) sh s cells slots
  | .bipush _ => K (pc + 2) L (.inl e.2.2.2.2.1 :: st) sh s cells slots
  | .sipush _ => K (pc + 3) L (.inl e.2.2.2.2.1 :: st) sh s cells slots
  | .iload_n i => ldI L i (fun x => K (pc + 1) L (.inl x :: st) sh s cells slots)
  | .aload_n i => ldA L i (fun o => K (pc + 1) L (.inr o :: st) sh s cells slots)
  | .istore_n i => un1 st (fun x r => K (pc + 1) (L.set i (some (.inl x))) r sh s cells slots)
  | .iinc i _ => ldI L i (fun x => K (pc + 3) (L.set i (some (.inl (x + e.2.2.2.2.1)))) st sh s cells slots)
  | .iadd => bi2 st (fun x y r => K (pc + 1) L (.inl (x + y) :: r) sh s cells slots)
  | .imul => bi2 st (fun x y r => K (pc + 1) L (.inl (x * y) :: r) sh s cells slots)
  | .goto _ => K e.2.2.1 L st sh s cells slots
  | .dup => match st with
    | a :: r => K (pc + 1) L (a :: a :: r) sh s cells slots
    | _ => False
  | .if_icmp .ge _ => bi2 st (fun x y r => (y ≤ x → K e.2.2.1 L r sh s cells slots) ∧ (¬ y ≤ x → K (pc + 3) L r sh s cells slots))
  | .if_icmp .ne _ => bi2 st (fun x y r => (¬ x = y → K e.2.2.1 L r sh s cells slots) ∧ (x = y → K (pc + 3) L r sh s cells slots))
  | .iastore => bi2 st (fun y x r => ob1 r (fun o r => match sh[o]? with
    | some (.inl (0, n)) => vp_in y n ∧ K (pc + 1) L r sh (wrM s o y.toNatClampNeg x) cells slots
    | _ => False))
  | .getfield _ => ob1 st (fun o r => match sh[o]? with
    | some (.inr (ci, fs)) => bt1 (Nat.beq ci e.2.2.1) (match fs[e.2.2.2.1]? with
      | some (some (some q)) => K (pc + 3) L (.inr q :: r) sh s cells slots
      | _ => False)
    | _ => False)
  | .putfield _ => ob1 st (fun q r => ob1 r (fun o r => match sh[o]? with
    | some (.inr (ci, fs)) => bt1 (Nat.beq ci e.2.2.1 && Nat.blt e.2.2.2.1 fs.length) (K (pc + 3) L r (sh.set o (.inr (ci, fs.set e.2.2.2.1 (some (some q))))) s cells slots)
    | _ => False))
  | .newarray _ => un1 st (fun x r => bt1 (decide (x = e.2.2.2.2.1) && (Nat.ble (cells + 1) mc && Nat.ble (slots + e.2.2.2.1) ms && clo sh.length sh && okRef sh.length L r)) (K (pc + 2) L (.inr sh.length :: r) (sh ++ [.inl (e.2.2.1, e.2.2.2.1)]) (stM s sh.length (fun _ => 0)) (cells + 1) (slots + e.2.2.2.1)))
  | .new _ => bt1 (Nat.ble (cells + 1) mc && Nat.ble (slots + e.2.2.2.1) ms && clo sh.length sh && okRef sh.length L st) (K (pc + 3) L (.inr sh.length :: st) (sh ++ [.inr (e.2.2.1, blk e.2.2.1)]) (stM s sh.length (fun _ => 0)) (cells + 1) (slots + e.2.2.2.1))
  | .invokespecial _ => match Nat.beq e.2.2.1 9 with
    | true => ob1 st (fun _ r => bt1 (Nat.ble r.length 8 && Nat.ble 1 d) (K (pc + 3) L r sh s cells slots))
    | false => bt1 (Nat.ble e.2.2.2.1 st.length) (ob1 (st.drop e.2.2.2.1) (fun o r => bt1 (okRef sh.length L r) (∃ (d' mc' ms' : Nat) (post' : List CO → Mem → Prop), d' < d ∧ cells + mc' ≤ mc ∧ slots + ms' ≤ ms ∧ CSpec l D cI cZ d' mc' ms' e.2.2.2.2.2.1 (.inr o :: (st.take e.2.2.2.1).reverse) sh s post' ∧ ∀ (sh' : List CO) (s' : Mem), post' sh' s' → K (pc + 3) L r sh' s' (cells + mc') (slots + ms'))))
  | .return_ => match st with
    | [] => bt1 (Nat.ble cells mc && Nat.ble slots ms) (post sh s)
    | _ => False
  | _ => False
def okPF (h : HD) (ci j : Nat) : Bool := match vwCl[ci]? with
  | some q => (q.2.1 j).2.2.2 && decide ((q.2.1 j).1 = h.1.cls) && decide (j < q.2.2) && (match parseFieldDescriptor (q.2.1 j).2.2.1 with
    | some ty => decide (narrow ty (.ref 0) = .ref 0) && fits ty (.ref 0)
    | none => false)
  | none => false
def okFL (i0 : Nat) (h : HD) (i ci j : Nat) : Bool := match vwCl[ci]? with
  | some q => bIn i0 (.fieldLink h.1.cls i (q.2.1 j).1 (q.2.1 j).2.1 (q.2.1 j).2.2.1)
  | none => false
def okC (h : HD) (pc : Nat) (e : En) : Bool := match e.1 with
  | .putfield i => decide (decode h.2.1 pc = .ok (e.1, e.2.1)) && okPF h e.2.2.1 e.2.2.2.1 && okFL (e.2.2.2.2.2.2.getD 0 0) h i e.2.2.1 e.2.2.2.1 && Nat.beq e.2.1 3
  | .newarray aty => decide (decode h.2.1 pc = .ok (e.1, e.2.1)) && Nat.beq e.2.1 2 && decide ((e.2.2.1 = 0 ∧ newarray.typeOf aty = .int) ∨ (e.2.2.1 = 1 ∧ newarray.typeOf aty = .boolean)) && bIn (e.2.2.2.2.2.2.getD 0 0) (.arrayClass (newarray.typeOf aty)) && decide (¬ e.2.2.2.2.1 < 0 ∧ e.2.2.2.2.1.toNatClampNeg = e.2.2.2.1 ∧ e.2.2.2.1 ≤ 100000)
  | .new i => decide (decode h.2.1 pc = .ok (e.1, e.2.1)) && Nat.beq e.2.1 3 && (match vwCl[e.2.2.1]? with
    | some q => Nat.beq e.2.2.2.1 q.2.2 && bIn (e.2.2.2.2.2.2.getD 0 0) (.classLink h.1.cls i q.1) && bIn (e.2.2.2.2.2.2.getD 1 0) (.instantiable q.1 q.2.2) && bIn (e.2.2.2.2.2.2.getD 2 0) (.initialized q.1)
    | none => false)
  | .invokespecial i => decide (decode h.2.1 pc = .ok (e.1, e.2.1)) && Nat.beq e.2.1 3 && (match Nat.beq e.2.2.1 9 with
    | true => bIn (e.2.2.2.2.2.2.getD 0 0) (.methodLink h.1.cls i objectInit)
    | false => okM e.2.2.2.2.2.2 h e.2.2.2.2.2.1 i e.2.2.2.1 && bIn (e.2.2.2.2.2.2.getD 2 0) (.instanceMethod e.2.2.2.2.2.1.1) && decide (e.2.2.2.2.2.1.1.name = "<init>"))
  | _ => okE h pc e
theorem okRef_e {n : Nat} {L : LL} {st : List Vl} (h : okRef n L st = true) : L.all (lok n) = true ∧ st.all (vok n) = true ∧ st.length ≤ 8 := by
  simp only [okRef, Bool.and_eq_true] at h
  exact ⟨h.1.1, h.1.2, Nat.le_of_ble_eq_true h.2⟩
set_option maxRecDepth 100000 in
set_option maxHeartbeats 4000000 in
theorem semC_ok {l : Launch} {D : va_G} {cI cZ : ClassId} {d mc ms : Nat} {h : HD} {e : En} {pc : Nat} {L : LL} {st : List Vl} {sh : List CO} {s : Mem} {cells slots : Nat} {post : List CO → Mem → Prop} {K : Nat → LL → List Vl → List CO → Mem → Nat → Nat → Prop}
    (hr : h.2.2.2 = none) (ho : okC h pc e = true) (hK : ∀ pc L st sh s cells slots, K pc L st sh s cells slots → AC l D cI cZ d mc ms h post pc L st sh s cells slots) (hs : semC l D cI cZ d mc ms h e pc L st sh s cells slots post K) : AC l D cI cZ d mc ms h post pc L st sh s cells slots := by
  obtain ⟨ins, len, a, b, v, hc, hnt⟩ := e
  cases ins
  case iconst n =>
    simp only [okC, okE, Bool.and_eq_true, decide_eq_true_eq] at ho
    obtain rfl : len = 1 := Nat.eq_of_beq_eq_true ho.2.2
    exact ac_iconst ho.1 ho.2.1 (hK _ _ _ _ _ _ _ hs)
  case bipush n =>
    simp only [okC, okE, Bool.and_eq_true, decide_eq_true_eq] at ho
    obtain rfl : len = 2 := Nat.eq_of_beq_eq_true ho.2.2
    exact ac_bipush ho.1 ho.2.1 (hK _ _ _ _ _ _ _ hs)
  case sipush n =>
    simp only [okC, okE, Bool.and_eq_true, decide_eq_true_eq] at ho
    obtain rfl : len = 3 := Nat.eq_of_beq_eq_true ho.2.2
    exact ac_sipush ho.1 ho.2.1 (hK _ _ _ _ _ _ _ hs)
  case iload_n i =>
    simp only [okC, okE, Bool.and_eq_true, decide_eq_true_eq] at ho
    obtain rfl : len = 1 := Nat.eq_of_beq_eq_true ho.2
    obtain ⟨x, hx, hs⟩ := ldI_e hs
    exact ac_iload_n ho.1 hx (hK _ _ _ _ _ _ _ hs)
  case aload_n i =>
    simp only [okC, okE, Bool.and_eq_true, decide_eq_true_eq] at ho
    obtain rfl : len = 1 := Nat.eq_of_beq_eq_true ho.2
    obtain ⟨x, hx, hs⟩ := ldA_e hs
    exact ac_aload_n ho.1 hx (hK _ _ _ _ _ _ _ hs)
  case istore_n i =>
    simp only [okC, okE, Bool.and_eq_true, decide_eq_true_eq] at ho
    obtain rfl : len = 1 := Nat.eq_of_beq_eq_true ho.2.2
    obtain ⟨x, r, rfl, hs⟩ := un1_e hs
    exact ac_istore_n ho.1 ho.2.1 (hK _ _ _ _ _ _ _ hs)
  case iinc i n =>
    simp only [okC, okE, Bool.and_eq_true, decide_eq_true_eq] at ho
    obtain rfl : len = 3 := Nat.eq_of_beq_eq_true ho.2.2
    obtain ⟨x, hx, hs⟩ := ldI_e hs
    exact ac_iinc ho.1 hx ho.2.1.1 ho.2.1.2 (hK _ _ _ _ _ _ _ hs)
  case iadd =>
    simp only [okC, okE, Bool.and_eq_true, decide_eq_true_eq] at ho
    obtain rfl : len = 1 := Nat.eq_of_beq_eq_true ho.2
    obtain ⟨x, y, r, rfl, hs⟩ := bi2_e hs
    exact ac_iadd ho.1 (hK _ _ _ _ _ _ _ hs)
  case imul =>
    simp only [okC, okE, Bool.and_eq_true, decide_eq_true_eq] at ho
    obtain rfl : len = 1 := Nat.eq_of_beq_eq_true ho.2
    obtain ⟨x, y, r, rfl, hs⟩ := bi2_e hs
    exact ac_imul ho.1 (hK _ _ _ _ _ _ _ hs)
  case goto off =>
    simp only [okC, okE, Bool.and_eq_true, decide_eq_true_eq] at ho
    obtain rfl : len = 3 := Nat.eq_of_beq_eq_true ho.2.2
    exact ac_goto ho.1 ho.2.1 (hK _ _ _ _ _ _ _ hs)
  case dup =>
    simp only [okC, okE, Bool.and_eq_true, decide_eq_true_eq] at ho
    obtain rfl : len = 1 := Nat.eq_of_beq_eq_true ho.2
    match st, hs with
    | a :: r, hs => exact ac_dup ho.1 (hK _ _ _ _ _ _ _ hs)
  case if_icmp cnd off =>
    simp only [okC, okE, Bool.and_eq_true, decide_eq_true_eq] at ho
    obtain rfl : len = 3 := Nat.eq_of_beq_eq_true ho.2.2
    cases cnd
    case ge =>
      obtain ⟨x, y, r, rfl, h1, h2⟩ := bi2_e hs
      exact ac_icmp_ge ho.1 ho.2.1 (fun q => hK _ _ _ _ _ _ _ (h1 q)) (fun q => hK _ _ _ _ _ _ _ (h2 q))
    case ne =>
      obtain ⟨x, y, r, rfl, h1, h2⟩ := bi2_e hs
      exact ac_icmp_ne ho.1 ho.2.1 (fun q => hK _ _ _ _ _ _ _ (h1 q)) (fun q => hK _ _ _ _ _ _ _ (h2 q))
    all_goals exact hs.elim
  case iastore =>
    simp only [okC, okE, Bool.and_eq_true, decide_eq_true_eq] at ho
    obtain rfl : len = 1 := Nat.eq_of_beq_eq_true ho.2
    obtain ⟨y, x, r, rfl, hs1⟩ := bi2_e hs
    obtain ⟨o, r, rfl, hs2⟩ := ob1_e hs1
    split at hs2
    · rename_i n hn
      exact ac_iastore ho.1 hn hs2.1 (hK _ _ _ _ _ _ _ hs2.2)
    · exact hs2.elim
  case getfield i =>
    simp only [okC, okE, Bool.and_eq_true, decide_eq_true_eq] at ho
    obtain rfl : len = 3 := Nat.eq_of_beq_eq_true ho.2.2
    obtain ⟨C, T, N, hcl, hj, hl⟩ := okF_e ho.2.1
    obtain ⟨o, r, rfl, hs1⟩ := ob1_e hs
    split at hs1
    · rename_i ci fs hob
      obtain ⟨hci, hs2⟩ := bt1_e hs1
      have hci : ci = a := Nat.eq_of_beq_eq_true hci
      subst hci
      dsimp only at hs2 hcl hj hl
      split at hs2
      · rename_i q hf
        exact ac_get ho.1 hob hcl hj hl hf (hK _ _ _ _ _ _ _ hs2)
      · exact hs2.elim
    · exact hs1.elim
  case putfield i =>
    simp only [okC, Bool.and_eq_true, decide_eq_true_eq] at ho
    obtain ⟨⟨⟨hd, hpf⟩, hfl⟩, hln⟩ := ho
    obtain rfl : len = 3 := Nat.eq_of_beq_eq_true hln
    obtain ⟨q, r, rfl, hs1⟩ := ob1_e hs
    obtain ⟨o, r, rfl, hs2⟩ := ob1_e hs1
    split at hs2
    · rename_i ci fs hob
      obtain ⟨hb, hs3⟩ := bt1_e hs2
      simp only [Bool.and_eq_true] at hb
      have hci : ci = a := Nat.eq_of_beq_eq_true hb.1
      subst hci
      unfold okPF at hpf
      unfold okFL at hfl
      cases hv : vwCl[ci]? with
      | none => rw [hv] at hpf; cases hpf
      | some w =>
        obtain ⟨C, T, n⟩ := w
        rw [hv] at hpf hfl
        dsimp only at hpf hfl
        simp only [Bool.and_eq_true, decide_eq_true_eq] at hpf
        obtain ⟨⟨⟨hfin, hdec⟩, hj⟩, hty⟩ := hpf
        split at hty
        · rename_i ty hty1
          simp only [Bool.and_eq_true, decide_eq_true_eq] at hty
          exact ac_putF hd hob hv hj (bIn_e hfl) (blt_lt hb.2) hfin hdec hty1 hty (hK _ _ _ _ _ _ _ hs3)
        · cases hty
    · exact hs2.elim
  case newarray aty =>
    simp only [okC, Bool.and_eq_true, decide_eq_true_eq] at ho
    obtain ⟨⟨⟨⟨hd, hln⟩, hty⟩, harr⟩, hx0, hxN, hsm⟩ := ho
    obtain rfl : len = 2 := Nat.eq_of_beq_eq_true hln
    obtain ⟨x, r, rfl, hs⟩ := un1_e hs
    obtain ⟨hb, hs⟩ := bt1_e hs
    simp only [Bool.and_eq_true, decide_eq_true_eq] at hb
    obtain ⟨hxv, ⟨⟨hc1, hs1⟩, hclo⟩, hrf⟩ := hb
    subst hxv
    obtain ⟨r1, r2, r3⟩ := okRef_e hrf
    exact ac_newa hd rfl hty (bIn_e harr) hx0 hxN hsm (Nat.le_of_ble_eq_true hc1) (Nat.le_of_ble_eq_true hs1) hclo r2 r1 (hK _ _ _ _ _ _ _ hs)
  case new i =>
    simp only [okC, Bool.and_eq_true, decide_eq_true_eq] at ho
    obtain ⟨⟨hd, hln⟩, hcl⟩ := ho
    obtain rfl : len = 3 := Nat.eq_of_beq_eq_true hln
    cases hv : vwCl[a]? with
    | none => rw [hv] at hcl; cases hcl
    | some w =>
      obtain ⟨C, T, n⟩ := w
      rw [hv] at hcl
      dsimp only at hcl
      simp only [Bool.and_eq_true] at hcl
      obtain ⟨⟨⟨hn, h1⟩, h2⟩, h3⟩ := hcl
      have hn : b = n := Nat.eq_of_beq_eq_true hn
      subst hn
      obtain ⟨hb, hs⟩ := bt1_e hs
      simp only [Bool.and_eq_true] at hb
      obtain ⟨⟨⟨hc1, hs1⟩, hclo⟩, hrf⟩ := hb
      obtain ⟨r1, r2, r3⟩ := okRef_e hrf
      exact ac_new hd hv (bIn_e h1) (bIn_e h2) (bIn_e h3) (blk_ok a) (Nat.le_of_ble_eq_true hc1) (Nat.le_of_ble_eq_true hs1) hclo r2 r1 (hK _ _ _ _ _ _ _ hs)
  case invokespecial i =>
    simp only [okC, Bool.and_eq_true, decide_eq_true_eq] at ho
    obtain ⟨⟨hd, hln⟩, ho2⟩ := ho
    obtain rfl : len = 3 := Nat.eq_of_beq_eq_true hln
    dsimp only [semC] at hs
    cases ha : Nat.beq a 9 with
    | true =>
      rw [ha] at ho2 hs
      dsimp only at ho2 hs
      obtain ⟨o, r, rfl, hs⟩ := ob1_e hs
      obtain ⟨hb, hs⟩ := bt1_e hs
      simp only [Bool.and_eq_true] at hb
      exact ac_obj hd (bIn_e ho2) (Nat.le_of_ble_eq_true hb.1) (Nat.le_of_ble_eq_true hb.2) (hK _ _ _ _ _ _ _ hs)
    | false =>
      rw [ha] at ho2 hs
      dsimp only at ho2 hs
      simp only [Bool.and_eq_true, decide_eq_true_eq] at ho2
      obtain ⟨hm1, hm2, hm3, hm4⟩ := okM_e ho2.1.1
      obtain ⟨hb0, hs⟩ := bt1_e hs
      obtain ⟨o, r, hdr, hs⟩ := ob1_e hs
      obtain ⟨hrf, d', mc', ms', post', hlt, hc1, hs1, M, hs2⟩ := bt1_e hs
      obtain ⟨r1, r2, r3⟩ := okRef_e hrf
      have h1 := Nat.le_of_ble_eq_true hb0
      have e1 : (st.take b).reverse.reverse ++ .inr o :: r = st := by rw [List.reverse_reverse, ← hdr, List.take_append_drop]
      have hlen : (st.take b).reverse.length = b := by simp; omega
      have := ac_call (st := r) hd hlt hm1 (bIn_e ho2.1.2) hm2 ho2.2 (by rw [hlen]; exact hm3) hm4 hc1 hs1 r2 r3 r1 M (fun sh' s' q => hK _ _ _ _ _ _ _ (hs2 sh' s' q))
      rw [e1] at this
      exact this
  case return_ =>
    simp only [okC, okE, Bool.and_eq_true, decide_eq_true_eq] at ho
    obtain rfl : len = 1 := Nat.eq_of_beq_eq_true ho.2
    match st, hs with
    | [], hs =>
      obtain ⟨hb, hs⟩ := bt1_e hs
      simp only [Bool.and_eq_true] at hb
      exact ac_ret ho.1 hr (Nat.le_of_ble_eq_true hb.1) (Nat.le_of_ble_eq_true hb.2) hs
  all_goals exact hs.elim
def tbOkC (h : HD) (tb : List (Option En)) : Prop := ∀ pc e, tb[pc]? = some (some e) → okC h pc e = true
def wpsC (l : Launch) (D : va_G) (cI cZ : ClassId) (d mc ms : Nat) (h : HD) (tb : List (Option En)) (cut : List Nat) (post : List CO → Mem → Prop) : Nat → Nat → LL → List Vl → List CO → Mem → Nat → Nat → Prop
  | 0, pc, L, st, sh, s, cells, slots => AC l D cI cZ d mc ms h post pc L st sh s cells slots
  | n + 1, pc, L, st, sh, s, cells, slots => match tb[pc]? with
    | some (some e) => semC l D cI cZ d mc ms h e pc L st sh s cells slots post (fun pc L st sh s cells slots => match cut.elem pc with
      | true => AC l D cI cZ d mc ms h post pc L st sh s cells slots
      | false => wpsC l D cI cZ d mc ms h tb cut post n pc L st sh s cells slots)
    | _ => False
theorem wpsC_ok {l : Launch} {D : va_G} {cI cZ : ClassId} {d mc ms : Nat} {h : HD} {tb : List (Option En)} {cut : List Nat} {post : List CO → Mem → Prop} (hr : h.2.2.2 = none) (ho : tbOkC h tb) : ∀ (n pc : Nat) (L : LL) (st : List Vl) (sh : List CO) (s : Mem) (cells slots : Nat), wpsC l D cI cZ d mc ms h tb cut post n pc L st sh s cells slots → AC l D cI cZ d mc ms h post pc L st sh s cells slots
  | 0, _, _, _, _, _, _, _, q => q
  | n + 1, pc, L, st, sh, s, cells, slots, q => by
    unfold wpsC at q
    split at q
    · rename_i e he
      refine semC_ok hr (ho pc e he) ?_ q
      intro pc L st sh s cells slots q
      split at q
      · exact q
      · exact wpsC_ok hr ho n pc L st sh s cells slots q
    · exact q.elim
theorem tbOkC_of {h : HD} {tb : List (Option En)} (q : (tb.mapIdx (fun pc o => match o with
    | some e => okC h pc e
    | none => true)).all id = true) : tbOkC h tb := by
  intro pc e he
  have := List.all_eq_true.mp q _ (List.mem_of_getElem? (i := pc) (by rw [List.getElem?_mapIdx, he]; rfl))
  exact this

