theorem inst_all : ∀ q ∈ vwCl, Cond.instantiable q.1 q.2.2 ∈ lw_tbl := by decide +kernel
theorem arrI_in : Cond.arrayClass .int ∈ lw_tbl := by decide +kernel
theorem arrZ_in : Cond.arrayClass .boolean ∈ lw_tbl := by decide +kernel
theorem arr_known {S : State} {args : Array Value} {ty : FieldType} (h : (Cond.arrayClass ty).before args S = true) (ht : ty = .int ∨ ty = .boolean) : ∃ cA : ClassId, ArrOfT S cA ty ∧ va_RA S cA ty := by
  obtain ⟨cA, kA, comp, h1, h2, h3⟩ := Cond.arrayClass_spec h
  refine ⟨cA, fun n z => ⟨fun k h => (by cases h), kA, h2, comp, h3⟩, ?_⟩
  rcases ht with rfl | rfl <;> exact h1
theorem known_all {S : State} {args : Array Value} (hts : ∀ w ∈ lw_tbl, w.before args S = true) : ∃ (D : va_G) (cI cZ : ClassId), ∀ as, PK (gA D cI cZ as) S := by
  have h1 : ∀ k : Nat, ∃ (cC : ClassId), ∃ (iS : Nat → Nat), ∀ q : vw_C, vwCl[k]? = some q → u_Kn S q.1 q.2.1 q.2.2 cC iS := by
    intro k
    cases hk : vwCl[k]? with
    | none => exact ⟨0, fun _ => 0, fun q hq => by cases hq⟩
    | some q =>
      have hm := List.mem_of_getElem? hk
      obtain ⟨cC, iS, hkn⟩ := u_known (C := q.1) (T := q.2.1) (N := q.2.2) (n := q.2.2) hts (lay_all q hm) (hts _ (inst_all q hm))
      exact ⟨cC, iS, fun q' hq => by cases hq; exact hkn⟩
  obtain ⟨cI, hI⟩ := arr_known (hts _ arrI_in) (Or.inl rfl)
  obtain ⟨cZ, hZ⟩ := arr_known (hts _ arrZ_in) (Or.inr rfl)
  refine ⟨(fun k => Classical.choose (h1 k), fun k => Classical.choose (Classical.choose_spec (h1 k))), cI, cZ, fun as => ⟨fun k q hq => Classical.choose_spec (Classical.choose_spec (h1 k)) q hq, fun k q hq => ?_⟩⟩
  match k, hq with
  | 0, hq => cases hq; exact hI
  | 1, hq => cases hq; exact hZ
  | k + 2, hq => cases hq
theorem wd_wdC {D : va_G} {cI cZ : ClassId} {as : List Nat} {b : Nat} {s : Mem} : wd ((D, cI, cZ, fun k => if k = 1000 then b else as.getD k 0) : GG) s = wdC cI cZ as (SHl.map (fun c => match c with
    | .inl q => .inl q
    | .inr (ci, fs) => .inr (ci, fs.map (fun o => o.map some)))) s := by
  have hlen : SHl.length = 75 := rfl
  have hall : ∀ c ∈ SHl, match c with
      | .inl _ => True
      | .inr q => ∀ o ∈ q.2, ∀ k, o = some k → k < 75 := by
    have : SHl.all (fun c => match c with
      | .inl _ => true
      | .inr q => q.2.all (fun o => match o with
        | some k => decide (k < 75)
        | none => true)) = true := by decide +kernel
    intro c hc
    have h1 := List.all_eq_true.mp this c hc
    match c, h1 with
    | .inl _, _ => trivial
    | .inr q, h1 =>
      intro o ho k hk
      have h2 := List.all_eq_true.mp h1 o ho
      subst hk
      exact of_decide_eq_true h2
  apply List.ext_getElem?
  intro i
  simp only [wd, wdC, List.getElem?_mapIdx, List.getElem?_map]
  cases hc : SHl[i]? with
  | none => rfl
  | some c =>
    have hi : i < 75 := by
      have := (List.getElem?_eq_some_iff.mp hc).1
      rw [hlen] at this
      exact this
    have hi2 : ¬ i = 1000 := by omega
    have hm := hall c (List.mem_of_getElem? hc)
    simp only [Option.map_some, if_neg hi2]
    match c, hm with
    | .inl (t, n), _ => rfl
    | .inr (ci, fs), hm =>
      have e : fs.mapIdx (fld ((D, cI, cZ, fun k => if k = 1000 then b else as.getD k 0) : GG) (s i)) = (fs.map (fun o => o.map some)).mapIdx (fldC as (s i)) := by
        apply List.ext_getElem?
        intro j
        simp only [List.getElem?_mapIdx, List.getElem?_map]
        cases hf : fs[j]? with
        | none => rfl
        | some o =>
          cases o with
          | none => rfl
          | some k =>
            have hk := hm (some k) (List.mem_of_getElem? hf) k rfl
            have hk2 : ¬ k = 1000 := by omega
            simp only [Option.map_some, fld, fldC, if_neg hk2]
      simp only [ent, entC, e]
theorem dL_0 : decode code 0 = .ok (.new 7, 3) := by decide +kernel
theorem dL_3 : decode code 3 = .ok (.dup, 1) := by decide +kernel
theorem dL_4 : decode code 4 = .ok (.invokespecial 9, 3) := by decide +kernel
theorem dL_7 : decode code 7 = .ok (.astore_n 1, 1) := by decide +kernel
theorem dL_8 : decode code 8 = .ok (.new 10, 3) := by decide +kernel
theorem dL_11 : decode code 11 = .ok (.dup, 1) := by decide +kernel
theorem dL_12 : decode code 12 = .ok (.invokespecial 12, 3) := by decide +kernel
theorem dL_15 : decode code 15 = .ok (.astore_n 2, 1) := by decide +kernel
theorem dL_16 : decode code 16 = .ok (.iconst 0, 1) := by decide +kernel
theorem dL_17 : decode code 17 = .ok (.istore_n 3, 1) := by decide +kernel
theorem lnk7 : Cond.classLink R_law 7 RX7 ∈ lw_tbl := by decide +kernel
theorem lnk9 : Cond.methodLink R_law 9 yX7_init ∈ lw_tbl := by decide +kernel
theorem lnk10 : Cond.classLink R_law 10 RX8 ∈ lw_tbl := by decide +kernel
theorem lnk12 : Cond.methodLink R_law 12 yX8_init ∈ lw_tbl := by decide +kernel
theorem ini7 : Cond.initialized RX7 ∈ lw_tbl := by decide +kernel
theorem ini8 : Cond.initialized RX8 ∈ lw_tbl := by decide +kernel
theorem ins7 : Cond.instantiable RX7 7 ∈ lw_tbl := by decide +kernel
theorem ins8 : Cond.instantiable RX8 30 ∈ lw_tbl := by decide +kernel
theorem im7 : Cond.instanceMethod yX7_init ∈ lw_tbl := by decide +kernel
theorem im8 : Cond.instanceMethod yX8_init ∈ lw_tbl := by decide +kernel
theorem no7 : nameOk hX7_init 0 := by unfold nameOk; decide +kernel
theorem no8 : nameOk hX8_init 0 := by unfold nameOk; decide +kernel
set_option maxRecDepth 100000 in
set_option maxHeartbeats 4000000 in
/-- a constructor is called by the law: the world that comes back -/
theorem lw_ctor {p : Program} {l : Launch} {e : Env} {S : State} {m : MethodId} {below : List Frame} {meth : Method} {c : Code} {b n : Nat} {xs : Nat → Int32} (C0 : lw_At p S m meth c b n xs) {D : va_G} {cI cZ : ClassId} (K : ∀ as, PK (gA D cI cZ as) S) {Qw : State → Prop}
    {hc : HD} {d mc ms o pc i : Nat} {as : List Nat} {sh : List CO} {s : Mem} {post : List CO → Mem → Prop} {H : Heap} {ls : Array Slot} {st : List Value} {cells slots : Nat}
    (hd : decode code pc = .ok (.invokespecial i, 3)) (M : CSpec l D cI cZ d mc ms hc [.inr o] sh s post) (hl : as.length = sh.length) (P : va_P D vwCl (wdC cI cZ as sh s) H) (hD : va_D (fun q => S.heap.size ≤ q) (wdC cI cZ as sh s)) (Z : va_S (fun q => S.heap.size ≤ q) S.heap H []) (N : ls.size = 4)
    (hlk : Cond.methodLink R_law i hc.1 ∈ lw_tbl) (hini : Cond.initialized hc.1.cls ∈ lw_tbl) (him : Cond.instanceMethod hc.1 ∈ lw_tbl) (hnm : hc.1.name = "<init>") (hno : nameOk hc 0) (hmx : hc.2.2.1 ≤ 41) (hdd : d < 100) (hcells : cells + mc ≤ 600000) (hslots : slots + ms ≤ 7302250) (hst : (st.map fun v => v.category).sum ≤ 8)
    (k : ∀ (as' : List Nat) (sh' : List CO) (s' : Mem) (H' : Heap), post sh' s' → as <+: as' → as'.length = sh'.length → va_P D vwCl (wdC cI cZ as' sh' s') H' → va_D (fun q => S.heap.size ≤ q) (wdC cI cZ as' sh' s') → va_S (fun q => S.heap.size ≤ q) S.heap H' [] →
      W p l e room_1 S m #[Value.ref b] below meth c H' [] (cells + mc) (slots + ms) Qw (F0 m (pc + 3) ls st)) :
    W p l e room_1 S m #[Value.ref b] below meth c H [] cells slots Qw (F0 m pc ls (.ref (as.getD o 0) :: st)) := by
  obtain ⟨hx, hb, hr, hml, hown, hts, hX, hbl, hlocks, hgv⟩ := id C0
  obtain ⟨hin, hrt, M⟩ := M
  have htg : ∀ w ∈ WSg, w.before #[Value.ref b] S = true := fun w hw => hts w (List.mem_filter.mp hw).1
  have hN : NWS S := fun w hw hn => va_Nw.of (by cases w <;> first | (simp [isNest] at hn; done) | rfl) (hts w hw)
  have hroom : (rmC d mc ms).frames + 1 ≤ room_1.frames ∧ 8 + (hc.2.2.1 + 11) + (rmC d mc ms).locals ≤ room_1.locals := ⟨by show d + 1 ≤ 2048; omega, by show 8 + (hc.2.2.1 + 11) + 60 * d ≤ 84000; omega⟩
  have hsub : ∀ q, A0 as H.size q → S.heap.size ≤ q := by
    rintro q (hq | hq)
    · obtain ⟨j, hj⟩ := List.getElem?_of_mem hq
      have hjl := (List.getElem?_eq_some_iff.mp hj).1
      have hsj : ∃ cc, sh[j]? = some cc := ⟨_, List.getElem?_eq_getElem (by omega)⟩
      obtain ⟨cc, hcc⟩ := hsj
      have := hD.2 j _ (wdC_get hcc)
      simpa [List.getD_eq_getElem?_getD, hj] using this
    · exact Nat.le_trans Z.1 hq
  have hpre : PreS S H (va_Pc (([.inr o] : List Vl).map (vv (gA D cI cZ as))) (fun U => U.heap.size = H.size ∧ va_P D vwCl (wdC cI cZ as sh s) U.heap ∧ PK (gA D cI cZ as) U ∧ va_D (fun _ => True) (wdC cI cZ as sh s) ∧ NWS U)) [.ref (as.getD o 0)] := by
    refine ⟨?_, fun U hU hW => ⟨rfl, by rw [hU], by rw [hU]; exact P, va_K.moved hW.alike (K as), hD.weaken (fun _ _ _ _ => trivial), NWS.warm hW hN⟩⟩
    rintro a U g mk ⟨q0, q1, qP, qK, qD, qN⟩
    exact ⟨q0, q1, qP, va_K.moved (u := U) (U := U.calling g mk a) (Vm.Alike.refl U.vm) qK, qD, NWS.same (s := U) (U := U.calling g mk a) rfl qN⟩
  have hw2 : Cond.code hc.1 hc.2.1 hc.2.2.1 hc.2.2.2 :: WSg = Cond.code hc.1 hc.2.1 hc.2.2.1 none :: WSg := by rw [hrt]
  refine W.ctor (As := []) (rest := st) (nL := 4) (cc := code) (own := R_law) (Ts := WSg) ⟨hx, hb, hml, hown, htg⟩ (M as H.size hl) ⟨callB_of 0 htg (ws_good (h := hc) hin) hw2 rfl rfl (hts _ hini) (hts _ hlk) hno hroom, hnm, hts _ him⟩ hpre rfl rfl N rfl (lv_room hst) hd ⟨hcells, hslots⟩ hsub (fun v st₀ t T' h0 e1 e2 hW hq => ?_)
  obtain ⟨⟨as1, sh1, s1, hv, hp1, hpre1, hl1, hP1, hD1⟩, hz1, hk⟩ := hq
  rw [h0] at hz1 hk
  have hv' : v = none := Outcome.returned.inj hv
  subst hv'
  refine k as1 sh1 s1 T'.heap hp1 hpre1 hl1 (by rw [e1]; exact hP1) (hD1.weaken (fun _ q _ hq => hsub q.1 hq)) ⟨Nat.le_trans Z.1 (by rw [e1]; exact hz1), fun q h1 h2 => ?_, fun _ h => by cases h⟩
  rw [e1, hk q (Nat.lt_of_lt_of_le h1 Z.1) (fun z => h2 (hsub q z))]
  exact Z.2.1 q h1 h2
set_option maxRecDepth 100000 in
set_option maxHeartbeats 4000000 in
theorem whole_open {p : Program} {e : Env} {S : State} {m : MethodId} {below : List Frame} {meth : Method} {c : Code} (l : Launch) {b L : Nat} {xs : Nat → Int32} (C0 : lw_At p S m meth c b L xs)
    (loop : ∀ (G : GG) (s : Mem), LC p S m meth c b L xs G → J75 s → AL p l e S m below meth c b G 18 [some (.inr 1000), some (.inr 0), some (.inr 49), some (.inl (nI 0))] [] s) :
    W p l e room_1 S m #[Value.ref b] below meth c S.heap [] 0 0 (lw_Z below #[Value.ref b] S) (entryFrame m ([Value.ref b] : List Value).toArray 4) := by
  obtain ⟨hx, hb, hr, hml, hown, hts, hX, hbl, hlocks, hgv⟩ := id C0
  obtain ⟨D, cI, cZ, K⟩ := known_all hts
  have hA : ∀ q : Nat, S.heap.size ≤ q → (fun q : Nat => S.heap.size ≤ q) q := fun _ h => h
  have hS : va_S (fun q : Nat => S.heap.size ≤ q) S.heap S.heap [] := va_S.rf
  have hP : va_P D vwCl [] S.heap := fun k q h => by simp at h
  have hD : va_D (fun q : Nat => S.heap.size ≤ q) [] := ⟨fun i j p q h => by simp at h, fun k q h => by simp at h⟩
  have hl := lv_entry ([.ref b]) (n := 4) (Nat.le_of_ble_eq_true rfl)
  rw [lg_entry_eq]
  generalize (lg_sl ([.ref b]) ++ List.replicate (4 - (lg_sl ([.ref b])).length) Slot.unset).toArray = ls at hl ⊢
  have hl : lv_has ls 4 [(0, .ref b)] := hl
  obtain ⟨ty7, ht7, hb7⟩ := blk_ok 7 RX7 TX7 7 rfl
  obtain ⟨ty8, ht8, hb8⟩ := blk_ok 8 RX8 TX8 30 rfl
  refine va_new (ci := 7) (fs := (blk 7).mapIdx (fldC [] (fun _ => 0))) (C := RX7) (T := TX7) (N := 7) hx hb hts (lay_all _ (List.mem_of_getElem? (i := 7) rfl)) ty7 ht7 hown (hts _ lnk7) (hts _ ins7) (hts _ ini7) (K []) hP hD hS hA rfl hb7.1 (Nat.le_of_ble_eq_true rfl) (Nat.le_of_ble_eq_true rfl) dL_0 (fun q0 H1 P1 D1 Z1 => ?_)
  refine lv_dup hx hb dL_3 rfl ?_
  have P1 : va_P D vwCl (wdC cI cZ [q0] SH_1 (fun _ _ => 0)) H1 := P1
  have D1 : va_D (fun q : Nat => S.heap.size ≤ q) (wdC cI cZ [q0] SH_1 (fun _ _ => 0)) := D1
  refine lw_ctor (o := 0) (as := [q0]) C0 K dL_4 sX7_init_0 rfl P1 D1 Z1 hl.1 lnk9 ini7 im7 rfl no7 (by decide) (by decide) (by decide) (by decide) (by simp [Value.category]) (fun as1 sh1 s1 H2 hp1 hpr1 hl1 P2 D2 Z2 => ?_)
  obtain ⟨rfl, hJ⟩ := hp1
  have eq0 : as1.getD 0 0 = q0 := getD_pre (k := 0) hpr1 (Nat.zero_lt_one)
  refine lv_astore_n (lv' := [(1, .ref q0), (0, .ref b)]) hx hb dL_7 rfl hl (by decide) rfl (fun ls hl => ?_)
  refine va_new (ci := 8) (fs := (blk 8).mapIdx (fldC [] (fun _ => 0))) (C := RX8) (T := TX8) (N := 30) hx hb hts (lay_all _ (List.mem_of_getElem? (i := 8) rfl)) ty8 ht8 hown (hts _ lnk10) (hts _ ins8) (hts _ ini8) (K as1) P2 D2 Z2 hA rfl hb8.1 (Nat.le_of_ble_eq_true rfl) (Nat.le_of_ble_eq_true rfl) dL_8 (fun q1 H3 P3 D3 Z3 => ?_)
  refine lv_dup hx hb dL_11 rfl ?_
  have hl49 : as1.length = 49 := hl1
  have ew := wdC_ext (cI := cI) (cZ := cZ) (as := as1) (sh := SH_17) (s := s1) (q := q1) (c := .inr (8, blk 8)) (f := fun _ => 0) hl1 (by decide +kernel)
  have ee : entC cI cZ (as1 ++ [q1]) (stM s1 SH_17.length (fun _ => 0)) SH_17.length (.inr (8, blk 8)) = .inr (8, (blk 8).mapIdx (fldC [] (fun _ => 0))) := by
    simp only [entC, stM_self]
    rw [hb8.2 (as1 ++ [q1])]
  rw [ee] at ew
  have P3 : va_P D vwCl (wdC cI cZ (as1 ++ [q1]) SH_19 (stM s1 49 (fun _ => 0))) H3 := by
    have : wdC cI cZ (as1 ++ [q1]) SH_19 (stM s1 49 (fun _ => 0)) = wdC cI cZ (as1 ++ [q1]) (SH_17 ++ [.inr (8, blk 8)]) (stM s1 SH_17.length (fun _ => 0)) := rfl
    rw [this, ew]
    exact P3
  have D3 : va_D (fun q : Nat => S.heap.size ≤ q) (wdC cI cZ (as1 ++ [q1]) SH_19 (stM s1 49 (fun _ => 0))) := by
    have : wdC cI cZ (as1 ++ [q1]) SH_19 (stM s1 49 (fun _ => 0)) = wdC cI cZ (as1 ++ [q1]) (SH_17 ++ [.inr (8, blk 8)]) (stM s1 SH_17.length (fun _ => 0)) := rfl
    rw [this, ew]
    exact D3
  have eq1 : (as1 ++ [q1]).getD 49 0 = q1 := by rw [← hl49]; exact getD_new
  have hlq : (as1 ++ [q1]).length = SH_19.length := by simp [hl49]
  rw [← eq1]
  refine lw_ctor (o := 49) (as := as1 ++ [q1]) C0 K dL_12 (sX8_J hJ) hlq P3 D3 Z3 hl.1 lnk12 ini8 im8 rfl no8 (by decide) (by decide) (by decide) (by decide) (by simp [Value.category]) (fun as2 sh2 s2 H4 hp2 hpr2 hl2 P4 D4 Z4 => ?_)
  obtain ⟨rfl, hJ2⟩ := hp2
  have eq2 : as2.getD 49 0 = q1 := by rw [getD_pre hpr2 (by simp [hl49])]; exact eq1
  have eq3 : as2.getD 0 0 = q0 := by rw [getD_pre hpr2 (by simp [hl49]), getD_ext (by omega)]; exact eq0
  rw [eq1]
  refine lv_astore_n (lv' := [(2, .ref q1), (1, .ref q0), (0, .ref b)]) hx hb dL_15 rfl hl (by decide) rfl (fun ls hl => ?_)
  refine lv_iconst (v := 0) hx hb dL_16 (by decide) ?_
  refine lv_istore_n (lv' := [(3, .int 0), (2, .ref q1), (1, .ref q0), (0, .ref b)]) hx hb dL_17 rfl hl (by decide) rfl (fun ls hl => ?_)
  refine W.widen (k := 600000) (n := 7302250) (by decide) (by decide) ?_
  have ewd : wd ((D, cI, cZ, fun k => if k = 1000 then b else as2.getD k 0) : GG) s2 = wdC cI cZ as2 SH_18 s2 := wd_wdC
  have hlen : SHl.length = 75 := rfl
  have inj : adI ((D, cI, cZ, fun k => if k = 1000 then b else as2.getD k 0) : GG) := by
    intro i j hi hj hij
    have hi' : i < 75 := hi
    have hj' : j < 75 := hj
    have hi2 : ¬ i = 1000 := by omega
    have hj2 : ¬ j = 1000 := by omega
    have hij : (if i = 1000 then b else as2.getD i 0) = (if j = 1000 then b else as2.getD j 0) := hij
    rw [if_neg hi2, if_neg hj2] at hij
    have a1 : ∃ cc, SH_18[i]? = some cc := ⟨_, List.getElem?_eq_getElem (by exact hi')⟩
    have a2 : ∃ cc, SH_18[j]? = some cc := ⟨_, List.getElem?_eq_getElem (by exact hj')⟩
    obtain ⟨c1, h1⟩ := a1
    obtain ⟨c2, h2⟩ := a2
    exact D4.1 i j _ _ (wdC_get h1) (wdC_get h2) hij
  have old : ∀ k, k < SHl.length → S.heap.size ≤ (((D, cI, cZ, fun k => if k = 1000 then b else as2.getD k 0) : GG).2.2.2 k) := by
    intro i hi
    have hi' : i < 75 := hi
    have hi2 : ¬ i = 1000 := by omega
    have a1 : ∃ cc, SH_18[i]? = some cc := ⟨_, List.getElem?_eq_getElem (by exact hi')⟩
    obtain ⟨c1, h1⟩ := a1
    have := D4.2 i _ (wdC_get h1)
    show S.heap.size ≤ (if i = 1000 then b else as2.getD i 0)
    rw [if_neg hi2]
    exact this
  refine loop ((D, cI, cZ, fun k => if k = 1000 then b else as2.getD k 0) : GG) s2 ⟨C0, K as2, inj, rfl, old⟩ hJ2 H4 ls (by rw [ewd]; exact P4) Z4 ⟨hl.1, hl.2.1, fun i v hi => ?_⟩
  have g0 := lv_at hl 3 rfl
  have g1 := lv_at hl 2 rfl
  have g2 := lv_at hl 1 rfl
  have g3 := lv_at hl 0 rfl
  match i, hi with
  | 0, hi => cases hi; exact g0
  | 1, hi =>
    cases hi
    show ls[1]? = some (.val (.ref (as2.getD 0 0)))
    rw [eq3]
    exact g1
  | 2, hi =>
    cases hi
    show ls[2]? = some (.val (.ref (as2.getD 49 0)))
    rw [eq2]
    exact g2
  | 3, hi => cases hi; exact g3
  | i + 4, hi => simp at hi
