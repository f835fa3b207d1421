/-! THE CLAIM OUT OF ONE WALK OF THE LAW'S BODY. Your part is whole_start (and what it stands on); all else here is the same for every law, but numbers. -/
def R_law : String := "CircusRoadLaw"
def lw_P (b : Addr) (xs : List Int32) (args : Array Value) (s : State) : Prop := args = #[.ref b] ∧ s.IntsAt b xs ∧ xs.length ≤ 2048 ∧ (Jvm.Cond.and given_1 narrow_1).before args s = true
def lw_Q (_ : Array Value) (s : State) (o : Outcome) (t : State) : Prop := o = .returned (some (.int 1)) ∧ Framed s o t [] 600000 7302250
def lw_Z (below : List Frame) (a : Array Value) (s : State) : State → Prop := fun t => ∃ o, t.status = .running ∧ Ended t below o ∧ lw_Q a s o t
/-- the law's own end, with 1 on the stack, nothing written that was there before, its room as the claim has it -/
theorem lw_ret {p : Program} {l : Launch} {e : Env} {s : State} {m : MethodId} {below : List Frame} {meth : Method} {c : Code} {b : Nat} (hx : p.tables.exec = Jvm.exec) (hb : c.code = code) (hr : meth.sig.returnType = ret) (hlocks : meth.locks = false) {pc : Nat} {H : Heap} {ls : Array Slot} (hdg : decode code pc = .ok (.ireturn, 1)) : W p l e room_1 s m #[Value.ref b] below meth c H [] 600000 7302250 (lw_Z below #[Value.ref b] s) (F0 m pc ls [.int 1]) := by
  intro T hT X
  obtain ⟨fs, hret, hrun, hended, hW, hframe⟩ := X.leave (v := some (.int 1)) (hlocks := hlocks) (fun h => by rw [hr] at h; cases h)
  have hmeth' : T.vm.method? m = some meth := X.method'
  refine ⟨T.setFrames fs, ?_, .returned (some (.int 1)), hrun, hended, rfl, ⟨_, rfl⟩, hW, hframe⟩
  jvm_step X.here [X.here.top, hx, hb, hdg, hmeth', hr, ret, narrow_b1]
  (try refine ⟨rfl, ?_⟩); (try refine ⟨rfl, ?_⟩)
  first | (intro acts; rw [hret _ acts rfl rfl rfl]) | rw [hret _ _ rfl rfl rfl]
  exact Steps.refl _
/-- what holds at the law's entry: the machine, the code, the tables' words (any of lw_tbl by 'hts w (by decide +kernel)'), the script of L ints xs at the cell b, what the Statement gives of the start (any of its parts by flat_of_before) -/
def lw_At (p : Program) (s : State) (m : MethodId) (meth : Method) (c : Code) (b L : Nat) (xs : Nat → Int32) : Prop :=
  p.tables.exec = Jvm.exec ∧ c.code = code ∧ meth.sig.returnType = ret ∧ c.maxLocals = 4 ∧ s.vm.findClass R_law = some m.cls ∧ (∀ w ∈ lw_tbl, w.before #[Value.ref b] s = true) ∧ va_X b L xs s s.heap ∧ b < s.heap.size ∧ meth.locks = false ∧ (Jvm.Cond.and given_1 narrow_1).before #[Value.ref b] s = true

def notLawNest : Cond → Bool
  | .methodLinkNest o .. => decide (o ≠ R_law)
  | _ => true
theorem lawNest_all : lw_tbl.all notLawNest = true := by decide +kernel
theorem lawNest (i : Nat) (y : MethodName) : Cond.methodLinkNest R_law i y "CircusRoad" ∉ lw_tbl := fun h => by
  have := List.all_eq_true.mp lawNest_all _ h
  simp [notLawNest] at this
/-! ===== the law's own level: its script is the cell 1000 of the addresses ===== -/
def LC (p : Program) (S : State) (m : MethodId) (meth : Method) (c : Code) (b n : Nat) (xs : Nat → Int32) (G : GG) : Prop :=
  lw_At p S m meth c b n xs ∧ PK G S ∧ adI G ∧ G.2.2.2 1000 = b ∧ ∀ k, k < SHl.length → S.heap.size ≤ G.2.2.2 k
def AL (p : Program) (l : Launch) (e : Env) (S : State) (m : MethodId) (below : List Frame) (meth : Method) (c : Code) (b : Nat) (G : GG) (pc : Nat) (L : LL) (st : List Vl) (s : Mem) : Prop :=
  ∀ (H : Heap) (ls : Array Slot), va_P G.1 vwCl (wd G s) H → va_S (fun q => S.heap.size ≤ q) S.heap H [] → lvh G ls 4 L →
    W p l e room_1 S m #[Value.ref b] below meth c H [] 600000 7302250 (lw_Z below #[Value.ref b] S) (F0 m pc ls (st.map (vv G)))
section LA
variable {p : Program} {l : Launch} {e : Env} {S : State} {m : MethodId} {below : List Frame} {meth : Method} {c : Code} {b n : Nat} {xs : Nat → Int32} {G : GG} {pc : Nat} {L : LL} {st : List Vl} {s : Mem} {x y v : Int32}
theorem al_iconst {k : Int} (C : LC p S m meth c b n xs G) (hd : decode code pc = .ok (.iconst k, 1)) (hv : Int32.ofInt k = v) (q : AL p l e S m below meth c b G (pc + 1) L (.inl v :: st) s) : AL p l e S m below meth c b G pc L st s := by
  intro H ls P Z N
  exact lv_iconst C.1.1 C.1.2.1 hd hv (q H ls P Z N)
theorem al_bipush {k : Int} (C : LC p S m meth c b n xs G) (hd : decode code pc = .ok (.bipush k, 2)) (hv : (Int8.ofInt k).toInt32 = v) (q : AL p l e S m below meth c b G (pc + 2) L (.inl v :: st) s) : AL p l e S m below meth c b G pc L st s := by
  intro H ls P Z N
  exact lv_bipush C.1.1 C.1.2.1 hd hv (q H ls P Z N)
theorem al_iload_n {i : Fin 4} (C : LC p S m meth c b n xs G) (hd : decode code pc = .ok (.iload_n i, 1)) (hL : L[(i : Nat)]? = some (some (.inl x))) (q : AL p l e S m below meth c b G (pc + 1) L (.inl x :: st) s) : AL p l e S m below meth c b G pc L st s := by
  intro H ls P Z N
  exact lv_iload_n C.1.1 C.1.2.1 hd rfl (N.2.2 i _ hL) (q H ls P Z N)
theorem al_aload_n {i : Fin 4} {o : Nat} (C : LC p S m meth c b n xs G) (hd : decode code pc = .ok (.aload_n i, 1)) (hL : L[(i : Nat)]? = some (some (.inr o))) (q : AL p l e S m below meth c b G (pc + 1) L (.inr o :: st) s) : AL p l e S m below meth c b G pc L st s := by
  intro H ls P Z N
  exact lv_aload_n C.1.1 C.1.2.1 hd rfl (N.2.2 i _ hL) (q H ls P Z N)
theorem al_iinc {i : Nat} {k : Int} (C : LC p S m meth c b n xs G) (hd : decode code pc = .ok (.iinc i k, 3)) (hL : L[i]? = some (some (.inl x))) (hv : Int32.ofInt k = v) (hi : i < 4) (q : AL p l e S m below meth c b G (pc + 3) (L.set i (some (.inl (x + v)))) st s) : AL p l e S m below meth c b G pc L st s := by
  intro H ls P Z N
  subst hv
  obtain ⟨kk, hk⟩ := List.getElem?_of_mem (lvl_mem.mpr ⟨i, _, hL, rfl⟩ : (i, vv G (.inl x)) ∈ lvl G L)
  exact lv_iinc C.1.1 C.1.2.1 hd (lvh_has N) hk rfl hi rfl (fun ls' hl => q H ls' P Z (lvh_set hl))
theorem al_iadd (C : LC p S m meth c b n xs G) (hd : decode code pc = .ok (.iadd, 1)) (q : AL p l e S m below meth c b G (pc + 1) L (.inl (x + y) :: st) s) : AL p l e S m below meth c b G pc L (.inl y :: .inl x :: st) s := by
  intro H ls P Z N
  exact lv_iadd C.1.1 C.1.2.1 hd (q H ls P Z N)
theorem al_isub (C : LC p S m meth c b n xs G) (hd : decode code pc = .ok (.isub, 1)) (q : AL p l e S m below meth c b G (pc + 1) L (.inl (x - y) :: st) s) : AL p l e S m below meth c b G pc L (.inl y :: .inl x :: st) s := by
  intro H ls P Z N
  exact lv_isub C.1.1 C.1.2.1 hd (q H ls P Z N)
theorem al_iand (C : LC p S m meth c b n xs G) (hd : decode code pc = .ok (.iand, 1)) (q : AL p l e S m below meth c b G (pc + 1) L (.inl (x &&& y) :: st) s) : AL p l e S m below meth c b G pc L (.inl y :: .inl x :: st) s := by
  intro H ls P Z N
  exact lv_iand C.1.1 C.1.2.1 hd (q H ls P Z N)
theorem al_goto {off : Int} {tgt : Nat} (C : LC p S m meth c b n xs G) (hd : decode code pc = .ok (.goto off, 3)) (ht : (pc : Int) + off = (tgt : Int)) (q : AL p l e S m below meth c b G tgt L st s) : AL p l e S m below meth c b G pc L st s := by
  intro H ls P Z N
  exact lv_goto C.1.1 C.1.2.1 hd ht (q H ls P Z N)
theorem al_if_eq {off : Int} {tgt : Nat} (C : LC p S m meth c b n xs G) (hd : decode code pc = .ok (.ifCond .eq off, 3)) (ht : (pc : Int) + off = (tgt : Int)) (kt : x = 0 → AL p l e S m below meth c b G tgt L st s) (kf : ¬ x = 0 → AL p l e S m below meth c b G (pc + 3) L st s) : AL p l e S m below meth c b G pc L (.inl x :: st) s := by
  intro H ls P Z N
  exact lv_if_eq C.1.1 C.1.2.1 hd ht (fun q => kt q H ls P Z N) (fun q => kf q H ls P Z N)
theorem al_icmp_eq {off : Int} {tgt : Nat} (C : LC p S m meth c b n xs G) (hd : decode code pc = .ok (.if_icmp .eq off, 3)) (ht : (pc : Int) + off = (tgt : Int)) (kt : x = y → AL p l e S m below meth c b G tgt L st s) (kf : ¬ x = y → AL p l e S m below meth c b G (pc + 3) L st s) : AL p l e S m below meth c b G pc L (.inl y :: .inl x :: st) s := by
  intro H ls P Z N
  exact lv_icmp_eq C.1.1 C.1.2.1 hd ht (fun q => kt q H ls P Z N) (fun q => kf q H ls P Z N)
theorem al_icmp_gt {off : Int} {tgt : Nat} (C : LC p S m meth c b n xs G) (hd : decode code pc = .ok (.if_icmp .gt off, 3)) (ht : (pc : Int) + off = (tgt : Int)) (kt : y < x → AL p l e S m below meth c b G tgt L st s) (kf : ¬ y < x → AL p l e S m below meth c b G (pc + 3) L st s) : AL p l e S m below meth c b G pc L (.inl y :: .inl x :: st) s := by
  intro H ls P Z N
  exact lv_icmp_gt C.1.1 C.1.2.1 hd ht (fun q => kt q H ls P Z N) (fun q => kf q H ls P Z N)
theorem al_len (C : LC p S m meth c b n xs G) (hd : decode code pc = .ok (.arraylength, 1)) (q : AL p l e S m below meth c b G (pc + 1) L (.inl (Int32.ofNat n) :: st) s) : AL p l e S m below meth c b G pc L (.inr 1000 :: st) s := by
  intro H ls P Z N
  have hbl := C.1.2.2.2.2.2.2.2.1
  have hb : vv G (.inr 1000) = .ref b := by rw [← C.2.2.2.1]; rfl
  rw [List.map_cons, hb]
  exact va_slen C.1.1 C.1.2.1 C.1.2.2.2.2.2.2.1 hbl (Nat.not_le.mpr hbl) Z hd (q H ls P Z N)
theorem al_scr (C : LC p S m meth c b n xs G) (hd : decode code pc = .ok (.iaload, 1)) (hi : vp_in x n) (q : AL p l e S m below meth c b G (pc + 1) L (.inl (xs x.toNatClampNeg) :: st) s) : AL p l e S m below meth c b G pc L (.inl x :: .inr 1000 :: st) s := by
  intro H ls P Z N
  have hbl := C.1.2.2.2.2.2.2.2.1
  have hb : vv G (.inr 1000) = .ref b := by rw [← C.2.2.2.1]; rfl
  rw [List.map_cons, List.map_cons, hb]
  exact va_sld C.1.1 C.1.2.1 C.1.2.2.2.2.2.2.1 hbl (Nat.not_le.mpr hbl) Z hi hd (q H ls P Z N)
theorem al_tsw {dflt lo hi : Int} {offs : Array Int} {len tgt : Nat} (C : LC p S m meth c b n xs G) (hd : decode code pc = .ok (.tableswitch dflt lo hi offs, len)) (ht : (pc : Int) + dflt = (tgt : Int)) (hlen : hi + 1 = lo + offs.size) (hpos : ∀ o ∈ offs.toList, 0 ≤ (pc : Int) + o)
    (k1 : (x.toInt < lo ∨ hi < x.toInt) → AL p l e S m below meth c b G tgt L st s) (k2 : swt x (fun t => AL p l e S m below meth c b G t L st s) pc lo offs.toList) : AL p l e S m below meth c b G pc L (.inl x :: st) s := by
  intro H ls P Z N
  by_cases hx : x.toInt < lo ∨ hi < x.toInt
  · exact lv_tableOut C.1.1 C.1.2.1 hd hx ht (k1 hx H ls P Z N)
  · have hj : (x.toInt - lo).toNat < offs.size := by omega
    have ho : offs[(x.toInt - lo).toNat]? = some offs[(x.toInt - lo).toNat] := Array.getElem?_eq_getElem hj
    have h2 := hpos _ (Array.getElem_mem_toList hj)
    refine lv_tableIn C.1.1 C.1.2.1 hd (fun q => hx (Or.inl q)) (fun q => hx (Or.inr q)) ho (tgt := ((pc : Int) + offs[(x.toInt - lo).toNat]).toNat) (by omega) ?_
    exact swt_at k2 (by rw [Array.getElem?_toList]; exact ho) (by omega) H ls P Z N
theorem al_ret (C : LC p S m meth c b n xs G) (hd : decode code pc = .ok (.ireturn, 1)) : AL p l e S m below meth c b G pc L [.inl 1] s := by
  intro H ls P Z N
  exact lw_ret C.1.1 C.1.2.1 C.1.2.2.1 C.1.2.2.2.2.2.2.2.2.1 hd
theorem al_call {hc : HD} {As : List Vl} {Q : Int32 → Mem → Prop} {i d' o ci : Nat} {T : u_T} {nF : Nat} {fs : List (Option Nat)} (C : LC p S m meth c b n xs G) (hd : decode code pc = .ok (.invokevirtual i, 3)) (hlt : d' < 1300) (ho : SHl[o]? = some (.inr (ci, fs))) (hcl : vwCl[ci]? = some (hc.1.cls, T, nF)) (hl : Cond.methodLink R_law i hc.1 ∈ lw_tbl) (hs : Cond.instanceMethod hc.1 ∈ lw_tbl) (hse : Cond.selects hc.1.cls hc.1 hc.1 ∈ lw_tbl) (hini : Cond.initialized hc.1.cls ∈ lw_tbl) (hno : nameOk hc As.length) (hmx : hc.2.2.1 ≤ 41) (hst : st.length ≤ 8)
    (M : Spec l G d' hc (.inr o :: As) s Q) (k : ∀ (r : Int32) (τ : Mem), Q r τ → AL p l e S m below meth c b G (pc + 3) L (pv hc r st) τ) : AL p l e S m below meth c b G pc L (As.reverse ++ .inr o :: st) s := by
  intro H ls P Z N
  obtain ⟨hx, hb, hr, hml, hown, hts, hX, hbl, hlocks, hgv⟩ := C.1
  have hroom : (rm d').frames + 1 ≤ room_1.frames ∧ 8 + (hc.2.2.1 + 11) + (rm d').locals ≤ room_1.locals := ⟨by show d' + 1 ≤ 2048; omega, by show 8 + (hc.2.2.1 + 11) + 60 * d' ≤ 84000; omega⟩
  have hN : NWS S := fun w hw hn => va_Nw.of (by cases w <;> first | (simp [isNest] at hn; done) | rfl) (hts w hw)
  have hpre : PreV S H hc.1.cls (G.2.2.2 o) (va_Pc ((.inr o :: As : List Vl).map (vv G)) (PIC G s)) (As.map (vv G)) := ⟨pic_blind, va_recv C.2.1 P hcl (wd_get ho), fun U hU hW => ⟨rfl, pic_at hU hW C.2.1 P C.2.2.1 hN⟩⟩
  have htg : ∀ w ∈ WSg, w.before #[Value.ref b] S = true := fun w hw => hts w (List.mem_filter.mp hw).1
  have hfix : CallFix p m c code 4 S #[Value.ref b] WSg R_law := ⟨hx, hb, hml, hown, htg⟩
  have hstk : (F0 m pc ls ((As.reverse ++ .inr o :: st).map (vv G))).stack = (As.map (vv G)).reverse ++ .ref (G.2.2.2 o) :: st.map (vv G) := by simp [vv]
  have hwd : 2 * (F0 m pc ls ((As.reverse ++ .inr o :: st).map (vv G))).monitorRoom + ((st.map (vv G)).map fun v => v.category).sum ≤ 8 := lv_room (by rw [st_cat]; exact hst)
  have hrun := W.runV (e := e) (below := below) (meth := meth) (locs := []) (cells := 600000) (slots := 7302250) (R := room_1) hfix M.2 ⟨callB_of As.length htg (ws_good (h := hc) M.1) rfl rfl rfl (hts _ hini) (hts _ hl) hno hroom, hts _ hs, hts _ hse⟩ hpre rfl (by simp) N.1 hstk hwd hd ⟨Nat.le_refl _, Nat.le_refl _⟩
  refine W.callX hrun (fun q hq => by obtain ⟨k, hk, rfl⟩ := hq; exact C.2.2.2.2 k hk) (fun v st₀ t h0 hq => ?_)
  obtain ⟨⟨r, τ, hv, hp, hb'⟩, hz, hk⟩ := hq
  rw [h0] at hz hk
  have Z1 : va_S (fun q => S.heap.size ≤ q) S.heap t.heap [] := ⟨Nat.le_trans Z.1 hz, fun q h1 h2 => by
    rw [hk q (Nat.lt_of_lt_of_le h1 Z.1) (fun z => by obtain ⟨k, hk, rfl⟩ := z; exact h2 (C.2.2.2.2 k hk))]
    exact Z.2.1 q h1 h2, fun _ h => by cases h⟩
  have hv' : v = rv hc r := Outcome.returned.inj hv
  have e3 : v.toList ++ st.map (vv G) = (pv hc r st).map (vv G) := by
    rw [hv']
    unfold rv pv
    cases hc.2.2.2 <;> rfl
  show W p l e room_1 S m #[Value.ref b] below meth c t.heap [] 600000 7302250 (lw_Z below #[Value.ref b] S) (F0 m (pc + 3) ls (v.toList ++ st.map (vv G)))
  rw [e3]
  exact k r τ hp t.heap ls hb' Z1 N
end LA
def semL (l : Launch) (G : GG) (n : Nat) (xs : Nat → Int32) (e : En) (pc : Nat) (L : LL) (st : List Vl) (s : Mem) (K : Nat → LL → List Vl → Mem → Prop) : Prop :=
  match e.1 with
  | .iconst _ => K (pc + 1) L (.inl e.2.2.2.2.1 :: st) s
  | .bipush _ => K (pc + 2) L (.inl e.2.2.2.2.1 :: st) s
  | .iload_n i => ldI L i (fun x => K (pc + 1) L (.inl x :: st) s)
  | .aload_n i => ldA L i (fun o => K (pc + 1) L (.inr o :: st) s)
  | .iinc i _ => ldI L i (fun x => K (pc + 3) (L.set i (some (.inl (x + e.2.2.2.2.1)))) st s)
  | .iadd => bi2 st (fun x y r => K (pc + 1) L (.inl (x + y) :: r) s)
  | .isub => bi2 st (fun x y r => K (pc + 1) L (.inl (x - y) :: r) s)
  | .iand => bi2 st (fun x y r => K (pc + 1) L (.inl (x &&& y) :: r) s)
  | .goto _ => K e.2.2.1 L st s
  | .arraylength => ob1 st (fun o r => bt1 (Nat.beq o 1000) (K (pc + 1) L (.inl (Int32.ofNat n) :: r) s))
  | .iaload => un1 st (fun x r => ob1 r (fun o r => bt1 (Nat.beq o 1000) (vp_in x n ∧ K (pc + 1) L (.inl (xs x.toNatClampNeg) :: r) s)))
  | .ifCond .eq _ => un1 st (fun x r => (x = 0 → K e.2.2.1 L r s) ∧ (¬ x = 0 → K (pc + 3) L r s))
  | .if_icmp .eq _ => bi2 st (fun x y r => (x = y → K e.2.2.1 L r s) ∧ (¬ x = y → K (pc + 3) L r s))
  | .if_icmp .gt _ => bi2 st (fun x y r => (y < x → K e.2.2.1 L r s) ∧ (¬ y < x → K (pc + 3) L r s))
  | .tableswitch _ lo hi offs => un1 st (fun x r => ((x.toInt < lo ∨ hi < x.toInt) → K e.2.2.1 L r s) ∧ swt x (fun t => K t L r s) pc lo offs.toList)
  | .ireturn => match st with
    | [.inl x] => x = 1
    | _ => False
  | .invokevirtual _ => bt1 (Nat.ble e.2.2.2.1 st.length) (ob1 (st.drop e.2.2.2.1) (fun o r => obj o (fun ci _ => bt1 (Nat.beq ci e.2.2.1 && Nat.ble r.length 8) (∃ (d' : Nat) (Q : Int32 → Mem → Prop), d' < 1300 ∧ Spec l G d' e.2.2.2.2.2.1 (.inr o :: (st.take e.2.2.2.1).reverse) s Q ∧ ∀ (r1 : Int32) (τ : Mem), Q r1 τ → K (pc + 3) L (pv e.2.2.2.2.2.1 r1 r) τ))))
  | _ => False
def hL_law : HD := (⟨R_law, "law", "([I)Z"⟩, code, 4, none)
set_option maxRecDepth 100000 in
set_option maxHeartbeats 4000000 in
theorem semL_ok {p : Program} {l : Launch} {ev : Env} {S : State} {m : MethodId} {below : List Frame} {meth : Method} {c : Code} {b n : Nat} {xs : Nat → Int32} {G : GG} {e : En} {pc : Nat} {L : LL} {st : List Vl} {s : Mem} {K : Nat → LL → List Vl → Mem → Prop}
    (C : LC p S m meth c b n xs G) (ho : okE hL_law pc e = true) (hK : ∀ pc L st s, K pc L st s → AL p l ev S m below meth c b G pc L st s) (hs : semL l G n xs e pc L st s K) : AL p l ev S m below meth c b G pc L st s := by
  obtain ⟨ins, len, a, b', v, hc, hnt⟩ := e
  have hd : decode code pc = .ok (ins, len) := by
    simp only [okE, Bool.and_eq_true, decide_eq_true_eq] at ho
    exact ho.1
  cases ins
  case iconst k =>
    simp only [okE, Bool.and_eq_true, decide_eq_true_eq] at ho
    obtain rfl : len = 1 := Nat.eq_of_beq_eq_true ho.2.2
    exact al_iconst C hd ho.2.1 (hK _ _ _ _ hs)
  case bipush k =>
    simp only [okE, Bool.and_eq_true, decide_eq_true_eq] at ho
    obtain rfl : len = 2 := Nat.eq_of_beq_eq_true ho.2.2
    exact al_bipush C hd ho.2.1 (hK _ _ _ _ hs)
  case iload_n i =>
    simp only [okE, Bool.and_eq_true, decide_eq_true_eq] at ho
    obtain rfl : len = 1 := Nat.eq_of_beq_eq_true ho.2
    obtain ⟨x, hx, hs⟩ := ldI_e hs
    exact al_iload_n C hd hx (hK _ _ _ _ hs)
  case aload_n i =>
    simp only [okE, Bool.and_eq_true, decide_eq_true_eq] at ho
    obtain rfl : len = 1 := Nat.eq_of_beq_eq_true ho.2
    obtain ⟨x, hx, hs⟩ := ldA_e hs
    exact al_aload_n C hd hx (hK _ _ _ _ hs)
  case iinc i k =>
    simp only [okE, Bool.and_eq_true, decide_eq_true_eq] at ho
    obtain rfl : len = 3 := Nat.eq_of_beq_eq_true ho.2.2
    obtain ⟨x, hx, hs⟩ := ldI_e hs
    exact al_iinc C hd hx ho.2.1.1 ho.2.1.2 (hK _ _ _ _ hs)
  case iadd =>
    simp only [okE, Bool.and_eq_true, decide_eq_true_eq] at ho
    obtain rfl : len = 1 := Nat.eq_of_beq_eq_true ho.2
    obtain ⟨x, y, r, rfl, hs⟩ := bi2_e hs
    exact al_iadd C hd (hK _ _ _ _ hs)
  case isub =>
    simp only [okE, Bool.and_eq_true, decide_eq_true_eq] at ho
    obtain rfl : len = 1 := Nat.eq_of_beq_eq_true ho.2
    obtain ⟨x, y, r, rfl, hs⟩ := bi2_e hs
    exact al_isub C hd (hK _ _ _ _ hs)
  case iand =>
    simp only [okE, Bool.and_eq_true, decide_eq_true_eq] at ho
    obtain rfl : len = 1 := Nat.eq_of_beq_eq_true ho.2
    obtain ⟨x, y, r, rfl, hs⟩ := bi2_e hs
    exact al_iand C hd (hK _ _ _ _ hs)
  case goto off =>
    simp only [okE, Bool.and_eq_true, decide_eq_true_eq] at ho
    obtain rfl : len = 3 := Nat.eq_of_beq_eq_true ho.2.2
    exact al_goto C hd ho.2.1 (hK _ _ _ _ hs)
  case iaload =>
    simp only [okE, Bool.and_eq_true, decide_eq_true_eq] at ho
    obtain rfl : len = 1 := Nat.eq_of_beq_eq_true ho.2
    obtain ⟨x, r, rfl, hs⟩ := un1_e hs
    obtain ⟨o, r, rfl, hs⟩ := ob1_e hs
    obtain ⟨h1, hi, hs3⟩ := bt1_e hs
    have h1 : o = 1000 := Nat.eq_of_beq_eq_true h1
    subst h1
    exact al_scr C hd hi (hK _ _ _ _ hs3)
  case arraylength =>
    simp only [okE, Bool.and_eq_true, decide_eq_true_eq] at ho
    obtain rfl : len = 1 := Nat.eq_of_beq_eq_true ho.2
    obtain ⟨o, r, rfl, hs⟩ := ob1_e hs
    obtain ⟨h1, hs3⟩ := bt1_e hs
    have h1 : o = 1000 := Nat.eq_of_beq_eq_true h1
    subst h1
    exact al_len C hd (hK _ _ _ _ hs3)
  case ifCond cnd off =>
    simp only [okE, Bool.and_eq_true, decide_eq_true_eq] at ho
    obtain rfl : len = 3 := Nat.eq_of_beq_eq_true ho.2.2
    cases cnd
    case eq =>
      obtain ⟨x, r, rfl, h1, h2⟩ := un1_e hs
      exact al_if_eq C hd ho.2.1 (fun q => hK _ _ _ _ (h1 q)) (fun q => hK _ _ _ _ (h2 q))
    all_goals exact hs.elim
  case if_icmp cnd off =>
    simp only [okE, Bool.and_eq_true, decide_eq_true_eq] at ho
    obtain rfl : len = 3 := Nat.eq_of_beq_eq_true ho.2.2
    cases cnd
    case eq =>
      obtain ⟨x, y, r, rfl, h1, h2⟩ := bi2_e hs
      exact al_icmp_eq C hd ho.2.1 (fun q => hK _ _ _ _ (h1 q)) (fun q => hK _ _ _ _ (h2 q))
    case gt =>
      obtain ⟨x, y, r, rfl, h1, h2⟩ := bi2_e hs
      exact al_icmp_gt C hd ho.2.1 (fun q => hK _ _ _ _ (h1 q)) (fun q => hK _ _ _ _ (h2 q))
    all_goals exact hs.elim
  case tableswitch dflt lo hi offs =>
    simp only [okE, Bool.and_eq_true, decide_eq_true_eq, List.all_eq_true] at ho
    obtain ⟨x, r, rfl, h1, h2⟩ := un1_e hs
    exact al_tsw C hd ho.2.1.1 ho.2.1.2 ho.2.2 (fun q => hK _ _ _ _ (h1 q)) (swt_mono (fun t q => hK _ _ _ _ q) h2)
  case ireturn =>
    simp only [okE, Bool.and_eq_true, decide_eq_true_eq] at ho
    obtain rfl : len = 1 := Nat.eq_of_beq_eq_true ho.2
    match st, hs with
    | [.inl x], hs =>
      obtain rfl : x = 1 := hs
      exact al_ret C hd
  case invokevirtual i =>
    dsimp only [okE] at ho
    simp only [Bool.and_eq_true, decide_eq_true_eq] at ho
    obtain rfl : len = 3 := Nat.eq_of_beq_eq_true ho.2.1.1.1.1
    obtain ⟨hm1, hm2, hm3, hm4⟩ := okM_e ho.2.1.1.1.2
    dsimp only [semL] at hs
    obtain ⟨hb0, hs⟩ := bt1_e hs
    obtain ⟨o, r, hdr, hs⟩ := ob1_e hs
    obtain ⟨ci, fs, hob, hs⟩ := obj_e hs
    obtain ⟨hb1, d', Q, hlt, M, hs2⟩ := bt1_e hs
    simp only [Bool.and_eq_true] at hb1
    have hci : ci = a := Nat.eq_of_beq_eq_true hb1.1
    subst hci
    have h2 := Nat.le_of_ble_eq_true hb1.2
    have h1 := Nat.le_of_ble_eq_true hb0
    have hcl := ho.2.2
    have hm1 : Cond.methodLink R_law i hc.1 ∈ lw_tbl := by
      rcases hm1 with q | q
      · exact q
      · exact absurd q (lawNest i hc.1)
    split at hcl
    · rename_i q hq
      have hq1 : q.1 = hc.1.cls := of_decide_eq_true hcl
      have hq2 : vwCl[ci]? = some (hc.1.cls, q.2.1, q.2.2) := by rw [hq, ← hq1]
      have e1 : (st.take b').reverse.reverse ++ .inr o :: r = st := by rw [List.reverse_reverse, ← hdr, List.take_append_drop]
      have hlen : (st.take b').reverse.length = b' := by simp; omega
      have := al_call (st := r) C hd hlt hob hq2 hm1 (bIn_e ho.2.1.1.2) (bIn_e ho.2.1.2) hm2 (by rw [hlen]; exact hm3) hm4 h2 M (fun r τ q => hK _ _ _ _ (hs2 r τ q))
      rw [e1] at this
      exact this
    · cases hcl
  all_goals exact hs.elim
def okL (pc : Nat) (e : En) : Bool := okE hL_law pc e
def tbOkL (tb : List (Option En)) : Prop := ∀ pc e, tb[pc]? = some (some e) → okL pc e = true
def wpsL (p : Program) (l : Launch) (ev : Env) (S : State) (m : MethodId) (below : List Frame) (meth : Method) (c : Code) (b n : Nat) (xs : Nat → Int32) (G : GG) (tb : List (Option En)) (cut : List Nat) : Nat → Nat → LL → List Vl → Mem → Prop
  | 0, pc, L, st, s => AL p l ev S m below meth c b G pc L st s
  | k + 1, pc, L, st, s => match tb[pc]? with
    | some (some e) => semL l G n xs e pc L st s (fun pc L st s => match cut.elem pc with
      | true => AL p l ev S m below meth c b G pc L st s
      | false => wpsL p l ev S m below meth c b n xs G tb cut k pc L st s)
    | _ => False
theorem wpsL_ok {p : Program} {l : Launch} {ev : Env} {S : State} {m : MethodId} {below : List Frame} {meth : Method} {c : Code} {b n : Nat} {xs : Nat → Int32} {G : GG} {tb : List (Option En)} {cut : List Nat} (C : LC p S m meth c b n xs G) (ho : tbOkL tb) : ∀ (k pc : Nat) (L : LL) (st : List Vl) (s : Mem), wpsL p l ev S m below meth c b n xs G tb cut k pc L st s → AL p l ev S m below meth c b G pc L st s
  | 0, _, _, _, _, q => q
  | k + 1, pc, L, st, s, q => by
    unfold wpsL at q
    split at q
    · rename_i e he
      refine semL_ok C (ho pc e he) ?_ q
      intro pc L st s q
      split at q
      · exact q
      · exact wpsL_ok C ho k pc L st s q
    · exact q.elim
def okRange (tb : List (Option En)) (lo n : Nat) : Bool := (((tb.drop lo).take n).mapIdx (fun j o => match o with
    | some e => okL (lo + j) e
    | none => true)).all id
theorem okRange_e {tb : List (Option En)} {lo n pc : Nat} {e : En} (h : okRange tb lo n = true) (h1 : lo ≤ pc) (h2 : pc < lo + n) (he : tb[pc]? = some (some e)) : okL pc e = true := by
  have h3 : ((tb.drop lo).take n)[pc - lo]? = some (some e) := by
    rw [List.getElem?_take_of_lt (by omega), List.getElem?_drop, ← he]
    congr 1
    omega
  have := List.all_eq_true.mp h _ (List.mem_of_getElem? (i := pc - lo) (by rw [List.getElem?_mapIdx, h3]; rfl))
  simp only [id] at this
  rw [show lo + (pc - lo) = pc by omega] at this
  exact this

