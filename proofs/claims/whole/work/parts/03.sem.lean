/-! ===== what an instruction asks of what comes behind it; a run of instructions by one row ===== -/
def un1 (st : List Vl) (f : Int32 → List Vl → Prop) : Prop := match st with
  | .inl x :: r => f x r
  | _ => False
def bi2 (st : List Vl) (f : Int32 → Int32 → List Vl → Prop) : Prop := match st with
  | .inl y :: .inl x :: r => f x y r
  | _ => False
def ldI (L : LL) (i : Nat) (f : Int32 → Prop) : Prop := match L[i]? with
  | some (some (.inl x)) => f x
  | _ => False
def ldA (L : LL) (i : Nat) (f : Nat → Prop) : Prop := match L[i]? with
  | some (some (.inr x)) => f x
  | _ => False
def ob1 (st : List Vl) (f : Nat → List Vl → Prop) : Prop := match st with
  | .inr o :: r => f o r
  | _ => False
def obj (o : Nat) (f : Nat → List (Option Nat) → Prop) : Prop := match SHl[o]? with
  | some (.inr (ci, fs)) => f ci fs
  | _ => False
def arr (o t : Nat) (f : Nat → Prop) : Prop := match SHl[o]? with
  | some (.inl (t', n)) => match Nat.beq t t' with
    | true => f n
    | false => False
  | _ => False
def bt1 (b : Bool) (P : Prop) : Prop := match b with
  | true => P
  | false => False
def bool01 (x : Int32) : Prop := x = 0 ∨ x = 1
def sem (l : Launch) (G : GG) (d : Nat) (h : HD) (e : En) (pc : Nat) (L : LL) (st : List Vl) (s : Mem) (post : Int32 → Mem → Prop) (K : Nat → LL → List Vl → Mem → Prop) : Prop :=
  match e.1 with
  | .iconst _ => K (pc + 1) L (.inl e.2.2.2.2.1 :: st) s
  | .bipush _ => K (pc + 2) L (.inl e.2.2.2.2.1 :: st) s
  | .sipush _ => K (pc + 3) L (.inl e.2.2.2.2.1 :: st) s
  | .ldc _ => K (pc + 2) L (.inl e.2.2.2.2.1 :: st) s
  | .ldc_w _ => K (pc + 3) L (.inl e.2.2.2.2.1 :: st) s
  | .iload i => ldI L i (fun x => K (pc + 2) L (.inl x :: st) s)
  | .iload_n i => ldI L i (fun x => K (pc + 1) L (.inl x :: st) s)
  | .aload_n i => ldA L i (fun o => K (pc + 1) L (.inr o :: st) s)
  | .istore i => un1 st (fun x r => K (pc + 2) (L.set i (some (.inl x))) r s)
  | .istore_n i => un1 st (fun x r => K (pc + 1) (L.set i (some (.inl x))) r s)
  | .iinc i _ => ldI L i (fun x => K (pc + 3) (L.set i (some (.inl (x + e.2.2.2.2.1)))) st s)
  | .iadd => bi2 st (fun x y r => K (pc + 1) L (.inl (x + y) :: r) s)
  | .isub => bi2 st (fun x y r => K (pc + 1) L (.inl (x - y) :: r) s)
  | .imul => bi2 st (fun x y r => K (pc + 1) L (.inl (x * y) :: r) s)
  | .iand => bi2 st (fun x y r => K (pc + 1) L (.inl (x &&& y) :: r) s)
  | .ior => bi2 st (fun x y r => K (pc + 1) L (.inl (x ||| y) :: r) s)
  | .ixor => bi2 st (fun x y r => K (pc + 1) L (.inl (x ^^^ y) :: r) s)
  | .ishl => bi2 st (fun x y r => K (pc + 1) L (.inl (x <<< (y &&& 31)) :: r) s)
  | .ishr => bi2 st (fun x y r => K (pc + 1) L (.inl (x >>> (y &&& 31)) :: r) s)
  | .iushr => bi2 st (fun x y r => K (pc + 1) L (.inl ((x.toUInt32 >>> (y.toUInt32 &&& Int32.toUInt32 31)).toInt32) :: r) s)
  | .idiv => bi2 st (fun x y r => ¬ y = 0 ∧ K (pc + 1) L (.inl (x / y) :: r) s)
  | .irem => bi2 st (fun x y r => ¬ y = 0 ∧ K (pc + 1) L (.inl (x - x / y * y) :: r) s)
  | .ineg => un1 st (fun x r => K (pc + 1) L (.inl (-x) :: r) s)
  | .goto _ => K e.2.2.1 L st s
  | .dup => match st with
    | a :: r => K (pc + 1) L (a :: a :: r) s
    | _ => False
  | .dup2 => match st with
    | a :: b :: r => K (pc + 1) L (a :: b :: a :: b :: r) s
    | _ => False
  | .iaload => un1 st (fun x r => ob1 r (fun o r => arr o 0 (fun n => vp_in x n ∧ K (pc + 1) L (.inl (s o x.toNatClampNeg) :: r) s)))
  | .baload => un1 st (fun x r => ob1 r (fun o r => arr o 1 (fun n => vp_in x n ∧ K (pc + 1) L (.inl (s o x.toNatClampNeg) :: r) s)))
  | .iastore => bi2 st (fun y x r => ob1 r (fun o r => arr o 0 (fun n => vp_in y n ∧ K (pc + 1) L r (wrM s o y.toNatClampNeg x))))
  | .bastore => bi2 st (fun y x r => ob1 r (fun o r => arr o 1 (fun n => vp_in y n ∧ K (pc + 1) L r (wrM s o y.toNatClampNeg (vp_nar .boolean x)))))
  | .getfield _ => ob1 st (fun o r => obj o (fun ci fs => bt1 (Nat.beq ci e.2.2.1) (match fs[e.2.2.2.1]? with
    | some none => K (pc + 3) L (.inl (s o e.2.2.2.1) :: r) s
    | some (some q) => K (pc + 3) L (.inr q :: r) s
    | none => False)))
  | .putfield _ => un1 st (fun x r => ob1 r (fun o r => obj o (fun ci fs => bt1 (Nat.beq ci e.2.2.1) (match fs[e.2.2.2.1]? with
    | some none => match e.2.2.2.2.1 == 0 with
      | true => K (pc + 3) L r (wrM s o e.2.2.2.1 x)
      | false => bool01 x ∧ K (pc + 3) L r (wrM s o e.2.2.2.1 x)
    | _ => False))))
  | .ifCond .eq _ => un1 st (fun x r => (x = 0 → K e.2.2.1 L r s) ∧ (¬ x = 0 → K (pc + 3) L r s))
  | .ifCond .ne _ => un1 st (fun x r => (¬ x = 0 → K e.2.2.1 L r s) ∧ (x = 0 → K (pc + 3) L r s))
  | .ifCond .lt _ => un1 st (fun x r => (x < 0 → K e.2.2.1 L r s) ∧ (¬ x < 0 → K (pc + 3) L r s))
  | .ifCond .ge _ => un1 st (fun x r => (0 ≤ x → K e.2.2.1 L r s) ∧ (¬ 0 ≤ x → K (pc + 3) L r s))
  | .ifCond .gt _ => un1 st (fun x r => (0 < x → K e.2.2.1 L r s) ∧ (¬ 0 < x → K (pc + 3) L r s))
  | .ifCond .le _ => un1 st (fun x r => (x ≤ 0 → K e.2.2.1 L r s) ∧ (¬ x ≤ 0 → K (pc + 3) L r s))
  | .if_icmp .eq _ => bi2 st (fun x y r => (x = y → K e.2.2.1 L r s) ∧ (¬ x = y → K (pc + 3) L r s))
  | .if_icmp .ne _ => bi2 st (fun x y r => (¬ x = y → K e.2.2.1 L r s) ∧ (x = y → K (pc + 3) L r s))
  | .if_icmp .lt _ => bi2 st (fun x y r => (x < y → K e.2.2.1 L r s) ∧ (¬ x < y → K (pc + 3) L r s))
  | .if_icmp .ge _ => bi2 st (fun x y r => (y ≤ x → K e.2.2.1 L r s) ∧ (¬ y ≤ x → K (pc + 3) L r s))
  | .if_icmp .gt _ => bi2 st (fun x y r => (y < x → K e.2.2.1 L r s) ∧ (¬ y < x → K (pc + 3) L r s))
  | .if_icmp .le _ => bi2 st (fun x y r => (x ≤ y → K e.2.2.1 L r s) ∧ (¬ x ≤ y → K (pc + 3) L r s))
  | .tableswitch _ lo hi offs => un1 st (fun x r => ((x.toInt < lo ∨ hi < x.toInt) → K e.2.2.1 L r s) ∧ swt x (fun t => K t L r s) pc lo offs.toList)
  | .ireturn => match st with
    | [.inl x] => match h.2.2.2 with
      | some .int => post x s
      | some .boolean => bool01 x ∧ post x s
      | _ => False
    | _ => False
  | .return_ => match st, h.2.2.2 with
    | [], none => post 0 s
    | _, _ => False
  | .invokestatic _ => match Nat.beq e.2.2.1 9 with
    | true => match st with
      | .inl n :: .inl dp :: .inr a :: .inl sp :: .inr a0 :: r => bt1 (Nat.ble r.length 8) (arr a0 0 (fun n0 => arr a 0 (fun n1 => (1 ≤ d ∧ ¬ sp < 0 ∧ ¬ dp < 0 ∧ ¬ n < 0 ∧ sp.toNatClampNeg + n.toNatClampNeg ≤ n0 ∧ dp.toNatClampNeg + n.toNatClampNeg ≤ n1) ∧ K (pc + 3) L r (stM s a (va_cpy (s a0) (s a) sp.toNatClampNeg dp.toNatClampNeg n.toNatClampNeg)))))
      | _ => False
    | false => match Nat.beq e.2.2.1 8 with
      | true => bi2 st (fun x y r => bt1 (Nat.ble r.length 8) (1 ≤ d ∧ K (pc + 3) L (.inl (if x < y then y else x) :: r) s))
      | false => match Nat.beq e.2.2.1 7 with
        | true => bi2 st (fun x y r => bt1 (Nat.ble r.length 8) (1 ≤ d ∧ K (pc + 3) L (.inl (if y < x then y else x) :: r) s))
        | false => bt1 (Nat.ble e.2.2.2.1 st.length && Nat.ble (st.drop e.2.2.2.1).length 8) (∃ (d' : Nat) (Q : Int32 → Mem → Prop), d' < d ∧ Spec l G d' e.2.2.2.2.2.1 (st.take e.2.2.2.1).reverse s Q ∧ ∀ (r : Int32) (τ : Mem), Q r τ → K (pc + 3) L (pv e.2.2.2.2.2.1 r (st.drop e.2.2.2.1)) τ)
  | .invokevirtual _ => bt1 (Nat.ble e.2.2.2.1 st.length) (ob1 (st.drop e.2.2.2.1) (fun o r => obj o (fun ci _ => bt1 (Nat.beq ci e.2.2.1 && Nat.ble r.length 8) (∃ (d' : Nat) (Q : Int32 → Mem → Prop), d' < d ∧ Spec l G d' e.2.2.2.2.2.1 (.inr o :: (st.take e.2.2.2.1).reverse) s Q ∧ ∀ (r1 : Int32) (τ : Mem), Q r1 τ → K (pc + 3) L (pv e.2.2.2.2.2.1 r1 r) τ))))
  | _ => False
def bIn (i : Nat) (w : Cond) : Bool := decide (lw_tbl[i]? = some w)
def okF (hs : List Nat) (h : HD) (i ci j : Nat) : Bool := match vwCl[ci]? with
  | some q => decide (j < q.2.2) && (bIn (hs.getD 0 0) (.fieldLink h.1.cls i (q.2.1 j).1 (q.2.1 j).2.1 (q.2.1 j).2.2.1) || bIn (hs.getD 0 0) (.fieldLinkNest h.1.cls i (q.2.1 j).1 (q.2.1 j).2.1 (q.2.1 j).2.2.1 "CircusRoad"))
  | none => false
def okP (ci j : Nat) (v : Int32) : Bool := match vwCl[ci]? with
  | some q => !(q.2.1 j).2.2.2 && decide (parseFieldDescriptor (q.2.1 j).2.2.1 = some (if v = 0 then .int else .boolean))
  | none => false
def okM (hs : List Nat) (h hc : HD) (i n : Nat) : Bool := (bIn (hs.getD 0 0) (.methodLink h.1.cls i hc.1) || bIn (hs.getD 0 0) (.methodLinkNest h.1.cls i hc.1 "CircusRoad")) && bIn (hs.getD 1 0) (.initialized hc.1.cls) && decide (hc.1.cls ≠ "java/lang/invoke/MethodHandle" ∧ hc.1.cls ≠ "java/lang/invoke/VarHandle" ∧ (parseMethodDescriptor hc.1.desc).map (fun d => d.parameters.length) = some n) && Nat.ble hc.2.2.1 41
/-- an entry says what the bytes are, and its links stand among the tables' words -/
def okE (h : HD) (pc : Nat) (e : En) : Bool := decide (decode h.2.1 pc = .ok (e.1, e.2.1)) && match e.1 with
  | .iconst n => decide (Int32.ofInt n = e.2.2.2.2.1) && Nat.beq e.2.1 1
  | .bipush n => decide ((Int8.ofInt n).toInt32 = e.2.2.2.2.1) && Nat.beq e.2.1 2
  | .sipush n => decide ((Int16.ofInt n).toInt32 = e.2.2.2.2.1) && Nat.beq e.2.1 3
  | .ldc i => bIn (e.2.2.2.2.2.2.getD 0 0) (.constant h.1.cls i e.2.2.2.2.1) && Nat.beq e.2.1 2
  | .ldc_w i => bIn (e.2.2.2.2.2.2.getD 0 0) (.constant h.1.cls i e.2.2.2.2.1) && Nat.beq e.2.1 3
  | .iload _ => Nat.beq e.2.1 2
  | .istore i => decide (i < h.2.2.1) && Nat.beq e.2.1 2
  | .istore_n i => decide ((i : Nat) < h.2.2.1) && Nat.beq e.2.1 1
  | .iinc i n => decide (Int32.ofInt n = e.2.2.2.2.1) && decide (i < h.2.2.1) && Nat.beq e.2.1 3
  | .goto off => decide ((pc : Int) + off = (e.2.2.1 : Int)) && Nat.beq e.2.1 3
  | .ifCond _ off => decide ((pc : Int) + off = (e.2.2.1 : Int)) && Nat.beq e.2.1 3
  | .if_icmp _ off => decide ((pc : Int) + off = (e.2.2.1 : Int)) && Nat.beq e.2.1 3
  | .getfield i => okF e.2.2.2.2.2.2 h i e.2.2.1 e.2.2.2.1 && Nat.beq e.2.1 3
  | .putfield i => okF e.2.2.2.2.2.2 h i e.2.2.1 e.2.2.2.1 && okP e.2.2.1 e.2.2.2.1 e.2.2.2.2.1 && Nat.beq e.2.1 3
  | .tableswitch dflt lo hi offs => decide ((pc : Int) + dflt = (e.2.2.1 : Int)) && decide (hi + 1 = lo + offs.size) && offs.toList.all (fun o => decide (0 ≤ (pc : Int) + o))
  | .invokestatic i => Nat.beq e.2.1 3 && match Nat.beq e.2.2.1 9 with
    | true => bIn (e.2.2.2.2.2.2.getD 0 0) (.methodLink h.1.cls i arraycopyName) && bIn (e.2.2.2.2.2.2.getD 1 0) (.native arraycopyName) && bIn (e.2.2.2.2.2.2.getD 2 0) (.static arraycopyName) && bIn (e.2.2.2.2.2.2.getD 3 0) (.initialized "java/lang/System")
    | false => match Nat.beq e.2.2.1 8 with
      | true => bIn (e.2.2.2.2.2.2.getD 0 0) (.methodLink h.1.cls i Lib.Math.max.name) && bIn (e.2.2.2.2.2.2.getD 1 0) (.static Lib.Math.max.name) && bIn (e.2.2.2.2.2.2.getD 2 0) (.initialized "java/lang/Math") && bIn (e.2.2.2.2.2.2.getD 3 0) (.code Lib.Math.max.name Lib.Math.max.code 2 (some .int))
      | false => match Nat.beq e.2.2.1 7 with
        | true => bIn (e.2.2.2.2.2.2.getD 0 0) (.methodLink h.1.cls i Lib.Math.min.name) && bIn (e.2.2.2.2.2.2.getD 1 0) (.static Lib.Math.min.name) && bIn (e.2.2.2.2.2.2.getD 2 0) (.initialized "java/lang/Math") && bIn (e.2.2.2.2.2.2.getD 3 0) (.code Lib.Math.min.name Lib.Math.min.code 2 (some .int))
        | false => okM e.2.2.2.2.2.2 h e.2.2.2.2.2.1 i e.2.2.2.1 && bIn (e.2.2.2.2.2.2.getD 2 0) (.static e.2.2.2.2.2.1.1)
  | .invokevirtual i => Nat.beq e.2.1 3 && okM e.2.2.2.2.2.2 h e.2.2.2.2.2.1 i e.2.2.2.1 && bIn (e.2.2.2.2.2.2.getD 2 0) (.instanceMethod e.2.2.2.2.2.1.1) && bIn (e.2.2.2.2.2.2.getD 3 0) (.selects e.2.2.2.2.2.1.1.cls e.2.2.2.2.2.1.1 e.2.2.2.2.2.1.1) && (match vwCl[e.2.2.1]? with
    | some q => decide (q.1 = e.2.2.2.2.2.1.1.cls)
    | none => false)
  | _ => Nat.beq e.2.1 1
theorem un1_e {st : List Vl} {f : Int32 → List Vl → Prop} (h : un1 st f) : ∃ x r, st = .inl x :: r ∧ f x r := by
  match st, h with
  | .inl x :: r, h => exact ⟨x, r, rfl, h⟩
theorem bi2_e {st : List Vl} {f : Int32 → Int32 → List Vl → Prop} (h : bi2 st f) : ∃ x y r, st = .inl y :: .inl x :: r ∧ f x y r := by
  match st, h with
  | .inl y :: .inl x :: r, h => exact ⟨x, y, r, rfl, h⟩
theorem ob1_e {st : List Vl} {f : Nat → List Vl → Prop} (h : ob1 st f) : ∃ x r, st = .inr x :: r ∧ f x r := by
  match st, h with
  | .inr x :: r, h => exact ⟨x, r, rfl, h⟩
theorem ldI_e {L : LL} {i : Nat} {f : Int32 → Prop} (h : ldI L i f) : ∃ x, L[i]? = some (some (.inl x)) ∧ f x := by
  unfold ldI at h
  split at h
  · rename_i x hx; exact ⟨x, hx, h⟩
  · exact h.elim
theorem ldA_e {L : LL} {i : Nat} {f : Nat → Prop} (h : ldA L i f) : ∃ x, L[i]? = some (some (.inr x)) ∧ f x := by
  unfold ldA at h
  split at h
  · rename_i x hx; exact ⟨x, hx, h⟩
  · exact h.elim
theorem obj_e {o : Nat} {f : Nat → List (Option Nat) → Prop} (h : obj o f) : ∃ ci fs, SHl[o]? = some (.inr (ci, fs)) ∧ f ci fs := by
  unfold obj at h
  split at h
  · rename_i ci fs hx; exact ⟨ci, fs, hx, h⟩
  · exact h.elim
theorem arr_e {o t : Nat} {f : Nat → Prop} (h : arr o t f) : ∃ n, SHl[o]? = some (.inl (t, n)) ∧ f n := by
  unfold arr at h
  split at h
  · rename_i t' n hx
    split at h
    · rename_i ht
      have : t = t' := Nat.eq_of_beq_eq_true ht
      subst this
      exact ⟨n, hx, h⟩
    · exact h.elim
  · exact h.elim
theorem bt1_e {b : Bool} {P : Prop} (h : bt1 b P) : b = true ∧ P := by
  cases b
  · exact h.elim
  · exact ⟨rfl, h⟩
theorem b01_n {x : Int32} (h : bool01 x) : narrow .boolean (.int x) = .int x ∧ fits .boolean (.int x) = true := by
  rcases h with rfl | rfl <;> exact ⟨rfl, rfl⟩
theorem bIn_e {i : Nat} {w : Cond} (h : bIn i w = true) : w ∈ lw_tbl := List.mem_of_getElem? (of_decide_eq_true h)
theorem okF_e {hs : List Nat} {h : HD} {i ci j : Nat} (ho : okF hs h i ci j = true) : ∃ C T N, vwCl[ci]? = some (C, T, N) ∧ j < N ∧ lnkF h i (T j).1 (T j).2.1 (T j).2.2.1 := by
  unfold okF at ho
  split at ho
  · rename_i q hq
    simp only [Bool.and_eq_true, Bool.or_eq_true, decide_eq_true_eq] at ho
    exact ⟨q.1, q.2.1, q.2.2, hq, ho.1, ho.2.imp bIn_e bIn_e⟩
  · cases ho
theorem okP_e {ci j N : Nat} {v : Int32} {C : String} {T : u_T} (ho : okP ci j v = true) (hc : vwCl[ci]? = some (C, T, N)) : (T j).2.2.2 = false ∧ parseFieldDescriptor (T j).2.2.1 = some (if v = 0 then .int else .boolean) := by
  unfold okP at ho
  rw [hc] at ho
  simp only [Bool.and_eq_true, Bool.not_eq_true', decide_eq_true_eq] at ho
  exact ho
theorem okM_e {hs : List Nat} {h hc : HD} {i n : Nat} (ho : okM hs h hc i n = true) : lnkM h i hc.1 ∧ Cond.initialized hc.1.cls ∈ lw_tbl ∧ nameOk hc n ∧ hc.2.2.1 ≤ 41 := by
  simp only [okM, Bool.and_eq_true, Bool.or_eq_true, decide_eq_true_eq] at ho
  exact ⟨ho.1.1.1.imp bIn_e bIn_e, bIn_e ho.1.1.2, ho.1.2, Nat.le_of_ble_eq_true ho.2⟩
theorem swt_mono {x : Int32} {K K' : Nat → Prop} {pc : Nat} (hk : ∀ t, K t → K' t) : ∀ {lo : Int} {os : List Int}, swt x K pc lo os → swt x K' pc lo os
  | _, [], _ => trivial
  | lo, o :: r, h => ⟨fun q => hk _ (h.1 q), swt_mono hk h.2⟩
set_option maxHeartbeats 4000000 in
theorem sem_ok {l : Launch} {G : GG} {d : Nat} {h : HD} {e : En} {pc : Nat} {L : LL} {st : List Vl} {s : Mem} {post : Int32 → Mem → Prop} {K : Nat → LL → List Vl → Mem → Prop}
    (ho : okE h pc e = true) (hK : ∀ pc L st s, K pc L st s → AW l G d h pc L st s post) (hs : sem l G d h e pc L st s post K) : AW l G d h pc L st s post := by
  obtain ⟨ins, len, a, b, v, hc, hnt⟩ := e
  have hd : decode h.2.1 pc = .ok (ins, len) := by
    simp only [okE, Bool.and_eq_true, decide_eq_true_eq] at ho
    exact ho.1
  cases ins
  case iconst n =>
    simp only [okE, Bool.and_eq_true, decide_eq_true_eq] at ho
    obtain rfl : len = 1 := Nat.eq_of_beq_eq_true ho.2.2
    exact as_iconst hd ho.2.1 (hK _ _ _ _ hs)
  case bipush n =>
    simp only [okE, Bool.and_eq_true, decide_eq_true_eq] at ho
    obtain rfl : len = 2 := Nat.eq_of_beq_eq_true ho.2.2
    exact as_bipush hd ho.2.1 (hK _ _ _ _ hs)
  case sipush n =>
    simp only [okE, Bool.and_eq_true, decide_eq_true_eq] at ho
    obtain rfl : len = 3 := Nat.eq_of_beq_eq_true ho.2.2
    exact as_sipush hd ho.2.1 (hK _ _ _ _ hs)
  case ldc n =>
    simp only [okE, Bool.and_eq_true, decide_eq_true_eq] at ho
    obtain rfl : len = 2 := Nat.eq_of_beq_eq_true ho.2.2
    exact as_ldc hd (bIn_e ho.2.1) (hK _ _ _ _ hs)
  case ldc_w n =>
    simp only [okE, Bool.and_eq_true, decide_eq_true_eq] at ho
    obtain rfl : len = 3 := Nat.eq_of_beq_eq_true ho.2.2
    exact as_ldcw hd (bIn_e ho.2.1) (hK _ _ _ _ hs)
  case iload i =>
    simp only [okE, Bool.and_eq_true, decide_eq_true_eq] at ho
    obtain rfl : len = 2 := Nat.eq_of_beq_eq_true ho.2
    obtain ⟨x, hx, hs⟩ := ldI_e hs
    exact as_iload hd hx (hK _ _ _ _ hs)
  case iload_n i =>
    simp only [okE, Bool.and_eq_true, decide_eq_true_eq] at ho
    obtain rfl : len = 1 := Nat.eq_of_beq_eq_true ho.2
    obtain ⟨x, hx, hs⟩ := ldI_e hs
    exact as_iload_n hd hx (hK _ _ _ _ hs)
  case aload_n i =>
    simp only [okE, Bool.and_eq_true, decide_eq_true_eq] at ho
    obtain rfl : len = 1 := Nat.eq_of_beq_eq_true ho.2
    obtain ⟨x, hx, hs⟩ := ldA_e hs
    exact as_aload_n hd hx (hK _ _ _ _ hs)
  case istore i =>
    simp only [okE, Bool.and_eq_true, decide_eq_true_eq] at ho
    obtain rfl : len = 2 := Nat.eq_of_beq_eq_true ho.2.2
    obtain ⟨x, r, rfl, hs⟩ := un1_e hs
    exact as_istore hd ho.2.1 (hK _ _ _ _ hs)
  case istore_n i =>
    simp only [okE, Bool.and_eq_true, decide_eq_true_eq] at ho
    obtain rfl : len = 1 := Nat.eq_of_beq_eq_true ho.2.2
    obtain ⟨x, r, rfl, hs⟩ := un1_e hs
    exact as_istore_n hd ho.2.1 (hK _ _ _ _ hs)
  case iinc i n =>
    simp only [okE, Bool.and_eq_true, decide_eq_true_eq] at ho
    obtain rfl : len = 3 := Nat.eq_of_beq_eq_true ho.2.2
    obtain ⟨x, hx, hs⟩ := ldI_e hs
    exact as_iinc hd hx ho.2.1.1 ho.2.1.2 (hK _ _ _ _ hs)
  case iadd =>
    simp only [okE, Bool.and_eq_true, decide_eq_true_eq] at ho
    obtain rfl : len = 1 := Nat.eq_of_beq_eq_true ho.2
    obtain ⟨x, y, r, rfl, hs⟩ := bi2_e hs
    exact as_iadd hd (hK _ _ _ _ hs)
  case isub =>
    simp only [okE, Bool.and_eq_true, decide_eq_true_eq] at ho
    obtain rfl : len = 1 := Nat.eq_of_beq_eq_true ho.2
    obtain ⟨x, y, r, rfl, hs⟩ := bi2_e hs
    exact as_isub hd (hK _ _ _ _ hs)
  case imul =>
    simp only [okE, Bool.and_eq_true, decide_eq_true_eq] at ho
    obtain rfl : len = 1 := Nat.eq_of_beq_eq_true ho.2
    obtain ⟨x, y, r, rfl, hs⟩ := bi2_e hs
    exact as_imul hd (hK _ _ _ _ hs)
  case iand =>
    simp only [okE, Bool.and_eq_true, decide_eq_true_eq] at ho
    obtain rfl : len = 1 := Nat.eq_of_beq_eq_true ho.2
    obtain ⟨x, y, r, rfl, hs⟩ := bi2_e hs
    exact as_iand hd (hK _ _ _ _ hs)
  case ior =>
    simp only [okE, Bool.and_eq_true, decide_eq_true_eq] at ho
    obtain rfl : len = 1 := Nat.eq_of_beq_eq_true ho.2
    obtain ⟨x, y, r, rfl, hs⟩ := bi2_e hs
    exact as_ior hd (hK _ _ _ _ hs)
  case ixor =>
    simp only [okE, Bool.and_eq_true, decide_eq_true_eq] at ho
    obtain rfl : len = 1 := Nat.eq_of_beq_eq_true ho.2
    obtain ⟨x, y, r, rfl, hs⟩ := bi2_e hs
    exact as_ixor hd (hK _ _ _ _ hs)
  case ishl =>
    simp only [okE, Bool.and_eq_true, decide_eq_true_eq] at ho
    obtain rfl : len = 1 := Nat.eq_of_beq_eq_true ho.2
    obtain ⟨x, y, r, rfl, hs⟩ := bi2_e hs
    exact as_ishl hd (hK _ _ _ _ hs)
  case ishr =>
    simp only [okE, Bool.and_eq_true, decide_eq_true_eq] at ho
    obtain rfl : len = 1 := Nat.eq_of_beq_eq_true ho.2
    obtain ⟨x, y, r, rfl, hs⟩ := bi2_e hs
    exact as_ishr hd (hK _ _ _ _ hs)
  case iushr =>
    simp only [okE, Bool.and_eq_true, decide_eq_true_eq] at ho
    obtain rfl : len = 1 := Nat.eq_of_beq_eq_true ho.2
    obtain ⟨x, y, r, rfl, hs⟩ := bi2_e hs
    exact as_iushr hd (hK _ _ _ _ hs)
  case idiv =>
    simp only [okE, Bool.and_eq_true, decide_eq_true_eq] at ho
    obtain rfl : len = 1 := Nat.eq_of_beq_eq_true ho.2
    obtain ⟨x, y, r, rfl, h0, hs⟩ := bi2_e hs
    exact as_idiv hd h0 (hK _ _ _ _ hs)
  case irem =>
    simp only [okE, Bool.and_eq_true, decide_eq_true_eq] at ho
    obtain rfl : len = 1 := Nat.eq_of_beq_eq_true ho.2
    obtain ⟨x, y, r, rfl, h0, hs⟩ := bi2_e hs
    exact as_irem hd h0 (hK _ _ _ _ hs)
  case ineg =>
    simp only [okE, Bool.and_eq_true, decide_eq_true_eq] at ho
    obtain rfl : len = 1 := Nat.eq_of_beq_eq_true ho.2
    obtain ⟨x, r, rfl, hs⟩ := un1_e hs
    exact as_ineg hd (hK _ _ _ _ hs)
  case goto off =>
    simp only [okE, Bool.and_eq_true, decide_eq_true_eq] at ho
    obtain rfl : len = 3 := Nat.eq_of_beq_eq_true ho.2.2
    exact as_goto hd ho.2.1 (hK _ _ _ _ hs)
  case dup =>
    simp only [okE, Bool.and_eq_true, decide_eq_true_eq] at ho
    obtain rfl : len = 1 := Nat.eq_of_beq_eq_true ho.2
    match st, hs with
    | a :: r, hs => exact as_dup hd (hK _ _ _ _ hs)
  case dup2 =>
    simp only [okE, Bool.and_eq_true, decide_eq_true_eq] at ho
    obtain rfl : len = 1 := Nat.eq_of_beq_eq_true ho.2
    match st, hs with
    | a :: b :: r, hs => exact as_dup2 hd (hK _ _ _ _ hs)
  case iaload =>
    simp only [okE, Bool.and_eq_true, decide_eq_true_eq] at ho
    obtain rfl : len = 1 := Nat.eq_of_beq_eq_true ho.2
    obtain ⟨x, r, rfl, hs⟩ := un1_e hs
    obtain ⟨o, r, rfl, hs⟩ := ob1_e hs
    obtain ⟨n, hn, hi, hs⟩ := arr_e hs
    exact as_iaload hd hn hi (hK _ _ _ _ hs)
  case baload =>
    simp only [okE, Bool.and_eq_true, decide_eq_true_eq] at ho
    obtain rfl : len = 1 := Nat.eq_of_beq_eq_true ho.2
    obtain ⟨x, r, rfl, hs⟩ := un1_e hs
    obtain ⟨o, r, rfl, hs⟩ := ob1_e hs
    obtain ⟨n, hn, hi, hs⟩ := arr_e hs
    exact as_baload hd hn hi (hK _ _ _ _ hs)
  case iastore =>
    simp only [okE, Bool.and_eq_true, decide_eq_true_eq] at ho
    obtain rfl : len = 1 := Nat.eq_of_beq_eq_true ho.2
    obtain ⟨y, x, r, rfl, hs⟩ := bi2_e hs
    obtain ⟨o, r, rfl, hs⟩ := ob1_e hs
    obtain ⟨n, hn, hi, hs⟩ := arr_e hs
    exact as_iastore hd hn hi (hK _ _ _ _ hs)
  case bastore =>
    simp only [okE, Bool.and_eq_true, decide_eq_true_eq] at ho
    obtain rfl : len = 1 := Nat.eq_of_beq_eq_true ho.2
    obtain ⟨y, x, r, rfl, hs⟩ := bi2_e hs
    obtain ⟨o, r, rfl, hs⟩ := ob1_e hs
    obtain ⟨n, hn, hi, hs⟩ := arr_e hs
    exact as_bastore hd hn hi (hK _ _ _ _ hs)
  case getfield i =>
    simp only [okE, Bool.and_eq_true, decide_eq_true_eq] at ho
    obtain rfl : len = 3 := Nat.eq_of_beq_eq_true ho.2.2
    obtain ⟨C, T, N, hcl, hj, hl⟩ := okF_e ho.2.1
    obtain ⟨o, r, rfl, hs⟩ := ob1_e hs
    obtain ⟨ci, fs, hob, hs⟩ := obj_e hs
    obtain ⟨hci, hs⟩ := bt1_e hs
    have hci : ci = a := Nat.eq_of_beq_eq_true hci
    subst hci
    dsimp only at hs hcl hj hl
    split at hs
    · rename_i hf
      exact as_get hd hob hcl hj hl hf (.inl (s o b)) rfl (hK _ _ _ _ hs)
    · rename_i q hf
      exact as_get hd hob hcl hj hl hf (.inr q) rfl (hK _ _ _ _ hs)
    · exact hs.elim
  case putfield i =>
    simp only [okE, Bool.and_eq_true, decide_eq_true_eq] at ho
    obtain rfl : len = 3 := Nat.eq_of_beq_eq_true ho.2.2
    obtain ⟨C, T, N, hcl, hj, hl⟩ := okF_e ho.2.1.1
    obtain ⟨hfin, hty⟩ := okP_e ho.2.1.2 hcl
    obtain ⟨x, r, rfl, hs⟩ := un1_e hs
    obtain ⟨o, r, rfl, hs⟩ := ob1_e hs
    obtain ⟨ci, fs, hob, hs⟩ := obj_e hs
    obtain ⟨hci, hs⟩ := bt1_e hs
    have hci : ci = a := Nat.eq_of_beq_eq_true hci
    subst hci
    dsimp only at hs hcl hj hl hfin hty
    split at hs
    · rename_i hf
      by_cases hv : v = 0
      · rw [if_pos hv] at hty
        have hvb : (v == 0) = true := by simp [hv]
        rw [hvb] at hs
        exact as_put hd hob hcl hj hl hf hfin hty rfl rfl (hK _ _ _ _ hs)
      · rw [if_neg hv] at hty
        have hvb : (v == 0) = false := by simp [hv]
        rw [hvb] at hs
        obtain ⟨h01, hs⟩ := hs
        exact as_put hd hob hcl hj hl hf hfin hty (b01_n h01).1 (b01_n h01).2 (hK _ _ _ _ hs)
    · exact hs.elim
  case ifCond cnd off =>
    simp only [okE, Bool.and_eq_true, decide_eq_true_eq] at ho
    obtain rfl : len = 3 := Nat.eq_of_beq_eq_true ho.2.2
    cases cnd
    all_goals
      obtain ⟨x, r, rfl, h1, h2⟩ := un1_e hs
      first
        | exact as_if_eq hd ho.2.1 (fun q => hK _ _ _ _ (h1 q)) (fun q => hK _ _ _ _ (h2 q))
        | exact as_if_ne hd ho.2.1 (fun q => hK _ _ _ _ (h1 q)) (fun q => hK _ _ _ _ (h2 q))
        | exact as_if_lt hd ho.2.1 (fun q => hK _ _ _ _ (h1 q)) (fun q => hK _ _ _ _ (h2 q))
        | exact as_if_ge hd ho.2.1 (fun q => hK _ _ _ _ (h1 q)) (fun q => hK _ _ _ _ (h2 q))
        | exact as_if_gt hd ho.2.1 (fun q => hK _ _ _ _ (h1 q)) (fun q => hK _ _ _ _ (h2 q))
        | exact as_if_le hd ho.2.1 (fun q => hK _ _ _ _ (h1 q)) (fun q => hK _ _ _ _ (h2 q))
  case if_icmp cnd off =>
    simp only [okE, Bool.and_eq_true, decide_eq_true_eq] at ho
    obtain rfl : len = 3 := Nat.eq_of_beq_eq_true ho.2.2
    cases cnd
    all_goals
      obtain ⟨x, y, r, rfl, h1, h2⟩ := bi2_e hs
      first
        | exact as_icmp_eq hd ho.2.1 (fun q => hK _ _ _ _ (h1 q)) (fun q => hK _ _ _ _ (h2 q))
        | exact as_icmp_ne hd ho.2.1 (fun q => hK _ _ _ _ (h1 q)) (fun q => hK _ _ _ _ (h2 q))
        | exact as_icmp_lt hd ho.2.1 (fun q => hK _ _ _ _ (h1 q)) (fun q => hK _ _ _ _ (h2 q))
        | exact as_icmp_ge hd ho.2.1 (fun q => hK _ _ _ _ (h1 q)) (fun q => hK _ _ _ _ (h2 q))
        | exact as_icmp_gt hd ho.2.1 (fun q => hK _ _ _ _ (h1 q)) (fun q => hK _ _ _ _ (h2 q))
        | exact as_icmp_le hd ho.2.1 (fun q => hK _ _ _ _ (h1 q)) (fun q => hK _ _ _ _ (h2 q))
  case tableswitch dflt lo hi offs =>
    simp only [okE, Bool.and_eq_true, decide_eq_true_eq, List.all_eq_true] at ho
    obtain ⟨x, r, rfl, h1, h2⟩ := un1_e hs
    exact as_tsw hd ho.2.1.1 ho.2.1.2 ho.2.2 (fun q => hK _ _ _ _ (h1 q)) (swt_mono (fun t q => hK _ _ _ _ q) h2)
  case ireturn =>
    simp only [okE, Bool.and_eq_true, decide_eq_true_eq] at ho
    obtain rfl : len = 1 := Nat.eq_of_beq_eq_true ho.2
    match st, hs with
    | [.inl x], hs =>
      dsimp only [sem] at hs
      split at hs
      · rename_i hr
        exact as_iret hd hr rfl hs
      · rename_i hr
        exact as_iret hd hr (b01_n hs.1).1 hs.2
      · exact hs.elim
  case return_ =>
    simp only [okE, Bool.and_eq_true, decide_eq_true_eq] at ho
    obtain rfl : len = 1 := Nat.eq_of_beq_eq_true ho.2
    dsimp only [sem] at hs
    split at hs
    · rename_i hr
      exact as_vret hd hr hs
    · exact hs.elim
  case invokestatic i =>
    dsimp only [okE] at ho
    simp only [Bool.and_eq_true, decide_eq_true_eq] at ho
    obtain rfl : len = 3 := Nat.eq_of_beq_eq_true ho.2.1
    have ho2 := ho.2.2
    dsimp only [sem] at hs
    cases ha : Nat.beq a 9 with
    | true =>
      rw [ha] at ho2 hs
      simp only [Bool.and_eq_true, decide_eq_true_eq] at ho2
      dsimp only at hs
      split at hs
      · obtain ⟨hb1, hs⟩ := bt1_e hs
        obtain ⟨n0, hn0, hs⟩ := arr_e hs
        obtain ⟨n1, hn1, ⟨p0, p1, p2, p3, p4, p5⟩, hs⟩ := arr_e hs
        exact as_copy hd (bIn_e ho2.1.1.1) (bIn_e ho2.1.1.2) (bIn_e ho2.1.2) (bIn_e ho2.2) hn0 hn1 p1 p2 p3 p4 p5 (Nat.le_of_ble_eq_true hb1) p0 (hK _ _ _ _ hs)
      · exact hs.elim
    | false =>
      rw [ha] at ho2 hs
      dsimp only at hs ho2
      cases hb8 : Nat.beq a 8 with
      | true =>
        rw [hb8] at ho2 hs
        dsimp only at hs ho2
        simp only [Bool.and_eq_true] at ho2
        obtain ⟨x, y, r, rfl, hs1⟩ := bi2_e hs
        obtain ⟨hb1, h1d, hs2⟩ := bt1_e hs1
        exact as_max hd (bIn_e ho2.1.1.1) (bIn_e ho2.1.1.2) (bIn_e ho2.1.2) (bIn_e ho2.2) (Nat.le_of_ble_eq_true hb1) h1d (hK _ _ _ _ hs2)
      | false =>
        rw [hb8] at ho2 hs
        dsimp only at hs ho2
        cases hb7 : Nat.beq a 7 with
        | true =>
          rw [hb7] at ho2 hs
          dsimp only at hs ho2
          simp only [Bool.and_eq_true] at ho2
          obtain ⟨x, y, r, rfl, hs1⟩ := bi2_e hs
          obtain ⟨hb1, h1d, hs2⟩ := bt1_e hs1
          exact as_min hd (bIn_e ho2.1.1.1) (bIn_e ho2.1.1.2) (bIn_e ho2.1.2) (bIn_e ho2.2) (Nat.le_of_ble_eq_true hb1) h1d (hK _ _ _ _ hs2)
        | false =>
          rw [hb7] at ho2 hs
          simp only [Bool.and_eq_true, decide_eq_true_eq] at ho2
          dsimp only at hs ho2
          obtain ⟨hm1, hm2, hm3, hm4⟩ := okM_e ho2.1
          obtain ⟨hb1, d', Q, hlt, M, hs⟩ := bt1_e hs
          simp only [Bool.and_eq_true] at hb1
          have h1 := Nat.le_of_ble_eq_true hb1.1
          have h2 := Nat.le_of_ble_eq_true hb1.2
          have e1 : (st.take b).reverse.reverse ++ st.drop b = st := by rw [List.reverse_reverse, List.take_append_drop]
          have hlen : (st.take b).reverse.length = b := by simp; omega
          have := as_callS (st := st.drop b) hd hlt hm1 (bIn_e ho2.2) hm2 (by rw [hlen]; exact hm3) hm4 h2 M (fun r τ q => hK _ _ _ _ (hs r τ q))
          rw [e1] at this
          exact this
  case invokevirtual i =>
    dsimp only [okE] at ho
    simp only [Bool.and_eq_true, decide_eq_true_eq] at ho
    obtain rfl : len = 3 := Nat.eq_of_beq_eq_true ho.2.1.1.1.1
    obtain ⟨hm1, hm2, hm3, hm4⟩ := okM_e ho.2.1.1.1.2
    dsimp only [sem] at hs
    obtain ⟨hb0, hs⟩ := bt1_e hs
    obtain ⟨o, r, hdr, hs⟩ := ob1_e hs
    obtain ⟨ci, fs, hob, hs⟩ := obj_e hs
    obtain ⟨hb1, d', Q, hlt, M, hs2⟩ := bt1_e hs
    simp only [Bool.and_eq_true] at hb1
    have hci : ci = a := Nat.eq_of_beq_eq_true hb1.1
    subst hci
    have h2 := Nat.le_of_ble_eq_true hb1.2
    have h1 := Nat.le_of_ble_eq_true hb0
    have hcl := ho.2.2
    split at hcl
    · rename_i q hq
      have hq1 : q.1 = hc.1.cls := of_decide_eq_true hcl
      have hq2 : vwCl[ci]? = some (hc.1.cls, q.2.1, q.2.2) := by rw [hq, ← hq1]
      have e1 : (st.take b).reverse.reverse ++ .inr o :: r = st := by rw [List.reverse_reverse, ← hdr, List.take_append_drop]
      have hlen : (st.take b).reverse.length = b := by simp; omega
      have := as_callV (st := r) hd hlt hob hq2 hm1 (bIn_e ho.2.1.1.2) (bIn_e ho.2.1.2) hm2 (by rw [hlen]; exact hm3) hm4 h2 M (fun r τ q => hK _ _ _ _ (hs2 r τ q))
      rw [e1] at this
      exact this
    · cases hcl
  all_goals exact hs.elim
def tbOk (h : HD) (tb : List (Option En)) : Prop := ∀ pc e, tb[pc]? = some (some e) → okE h pc e = true
def wps (l : Launch) (G : GG) (d : Nat) (h : HD) (tb : List (Option En)) (cut : List Nat) (post : Int32 → Mem → Prop) : Nat → Nat → LL → List Vl → Mem → Prop
  | 0, pc, L, st, s => AW l G d h pc L st s post
  | n + 1, pc, L, st, s => match tb[pc]? with
    | some (some e) => sem l G d h e pc L st s post (fun pc L st s => match cut.elem pc with
      | true => AW l G d h pc L st s post
      | false => wps l G d h tb cut post n pc L st s)
    | _ => False
theorem wps_ok {l : Launch} {G : GG} {d : Nat} {h : HD} {tb : List (Option En)} {cut : List Nat} {post : Int32 → Mem → Prop} (ho : tbOk h tb) : ∀ (n pc : Nat) (L : LL) (st : List Vl) (s : Mem), wps l G d h tb cut post n pc L st s → AW l G d h pc L st s post
  | 0, _, _, _, _, q => q
  | n + 1, pc, L, st, s, q => by
    unfold wps at q
    split at q
    · rename_i e he
      refine sem_ok (ho pc e he) ?_ q
      intro pc L st s q
      split at q
      · exact q
      · exact wps_ok ho n pc L st s q
    · exact q.elim
theorem tbOk_of {h : HD} {tb : List (Option En)} (q : (tb.mapIdx (fun pc o => match o with
    | some e => okE h pc e
    | none => true)).all id = true) : tbOk h tb := by
  intro pc e he
  have := List.all_eq_true.mp q _ (List.mem_of_getElem? (i := pc) (by rw [List.getElem?_mapIdx, he]; rfl))
  exact this
