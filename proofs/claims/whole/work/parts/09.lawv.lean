set_option maxRecDepth 100000 in
theorem vL_18 {p : Program} {l : Launch} {ev : Env} {S : State} {m : MethodId} {below : List Frame} {meth : Method} {c : Code} {b n : Nat} {xs : Nat → Int32} {G : GG} {a3 : Int32} {s : Mem} (C : LC p S m meth c b n xs G) (h :
    ((((Int32.ofNat n) - (4 : Int32)) < a3 →
      (1 : Int32) = 1) ∧
    (¬ ((Int32.ofNat n) - (4 : Int32)) < a3 →
      (vp_in a3 n ∧
      (((((xs a3.toNatClampNeg) &&& (31 : Int32)).toInt < 0 ∨ 20 < ((xs a3.toNatClampNeg) &&& (31 : Int32)).toInt) →
        AL p l ev S m below meth c b G 851 [some (.inr 1000), some (.inr 0), some (.inr 49), some (.inl a3)] [] s) ∧
      ((((xs a3.toNatClampNeg) &&& (31 : Int32)).toInt = 0 →
        AL p l ev S m below meth c b G 132 [some (.inr 1000), some (.inr 0), some (.inr 49), some (.inl a3)] [] s) ∧
      ((((xs a3.toNatClampNeg) &&& (31 : Int32)).toInt = 0 + 1 →
        AL p l ev S m below meth c b G 175 [some (.inr 1000), some (.inr 0), some (.inr 49), some (.inl a3)] [] s) ∧
      ((((xs a3.toNatClampNeg) &&& (31 : Int32)).toInt = 0 + 1 + 1 →
        AL p l ev S m below meth c b G 208 [some (.inr 1000), some (.inr 0), some (.inr 49), some (.inl a3)] [] s) ∧
      ((((xs a3.toNatClampNeg) &&& (31 : Int32)).toInt = 0 + 1 + 1 + 1 →
        AL p l ev S m below meth c b G 267 [some (.inr 1000), some (.inr 0), some (.inr 49), some (.inl a3)] [] s) ∧
      ((((xs a3.toNatClampNeg) &&& (31 : Int32)).toInt = 0 + 1 + 1 + 1 + 1 →
        AL p l ev S m below meth c b G 310 [some (.inr 1000), some (.inr 0), some (.inr 49), some (.inl a3)] [] s) ∧
      ((((xs a3.toNatClampNeg) &&& (31 : Int32)).toInt = 0 + 1 + 1 + 1 + 1 + 1 →
        AL p l ev S m below meth c b G 343 [some (.inr 1000), some (.inr 0), some (.inr 49), some (.inl a3)] [] s) ∧
      ((((xs a3.toNatClampNeg) &&& (31 : Int32)).toInt = 0 + 1 + 1 + 1 + 1 + 1 + 1 →
        AL p l ev S m below meth c b G 356 [some (.inr 1000), some (.inr 0), some (.inr 49), some (.inl a3)] [] s) ∧
      ((((xs a3.toNatClampNeg) &&& (31 : Int32)).toInt = 0 + 1 + 1 + 1 + 1 + 1 + 1 + 1 →
        AL p l ev S m below meth c b G 379 [some (.inr 1000), some (.inr 0), some (.inr 49), some (.inl a3)] [] s) ∧
      ((((xs a3.toNatClampNeg) &&& (31 : Int32)).toInt = 0 + 1 + 1 + 1 + 1 + 1 + 1 + 1 + 1 →
        AL p l ev S m below meth c b G 412 [some (.inr 1000), some (.inr 0), some (.inr 49), some (.inl a3)] [] s) ∧
      ((((xs a3.toNatClampNeg) &&& (31 : Int32)).toInt = 0 + 1 + 1 + 1 + 1 + 1 + 1 + 1 + 1 + 1 →
        AL p l ev S m below meth c b G 455 [some (.inr 1000), some (.inr 0), some (.inr 49), some (.inl a3)] [] s) ∧
      ((((xs a3.toNatClampNeg) &&& (31 : Int32)).toInt = 0 + 1 + 1 + 1 + 1 + 1 + 1 + 1 + 1 + 1 + 1 →
        AL p l ev S m below meth c b G 488 [some (.inr 1000), some (.inr 0), some (.inr 49), some (.inl a3)] [] s) ∧
      ((((xs a3.toNatClampNeg) &&& (31 : Int32)).toInt = 0 + 1 + 1 + 1 + 1 + 1 + 1 + 1 + 1 + 1 + 1 + 1 →
        AL p l ev S m below meth c b G 521 [some (.inr 1000), some (.inr 0), some (.inr 49), some (.inl a3)] [] s) ∧
      ((((xs a3.toNatClampNeg) &&& (31 : Int32)).toInt = 0 + 1 + 1 + 1 + 1 + 1 + 1 + 1 + 1 + 1 + 1 + 1 + 1 →
        AL p l ev S m below meth c b G 554 [some (.inr 1000), some (.inr 0), some (.inr 49), some (.inl a3)] [] s) ∧
      ((((xs a3.toNatClampNeg) &&& (31 : Int32)).toInt = 0 + 1 + 1 + 1 + 1 + 1 + 1 + 1 + 1 + 1 + 1 + 1 + 1 + 1 →
        AL p l ev S m below meth c b G 577 [some (.inr 1000), some (.inr 0), some (.inr 49), some (.inl a3)] [] s) ∧
      ((((xs a3.toNatClampNeg) &&& (31 : Int32)).toInt = 0 + 1 + 1 + 1 + 1 + 1 + 1 + 1 + 1 + 1 + 1 + 1 + 1 + 1 + 1 →
        AL p l ev S m below meth c b G 620 [some (.inr 1000), some (.inr 0), some (.inr 49), some (.inl a3)] [] s) ∧
      ((((xs a3.toNatClampNeg) &&& (31 : Int32)).toInt = 0 + 1 + 1 + 1 + 1 + 1 + 1 + 1 + 1 + 1 + 1 + 1 + 1 + 1 + 1 + 1 →
        AL p l ev S m below meth c b G 663 [some (.inr 1000), some (.inr 0), some (.inr 49), some (.inl a3)] [] s) ∧
      ((((xs a3.toNatClampNeg) &&& (31 : Int32)).toInt = 0 + 1 + 1 + 1 + 1 + 1 + 1 + 1 + 1 + 1 + 1 + 1 + 1 + 1 + 1 + 1 + 1 →
        AL p l ev S m below meth c b G 696 [some (.inr 1000), some (.inr 0), some (.inr 49), some (.inl a3)] [] s) ∧
      ((((xs a3.toNatClampNeg) &&& (31 : Int32)).toInt = 0 + 1 + 1 + 1 + 1 + 1 + 1 + 1 + 1 + 1 + 1 + 1 + 1 + 1 + 1 + 1 + 1 + 1 →
        AL p l ev S m below meth c b G 709 [some (.inr 1000), some (.inr 0), some (.inr 49), some (.inl a3)] [] s) ∧
      ((((xs a3.toNatClampNeg) &&& (31 : Int32)).toInt = 0 + 1 + 1 + 1 + 1 + 1 + 1 + 1 + 1 + 1 + 1 + 1 + 1 + 1 + 1 + 1 + 1 + 1 + 1 →
        AL p l ev S m below meth c b G 742 [some (.inr 1000), some (.inr 0), some (.inr 49), some (.inl a3)] [] s) ∧
      ((((xs a3.toNatClampNeg) &&& (31 : Int32)).toInt = 0 + 1 + 1 + 1 + 1 + 1 + 1 + 1 + 1 + 1 + 1 + 1 + 1 + 1 + 1 + 1 + 1 + 1 + 1 + 1 →
        AL p l ev S m below meth c b G 785 [some (.inr 1000), some (.inr 0), some (.inr 49), some (.inl a3)] [] s) ∧
      ((((xs a3.toNatClampNeg) &&& (31 : Int32)).toInt = 0 + 1 + 1 + 1 + 1 + 1 + 1 + 1 + 1 + 1 + 1 + 1 + 1 + 1 + 1 + 1 + 1 + 1 + 1 + 1 + 1 →
        AL p l ev S m below meth c b G 828 [some (.inr 1000), some (.inr 0), some (.inr 49), some (.inl a3)] [] s) ∧
      True)))))))))))))))))))))))))) :
    AL p l ev S m below meth c b G 18 [some (.inr 1000), some (.inr 0), some (.inr 49), some (.inl a3)] [] s := wpsL_ok (cut := [18, 132, 175, 208, 267, 310, 343, 356, 379, 412, 455, 488, 521, 554, 577, 620, 663, 696, 709, 742, 785, 828, 851]) C oL_law 13 18 _ _ _ h
set_option maxRecDepth 100000 in
theorem vL_132 {p : Program} {l : Launch} {ev : Env} {S : State} {m : MethodId} {below : List Frame} {meth : Method} {c : Code} {b n : Nat} {xs : Nat → Int32} {G : GG} {a3 : Int32} {s : Mem} (C : LC p S m meth c b n xs G) (h :
    (vp_in (a3 + (1 : Int32)) n ∧
    (vp_in (a3 + (2 : Int32)) n ∧
    (vp_in (a3 + (3 : Int32)) n ∧
    (∃ (d' : Nat) (Q1 : Int32 → Mem → Prop), d' < 1300 ∧ Spec l G d' hX7_act [.inr 0, .inl (xs (a3 + (1 : Int32)).toNatClampNeg), .inl (xs (a3 + (2 : Int32)).toNatClampNeg), .inl (xs (a3 + (3 : Int32)).toNatClampNeg)] s Q1 ∧ ∀ (r1 : Int32) (t1 : Mem), Q1 r1 t1 →
    (vp_in (a3 + (1 : Int32)) n ∧
    (vp_in (a3 + (2 : Int32)) n ∧
    (vp_in (a3 + (3 : Int32)) n ∧
    (∃ (d' : Nat) (Q2 : Int32 → Mem → Prop), d' < 1300 ∧ Spec l G d' hX8_act [.inr 49, .inl (xs (a3 + (1 : Int32)).toNatClampNeg), .inl (xs (a3 + (2 : Int32)).toNatClampNeg), .inl (xs (a3 + (3 : Int32)).toNatClampNeg)] t1 Q2 ∧ ∀ (r2 : Int32) (t2 : Mem), Q2 r2 t2 →
    ((r1 = r2 →
      AL p l ev S m below meth c b G 851 [some (.inr 1000), some (.inr 0), some (.inr 49), some (.inl a3)] [] t2) ∧
    (¬ r1 = r2 →
      (0 : Int32) = 1))))))))))) :
    AL p l ev S m below meth c b G 132 [some (.inr 1000), some (.inr 0), some (.inr 49), some (.inl a3)] [] s := wpsL_ok (cut := [18, 132, 175, 208, 267, 310, 343, 356, 379, 412, 455, 488, 521, 554, 577, 620, 663, 696, 709, 742, 785, 828, 851]) C oL_law 38 132 _ _ _ h
set_option maxRecDepth 100000 in
theorem vL_175 {p : Program} {l : Launch} {ev : Env} {S : State} {m : MethodId} {below : List Frame} {meth : Method} {c : Code} {b n : Nat} {xs : Nat → Int32} {G : GG} {a3 : Int32} {s : Mem} (C : LC p S m meth c b n xs G) (h :
    (vp_in (a3 + (1 : Int32)) n ∧
    (vp_in (a3 + (2 : Int32)) n ∧
    (∃ (d' : Nat) (Q1 : Int32 → Mem → Prop), d' < 1300 ∧ Spec l G d' hX7_rests [.inr 0, .inl (xs (a3 + (1 : Int32)).toNatClampNeg), .inl (xs (a3 + (2 : Int32)).toNatClampNeg)] s Q1 ∧ ∀ (r1 : Int32) (t1 : Mem), Q1 r1 t1 →
    (vp_in (a3 + (1 : Int32)) n ∧
    (vp_in (a3 + (2 : Int32)) n ∧
    (∃ (d' : Nat) (Q2 : Int32 → Mem → Prop), d' < 1300 ∧ Spec l G d' hX8_rests [.inr 49, .inl (xs (a3 + (1 : Int32)).toNatClampNeg), .inl (xs (a3 + (2 : Int32)).toNatClampNeg)] t1 Q2 ∧ ∀ (r2 : Int32) (t2 : Mem), Q2 r2 t2 →
    ((r1 = r2 →
      AL p l ev S m below meth c b G 851 [some (.inr 1000), some (.inr 0), some (.inr 49), some (.inl a3)] [] t2) ∧
    (¬ r1 = r2 →
      (0 : Int32) = 1))))))))) :
    AL p l ev S m below meth c b G 175 [some (.inr 1000), some (.inr 0), some (.inr 49), some (.inl a3)] [] s := wpsL_ok (cut := [18, 132, 175, 208, 267, 310, 343, 356, 379, 412, 455, 488, 521, 554, 577, 620, 663, 696, 709, 742, 785, 828, 851]) C oL_law 28 175 _ _ _ h
set_option maxRecDepth 100000 in
theorem vL_208 {p : Program} {l : Launch} {ev : Env} {S : State} {m : MethodId} {below : List Frame} {meth : Method} {c : Code} {b n : Nat} {xs : Nat → Int32} {G : GG} {a3 : Int32} {s : Mem} (C : LC p S m meth c b n xs G) (h :
    (vp_in (a3 + (1 : Int32)) n ∧
    (vp_in (a3 + (2 : Int32)) n ∧
    (vp_in (a3 + (3 : Int32)) n ∧
    (((xs (a3 + (3 : Int32)).toNatClampNeg) = 0 →
      (∃ (d' : Nat) (Q1 : Int32 → Mem → Prop), d' < 1300 ∧ Spec l G d' hX7_ban [.inr 0, .inl (xs (a3 + (1 : Int32)).toNatClampNeg), .inl (xs (a3 + (2 : Int32)).toNatClampNeg), .inl (0 : Int32)] s Q1 ∧ ∀ (r1 : Int32) (t1 : Mem), Q1 r1 t1 →
      (vp_in (a3 + (1 : Int32)) n ∧
      (vp_in (a3 + (2 : Int32)) n ∧
      (vp_in (a3 + (3 : Int32)) n ∧
      (((xs (a3 + (3 : Int32)).toNatClampNeg) = 0 →
        (∃ (d' : Nat) (Q2 : Int32 → Mem → Prop), d' < 1300 ∧ Spec l G d' hX8_ban [.inr 49, .inl (xs (a3 + (1 : Int32)).toNatClampNeg), .inl (xs (a3 + (2 : Int32)).toNatClampNeg), .inl (0 : Int32)] t1 Q2 ∧ ∀ (r2 : Int32) (t2 : Mem), Q2 r2 t2 →
        ((r1 = r2 →
          AL p l ev S m below meth c b G 851 [some (.inr 1000), some (.inr 0), some (.inr 49), some (.inl a3)] [] t2) ∧
        (¬ r1 = r2 →
          (0 : Int32) = 1)))) ∧
      (¬ (xs (a3 + (3 : Int32)).toNatClampNeg) = 0 →
        (∃ (d' : Nat) (Q3 : Int32 → Mem → Prop), d' < 1300 ∧ Spec l G d' hX8_ban [.inr 49, .inl (xs (a3 + (1 : Int32)).toNatClampNeg), .inl (xs (a3 + (2 : Int32)).toNatClampNeg), .inl (1 : Int32)] t1 Q3 ∧ ∀ (r3 : Int32) (t3 : Mem), Q3 r3 t3 →
        ((r1 = r3 →
          AL p l ev S m below meth c b G 851 [some (.inr 1000), some (.inr 0), some (.inr 49), some (.inl a3)] [] t3) ∧
        (¬ r1 = r3 →
          (0 : Int32) = 1)))))))))) ∧
    (¬ (xs (a3 + (3 : Int32)).toNatClampNeg) = 0 →
      (∃ (d' : Nat) (Q4 : Int32 → Mem → Prop), d' < 1300 ∧ Spec l G d' hX7_ban [.inr 0, .inl (xs (a3 + (1 : Int32)).toNatClampNeg), .inl (xs (a3 + (2 : Int32)).toNatClampNeg), .inl (1 : Int32)] s Q4 ∧ ∀ (r4 : Int32) (t4 : Mem), Q4 r4 t4 →
      (vp_in (a3 + (1 : Int32)) n ∧
      (vp_in (a3 + (2 : Int32)) n ∧
      (vp_in (a3 + (3 : Int32)) n ∧
      (((xs (a3 + (3 : Int32)).toNatClampNeg) = 0 →
        (∃ (d' : Nat) (Q5 : Int32 → Mem → Prop), d' < 1300 ∧ Spec l G d' hX8_ban [.inr 49, .inl (xs (a3 + (1 : Int32)).toNatClampNeg), .inl (xs (a3 + (2 : Int32)).toNatClampNeg), .inl (0 : Int32)] t4 Q5 ∧ ∀ (r5 : Int32) (t5 : Mem), Q5 r5 t5 →
        ((r4 = r5 →
          AL p l ev S m below meth c b G 851 [some (.inr 1000), some (.inr 0), some (.inr 49), some (.inl a3)] [] t5) ∧
        (¬ r4 = r5 →
          (0 : Int32) = 1)))) ∧
      (¬ (xs (a3 + (3 : Int32)).toNatClampNeg) = 0 →
        (∃ (d' : Nat) (Q6 : Int32 → Mem → Prop), d' < 1300 ∧ Spec l G d' hX8_ban [.inr 49, .inl (xs (a3 + (1 : Int32)).toNatClampNeg), .inl (xs (a3 + (2 : Int32)).toNatClampNeg), .inl (1 : Int32)] t4 Q6 ∧ ∀ (r6 : Int32) (t6 : Mem), Q6 r6 t6 →
        ((r4 = r6 →
          AL p l ev S m below meth c b G 851 [some (.inr 1000), some (.inr 0), some (.inr 49), some (.inl a3)] [] t6) ∧
        (¬ r4 = r6 →
          (0 : Int32) = 1))))))))))))))) :
    AL p l ev S m below meth c b G 208 [some (.inr 1000), some (.inr 0), some (.inr 49), some (.inl a3)] [] s := wpsL_ok (cut := [18, 132, 175, 208, 267, 310, 343, 356, 379, 412, 455, 488, 521, 554, 577, 620, 663, 696, 709, 742, 785, 828, 851]) C oL_law 44 208 _ _ _ h
set_option maxRecDepth 100000 in
theorem vL_267 {p : Program} {l : Launch} {ev : Env} {S : State} {m : MethodId} {below : List Frame} {meth : Method} {c : Code} {b n : Nat} {xs : Nat → Int32} {G : GG} {a3 : Int32} {s : Mem} (C : LC p S m meth c b n xs G) (h :
    (vp_in (a3 + (1 : Int32)) n ∧
    (vp_in (a3 + (2 : Int32)) n ∧
    (vp_in (a3 + (3 : Int32)) n ∧
    (∃ (d' : Nat) (Q1 : Int32 → Mem → Prop), d' < 1300 ∧ Spec l G d' hX7_judge [.inr 0, .inl (xs (a3 + (1 : Int32)).toNatClampNeg), .inl (xs (a3 + (2 : Int32)).toNatClampNeg), .inl (xs (a3 + (3 : Int32)).toNatClampNeg)] s Q1 ∧ ∀ (r1 : Int32) (t1 : Mem), Q1 r1 t1 →
    (vp_in (a3 + (1 : Int32)) n ∧
    (vp_in (a3 + (2 : Int32)) n ∧
    (vp_in (a3 + (3 : Int32)) n ∧
    (∃ (d' : Nat) (Q2 : Int32 → Mem → Prop), d' < 1300 ∧ Spec l G d' hX8_judge [.inr 49, .inl (xs (a3 + (1 : Int32)).toNatClampNeg), .inl (xs (a3 + (2 : Int32)).toNatClampNeg), .inl (xs (a3 + (3 : Int32)).toNatClampNeg)] t1 Q2 ∧ ∀ (r2 : Int32) (t2 : Mem), Q2 r2 t2 →
    ((r1 = r2 →
      AL p l ev S m below meth c b G 851 [some (.inr 1000), some (.inr 0), some (.inr 49), some (.inl a3)] [] t2) ∧
    (¬ r1 = r2 →
      (0 : Int32) = 1))))))))))) :
    AL p l ev S m below meth c b G 267 [some (.inr 1000), some (.inr 0), some (.inr 49), some (.inl a3)] [] s := wpsL_ok (cut := [18, 132, 175, 208, 267, 310, 343, 356, 379, 412, 455, 488, 521, 554, 577, 620, 663, 696, 709, 742, 785, 828, 851]) C oL_law 38 267 _ _ _ h
set_option maxRecDepth 100000 in
theorem vL_310 {p : Program} {l : Launch} {ev : Env} {S : State} {m : MethodId} {below : List Frame} {meth : Method} {c : Code} {b n : Nat} {xs : Nat → Int32} {G : GG} {a3 : Int32} {s : Mem} (C : LC p S m meth c b n xs G) (h :
    (vp_in (a3 + (1 : Int32)) n ∧
    (vp_in (a3 + (2 : Int32)) n ∧
    (∃ (d' : Nat) (Q1 : Int32 → Mem → Prop), d' < 1300 ∧ Spec l G d' hX7_gaps [.inr 0, .inl (xs (a3 + (1 : Int32)).toNatClampNeg), .inl (xs (a3 + (2 : Int32)).toNatClampNeg)] s Q1 ∧ ∀ (r1 : Int32) (t1 : Mem), Q1 r1 t1 →
    (vp_in (a3 + (1 : Int32)) n ∧
    (vp_in (a3 + (2 : Int32)) n ∧
    (∃ (d' : Nat) (Q2 : Int32 → Mem → Prop), d' < 1300 ∧ Spec l G d' hX8_gaps [.inr 49, .inl (xs (a3 + (1 : Int32)).toNatClampNeg), .inl (xs (a3 + (2 : Int32)).toNatClampNeg)] t1 Q2 ∧ ∀ (r2 : Int32) (t2 : Mem), Q2 r2 t2 →
    ((r1 = r2 →
      AL p l ev S m below meth c b G 851 [some (.inr 1000), some (.inr 0), some (.inr 49), some (.inl a3)] [] t2) ∧
    (¬ r1 = r2 →
      (0 : Int32) = 1))))))))) :
    AL p l ev S m below meth c b G 310 [some (.inr 1000), some (.inr 0), some (.inr 49), some (.inl a3)] [] s := wpsL_ok (cut := [18, 132, 175, 208, 267, 310, 343, 356, 379, 412, 455, 488, 521, 554, 577, 620, 663, 696, 709, 742, 785, 828, 851]) C oL_law 28 310 _ _ _ h
set_option maxRecDepth 100000 in
theorem vL_343 {p : Program} {l : Launch} {ev : Env} {S : State} {m : MethodId} {below : List Frame} {meth : Method} {c : Code} {b n : Nat} {xs : Nat → Int32} {G : GG} {a3 : Int32} {s : Mem} (C : LC p S m meth c b n xs G) (h :
    (∃ (d' : Nat) (Q1 : Int32 → Mem → Prop), d' < 1300 ∧ Spec l G d' hX7_best [.inr 0] s Q1 ∧ ∀ (r1 : Int32) (t1 : Mem), Q1 r1 t1 →
    (∃ (d' : Nat) (Q2 : Int32 → Mem → Prop), d' < 1300 ∧ Spec l G d' hX8_best [.inr 49] t1 Q2 ∧ ∀ (r2 : Int32) (t2 : Mem), Q2 r2 t2 →
    ((r1 = r2 →
      AL p l ev S m below meth c b G 851 [some (.inr 1000), some (.inr 0), some (.inr 49), some (.inl a3)] [] t2) ∧
    (¬ r1 = r2 →
      (0 : Int32) = 1))))) :
    AL p l ev S m below meth c b G 343 [some (.inr 1000), some (.inr 0), some (.inr 49), some (.inl a3)] [] s := wpsL_ok (cut := [18, 132, 175, 208, 267, 310, 343, 356, 379, 412, 455, 488, 521, 554, 577, 620, 663, 696, 709, 742, 785, 828, 851]) C oL_law 8 343 _ _ _ h
set_option maxRecDepth 100000 in
theorem vL_356 {p : Program} {l : Launch} {ev : Env} {S : State} {m : MethodId} {below : List Frame} {meth : Method} {c : Code} {b n : Nat} {xs : Nat → Int32} {G : GG} {a3 : Int32} {s : Mem} (C : LC p S m meth c b n xs G) (h :
    (vp_in (a3 + (1 : Int32)) n ∧
    (∃ (d' : Nat) (Q1 : Int32 → Mem → Prop), d' < 1300 ∧ Spec l G d' hX7_bestAt [.inr 0, .inl (xs (a3 + (1 : Int32)).toNatClampNeg)] s Q1 ∧ ∀ (r1 : Int32) (t1 : Mem), Q1 r1 t1 →
    (vp_in (a3 + (1 : Int32)) n ∧
    (∃ (d' : Nat) (Q2 : Int32 → Mem → Prop), d' < 1300 ∧ Spec l G d' hX8_bestAt [.inr 49, .inl (xs (a3 + (1 : Int32)).toNatClampNeg)] t1 Q2 ∧ ∀ (r2 : Int32) (t2 : Mem), Q2 r2 t2 →
    ((r1 = r2 →
      AL p l ev S m below meth c b G 851 [some (.inr 1000), some (.inr 0), some (.inr 49), some (.inl a3)] [] t2) ∧
    (¬ r1 = r2 →
      (0 : Int32) = 1))))))) :
    AL p l ev S m below meth c b G 356 [some (.inr 1000), some (.inr 0), some (.inr 49), some (.inl a3)] [] s := wpsL_ok (cut := [18, 132, 175, 208, 267, 310, 343, 356, 379, 412, 455, 488, 521, 554, 577, 620, 663, 696, 709, 742, 785, 828, 851]) C oL_law 18 356 _ _ _ h
set_option maxRecDepth 100000 in
theorem vL_379 {p : Program} {l : Launch} {ev : Env} {S : State} {m : MethodId} {below : List Frame} {meth : Method} {c : Code} {b n : Nat} {xs : Nat → Int32} {G : GG} {a3 : Int32} {s : Mem} (C : LC p S m meth c b n xs G) (h :
    (vp_in (a3 + (1 : Int32)) n ∧
    (vp_in (a3 + (2 : Int32)) n ∧
    (∃ (d' : Nat) (Q1 : Int32 → Mem → Prop), d' < 1300 ∧ Spec l G d' hX7_load [.inr 0, .inl (xs (a3 + (1 : Int32)).toNatClampNeg), .inl (xs (a3 + (2 : Int32)).toNatClampNeg)] s Q1 ∧ ∀ (r1 : Int32) (t1 : Mem), Q1 r1 t1 →
    (vp_in (a3 + (1 : Int32)) n ∧
    (vp_in (a3 + (2 : Int32)) n ∧
    (∃ (d' : Nat) (Q2 : Int32 → Mem → Prop), d' < 1300 ∧ Spec l G d' hX8_load [.inr 49, .inl (xs (a3 + (1 : Int32)).toNatClampNeg), .inl (xs (a3 + (2 : Int32)).toNatClampNeg)] t1 Q2 ∧ ∀ (r2 : Int32) (t2 : Mem), Q2 r2 t2 →
    ((r1 = r2 →
      AL p l ev S m below meth c b G 851 [some (.inr 1000), some (.inr 0), some (.inr 49), some (.inl a3)] [] t2) ∧
    (¬ r1 = r2 →
      (0 : Int32) = 1))))))))) :
    AL p l ev S m below meth c b G 379 [some (.inr 1000), some (.inr 0), some (.inr 49), some (.inl a3)] [] s := wpsL_ok (cut := [18, 132, 175, 208, 267, 310, 343, 356, 379, 412, 455, 488, 521, 554, 577, 620, 663, 696, 709, 742, 785, 828, 851]) C oL_law 28 379 _ _ _ h
set_option maxRecDepth 100000 in
theorem vL_412 {p : Program} {l : Launch} {ev : Env} {S : State} {m : MethodId} {below : List Frame} {meth : Method} {c : Code} {b n : Nat} {xs : Nat → Int32} {G : GG} {a3 : Int32} {s : Mem} (C : LC p S m meth c b n xs G) (h :
    (vp_in (a3 + (1 : Int32)) n ∧
    (vp_in (a3 + (2 : Int32)) n ∧
    (vp_in (a3 + (3 : Int32)) n ∧
    (∃ (d' : Nat) (Q1 : Int32 → Mem → Prop), d' < 1300 ∧ Spec l G d' hX7_share [.inr 0, .inl (xs (a3 + (1 : Int32)).toNatClampNeg), .inl (xs (a3 + (2 : Int32)).toNatClampNeg), .inl (xs (a3 + (3 : Int32)).toNatClampNeg)] s Q1 ∧ ∀ (r1 : Int32) (t1 : Mem), Q1 r1 t1 →
    (vp_in (a3 + (1 : Int32)) n ∧
    (vp_in (a3 + (2 : Int32)) n ∧
    (vp_in (a3 + (3 : Int32)) n ∧
    (∃ (d' : Nat) (Q2 : Int32 → Mem → Prop), d' < 1300 ∧ Spec l G d' hX8_share [.inr 49, .inl (xs (a3 + (1 : Int32)).toNatClampNeg), .inl (xs (a3 + (2 : Int32)).toNatClampNeg), .inl (xs (a3 + (3 : Int32)).toNatClampNeg)] t1 Q2 ∧ ∀ (r2 : Int32) (t2 : Mem), Q2 r2 t2 →
    ((r1 = r2 →
      AL p l ev S m below meth c b G 851 [some (.inr 1000), some (.inr 0), some (.inr 49), some (.inl a3)] [] t2) ∧
    (¬ r1 = r2 →
      (0 : Int32) = 1))))))))))) :
    AL p l ev S m below meth c b G 412 [some (.inr 1000), some (.inr 0), some (.inr 49), some (.inl a3)] [] s := wpsL_ok (cut := [18, 132, 175, 208, 267, 310, 343, 356, 379, 412, 455, 488, 521, 554, 577, 620, 663, 696, 709, 742, 785, 828, 851]) C oL_law 38 412 _ _ _ h
set_option maxRecDepth 100000 in
theorem vL_455 {p : Program} {l : Launch} {ev : Env} {S : State} {m : MethodId} {below : List Frame} {meth : Method} {c : Code} {b n : Nat} {xs : Nat → Int32} {G : GG} {a3 : Int32} {s : Mem} (C : LC p S m meth c b n xs G) (h :
    (vp_in (a3 + (1 : Int32)) n ∧
    (vp_in (a3 + (2 : Int32)) n ∧
    (∃ (d' : Nat) (Q1 : Int32 → Mem → Prop), d' < 1300 ∧ Spec l G d' hX7_exposed [.inr 0, .inl (xs (a3 + (1 : Int32)).toNatClampNeg), .inl (xs (a3 + (2 : Int32)).toNatClampNeg)] s Q1 ∧ ∀ (r1 : Int32) (t1 : Mem), Q1 r1 t1 →
    (vp_in (a3 + (1 : Int32)) n ∧
    (vp_in (a3 + (2 : Int32)) n ∧
    (∃ (d' : Nat) (Q2 : Int32 → Mem → Prop), d' < 1300 ∧ Spec l G d' hX8_exposed [.inr 49, .inl (xs (a3 + (1 : Int32)).toNatClampNeg), .inl (xs (a3 + (2 : Int32)).toNatClampNeg)] t1 Q2 ∧ ∀ (r2 : Int32) (t2 : Mem), Q2 r2 t2 →
    ((r1 = r2 →
      AL p l ev S m below meth c b G 851 [some (.inr 1000), some (.inr 0), some (.inr 49), some (.inl a3)] [] t2) ∧
    (¬ r1 = r2 →
      (0 : Int32) = 1))))))))) :
    AL p l ev S m below meth c b G 455 [some (.inr 1000), some (.inr 0), some (.inr 49), some (.inl a3)] [] s := wpsL_ok (cut := [18, 132, 175, 208, 267, 310, 343, 356, 379, 412, 455, 488, 521, 554, 577, 620, 663, 696, 709, 742, 785, 828, 851]) C oL_law 28 455 _ _ _ h
set_option maxRecDepth 100000 in
theorem vL_488 {p : Program} {l : Launch} {ev : Env} {S : State} {m : MethodId} {below : List Frame} {meth : Method} {c : Code} {b n : Nat} {xs : Nat → Int32} {G : GG} {a3 : Int32} {s : Mem} (C : LC p S m meth c b n xs G) (h :
    (vp_in (a3 + (1 : Int32)) n ∧
    (vp_in (a3 + (2 : Int32)) n ∧
    (∃ (d' : Nat) (Q1 : Int32 → Mem → Prop), d' < 1300 ∧ Spec l G d' hX7_part [.inr 0, .inl (xs (a3 + (1 : Int32)).toNatClampNeg), .inl (xs (a3 + (2 : Int32)).toNatClampNeg)] s Q1 ∧ ∀ (r1 : Int32) (t1 : Mem), Q1 r1 t1 →
    (vp_in (a3 + (1 : Int32)) n ∧
    (vp_in (a3 + (2 : Int32)) n ∧
    (∃ (d' : Nat) (Q2 : Int32 → Mem → Prop), d' < 1300 ∧ Spec l G d' hX8_part [.inr 49, .inl (xs (a3 + (1 : Int32)).toNatClampNeg), .inl (xs (a3 + (2 : Int32)).toNatClampNeg)] t1 Q2 ∧ ∀ (r2 : Int32) (t2 : Mem), Q2 r2 t2 →
    ((r1 = r2 →
      AL p l ev S m below meth c b G 851 [some (.inr 1000), some (.inr 0), some (.inr 49), some (.inl a3)] [] t2) ∧
    (¬ r1 = r2 →
      (0 : Int32) = 1))))))))) :
    AL p l ev S m below meth c b G 488 [some (.inr 1000), some (.inr 0), some (.inr 49), some (.inl a3)] [] s := wpsL_ok (cut := [18, 132, 175, 208, 267, 310, 343, 356, 379, 412, 455, 488, 521, 554, 577, 620, 663, 696, 709, 742, 785, 828, 851]) C oL_law 28 488 _ _ _ h
set_option maxRecDepth 100000 in
theorem vL_521 {p : Program} {l : Launch} {ev : Env} {S : State} {m : MethodId} {below : List Frame} {meth : Method} {c : Code} {b n : Nat} {xs : Nat → Int32} {G : GG} {a3 : Int32} {s : Mem} (C : LC p S m meth c b n xs G) (h :
    (vp_in (a3 + (1 : Int32)) n ∧
    (vp_in (a3 + (2 : Int32)) n ∧
    (∃ (d' : Nat) (Q1 : Int32 → Mem → Prop), d' < 1300 ∧ Spec l G d' hX7_slack [.inr 0, .inl (xs (a3 + (1 : Int32)).toNatClampNeg), .inl (xs (a3 + (2 : Int32)).toNatClampNeg)] s Q1 ∧ ∀ (r1 : Int32) (t1 : Mem), Q1 r1 t1 →
    (vp_in (a3 + (1 : Int32)) n ∧
    (vp_in (a3 + (2 : Int32)) n ∧
    (∃ (d' : Nat) (Q2 : Int32 → Mem → Prop), d' < 1300 ∧ Spec l G d' hX8_slack [.inr 49, .inl (xs (a3 + (1 : Int32)).toNatClampNeg), .inl (xs (a3 + (2 : Int32)).toNatClampNeg)] t1 Q2 ∧ ∀ (r2 : Int32) (t2 : Mem), Q2 r2 t2 →
    ((r1 = r2 →
      AL p l ev S m below meth c b G 851 [some (.inr 1000), some (.inr 0), some (.inr 49), some (.inl a3)] [] t2) ∧
    (¬ r1 = r2 →
      (0 : Int32) = 1))))))))) :
    AL p l ev S m below meth c b G 521 [some (.inr 1000), some (.inr 0), some (.inr 49), some (.inl a3)] [] s := wpsL_ok (cut := [18, 132, 175, 208, 267, 310, 343, 356, 379, 412, 455, 488, 521, 554, 577, 620, 663, 696, 709, 742, 785, 828, 851]) C oL_law 28 521 _ _ _ h
set_option maxRecDepth 100000 in
theorem vL_554 {p : Program} {l : Launch} {ev : Env} {S : State} {m : MethodId} {below : List Frame} {meth : Method} {c : Code} {b n : Nat} {xs : Nat → Int32} {G : GG} {a3 : Int32} {s : Mem} (C : LC p S m meth c b n xs G) (h :
    (vp_in (a3 + (1 : Int32)) n ∧
    (∃ (d' : Nat) (Q1 : Int32 → Mem → Prop), d' < 1300 ∧ Spec l G d' hX7_gone [.inr 0, .inl (xs (a3 + (1 : Int32)).toNatClampNeg)] s Q1 ∧ ∀ (r1 : Int32) (t1 : Mem), Q1 r1 t1 →
    (vp_in (a3 + (1 : Int32)) n ∧
    (∃ (d' : Nat) (Q2 : Int32 → Mem → Prop), d' < 1300 ∧ Spec l G d' hX8_gone [.inr 49, .inl (xs (a3 + (1 : Int32)).toNatClampNeg)] t1 Q2 ∧ ∀ (r2 : Int32) (t2 : Mem), Q2 r2 t2 →
    ((r1 = r2 →
      AL p l ev S m below meth c b G 851 [some (.inr 1000), some (.inr 0), some (.inr 49), some (.inl a3)] [] t2) ∧
    (¬ r1 = r2 →
      (0 : Int32) = 1))))))) :
    AL p l ev S m below meth c b G 554 [some (.inr 1000), some (.inr 0), some (.inr 49), some (.inl a3)] [] s := wpsL_ok (cut := [18, 132, 175, 208, 267, 310, 343, 356, 379, 412, 455, 488, 521, 554, 577, 620, 663, 696, 709, 742, 785, 828, 851]) C oL_law 18 554 _ _ _ h
set_option maxRecDepth 100000 in
theorem vL_577 {p : Program} {l : Launch} {ev : Env} {S : State} {m : MethodId} {below : List Frame} {meth : Method} {c : Code} {b n : Nat} {xs : Nat → Int32} {G : GG} {a3 : Int32} {s : Mem} (C : LC p S m meth c b n xs G) (h :
    (vp_in (a3 + (1 : Int32)) n ∧
    (vp_in (a3 + (2 : Int32)) n ∧
    (vp_in (a3 + (3 : Int32)) n ∧
    (∃ (d' : Nat) (Q1 : Int32 → Mem → Prop), d' < 1300 ∧ Spec l G d' hX7_town [.inr 0, .inl (xs (a3 + (1 : Int32)).toNatClampNeg), .inl (xs (a3 + (2 : Int32)).toNatClampNeg), .inl (xs (a3 + (3 : Int32)).toNatClampNeg)] s Q1 ∧ ∀ (r1 : Int32) (t1 : Mem), Q1 r1 t1 →
    (vp_in (a3 + (1 : Int32)) n ∧
    (vp_in (a3 + (2 : Int32)) n ∧
    (vp_in (a3 + (3 : Int32)) n ∧
    (∃ (d' : Nat) (Q2 : Int32 → Mem → Prop), d' < 1300 ∧ Spec l G d' hX8_town [.inr 49, .inl (xs (a3 + (1 : Int32)).toNatClampNeg), .inl (xs (a3 + (2 : Int32)).toNatClampNeg), .inl (xs (a3 + (3 : Int32)).toNatClampNeg)] t1 Q2 ∧ ∀ (r2 : Int32) (t2 : Mem), Q2 r2 t2 →
    ((r1 = r2 →
      AL p l ev S m below meth c b G 851 [some (.inr 1000), some (.inr 0), some (.inr 49), some (.inl a3)] [] t2) ∧
    (¬ r1 = r2 →
      (0 : Int32) = 1))))))))))) :
    AL p l ev S m below meth c b G 577 [some (.inr 1000), some (.inr 0), some (.inr 49), some (.inl a3)] [] s := wpsL_ok (cut := [18, 132, 175, 208, 267, 310, 343, 356, 379, 412, 455, 488, 521, 554, 577, 620, 663, 696, 709, 742, 785, 828, 851]) C oL_law 38 577 _ _ _ h
set_option maxRecDepth 100000 in
theorem vL_620 {p : Program} {l : Launch} {ev : Env} {S : State} {m : MethodId} {below : List Frame} {meth : Method} {c : Code} {b n : Nat} {xs : Nat → Int32} {G : GG} {a3 : Int32} {s : Mem} (C : LC p S m meth c b n xs G) (h :
    (vp_in (a3 + (1 : Int32)) n ∧
    (vp_in (a3 + (2 : Int32)) n ∧
    (vp_in (a3 + (3 : Int32)) n ∧
    (∃ (d' : Nat) (Q1 : Int32 → Mem → Prop), d' < 1300 ∧ Spec l G d' hX7_way [.inr 0, .inl (xs (a3 + (1 : Int32)).toNatClampNeg), .inl (xs (a3 + (2 : Int32)).toNatClampNeg), .inl (xs (a3 + (3 : Int32)).toNatClampNeg)] s Q1 ∧ ∀ (r1 : Int32) (t1 : Mem), Q1 r1 t1 →
    (vp_in (a3 + (1 : Int32)) n ∧
    (vp_in (a3 + (2 : Int32)) n ∧
    (vp_in (a3 + (3 : Int32)) n ∧
    (∃ (d' : Nat) (Q2 : Int32 → Mem → Prop), d' < 1300 ∧ Spec l G d' hX8_way [.inr 49, .inl (xs (a3 + (1 : Int32)).toNatClampNeg), .inl (xs (a3 + (2 : Int32)).toNatClampNeg), .inl (xs (a3 + (3 : Int32)).toNatClampNeg)] t1 Q2 ∧ ∀ (r2 : Int32) (t2 : Mem), Q2 r2 t2 →
    ((r1 = r2 →
      AL p l ev S m below meth c b G 851 [some (.inr 1000), some (.inr 0), some (.inr 49), some (.inl a3)] [] t2) ∧
    (¬ r1 = r2 →
      (0 : Int32) = 1))))))))))) :
    AL p l ev S m below meth c b G 620 [some (.inr 1000), some (.inr 0), some (.inr 49), some (.inl a3)] [] s := wpsL_ok (cut := [18, 132, 175, 208, 267, 310, 343, 356, 379, 412, 455, 488, 521, 554, 577, 620, 663, 696, 709, 742, 785, 828, 851]) C oL_law 38 620 _ _ _ h
set_option maxRecDepth 100000 in
theorem vL_663 {p : Program} {l : Launch} {ev : Env} {S : State} {m : MethodId} {below : List Frame} {meth : Method} {c : Code} {b n : Nat} {xs : Nat → Int32} {G : GG} {a3 : Int32} {s : Mem} (C : LC p S m meth c b n xs G) (h :
    (vp_in (a3 + (1 : Int32)) n ∧
    (vp_in (a3 + (2 : Int32)) n ∧
    (∃ (d' : Nat) (Q1 : Int32 → Mem → Prop), d' < 1300 ∧ Spec l G d' hX7_hours [.inr 0, .inl (xs (a3 + (1 : Int32)).toNatClampNeg), .inl (xs (a3 + (2 : Int32)).toNatClampNeg)] s Q1 ∧ ∀ (r1 : Int32) (t1 : Mem), Q1 r1 t1 →
    (vp_in (a3 + (1 : Int32)) n ∧
    (vp_in (a3 + (2 : Int32)) n ∧
    (∃ (d' : Nat) (Q2 : Int32 → Mem → Prop), d' < 1300 ∧ Spec l G d' hX8_hours [.inr 49, .inl (xs (a3 + (1 : Int32)).toNatClampNeg), .inl (xs (a3 + (2 : Int32)).toNatClampNeg)] t1 Q2 ∧ ∀ (r2 : Int32) (t2 : Mem), Q2 r2 t2 →
    ((r1 = r2 →
      AL p l ev S m below meth c b G 851 [some (.inr 1000), some (.inr 0), some (.inr 49), some (.inl a3)] [] t2) ∧
    (¬ r1 = r2 →
      (0 : Int32) = 1))))))))) :
    AL p l ev S m below meth c b G 663 [some (.inr 1000), some (.inr 0), some (.inr 49), some (.inl a3)] [] s := wpsL_ok (cut := [18, 132, 175, 208, 267, 310, 343, 356, 379, 412, 455, 488, 521, 554, 577, 620, 663, 696, 709, 742, 785, 828, 851]) C oL_law 28 663 _ _ _ h
set_option maxRecDepth 100000 in
theorem vL_696 {p : Program} {l : Launch} {ev : Env} {S : State} {m : MethodId} {below : List Frame} {meth : Method} {c : Code} {b n : Nat} {xs : Nat → Int32} {G : GG} {a3 : Int32} {s : Mem} (C : LC p S m meth c b n xs G) (h :
    (∃ (d' : Nat) (Q1 : Int32 → Mem → Prop), d' < 1300 ∧ Spec l G d' hX7_route [.inr 0] s Q1 ∧ ∀ (r1 : Int32) (t1 : Mem), Q1 r1 t1 →
    (∃ (d' : Nat) (Q2 : Int32 → Mem → Prop), d' < 1300 ∧ Spec l G d' hX8_route [.inr 49] t1 Q2 ∧ ∀ (r2 : Int32) (t2 : Mem), Q2 r2 t2 →
    ((r1 = r2 →
      AL p l ev S m below meth c b G 851 [some (.inr 1000), some (.inr 0), some (.inr 49), some (.inl a3)] [] t2) ∧
    (¬ r1 = r2 →
      (0 : Int32) = 1))))) :
    AL p l ev S m below meth c b G 696 [some (.inr 1000), some (.inr 0), some (.inr 49), some (.inl a3)] [] s := wpsL_ok (cut := [18, 132, 175, 208, 267, 310, 343, 356, 379, 412, 455, 488, 521, 554, 577, 620, 663, 696, 709, 742, 785, 828, 851]) C oL_law 8 696 _ _ _ h
set_option maxRecDepth 100000 in
theorem vL_709 {p : Program} {l : Launch} {ev : Env} {S : State} {m : MethodId} {below : List Frame} {meth : Method} {c : Code} {b n : Nat} {xs : Nat → Int32} {G : GG} {a3 : Int32} {s : Mem} (C : LC p S m meth c b n xs G) (h :
    (vp_in (a3 + (1 : Int32)) n ∧
    (vp_in (a3 + (2 : Int32)) n ∧
    (∃ (d' : Nat) (Q1 : Int32 → Mem → Prop), d' < 1300 ∧ Spec l G d' hX7_routeAt [.inr 0, .inl (xs (a3 + (1 : Int32)).toNatClampNeg), .inl (xs (a3 + (2 : Int32)).toNatClampNeg)] s Q1 ∧ ∀ (r1 : Int32) (t1 : Mem), Q1 r1 t1 →
    (vp_in (a3 + (1 : Int32)) n ∧
    (vp_in (a3 + (2 : Int32)) n ∧
    (∃ (d' : Nat) (Q2 : Int32 → Mem → Prop), d' < 1300 ∧ Spec l G d' hX8_routeAt [.inr 49, .inl (xs (a3 + (1 : Int32)).toNatClampNeg), .inl (xs (a3 + (2 : Int32)).toNatClampNeg)] t1 Q2 ∧ ∀ (r2 : Int32) (t2 : Mem), Q2 r2 t2 →
    ((r1 = r2 →
      AL p l ev S m below meth c b G 851 [some (.inr 1000), some (.inr 0), some (.inr 49), some (.inl a3)] [] t2) ∧
    (¬ r1 = r2 →
      (0 : Int32) = 1))))))))) :
    AL p l ev S m below meth c b G 709 [some (.inr 1000), some (.inr 0), some (.inr 49), some (.inl a3)] [] s := wpsL_ok (cut := [18, 132, 175, 208, 267, 310, 343, 356, 379, 412, 455, 488, 521, 554, 577, 620, 663, 696, 709, 742, 785, 828, 851]) C oL_law 28 709 _ _ _ h
set_option maxRecDepth 100000 in
theorem vL_742 {p : Program} {l : Launch} {ev : Env} {S : State} {m : MethodId} {below : List Frame} {meth : Method} {c : Code} {b n : Nat} {xs : Nat → Int32} {G : GG} {a3 : Int32} {s : Mem} (C : LC p S m meth c b n xs G) (h :
    (vp_in (a3 + (1 : Int32)) n ∧
    (vp_in (a3 + (2 : Int32)) n ∧
    (vp_in (a3 + (3 : Int32)) n ∧
    (∃ (d' : Nat) (Q1 : Int32 → Mem → Prop), d' < 1300 ∧ Spec l G d' hX7_took [.inr 0, .inl (xs (a3 + (1 : Int32)).toNatClampNeg), .inl (xs (a3 + (2 : Int32)).toNatClampNeg), .inl (xs (a3 + (3 : Int32)).toNatClampNeg)] s Q1 ∧ ∀ (r1 : Int32) (t1 : Mem), Q1 r1 t1 →
    (vp_in (a3 + (1 : Int32)) n ∧
    (vp_in (a3 + (2 : Int32)) n ∧
    (vp_in (a3 + (3 : Int32)) n ∧
    (∃ (d' : Nat) (Q2 : Int32 → Mem → Prop), d' < 1300 ∧ Spec l G d' hX8_took [.inr 49, .inl (xs (a3 + (1 : Int32)).toNatClampNeg), .inl (xs (a3 + (2 : Int32)).toNatClampNeg), .inl (xs (a3 + (3 : Int32)).toNatClampNeg)] t1 Q2 ∧ ∀ (r2 : Int32) (t2 : Mem), Q2 r2 t2 →
    ((r1 = r2 →
      AL p l ev S m below meth c b G 851 [some (.inr 1000), some (.inr 0), some (.inr 49), some (.inl a3)] [] t2) ∧
    (¬ r1 = r2 →
      (0 : Int32) = 1))))))))))) :
    AL p l ev S m below meth c b G 742 [some (.inr 1000), some (.inr 0), some (.inr 49), some (.inl a3)] [] s := wpsL_ok (cut := [18, 132, 175, 208, 267, 310, 343, 356, 379, 412, 455, 488, 521, 554, 577, 620, 663, 696, 709, 742, 785, 828, 851]) C oL_law 38 742 _ _ _ h
set_option maxRecDepth 100000 in
theorem vL_785 {p : Program} {l : Launch} {ev : Env} {S : State} {m : MethodId} {below : List Frame} {meth : Method} {c : Code} {b n : Nat} {xs : Nat → Int32} {G : GG} {a3 : Int32} {s : Mem} (C : LC p S m meth c b n xs G) (h :
    (vp_in (a3 + (1 : Int32)) n ∧
    (vp_in (a3 + (2 : Int32)) n ∧
    (vp_in (a3 + (3 : Int32)) n ∧
    (∃ (d' : Nat) (Q1 : Int32 → Mem → Prop), d' < 1300 ∧ Spec l G d' hX7_foretold [.inr 0, .inl (xs (a3 + (1 : Int32)).toNatClampNeg), .inl (xs (a3 + (2 : Int32)).toNatClampNeg), .inl (xs (a3 + (3 : Int32)).toNatClampNeg)] s Q1 ∧ ∀ (r1 : Int32) (t1 : Mem), Q1 r1 t1 →
    (vp_in (a3 + (1 : Int32)) n ∧
    (vp_in (a3 + (2 : Int32)) n ∧
    (vp_in (a3 + (3 : Int32)) n ∧
    (∃ (d' : Nat) (Q2 : Int32 → Mem → Prop), d' < 1300 ∧ Spec l G d' hX8_foretold [.inr 49, .inl (xs (a3 + (1 : Int32)).toNatClampNeg), .inl (xs (a3 + (2 : Int32)).toNatClampNeg), .inl (xs (a3 + (3 : Int32)).toNatClampNeg)] t1 Q2 ∧ ∀ (r2 : Int32) (t2 : Mem), Q2 r2 t2 →
    ((r1 = r2 →
      AL p l ev S m below meth c b G 851 [some (.inr 1000), some (.inr 0), some (.inr 49), some (.inl a3)] [] t2) ∧
    (¬ r1 = r2 →
      (0 : Int32) = 1))))))))))) :
    AL p l ev S m below meth c b G 785 [some (.inr 1000), some (.inr 0), some (.inr 49), some (.inl a3)] [] s := wpsL_ok (cut := [18, 132, 175, 208, 267, 310, 343, 356, 379, 412, 455, 488, 521, 554, 577, 620, 663, 696, 709, 742, 785, 828, 851]) C oL_law 38 785 _ _ _ h
set_option maxRecDepth 100000 in
theorem vL_828 {p : Program} {l : Launch} {ev : Env} {S : State} {m : MethodId} {below : List Frame} {meth : Method} {c : Code} {b n : Nat} {xs : Nat → Int32} {G : GG} {a3 : Int32} {s : Mem} (C : LC p S m meth c b n xs G) (h :
    (vp_in (a3 + (1 : Int32)) n ∧
    (∃ (d' : Nat) (Q1 : Int32 → Mem → Prop), d' < 1300 ∧ Spec l G d' hX7_count [.inr 0, .inl (xs (a3 + (1 : Int32)).toNatClampNeg)] s Q1 ∧ ∀ (r1 : Int32) (t1 : Mem), Q1 r1 t1 →
    (vp_in (a3 + (1 : Int32)) n ∧
    (∃ (d' : Nat) (Q2 : Int32 → Mem → Prop), d' < 1300 ∧ Spec l G d' hX8_count [.inr 49, .inl (xs (a3 + (1 : Int32)).toNatClampNeg)] t1 Q2 ∧ ∀ (r2 : Int32) (t2 : Mem), Q2 r2 t2 →
    ((r1 = r2 →
      AL p l ev S m below meth c b G 851 [some (.inr 1000), some (.inr 0), some (.inr 49), some (.inl a3)] [] t2) ∧
    (¬ r1 = r2 →
      (0 : Int32) = 1))))))) :
    AL p l ev S m below meth c b G 828 [some (.inr 1000), some (.inr 0), some (.inr 49), some (.inl a3)] [] s := wpsL_ok (cut := [18, 132, 175, 208, 267, 310, 343, 356, 379, 412, 455, 488, 521, 554, 577, 620, 663, 696, 709, 742, 785, 828, 851]) C oL_law 18 828 _ _ _ h
set_option maxRecDepth 100000 in
theorem vL_851 {p : Program} {l : Launch} {ev : Env} {S : State} {m : MethodId} {below : List Frame} {meth : Method} {c : Code} {b n : Nat} {xs : Nat → Int32} {G : GG} {a3 : Int32} {s : Mem} (C : LC p S m meth c b n xs G) (h :
    AL p l ev S m below meth c b G 18 [some (.inr 1000), some (.inr 0), some (.inr 49), some (.inl (a3 + (4 : Int32)))] [] s) :
    AL p l ev S m below meth c b G 851 [some (.inr 1000), some (.inr 0), some (.inr 49), some (.inl a3)] [] s := wpsL_ok (cut := [18, 132, 175, 208, 267, 310, 343, 356, 379, 412, 455, 488, 521, 554, 577, 620, 663, 696, 709, 742, 785, 828, 851]) C oL_law 3 851 _ _ _ h
