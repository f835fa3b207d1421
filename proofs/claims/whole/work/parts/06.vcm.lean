set_option maxRecDepth 100000 in
theorem vX8_in_0 {l : Launch} {G : GG} {d : Nat} {post : Int32 → Mem → Prop} {a0 a1 a2 : Int32} {s : Mem} (h :
    ((a0 < a1 →
      (bool01 (0 : Int32) ∧ post (0 : Int32) s)) ∧
    (¬ a0 < a1 →
      ((a2 < a0 →
        (bool01 (0 : Int32) ∧ post (0 : Int32) s)) ∧
      (¬ a2 < a0 →
        (bool01 (1 : Int32) ∧ post (1 : Int32) s)))))) :
    AW l G d hX8_in 0 [some (.inl a0), some (.inl a1), some (.inl a2)] [] s post := wps_ok (cut := []) oX8_in 10 0 _ _ _ h
set_option maxRecDepth 100000 in
theorem vX8_bits_0 {l : Launch} {G : GG} {d : Nat} {post : Int32 → Mem → Prop} {a0 : Int32} {s : Mem} (h :
    AW l G d hX8_bits 4 [some (.inl a0), some (.inl (0 : Int32)), some (.inl (0 : Int32))] [] s post) :
    AW l G d hX8_bits 0 [some (.inl a0), none, none] [] s post := wps_ok (cut := [4]) oX8_bits 5 0 _ _ _ h
set_option maxRecDepth 100000 in
theorem vX8_bits_4 {l : Launch} {G : GG} {d : Nat} {post : Int32 → Mem → Prop} {a0 a1 a2 : Int32} {s : Mem} (h :
    (((10 : Int32) ≤ a2 →
      post a1 s) ∧
    (¬ (10 : Int32) ≤ a2 →
      AW l G d hX8_bits 4 [some (.inl a0), some (.inl (a1 + ((a0 >>> (a2 &&& 31)) &&& (1 : Int32)))), some (.inl (a2 + (1 : Int32)))] [] s post))) :
    AW l G d hX8_bits 4 [some (.inl a0), some (.inl a1), some (.inl a2)] [] s post := wps_ok (cut := [4]) oX8_bits 14 4 _ _ _ h
set_option maxRecDepth 100000 in
theorem vX8_act_0 {l : Launch} {G : GG} {d : Nat} {post : Int32 → Mem → Prop} {a1 a2 a3 : Int32} {s : Mem} (h :
    (¬ (1000 : Int32) = 0 ∧
    (¬ (100 : Int32) = 0 ∧
    (¬ (10 : Int32) = 0 ∧
    ((a1 < 0 →
      post (-1 : Int32) s) ∧
    (¬ a1 < 0 →
      (∃ (d' : Nat) (Q1 : Int32 → Mem → Prop), d' < d ∧ Spec l G d' hX8_in [.inl (a1 / (1000 : Int32)), .inl (1 : Int32), .inl (60 : Int32)] s Q1 ∧ ∀ (r1 : Int32) (t1 : Mem), Q1 r1 t1 →
      ((r1 = 0 →
        post (-1 : Int32) t1) ∧
      (¬ r1 = 0 →
        (((3 : Int32) < ((a1 / (100 : Int32)) - (a1 / (100 : Int32)) / (10 : Int32) * (10 : Int32)) →
          post (-1 : Int32) t1) ∧
        (¬ (3 : Int32) < ((a1 / (100 : Int32)) - (a1 / (100 : Int32)) / (10 : Int32) * (10 : Int32)) →
          (∃ (d' : Nat) (Q2 : Int32 → Mem → Prop), d' < d ∧ Spec l G d' hX8_in [.inl a2, .inl (0 : Int32), .inl (1023 : Int32)] t1 Q2 ∧ ∀ (r2 : Int32) (t2 : Mem), Q2 r2 t2 →
          ((r2 = 0 →
            post (-1 : Int32) t2) ∧
          (¬ r2 = 0 →
            ((¬ ((a1 / (100 : Int32)) - (a1 / (100 : Int32)) / (10 : Int32) * (10 : Int32)) = (3 : Int32) →
              (∃ (d' : Nat) (Q3 : Int32 → Mem → Prop), d' < d ∧ Spec l G d' hX8_in [.inl a3, .inl (0 : Int32), .inl (255 : Int32)] t2 Q3 ∧ ∀ (r3 : Int32) (t3 : Mem), Q3 r3 t3 →
              ((r3 = 0 →
                post (-1 : Int32) t3) ∧
              (¬ r3 = 0 →
                ((¬ (t3 49 0) = (8 : Int32) →
                  (vp_in (t3 49 0) 8 ∧
                  (vp_in ((wrM t3 50 (t3 49 0).toNatClampNeg (a1 / (1000 : Int32))) 49 0) 8 ∧
                  (¬ (100 : Int32) = 0 ∧
                  (vp_in ((wrM (wrM t3 50 (t3 49 0).toNatClampNeg (a1 / (1000 : Int32))) 51 ((wrM t3 50 (t3 49 0).toNatClampNeg (a1 / (1000 : Int32))) 49 0).toNatClampNeg ((a1 / (100 : Int32)) - (a1 / (100 : Int32)) / (10 : Int32) * (10 : Int32))) 49 0) 8 ∧
                  (vp_in ((wrM (wrM (wrM t3 50 (t3 49 0).toNatClampNeg (a1 / (1000 : Int32))) 51 ((wrM t3 50 (t3 49 0).toNatClampNeg (a1 / (1000 : Int32))) 49 0).toNatClampNeg ((a1 / (100 : Int32)) - (a1 / (100 : Int32)) / (10 : Int32) * (10 : Int32))) 52 ((wrM (wrM t3 50 (t3 49 0).toNatClampNeg (a1 / (1000 : Int32))) 51 ((wrM t3 50 (t3 49 0).toNatClampNeg (a1 / (1000 : Int32))) 49 0).toNatClampNeg ((a1 / (100 : Int32)) - (a1 / (100 : Int32)) / (10 : Int32) * (10 : Int32))) 49 0).toNatClampNeg (a1 - a1 / (100 : Int32) * (100 : Int32))) 49 0) 8 ∧
                  (vp_in ((wrM (wrM (wrM (wrM t3 50 (t3 49 0).toNatClampNeg (a1 / (1000 : Int32))) 51 ((wrM t3 50 (t3 49 0).toNatClampNeg (a1 / (1000 : Int32))) 49 0).toNatClampNeg ((a1 / (100 : Int32)) - (a1 / (100 : Int32)) / (10 : Int32) * (10 : Int32))) 52 ((wrM (wrM t3 50 (t3 49 0).toNatClampNeg (a1 / (1000 : Int32))) 51 ((wrM t3 50 (t3 49 0).toNatClampNeg (a1 / (1000 : Int32))) 49 0).toNatClampNeg ((a1 / (100 : Int32)) - (a1 / (100 : Int32)) / (10 : Int32) * (10 : Int32))) 49 0).toNatClampNeg (a1 - a1 / (100 : Int32) * (100 : Int32))) 53 ((wrM (wrM (wrM t3 50 (t3 49 0).toNatClampNeg (a1 / (1000 : Int32))) 51 ((wrM t3 50 (t3 49 0).toNatClampNeg (a1 / (1000 : Int32))) 49 0).toNatClampNeg ((a1 / (100 : Int32)) - (a1 / (100 : Int32)) / (10 : Int32) * (10 : Int32))) 52 ((wrM (wrM t3 50 (t3 49 0).toNatClampNeg (a1 / (1000 : Int32))) 51 ((wrM t3 50 (t3 49 0).toNatClampNeg (a1 / (1000 : Int32))) 49 0).toNatClampNeg ((a1 / (100 : Int32)) - (a1 / (100 : Int32)) / (10 : Int32) * (10 : Int32))) 49 0).toNatClampNeg (a1 - a1 / (100 : Int32) * (100 : Int32))) 49 0).toNatClampNeg a2) 49 0) 8 ∧
                  post (((wrM (wrM (wrM (wrM (wrM (wrM t3 50 (t3 49 0).toNatClampNeg (a1 / (1000 : Int32))) 51 ((wrM t3 50 (t3 49 0).toNatClampNeg (a1 / (1000 : Int32))) 49 0).toNatClampNeg ((a1 / (100 : Int32)) - (a1 / (100 : Int32)) / (10 : Int32) * (10 : Int32))) 52 ((wrM (wrM t3 50 (t3 49 0).toNatClampNeg (a1 / (1000 : Int32))) 51 ((wrM t3 50 (t3 49 0).toNatClampNeg (a1 / (1000 : Int32))) 49 0).toNatClampNeg ((a1 / (100 : Int32)) - (a1 / (100 : Int32)) / (10 : Int32) * (10 : Int32))) 49 0).toNatClampNeg (a1 - a1 / (100 : Int32) * (100 : Int32))) 53 ((wrM (wrM (wrM t3 50 (t3 49 0).toNatClampNeg (a1 / (1000 : Int32))) 51 ((wrM t3 50 (t3 49 0).toNatClampNeg (a1 / (1000 : Int32))) 49 0).toNatClampNeg ((a1 / (100 : Int32)) - (a1 / (100 : Int32)) / (10 : Int32) * (10 : Int32))) 52 ((wrM (wrM t3 50 (t3 49 0).toNatClampNeg (a1 / (1000 : Int32))) 51 ((wrM t3 50 (t3 49 0).toNatClampNeg (a1 / (1000 : Int32))) 49 0).toNatClampNeg ((a1 / (100 : Int32)) - (a1 / (100 : Int32)) / (10 : Int32) * (10 : Int32))) 49 0).toNatClampNeg (a1 - a1 / (100 : Int32) * (100 : Int32))) 49 0).toNatClampNeg a2) 54 ((wrM (wrM (wrM (wrM t3 50 (t3 49 0).toNatClampNeg (a1 / (1000 : Int32))) 51 ((wrM t3 50 (t3 49 0).toNatClampNeg (a1 / (1000 : Int32))) 49 0).toNatClampNeg ((a1 / (100 : Int32)) - (a1 / (100 : Int32)) / (10 : Int32) * (10 : Int32))) 52 ((wrM (wrM t3 50 (t3 49 0).toNatClampNeg (a1 / (1000 : Int32))) 51 ((wrM t3 50 (t3 49 0).toNatClampNeg (a1 / (1000 : Int32))) 49 0).toNatClampNeg ((a1 / (100 : Int32)) - (a1 / (100 : Int32)) / (10 : Int32) * (10 : Int32))) 49 0).toNatClampNeg (a1 - a1 / (100 : Int32) * (100 : Int32))) 53 ((wrM (wrM (wrM t3 50 (t3 49 0).toNatClampNeg (a1 / (1000 : Int32))) 51 ((wrM t3 50 (t3 49 0).toNatClampNeg (a1 / (1000 : Int32))) 49 0).toNatClampNeg ((a1 / (100 : Int32)) - (a1 / (100 : Int32)) / (10 : Int32) * (10 : Int32))) 52 ((wrM (wrM t3 50 (t3 49 0).toNatClampNeg (a1 / (1000 : Int32))) 51 ((wrM t3 50 (t3 49 0).toNatClampNeg (a1 / (1000 : Int32))) 49 0).toNatClampNeg ((a1 / (100 : Int32)) - (a1 / (100 : Int32)) / (10 : Int32) * (10 : Int32))) 49 0).toNatClampNeg (a1 - a1 / (100 : Int32) * (100 : Int32))) 49 0).toNatClampNeg a2) 49 0).toNatClampNeg a3) 49 0 (((wrM (wrM (wrM (wrM (wrM t3 50 (t3 49 0).toNatClampNeg (a1 / (1000 : Int32))) 51 ((wrM t3 50 (t3 49 0).toNatClampNeg (a1 / (1000 : Int32))) 49 0).toNatClampNeg ((a1 / (100 : Int32)) - (a1 / (100 : Int32)) / (10 : Int32) * (10 : Int32))) 52 ((wrM (wrM t3 50 (t3 49 0).toNatClampNeg (a1 / (1000 : Int32))) 51 ((wrM t3 50 (t3 49 0).toNatClampNeg (a1 / (1000 : Int32))) 49 0).toNatClampNeg ((a1 / (100 : Int32)) - (a1 / (100 : Int32)) / (10 : Int32) * (10 : Int32))) 49 0).toNatClampNeg (a1 - a1 / (100 : Int32) * (100 : Int32))) 53 ((wrM (wrM (wrM t3 50 (t3 49 0).toNatClampNeg (a1 / (1000 : Int32))) 51 ((wrM t3 50 (t3 49 0).toNatClampNeg (a1 / (1000 : Int32))) 49 0).toNatClampNeg ((a1 / (100 : Int32)) - (a1 / (100 : Int32)) / (10 : Int32) * (10 : Int32))) 52 ((wrM (wrM t3 50 (t3 49 0).toNatClampNeg (a1 / (1000 : Int32))) 51 ((wrM t3 50 (t3 49 0).toNatClampNeg (a1 / (1000 : Int32))) 49 0).toNatClampNeg ((a1 / (100 : Int32)) - (a1 / (100 : Int32)) / (10 : Int32) * (10 : Int32))) 49 0).toNatClampNeg (a1 - a1 / (100 : Int32) * (100 : Int32))) 49 0).toNatClampNeg a2) 54 ((wrM (wrM (wrM (wrM t3 50 (t3 49 0).toNatClampNeg (a1 / (1000 : Int32))) 51 ((wrM t3 50 (t3 49 0).toNatClampNeg (a1 / (1000 : Int32))) 49 0).toNatClampNeg ((a1 / (100 : Int32)) - (a1 / (100 : Int32)) / (10 : Int32) * (10 : Int32))) 52 ((wrM (wrM t3 50 (t3 49 0).toNatClampNeg (a1 / (1000 : Int32))) 51 ((wrM t3 50 (t3 49 0).toNatClampNeg (a1 / (1000 : Int32))) 49 0).toNatClampNeg ((a1 / (100 : Int32)) - (a1 / (100 : Int32)) / (10 : Int32) * (10 : Int32))) 49 0).toNatClampNeg (a1 - a1 / (100 : Int32) * (100 : Int32))) 53 ((wrM (wrM (wrM t3 50 (t3 49 0).toNatClampNeg (a1 / (1000 : Int32))) 51 ((wrM t3 50 (t3 49 0).toNatClampNeg (a1 / (1000 : Int32))) 49 0).toNatClampNeg ((a1 / (100 : Int32)) - (a1 / (100 : Int32)) / (10 : Int32) * (10 : Int32))) 52 ((wrM (wrM t3 50 (t3 49 0).toNatClampNeg (a1 / (1000 : Int32))) 51 ((wrM t3 50 (t3 49 0).toNatClampNeg (a1 / (1000 : Int32))) 49 0).toNatClampNeg ((a1 / (100 : Int32)) - (a1 / (100 : Int32)) / (10 : Int32) * (10 : Int32))) 49 0).toNatClampNeg (a1 - a1 / (100 : Int32) * (100 : Int32))) 49 0).toNatClampNeg a2) 49 0).toNatClampNeg a3) 49 0) + (1 : Int32))) 49 0) - (1 : Int32)) (wrM (wrM (wrM (wrM (wrM (wrM t3 50 (t3 49 0).toNatClampNeg (a1 / (1000 : Int32))) 51 ((wrM t3 50 (t3 49 0).toNatClampNeg (a1 / (1000 : Int32))) 49 0).toNatClampNeg ((a1 / (100 : Int32)) - (a1 / (100 : Int32)) / (10 : Int32) * (10 : Int32))) 52 ((wrM (wrM t3 50 (t3 49 0).toNatClampNeg (a1 / (1000 : Int32))) 51 ((wrM t3 50 (t3 49 0).toNatClampNeg (a1 / (1000 : Int32))) 49 0).toNatClampNeg ((a1 / (100 : Int32)) - (a1 / (100 : Int32)) / (10 : Int32) * (10 : Int32))) 49 0).toNatClampNeg (a1 - a1 / (100 : Int32) * (100 : Int32))) 53 ((wrM (wrM (wrM t3 50 (t3 49 0).toNatClampNeg (a1 / (1000 : Int32))) 51 ((wrM t3 50 (t3 49 0).toNatClampNeg (a1 / (1000 : Int32))) 49 0).toNatClampNeg ((a1 / (100 : Int32)) - (a1 / (100 : Int32)) / (10 : Int32) * (10 : Int32))) 52 ((wrM (wrM t3 50 (t3 49 0).toNatClampNeg (a1 / (1000 : Int32))) 51 ((wrM t3 50 (t3 49 0).toNatClampNeg (a1 / (1000 : Int32))) 49 0).toNatClampNeg ((a1 / (100 : Int32)) - (a1 / (100 : Int32)) / (10 : Int32) * (10 : Int32))) 49 0).toNatClampNeg (a1 - a1 / (100 : Int32) * (100 : Int32))) 49 0).toNatClampNeg a2) 54 ((wrM (wrM (wrM (wrM t3 50 (t3 49 0).toNatClampNeg (a1 / (1000 : Int32))) 51 ((wrM t3 50 (t3 49 0).toNatClampNeg (a1 / (1000 : Int32))) 49 0).toNatClampNeg ((a1 / (100 : Int32)) - (a1 / (100 : Int32)) / (10 : Int32) * (10 : Int32))) 52 ((wrM (wrM t3 50 (t3 49 0).toNatClampNeg (a1 / (1000 : Int32))) 51 ((wrM t3 50 (t3 49 0).toNatClampNeg (a1 / (1000 : Int32))) 49 0).toNatClampNeg ((a1 / (100 : Int32)) - (a1 / (100 : Int32)) / (10 : Int32) * (10 : Int32))) 49 0).toNatClampNeg (a1 - a1 / (100 : Int32) * (100 : Int32))) 53 ((wrM (wrM (wrM t3 50 (t3 49 0).toNatClampNeg (a1 / (1000 : Int32))) 51 ((wrM t3 50 (t3 49 0).toNatClampNeg (a1 / (1000 : Int32))) 49 0).toNatClampNeg ((a1 / (100 : Int32)) - (a1 / (100 : Int32)) / (10 : Int32) * (10 : Int32))) 52 ((wrM (wrM t3 50 (t3 49 0).toNatClampNeg (a1 / (1000 : Int32))) 51 ((wrM t3 50 (t3 49 0).toNatClampNeg (a1 / (1000 : Int32))) 49 0).toNatClampNeg ((a1 / (100 : Int32)) - (a1 / (100 : Int32)) / (10 : Int32) * (10 : Int32))) 49 0).toNatClampNeg (a1 - a1 / (100 : Int32) * (100 : Int32))) 49 0).toNatClampNeg a2) 49 0).toNatClampNeg a3) 49 0 (((wrM (wrM (wrM (wrM (wrM t3 50 (t3 49 0).toNatClampNeg (a1 / (1000 : Int32))) 51 ((wrM t3 50 (t3 49 0).toNatClampNeg (a1 / (1000 : Int32))) 49 0).toNatClampNeg ((a1 / (100 : Int32)) - (a1 / (100 : Int32)) / (10 : Int32) * (10 : Int32))) 52 ((wrM (wrM t3 50 (t3 49 0).toNatClampNeg (a1 / (1000 : Int32))) 51 ((wrM t3 50 (t3 49 0).toNatClampNeg (a1 / (1000 : Int32))) 49 0).toNatClampNeg ((a1 / (100 : Int32)) - (a1 / (100 : Int32)) / (10 : Int32) * (10 : Int32))) 49 0).toNatClampNeg (a1 - a1 / (100 : Int32) * (100 : Int32))) 53 ((wrM (wrM (wrM t3 50 (t3 49 0).toNatClampNeg (a1 / (1000 : Int32))) 51 ((wrM t3 50 (t3 49 0).toNatClampNeg (a1 / (1000 : Int32))) 49 0).toNatClampNeg ((a1 / (100 : Int32)) - (a1 / (100 : Int32)) / (10 : Int32) * (10 : Int32))) 52 ((wrM (wrM t3 50 (t3 49 0).toNatClampNeg (a1 / (1000 : Int32))) 51 ((wrM t3 50 (t3 49 0).toNatClampNeg (a1 / (1000 : Int32))) 49 0).toNatClampNeg ((a1 / (100 : Int32)) - (a1 / (100 : Int32)) / (10 : Int32) * (10 : Int32))) 49 0).toNatClampNeg (a1 - a1 / (100 : Int32) * (100 : Int32))) 49 0).toNatClampNeg a2) 54 ((wrM (wrM (wrM (wrM t3 50 (t3 49 0).toNatClampNeg (a1 / (1000 : Int32))) 51 ((wrM t3 50 (t3 49 0).toNatClampNeg (a1 / (1000 : Int32))) 49 0).toNatClampNeg ((a1 / (100 : Int32)) - (a1 / (100 : Int32)) / (10 : Int32) * (10 : Int32))) 52 ((wrM (wrM t3 50 (t3 49 0).toNatClampNeg (a1 / (1000 : Int32))) 51 ((wrM t3 50 (t3 49 0).toNatClampNeg (a1 / (1000 : Int32))) 49 0).toNatClampNeg ((a1 / (100 : Int32)) - (a1 / (100 : Int32)) / (10 : Int32) * (10 : Int32))) 49 0).toNatClampNeg (a1 - a1 / (100 : Int32) * (100 : Int32))) 53 ((wrM (wrM (wrM t3 50 (t3 49 0).toNatClampNeg (a1 / (1000 : Int32))) 51 ((wrM t3 50 (t3 49 0).toNatClampNeg (a1 / (1000 : Int32))) 49 0).toNatClampNeg ((a1 / (100 : Int32)) - (a1 / (100 : Int32)) / (10 : Int32) * (10 : Int32))) 52 ((wrM (wrM t3 50 (t3 49 0).toNatClampNeg (a1 / (1000 : Int32))) 51 ((wrM t3 50 (t3 49 0).toNatClampNeg (a1 / (1000 : Int32))) 49 0).toNatClampNeg ((a1 / (100 : Int32)) - (a1 / (100 : Int32)) / (10 : Int32) * (10 : Int32))) 49 0).toNatClampNeg (a1 - a1 / (100 : Int32) * (100 : Int32))) 49 0).toNatClampNeg a2) 49 0).toNatClampNeg a3) 49 0) + (1 : Int32)))))))))) ∧
                ((t3 49 0) = (8 : Int32) →
                  post (-1 : Int32) t3)))))) ∧
            (((a1 / (100 : Int32)) - (a1 / (100 : Int32)) / (10 : Int32) * (10 : Int32)) = (3 : Int32) →
              (∃ (d' : Nat) (Q4 : Int32 → Mem → Prop), d' < d ∧ Spec l G d' hX8_in [.inl a3, .inl (0 : Int32), .inl (0 : Int32)] t2 Q4 ∧ ∀ (r4 : Int32) (t4 : Mem), Q4 r4 t4 →
              ((r4 = 0 →
                post (-1 : Int32) t4) ∧
              (¬ r4 = 0 →
                ((¬ (t4 49 0) = (8 : Int32) →
                  (vp_in (t4 49 0) 8 ∧
                  (vp_in ((wrM t4 50 (t4 49 0).toNatClampNeg (a1 / (1000 : Int32))) 49 0) 8 ∧
                  (¬ (100 : Int32) = 0 ∧
                  (vp_in ((wrM (wrM t4 50 (t4 49 0).toNatClampNeg (a1 / (1000 : Int32))) 51 ((wrM t4 50 (t4 49 0).toNatClampNeg (a1 / (1000 : Int32))) 49 0).toNatClampNeg ((a1 / (100 : Int32)) - (a1 / (100 : Int32)) / (10 : Int32) * (10 : Int32))) 49 0) 8 ∧
                  (vp_in ((wrM (wrM (wrM t4 50 (t4 49 0).toNatClampNeg (a1 / (1000 : Int32))) 51 ((wrM t4 50 (t4 49 0).toNatClampNeg (a1 / (1000 : Int32))) 49 0).toNatClampNeg ((a1 / (100 : Int32)) - (a1 / (100 : Int32)) / (10 : Int32) * (10 : Int32))) 52 ((wrM (wrM t4 50 (t4 49 0).toNatClampNeg (a1 / (1000 : Int32))) 51 ((wrM t4 50 (t4 49 0).toNatClampNeg (a1 / (1000 : Int32))) 49 0).toNatClampNeg ((a1 / (100 : Int32)) - (a1 / (100 : Int32)) / (10 : Int32) * (10 : Int32))) 49 0).toNatClampNeg (a1 - a1 / (100 : Int32) * (100 : Int32))) 49 0) 8 ∧
                  (vp_in ((wrM (wrM (wrM (wrM t4 50 (t4 49 0).toNatClampNeg (a1 / (1000 : Int32))) 51 ((wrM t4 50 (t4 49 0).toNatClampNeg (a1 / (1000 : Int32))) 49 0).toNatClampNeg ((a1 / (100 : Int32)) - (a1 / (100 : Int32)) / (10 : Int32) * (10 : Int32))) 52 ((wrM (wrM t4 50 (t4 49 0).toNatClampNeg (a1 / (1000 : Int32))) 51 ((wrM t4 50 (t4 49 0).toNatClampNeg (a1 / (1000 : Int32))) 49 0).toNatClampNeg ((a1 / (100 : Int32)) - (a1 / (100 : Int32)) / (10 : Int32) * (10 : Int32))) 49 0).toNatClampNeg (a1 - a1 / (100 : Int32) * (100 : Int32))) 53 ((wrM (wrM (wrM t4 50 (t4 49 0).toNatClampNeg (a1 / (1000 : Int32))) 51 ((wrM t4 50 (t4 49 0).toNatClampNeg (a1 / (1000 : Int32))) 49 0).toNatClampNeg ((a1 / (100 : Int32)) - (a1 / (100 : Int32)) / (10 : Int32) * (10 : Int32))) 52 ((wrM (wrM t4 50 (t4 49 0).toNatClampNeg (a1 / (1000 : Int32))) 51 ((wrM t4 50 (t4 49 0).toNatClampNeg (a1 / (1000 : Int32))) 49 0).toNatClampNeg ((a1 / (100 : Int32)) - (a1 / (100 : Int32)) / (10 : Int32) * (10 : Int32))) 49 0).toNatClampNeg (a1 - a1 / (100 : Int32) * (100 : Int32))) 49 0).toNatClampNeg a2) 49 0) 8 ∧
                  post (((wrM (wrM (wrM (wrM (wrM (wrM t4 50 (t4 49 0).toNatClampNeg (a1 / (1000 : Int32))) 51 ((wrM t4 50 (t4 49 0).toNatClampNeg (a1 / (1000 : Int32))) 49 0).toNatClampNeg ((a1 / (100 : Int32)) - (a1 / (100 : Int32)) / (10 : Int32) * (10 : Int32))) 52 ((wrM (wrM t4 50 (t4 49 0).toNatClampNeg (a1 / (1000 : Int32))) 51 ((wrM t4 50 (t4 49 0).toNatClampNeg (a1 / (1000 : Int32))) 49 0).toNatClampNeg ((a1 / (100 : Int32)) - (a1 / (100 : Int32)) / (10 : Int32) * (10 : Int32))) 49 0).toNatClampNeg (a1 - a1 / (100 : Int32) * (100 : Int32))) 53 ((wrM (wrM (wrM t4 50 (t4 49 0).toNatClampNeg (a1 / (1000 : Int32))) 51 ((wrM t4 50 (t4 49 0).toNatClampNeg (a1 / (1000 : Int32))) 49 0).toNatClampNeg ((a1 / (100 : Int32)) - (a1 / (100 : Int32)) / (10 : Int32) * (10 : Int32))) 52 ((wrM (wrM t4 50 (t4 49 0).toNatClampNeg (a1 / (1000 : Int32))) 51 ((wrM t4 50 (t4 49 0).toNatClampNeg (a1 / (1000 : Int32))) 49 0).toNatClampNeg ((a1 / (100 : Int32)) - (a1 / (100 : Int32)) / (10 : Int32) * (10 : Int32))) 49 0).toNatClampNeg (a1 - a1 / (100 : Int32) * (100 : Int32))) 49 0).toNatClampNeg a2) 54 ((wrM (wrM (wrM (wrM t4 50 (t4 49 0).toNatClampNeg (a1 / (1000 : Int32))) 51 ((wrM t4 50 (t4 49 0).toNatClampNeg (a1 / (1000 : Int32))) 49 0).toNatClampNeg ((a1 / (100 : Int32)) - (a1 / (100 : Int32)) / (10 : Int32) * (10 : Int32))) 52 ((wrM (wrM t4 50 (t4 49 0).toNatClampNeg (a1 / (1000 : Int32))) 51 ((wrM t4 50 (t4 49 0).toNatClampNeg (a1 / (1000 : Int32))) 49 0).toNatClampNeg ((a1 / (100 : Int32)) - (a1 / (100 : Int32)) / (10 : Int32) * (10 : Int32))) 49 0).toNatClampNeg (a1 - a1 / (100 : Int32) * (100 : Int32))) 53 ((wrM (wrM (wrM t4 50 (t4 49 0).toNatClampNeg (a1 / (1000 : Int32))) 51 ((wrM t4 50 (t4 49 0).toNatClampNeg (a1 / (1000 : Int32))) 49 0).toNatClampNeg ((a1 / (100 : Int32)) - (a1 / (100 : Int32)) / (10 : Int32) * (10 : Int32))) 52 ((wrM (wrM t4 50 (t4 49 0).toNatClampNeg (a1 / (1000 : Int32))) 51 ((wrM t4 50 (t4 49 0).toNatClampNeg (a1 / (1000 : Int32))) 49 0).toNatClampNeg ((a1 / (100 : Int32)) - (a1 / (100 : Int32)) / (10 : Int32) * (10 : Int32))) 49 0).toNatClampNeg (a1 - a1 / (100 : Int32) * (100 : Int32))) 49 0).toNatClampNeg a2) 49 0).toNatClampNeg a3) 49 0 (((wrM (wrM (wrM (wrM (wrM t4 50 (t4 49 0).toNatClampNeg (a1 / (1000 : Int32))) 51 ((wrM t4 50 (t4 49 0).toNatClampNeg (a1 / (1000 : Int32))) 49 0).toNatClampNeg ((a1 / (100 : Int32)) - (a1 / (100 : Int32)) / (10 : Int32) * (10 : Int32))) 52 ((wrM (wrM t4 50 (t4 49 0).toNatClampNeg (a1 / (1000 : Int32))) 51 ((wrM t4 50 (t4 49 0).toNatClampNeg (a1 / (1000 : Int32))) 49 0).toNatClampNeg ((a1 / (100 : Int32)) - (a1 / (100 : Int32)) / (10 : Int32) * (10 : Int32))) 49 0).toNatClampNeg (a1 - a1 / (100 : Int32) * (100 : Int32))) 53 ((wrM (wrM (wrM t4 50 (t4 49 0).toNatClampNeg (a1 / (1000 : Int32))) 51 ((wrM t4 50 (t4 49 0).toNatClampNeg (a1 / (1000 : Int32))) 49 0).toNatClampNeg ((a1 / (100 : Int32)) - (a1 / (100 : Int32)) / (10 : Int32) * (10 : Int32))) 52 ((wrM (wrM t4 50 (t4 49 0).toNatClampNeg (a1 / (1000 : Int32))) 51 ((wrM t4 50 (t4 49 0).toNatClampNeg (a1 / (1000 : Int32))) 49 0).toNatClampNeg ((a1 / (100 : Int32)) - (a1 / (100 : Int32)) / (10 : Int32) * (10 : Int32))) 49 0).toNatClampNeg (a1 - a1 / (100 : Int32) * (100 : Int32))) 49 0).toNatClampNeg a2) 54 ((wrM (wrM (wrM (wrM t4 50 (t4 49 0).toNatClampNeg (a1 / (1000 : Int32))) 51 ((wrM t4 50 (t4 49 0).toNatClampNeg (a1 / (1000 : Int32))) 49 0).toNatClampNeg ((a1 / (100 : Int32)) - (a1 / (100 : Int32)) / (10 : Int32) * (10 : Int32))) 52 ((wrM (wrM t4 50 (t4 49 0).toNatClampNeg (a1 / (1000 : Int32))) 51 ((wrM t4 50 (t4 49 0).toNatClampNeg (a1 / (1000 : Int32))) 49 0).toNatClampNeg ((a1 / (100 : Int32)) - (a1 / (100 : Int32)) / (10 : Int32) * (10 : Int32))) 49 0).toNatClampNeg (a1 - a1 / (100 : Int32) * (100 : Int32))) 53 ((wrM (wrM (wrM t4 50 (t4 49 0).toNatClampNeg (a1 / (1000 : Int32))) 51 ((wrM t4 50 (t4 49 0).toNatClampNeg (a1 / (1000 : Int32))) 49 0).toNatClampNeg ((a1 / (100 : Int32)) - (a1 / (100 : Int32)) / (10 : Int32) * (10 : Int32))) 52 ((wrM (wrM t4 50 (t4 49 0).toNatClampNeg (a1 / (1000 : Int32))) 51 ((wrM t4 50 (t4 49 0).toNatClampNeg (a1 / (1000 : Int32))) 49 0).toNatClampNeg ((a1 / (100 : Int32)) - (a1 / (100 : Int32)) / (10 : Int32) * (10 : Int32))) 49 0).toNatClampNeg (a1 - a1 / (100 : Int32) * (100 : Int32))) 49 0).toNatClampNeg a2) 49 0).toNatClampNeg a3) 49 0) + (1 : Int32))) 49 0) - (1 : Int32)) (wrM (wrM (wrM (wrM (wrM (wrM t4 50 (t4 49 0).toNatClampNeg (a1 / (1000 : Int32))) 51 ((wrM t4 50 (t4 49 0).toNatClampNeg (a1 / (1000 : Int32))) 49 0).toNatClampNeg ((a1 / (100 : Int32)) - (a1 / (100 : Int32)) / (10 : Int32) * (10 : Int32))) 52 ((wrM (wrM t4 50 (t4 49 0).toNatClampNeg (a1 / (1000 : Int32))) 51 ((wrM t4 50 (t4 49 0).toNatClampNeg (a1 / (1000 : Int32))) 49 0).toNatClampNeg ((a1 / (100 : Int32)) - (a1 / (100 : Int32)) / (10 : Int32) * (10 : Int32))) 49 0).toNatClampNeg (a1 - a1 / (100 : Int32) * (100 : Int32))) 53 ((wrM (wrM (wrM t4 50 (t4 49 0).toNatClampNeg (a1 / (1000 : Int32))) 51 ((wrM t4 50 (t4 49 0).toNatClampNeg (a1 / (1000 : Int32))) 49 0).toNatClampNeg ((a1 / (100 : Int32)) - (a1 / (100 : Int32)) / (10 : Int32) * (10 : Int32))) 52 ((wrM (wrM t4 50 (t4 49 0).toNatClampNeg (a1 / (1000 : Int32))) 51 ((wrM t4 50 (t4 49 0).toNatClampNeg (a1 / (1000 : Int32))) 49 0).toNatClampNeg ((a1 / (100 : Int32)) - (a1 / (100 : Int32)) / (10 : Int32) * (10 : Int32))) 49 0).toNatClampNeg (a1 - a1 / (100 : Int32) * (100 : Int32))) 49 0).toNatClampNeg a2) 54 ((wrM (wrM (wrM (wrM t4 50 (t4 49 0).toNatClampNeg (a1 / (1000 : Int32))) 51 ((wrM t4 50 (t4 49 0).toNatClampNeg (a1 / (1000 : Int32))) 49 0).toNatClampNeg ((a1 / (100 : Int32)) - (a1 / (100 : Int32)) / (10 : Int32) * (10 : Int32))) 52 ((wrM (wrM t4 50 (t4 49 0).toNatClampNeg (a1 / (1000 : Int32))) 51 ((wrM t4 50 (t4 49 0).toNatClampNeg (a1 / (1000 : Int32))) 49 0).toNatClampNeg ((a1 / (100 : Int32)) - (a1 / (100 : Int32)) / (10 : Int32) * (10 : Int32))) 49 0).toNatClampNeg (a1 - a1 / (100 : Int32) * (100 : Int32))) 53 ((wrM (wrM (wrM t4 50 (t4 49 0).toNatClampNeg (a1 / (1000 : Int32))) 51 ((wrM t4 50 (t4 49 0).toNatClampNeg (a1 / (1000 : Int32))) 49 0).toNatClampNeg ((a1 / (100 : Int32)) - (a1 / (100 : Int32)) / (10 : Int32) * (10 : Int32))) 52 ((wrM (wrM t4 50 (t4 49 0).toNatClampNeg (a1 / (1000 : Int32))) 51 ((wrM t4 50 (t4 49 0).toNatClampNeg (a1 / (1000 : Int32))) 49 0).toNatClampNeg ((a1 / (100 : Int32)) - (a1 / (100 : Int32)) / (10 : Int32) * (10 : Int32))) 49 0).toNatClampNeg (a1 - a1 / (100 : Int32) * (100 : Int32))) 49 0).toNatClampNeg a2) 49 0).toNatClampNeg a3) 49 0 (((wrM (wrM (wrM (wrM (wrM t4 50 (t4 49 0).toNatClampNeg (a1 / (1000 : Int32))) 51 ((wrM t4 50 (t4 49 0).toNatClampNeg (a1 / (1000 : Int32))) 49 0).toNatClampNeg ((a1 / (100 : Int32)) - (a1 / (100 : Int32)) / (10 : Int32) * (10 : Int32))) 52 ((wrM (wrM t4 50 (t4 49 0).toNatClampNeg (a1 / (1000 : Int32))) 51 ((wrM t4 50 (t4 49 0).toNatClampNeg (a1 / (1000 : Int32))) 49 0).toNatClampNeg ((a1 / (100 : Int32)) - (a1 / (100 : Int32)) / (10 : Int32) * (10 : Int32))) 49 0).toNatClampNeg (a1 - a1 / (100 : Int32) * (100 : Int32))) 53 ((wrM (wrM (wrM t4 50 (t4 49 0).toNatClampNeg (a1 / (1000 : Int32))) 51 ((wrM t4 50 (t4 49 0).toNatClampNeg (a1 / (1000 : Int32))) 49 0).toNatClampNeg ((a1 / (100 : Int32)) - (a1 / (100 : Int32)) / (10 : Int32) * (10 : Int32))) 52 ((wrM (wrM t4 50 (t4 49 0).toNatClampNeg (a1 / (1000 : Int32))) 51 ((wrM t4 50 (t4 49 0).toNatClampNeg (a1 / (1000 : Int32))) 49 0).toNatClampNeg ((a1 / (100 : Int32)) - (a1 / (100 : Int32)) / (10 : Int32) * (10 : Int32))) 49 0).toNatClampNeg (a1 - a1 / (100 : Int32) * (100 : Int32))) 49 0).toNatClampNeg a2) 54 ((wrM (wrM (wrM (wrM t4 50 (t4 49 0).toNatClampNeg (a1 / (1000 : Int32))) 51 ((wrM t4 50 (t4 49 0).toNatClampNeg (a1 / (1000 : Int32))) 49 0).toNatClampNeg ((a1 / (100 : Int32)) - (a1 / (100 : Int32)) / (10 : Int32) * (10 : Int32))) 52 ((wrM (wrM t4 50 (t4 49 0).toNatClampNeg (a1 / (1000 : Int32))) 51 ((wrM t4 50 (t4 49 0).toNatClampNeg (a1 / (1000 : Int32))) 49 0).toNatClampNeg ((a1 / (100 : Int32)) - (a1 / (100 : Int32)) / (10 : Int32) * (10 : Int32))) 49 0).toNatClampNeg (a1 - a1 / (100 : Int32) * (100 : Int32))) 53 ((wrM (wrM (wrM t4 50 (t4 49 0).toNatClampNeg (a1 / (1000 : Int32))) 51 ((wrM t4 50 (t4 49 0).toNatClampNeg (a1 / (1000 : Int32))) 49 0).toNatClampNeg ((a1 / (100 : Int32)) - (a1 / (100 : Int32)) / (10 : Int32) * (10 : Int32))) 52 ((wrM (wrM t4 50 (t4 49 0).toNatClampNeg (a1 / (1000 : Int32))) 51 ((wrM t4 50 (t4 49 0).toNatClampNeg (a1 / (1000 : Int32))) 49 0).toNatClampNeg ((a1 / (100 : Int32)) - (a1 / (100 : Int32)) / (10 : Int32) * (10 : Int32))) 49 0).toNatClampNeg (a1 - a1 / (100 : Int32) * (100 : Int32))) 49 0).toNatClampNeg a2) 49 0).toNatClampNeg a3) 49 0) + (1 : Int32)))))))))) ∧
                ((t4 49 0) = (8 : Int32) →
                  post (-1 : Int32) t4))))))))))))))))))))) :
    AW l G d hX8_act 0 [some (.inr 49), some (.inl a1), some (.inl a2), some (.inl a3), none, none] [] s post := wps_ok (cut := []) oX8_act 82 0 _ _ _ h
set_option maxRecDepth 100000 in
theorem vX8_rests_0 {l : Launch} {G : GG} {d : Nat} {post : Int32 → Mem → Prop} {a1 a2 : Int32} {s : Mem} (h :
    (∃ (d' : Nat) (Q1 : Int32 → Mem → Prop), d' < d ∧ Spec l G d' hX8_in [.inl a1, .inl (0 : Int32), .inl (9 : Int32)] s Q1 ∧ ∀ (r1 : Int32) (t1 : Mem), Q1 r1 t1 →
    ((r1 = 0 →
      (bool01 (0 : Int32) ∧ post (0 : Int32) t1)) ∧
    (¬ r1 = 0 →
      (∃ (d' : Nat) (Q2 : Int32 → Mem → Prop), d' < d ∧ Spec l G d' hX8_in [.inl a2, .inl (0 : Int32), .inl (3 : Int32)] t1 Q2 ∧ ∀ (r2 : Int32) (t2 : Mem), Q2 r2 t2 →
      ((¬ r2 = 0 →
        (vp_in a1 10 ∧
        (bool01 (1 : Int32) ∧ post (1 : Int32) (wrM t2 55 a1.toNatClampNeg a2)))) ∧
      (r2 = 0 →
        (bool01 (0 : Int32) ∧ post (0 : Int32) t2)))))))) :
    AW l G d hX8_rests 0 [some (.inr 49), some (.inl a1), some (.inl a2)] [] s post := wps_ok (cut := []) oX8_rests 18 0 _ _ _ h
set_option maxRecDepth 100000 in
theorem vX8_ban_0 {l : Launch} {G : GG} {d : Nat} {post : Int32 → Mem → Prop} {a1 a2 a3 : Int32} {s : Mem} (h :
    (∃ (d' : Nat) (Q1 : Int32 → Mem → Prop), d' < d ∧ Spec l G d' hX8_in [.inl a1, .inl (0 : Int32), .inl (3 : Int32)] s Q1 ∧ ∀ (r1 : Int32) (t1 : Mem), Q1 r1 t1 →
    ((r1 = 0 →
      (bool01 (0 : Int32) ∧ post (0 : Int32) t1)) ∧
    (¬ r1 = 0 →
      (∃ (d' : Nat) (Q2 : Int32 → Mem → Prop), d' < d ∧ Spec l G d' hX8_in [.inl a2, .inl (0 : Int32), .inl (3 : Int32)] t1 Q2 ∧ ∀ (r2 : Int32) (t2 : Mem), Q2 r2 t2 →
      ((r2 = 0 →
        (bool01 (0 : Int32) ∧ post (0 : Int32) t2)) ∧
      (¬ r2 = 0 →
        (vp_in (((4 : Int32) * a1) + a2) 16 ∧
        ((¬ (t2 56 (((4 : Int32) * a1) + a2).toNatClampNeg) = a3 →
          (vp_in (((4 : Int32) * a1) + a2) 16 ∧
          (bool01 (1 : Int32) ∧ post (1 : Int32) (wrM t2 56 (((4 : Int32) * a1) + a2).toNatClampNeg (vp_nar .boolean a3))))) ∧
        ((t2 56 (((4 : Int32) * a1) + a2).toNatClampNeg) = a3 →
          (bool01 (0 : Int32) ∧ post (0 : Int32) t2))))))))))) :
    AW l G d hX8_ban 0 [some (.inr 49), some (.inl a1), some (.inl a2), some (.inl a3)] [] s post := wps_ok (cut := []) oX8_ban 32 0 _ _ _ h
set_option maxRecDepth 100000 in
theorem vX8_breaksAt_0 {l : Launch} {G : GG} {d : Nat} {post : Int32 → Mem → Prop} {a1 : Int32} {s : Mem} (h :
    (vp_in a1 9 ∧
    (((s 68 a1.toNatClampNeg) < (s 49 0) →
      AW l G d hX8_breaksAt 19 [some (.inr 49), some (.inl a1), some (.inl (s 68 a1.toNatClampNeg)), some (.inl (0 : Int32)), none] [] s post) ∧
    (¬ (s 68 a1.toNatClampNeg) < (s 49 0) →
      post (1 : Int32) s)))) :
    AW l G d hX8_breaksAt 0 [some (.inr 49), some (.inl a1), none, none, none] [] s post := wps_ok (cut := [19, 44, 52]) oX8_breaksAt 12 0 _ _ _ h
set_option maxRecDepth 100000 in
theorem vX8_breaksAt_19 {l : Launch} {G : GG} {d : Nat} {post : Int32 → Mem → Prop} {a1 a2 a3 : Int32} {s : Mem} (h :
    ((a1 ≤ a3 →
      AW l G d hX8_breaksAt 44 [some (.inr 49), some (.inl a1), some (.inl a2), some (.inl (0 : Int32)), none] [] s post) ∧
    (¬ a1 ≤ a3 →
      (vp_in a3 9 ∧
      ((¬ (s 68 a3.toNatClampNeg) = a2 →
        AW l G d hX8_breaksAt 19 [some (.inr 49), some (.inl a1), some (.inl a2), some (.inl (a3 + (1 : Int32))), none] [] s post) ∧
      ((s 68 a3.toNatClampNeg) = a2 →
        post (1 : Int32) s)))))) :
    AW l G d hX8_breaksAt 19 [some (.inr 49), some (.inl a1), some (.inl a2), some (.inl a3), none] [] s post := wps_ok (cut := [19, 44, 52]) oX8_breaksAt 12 19 _ _ _ h
set_option maxRecDepth 100000 in
theorem vX8_breaksAt_44 {l : Launch} {G : GG} {d : Nat} {post : Int32 → Mem → Prop} {a1 a2 a3 : Int32} {s : Mem} (h :
    ((a1 ≤ a3 →
      ((a1 ≤ 0 →
        post (0 : Int32) s) ∧
      (¬ a1 ≤ 0 →
        (vp_in (a1 - (1 : Int32)) 9 ∧
        (vp_in (s 68 (a1 - (1 : Int32)).toNatClampNeg) 8 ∧
        (vp_in a2 8 ∧
        (vp_in (((4 : Int32) * (s 51 (s 68 (a1 - (1 : Int32)).toNatClampNeg).toNatClampNeg)) + (s 51 a2.toNatClampNeg)) 16 ∧
        (((s 56 (((4 : Int32) * (s 51 (s 68 (a1 - (1 : Int32)).toNatClampNeg).toNatClampNeg)) + (s 51 a2.toNatClampNeg)).toNatClampNeg) = 0 →
          post (0 : Int32) s) ∧
        (¬ (s 56 (((4 : Int32) * (s 51 (s 68 (a1 - (1 : Int32)).toNatClampNeg).toNatClampNeg)) + (s 51 a2.toNatClampNeg)).toNatClampNeg) = 0 →
          post (3 : Int32) s))))))))) ∧
    (¬ a1 ≤ a3 →
      AW l G d hX8_breaksAt 52 [some (.inr 49), some (.inl a1), some (.inl a2), some (.inl a3), some (.inl (0 : Int32))] [] s post))) :
    AW l G d hX8_breaksAt 44 [some (.inr 49), some (.inl a1), some (.inl a2), some (.inl a3), none] [] s post := wps_ok (cut := [19, 44, 52]) oX8_breaksAt 29 44 _ _ _ h
set_option maxRecDepth 100000 in
theorem vX8_breaksAt_52 {l : Launch} {G : GG} {d : Nat} {post : Int32 → Mem → Prop} {a1 a2 a3 a4 : Int32} {s : Mem} (h :
    (((10 : Int32) ≤ a4 →
      AW l G d hX8_breaksAt 44 [some (.inr 49), some (.inl a1), some (.inl a2), some (.inl (a3 + (1 : Int32))), some (.inl a4)] [] s post) ∧
    (¬ (10 : Int32) ≤ a4 →
      (vp_in a2 8 ∧
      (vp_in a3 9 ∧
      (vp_in (s 68 a3.toNatClampNeg) 8 ∧
      ((¬ ((((s 53 a2.toNatClampNeg) >>> (a4 &&& 31)) &&& ((s 53 (s 68 a3.toNatClampNeg).toNatClampNeg) >>> (a4 &&& 31))) &&& (1 : Int32)) = (1 : Int32) →
        AW l G d hX8_breaksAt 52 [some (.inr 49), some (.inl a1), some (.inl a2), some (.inl a3), some (.inl (a4 + (1 : Int32)))] [] s post) ∧
      (((((s 53 a2.toNatClampNeg) >>> (a4 &&& 31)) &&& ((s 53 (s 68 a3.toNatClampNeg).toNatClampNeg) >>> (a4 &&& 31))) &&& (1 : Int32)) = (1 : Int32) →
        (vp_in a4 10 ∧
        (((s 55 a4.toNatClampNeg) ≤ ((a1 - a3) - (1 : Int32)) →
          AW l G d hX8_breaksAt 52 [some (.inr 49), some (.inl a1), some (.inl a2), some (.inl a3), some (.inl (a4 + (1 : Int32)))] [] s post) ∧
        (¬ (s 55 a4.toNatClampNeg) ≤ ((a1 - a3) - (1 : Int32)) →
          post (2 : Int32) s))))))))))) :
    AW l G d hX8_breaksAt 52 [some (.inr 49), some (.inl a1), some (.inl a2), some (.inl a3), some (.inl a4)] [] s post := wps_ok (cut := [19, 44, 52]) oX8_breaksAt 36 52 _ _ _ h
set_option maxRecDepth 100000 in
theorem vX8_reads_0 {l : Launch} {G : GG} {d : Nat} {post : Int32 → Mem → Prop} {a1 a2 : Int32} {s : Mem} (h :
    (∃ (d' : Nat) (Q1 : Int32 → Mem → Prop), d' < d ∧ Spec l G d' hX8_in [.inl a2, .inl (0 : Int32), .inl (8 : Int32)] s Q1 ∧ ∀ (r1 : Int32) (t1 : Mem), Q1 r1 t1 →
    ((r1 = 0 →
      (bool01 (0 : Int32) ∧ post (0 : Int32) t1)) ∧
    (¬ r1 = 0 →
      ((0 ≤ a1 →
        AW l G d hX8_reads 21 [some (.inr 49), some (.inl a1), some (.inl a2), some (.inl a1), some (.inl (0 : Int32))] [] t1 post) ∧
      (¬ 0 ≤ a1 →
        (bool01 (0 : Int32) ∧ post (0 : Int32) t1))))))) :
    AW l G d hX8_reads 0 [some (.inr 49), some (.inl a1), some (.inl a2), none, none] [] s post := wps_ok (cut := [21]) oX8_reads 12 0 _ _ _ h
set_option maxRecDepth 100000 in
theorem vX8_reads_21 {l : Launch} {G : GG} {d : Nat} {post : Int32 → Mem → Prop} {a1 a2 a3 a4 : Int32} {s : Mem} (h :
    ((a2 ≤ a4 →
      ((¬ a3 = 0 →
        (bool01 (0 : Int32) ∧ post (0 : Int32) s)) ∧
      (a3 = 0 →
        (bool01 (1 : Int32) ∧ post (1 : Int32) s)))) ∧
    (¬ a2 ≤ a4 →
      (¬ (10 : Int32) = 0 ∧
      (vp_in a4 9 ∧
      (¬ (10 : Int32) = 0 ∧
      AW l G d hX8_reads 21 [some (.inr 49), some (.inl a1), some (.inl a2), some (.inl (a3 / (10 : Int32))), some (.inl (a4 + (1 : Int32)))] [] (wrM s 68 a4.toNatClampNeg (a3 - a3 / (10 : Int32) * (10 : Int32))) post)))))) :
    AW l G d hX8_reads 21 [some (.inr 49), some (.inl a1), some (.inl a2), some (.inl a3), some (.inl a4)] [] s post := wps_ok (cut := [21]) oX8_reads 17 21 _ _ _ h
set_option maxRecDepth 100000 in
theorem vX8_judge_0 {l : Launch} {G : GG} {d : Nat} {post : Int32 → Mem → Prop} {a1 a2 a3 : Int32} {s : Mem} (h :
    (∃ (d' : Nat) (Q1 : Int32 → Mem → Prop), d' < d ∧ Spec l G d' hX8_reads [.inr 49, .inl a1, .inl a2] s Q1 ∧ ∀ (r1 : Int32) (t1 : Mem), Q1 r1 t1 →
    ((r1 = 0 →
      post (-1 : Int32) t1) ∧
    (¬ r1 = 0 →
      (∃ (d' : Nat) (Q2 : Int32 → Mem → Prop), d' < d ∧ Spec l G d' hX8_in [.inl a3, .inl (0 : Int32), .inl (1 : Int32)] t1 Q2 ∧ ∀ (r2 : Int32) (t2 : Mem), Q2 r2 t2 →
      ((¬ r2 = 0 →
        AW l G d hX8_judge 23 [some (.inr 49), some (.inl a1), some (.inl a2), some (.inl a3), some (.inl (0 : Int32)), none] [] t2 post) ∧
      (r2 = 0 →
        post (-1 : Int32) t2))))))) :
    AW l G d hX8_judge 0 [some (.inr 49), some (.inl a1), some (.inl a2), some (.inl a3), none, none] [] s post := wps_ok (cut := [23]) oX8_judge 13 0 _ _ _ h
set_option maxRecDepth 100000 in
theorem vX8_judge_23 {l : Launch} {G : GG} {d : Nat} {post : Int32 → Mem → Prop} {a1 a2 a3 a4 : Int32} {s : Mem} (h :
    ((a2 ≤ a4 →
      (((s 49 0) ≤ a2 →
        post (-1 : Int32) s) ∧
      (¬ (s 49 0) ≤ a2 →
        ((¬ a3 = 0 →
          post (4 : Int32) s) ∧
        (a3 = 0 →
          post a2 s))))) ∧
    (¬ a2 ≤ a4 →
      (∃ (d' : Nat) (Q1 : Int32 → Mem → Prop), d' < d ∧ Spec l G d' hX8_breaksAt [.inr 49, .inl a4] s Q1 ∧ ∀ (r1 : Int32) (t1 : Mem), Q1 r1 t1 →
      ((r1 ≤ 0 →
        AW l G d hX8_judge 23 [some (.inr 49), some (.inl a1), some (.inl a2), some (.inl a3), some (.inl (a4 + (1 : Int32))), some (.inl r1)] [] t1 post) ∧
      (¬ r1 ≤ 0 →
        ((¬ a3 = 0 →
          post r1 t1) ∧
        (a3 = 0 →
          post a4 t1)))))))) :
    AW l G d hX8_judge 23 [some (.inr 49), some (.inl a1), some (.inl a2), some (.inl a3), some (.inl a4), none] [] s post := wps_ok (cut := [23]) oX8_judge 15 23 _ _ _ h
set_option maxRecDepth 100000 in
theorem vX8_gapsOf_0 {l : Launch} {G : GG} {d : Nat} {post : Int32 → Mem → Prop} {a1 : Int32} {s : Mem} (h :
    AW l G d hX8_gapsOf 10 [some (.inr 49), some (.inl a1), some (.inl (0 : Int32)), some (.inl (0 : Int32)), some (.inl (0 : Int32)), some (.inl (0 : Int32)), none, none] [] s post) :
    AW l G d hX8_gapsOf 0 [some (.inr 49), some (.inl a1), none, none, none, none, none, none] [] s post := wps_ok (cut := [10]) oX8_gapsOf 9 0 _ _ _ h
set_option maxRecDepth 100000 in
theorem vX8_gapsOf_10 {l : Launch} {G : GG} {d : Nat} {post : Int32 → Mem → Prop} {a1 a2 a3 a4 a5 : Int32} {s : Mem} (h :
    ((a1 ≤ a5 →
      post a4 s) ∧
    (¬ a1 ≤ a5 →
      (vp_in a5 9 ∧
      (vp_in (s 68 a5.toNatClampNeg) 8 ∧
      ((¬ (s 51 (s 68 a5.toNatClampNeg).toNatClampNeg) = (3 : Int32) →
        (vp_in (s 68 a5.toNatClampNeg) 8 ∧
        (∃ (d' : Nat) (Q1 : Int32 → Mem → Prop), d' < d ∧ Spec l G d' hX8_bits [.inl (a2 ^^^ (s 54 (s 68 a5.toNatClampNeg).toNatClampNeg))] s Q1 ∧ ∀ (r1 : Int32) (t1 : Mem), Q1 r1 t1 →
        (((((2 : Int32) * r1) - a3) ≤ 0 →
          (vp_in (s 68 a5.toNatClampNeg) 8 ∧
          AW l G d hX8_gapsOf 10 [some (.inr 49), some (.inl a1), some (.inl (t1 54 (s 68 a5.toNatClampNeg).toNatClampNeg)), some (.inl (0 : Int32)), some (.inl (a4 + (0 : Int32))), some (.inl (a5 + (1 : Int32))), some (.inl (s 68 a5.toNatClampNeg)), some (.inl (((2 : Int32) * r1) - a3))] [] t1 post)) ∧
        (¬ (((2 : Int32) * r1) - a3) ≤ 0 →
          (vp_in (s 68 a5.toNatClampNeg) 8 ∧
          AW l G d hX8_gapsOf 10 [some (.inr 49), some (.inl a1), some (.inl (t1 54 (s 68 a5.toNatClampNeg).toNatClampNeg)), some (.inl (0 : Int32)), some (.inl (a4 + (((2 : Int32) * r1) - a3))), some (.inl (a5 + (1 : Int32))), some (.inl (s 68 a5.toNatClampNeg)), some (.inl (((2 : Int32) * r1) - a3))] [] t1 post)))))) ∧
      ((s 51 (s 68 a5.toNatClampNeg).toNatClampNeg) = (3 : Int32) →
        (vp_in (s 68 a5.toNatClampNeg) 8 ∧
        AW l G d hX8_gapsOf 10 [some (.inr 49), some (.inl a1), some (.inl a2), some (.inl (a3 + (s 50 (s 68 a5.toNatClampNeg).toNatClampNeg))), some (.inl a4), some (.inl (a5 + (1 : Int32))), some (.inl (s 68 a5.toNatClampNeg)), none] [] s post)))))))) :
    AW l G d hX8_gapsOf 10 [some (.inr 49), some (.inl a1), some (.inl a2), some (.inl a3), some (.inl a4), some (.inl a5), none, none] [] s post := wps_ok (cut := [10]) oX8_gapsOf 43 10 _ _ _ h
set_option maxRecDepth 100000 in
theorem vX8_gaps_0 {l : Launch} {G : GG} {d : Nat} {post : Int32 → Mem → Prop} {a1 a2 : Int32} {s : Mem} (h :
    (∃ (d' : Nat) (Q1 : Int32 → Mem → Prop), d' < d ∧ Spec l G d' hX8_reads [.inr 49, .inl a1, .inl a2] s Q1 ∧ ∀ (r1 : Int32) (t1 : Mem), Q1 r1 t1 →
    ((r1 = 0 →
      post (-1 : Int32) t1) ∧
    (¬ r1 = 0 →
      (∃ (d' : Nat) (Q2 : Int32 → Mem → Prop), d' < d ∧ Spec l G d' hX8_judge [.inr 49, .inl a1, .inl a2, .inl (0 : Int32)] t1 Q2 ∧ ∀ (r2 : Int32) (t2 : Mem), Q2 r2 t2 →
      ((r2 = (-1 : Int32) →
        (∃ (d' : Nat) (Q3 : Int32 → Mem → Prop), d' < d ∧ Spec l G d' hX8_gapsOf [.inr 49, .inl a2] t2 Q3 ∧ ∀ (r3 : Int32) (t3 : Mem), Q3 r3 t3 →
        post r3 t3)) ∧
      (¬ r2 = (-1 : Int32) →
        post (-1 : Int32) t2))))))) :
    AW l G d hX8_gaps 0 [some (.inr 49), some (.inl a1), some (.inl a2)] [] s post := wps_ok (cut := []) oX8_gaps 17 0 _ _ _ h
set_option maxRecDepth 100000 in
theorem vX8_seeks_0 {l : Launch} {G : GG} {d : Nat} {post : Int32 → Mem → Prop} {s : Mem} (h :
    (vp_in (0 : Int32) 10 ∧
    AW l G d hX8_seeks 16 [some (.inr 49), some (.inl (0 : Int32)), some (.inl (0 : Int32)), none, none, none] [] (wrM (wrM s 49 26 (-1 : Int32)) 69 (0 : Int32).toNatClampNeg (0 : Int32)) post)) :
    AW l G d hX8_seeks 0 [some (.inr 49), none, none, none, none, none] [] s post := wps_ok (cut := [16, 47, 122]) oX8_seeks 13 0 _ _ _ h
set_option maxRecDepth 100000 in
theorem vX8_seeks_16 {l : Launch} {G : GG} {d : Nat} {post : Int32 → Mem → Prop} {a1 a2 : Int32} {s : Mem} (h :
    ((a2 < 0 →
      (((s 49 26) = (-1 : Int32) →
        (bool01 (0 : Int32) ∧ post (0 : Int32) s)) ∧
      (¬ (s 49 26) = (-1 : Int32) →
        (bool01 (1 : Int32) ∧ post (1 : Int32) s)))) ∧
    (¬ a2 < 0 →
      (((s 49 0) ≤ 0 →
        (((s 49 26) = (-1 : Int32) →
          (bool01 (0 : Int32) ∧ post (0 : Int32) s)) ∧
        (¬ (s 49 26) = (-1 : Int32) →
          (bool01 (1 : Int32) ∧ post (1 : Int32) s)))) ∧
      (¬ (s 49 0) ≤ 0 →
        ((¬ a2 = (s 49 0) →
          ((¬ a2 = (s 49 0) →
            (vp_in a2 10 ∧
            ((¬ (s 69 a2.toNatClampNeg) = (s 49 0) →
              (vp_in a2 10 ∧
              (vp_in a2 10 ∧
              (vp_in a2 9 ∧
              (∃ (d' : Nat) (Q1 : Int32 → Mem → Prop), d' < d ∧ Spec l G d' hX8_breaksAt [.inr 49, .inl a2] (wrM (wrM s 69 a2.toNatClampNeg ((s 69 a2.toNatClampNeg) + (1 : Int32))) 68 a2.toNatClampNeg (s 69 a2.toNatClampNeg)) Q1 ∧ ∀ (r1 : Int32) (t1 : Mem), Q1 r1 t1 →
              ((r1 ≤ 0 →
                (vp_in (a2 + (1 : Int32)) 10 ∧
                AW l G d hX8_seeks 16 [some (.inr 49), some (.inl a1), some (.inl (a2 + (1 : Int32))), some (.inl (s 69 a2.toNatClampNeg)), none, none] [] (wrM t1 69 (a2 + (1 : Int32)).toNatClampNeg (0 : Int32)) post)) ∧
              (¬ r1 ≤ 0 →
                AW l G d hX8_seeks 16 [some (.inr 49), some (.inl a1), some (.inl a2), some (.inl (s 69 a2.toNatClampNeg)), none, none] [] t1 post))))))) ∧
            ((s 69 a2.toNatClampNeg) = (s 49 0) →
              AW l G d hX8_seeks 16 [some (.inr 49), some (.inl a1), some (.inl (a2 + (-1 : Int32))), some (.inl (s 69 a2.toNatClampNeg)), none, none] [] s post)))) ∧
          (a2 = (s 49 0) →
            ((¬ (s 49 0) = (s 49 0) →
              (vp_in a2 10 ∧
              (vp_in a2 10 ∧
              (vp_in a2 9 ∧
              (∃ (d' : Nat) (Q2 : Int32 → Mem → Prop), d' < d ∧ Spec l G d' hX8_breaksAt [.inr 49, .inl a2] (wrM (wrM s 69 a2.toNatClampNeg ((s 69 a2.toNatClampNeg) + (1 : Int32))) 68 a2.toNatClampNeg (s 49 0)) Q2 ∧ ∀ (r2 : Int32) (t2 : Mem), Q2 r2 t2 →
              ((r2 ≤ 0 →
                (vp_in (a2 + (1 : Int32)) 10 ∧
                AW l G d hX8_seeks 16 [some (.inr 49), some (.inl a1), some (.inl (a2 + (1 : Int32))), some (.inl (s 49 0)), none, none] [] (wrM t2 69 (a2 + (1 : Int32)).toNatClampNeg (0 : Int32)) post)) ∧
              (¬ r2 ≤ 0 →
                AW l G d hX8_seeks 16 [some (.inr 49), some (.inl a1), some (.inl a2), some (.inl (s 49 0)), none, none] [] t2 post))))))) ∧
            ((s 49 0) = (s 49 0) →
              AW l G d hX8_seeks 16 [some (.inr 49), some (.inl a1), some (.inl (a2 + (-1 : Int32))), some (.inl (s 49 0)), none, none] [] s post))))) ∧
        (a2 = (s 49 0) →
          (∃ (d' : Nat) (Q3 : Int32 → Mem → Prop), d' < d ∧ Spec l G d' hX8_gapsOf [.inr 49, .inl a2] s Q3 ∧ ∀ (r3 : Int32) (t3 : Mem), Q3 r3 t3 →
          AW l G d hX8_seeks 47 [some (.inr 49), some (.inl a1), some (.inl a2), some (.inl r3), some (.inl (0 : Int32)), some (.inl (0 : Int32))] [] t3 post)))))))) :
    AW l G d hX8_seeks 16 [some (.inr 49), some (.inl a1), some (.inl a2), none, none, none] [] s post := wps_ok (cut := [16, 47, 122]) oX8_seeks 47 16 _ _ _ h
set_option maxRecDepth 100000 in
theorem vX8_seeks_47 {l : Launch} {G : GG} {d : Nat} {post : Int32 → Mem → Prop} {a1 a2 a3 a4 a5 : Int32} {s : Mem} (h :
    ((a2 ≤ a5 →
      (((s 49 26) = (-1 : Int32) →
        AW l G d hX8_seeks 122 [some (.inr 49), some (.inl a4), some (.inl a2), some (.inl a3), some (.inl a4), some (.inl (0 : Int32))] [] (wrM s 49 26 a3) post) ∧
      (¬ (s 49 26) = (-1 : Int32) →
        ((a3 < (s 49 26) →
          AW l G d hX8_seeks 122 [some (.inr 49), some (.inl a4), some (.inl a2), some (.inl a3), some (.inl a4), some (.inl (0 : Int32))] [] (wrM s 49 26 a3) post) ∧
        (¬ a3 < (s 49 26) →
          ((¬ a3 = (s 49 26) →
            ((¬ a2 = (s 49 0) →
              (vp_in a2 10 ∧
              ((¬ (s 69 a2.toNatClampNeg) = (s 49 0) →
                (vp_in a2 10 ∧
                (vp_in a2 10 ∧
                (vp_in a2 9 ∧
                (∃ (d' : Nat) (Q1 : Int32 → Mem → Prop), d' < d ∧ Spec l G d' hX8_breaksAt [.inr 49, .inl a2] (wrM (wrM s 69 a2.toNatClampNeg ((s 69 a2.toNatClampNeg) + (1 : Int32))) 68 a2.toNatClampNeg (s 69 a2.toNatClampNeg)) Q1 ∧ ∀ (r1 : Int32) (t1 : Mem), Q1 r1 t1 →
                ((r1 ≤ 0 →
                  (vp_in (a2 + (1 : Int32)) 10 ∧
                  AW l G d hX8_seeks 16 [some (.inr 49), some (.inl a1), some (.inl (a2 + (1 : Int32))), some (.inl (s 69 a2.toNatClampNeg)), some (.inl a4), some (.inl a5)] [] (wrM t1 69 (a2 + (1 : Int32)).toNatClampNeg (0 : Int32)) post)) ∧
                (¬ r1 ≤ 0 →
                  AW l G d hX8_seeks 16 [some (.inr 49), some (.inl a1), some (.inl a2), some (.inl (s 69 a2.toNatClampNeg)), some (.inl a4), some (.inl a5)] [] t1 post))))))) ∧
              ((s 69 a2.toNatClampNeg) = (s 49 0) →
                AW l G d hX8_seeks 16 [some (.inr 49), some (.inl a1), some (.inl (a2 + (-1 : Int32))), some (.inl (s 69 a2.toNatClampNeg)), some (.inl a4), some (.inl a5)] [] s post)))) ∧
            (a2 = (s 49 0) →
              ((¬ (s 49 0) = (s 49 0) →
                (vp_in a2 10 ∧
                (vp_in a2 10 ∧
                (vp_in a2 9 ∧
                (∃ (d' : Nat) (Q2 : Int32 → Mem → Prop), d' < d ∧ Spec l G d' hX8_breaksAt [.inr 49, .inl a2] (wrM (wrM s 69 a2.toNatClampNeg ((s 69 a2.toNatClampNeg) + (1 : Int32))) 68 a2.toNatClampNeg (s 49 0)) Q2 ∧ ∀ (r2 : Int32) (t2 : Mem), Q2 r2 t2 →
                ((r2 ≤ 0 →
                  (vp_in (a2 + (1 : Int32)) 10 ∧
                  AW l G d hX8_seeks 16 [some (.inr 49), some (.inl a1), some (.inl (a2 + (1 : Int32))), some (.inl (s 49 0)), some (.inl a4), some (.inl a5)] [] (wrM t2 69 (a2 + (1 : Int32)).toNatClampNeg (0 : Int32)) post)) ∧
                (¬ r2 ≤ 0 →
                  AW l G d hX8_seeks 16 [some (.inr 49), some (.inl a1), some (.inl a2), some (.inl (s 49 0)), some (.inl a4), some (.inl a5)] [] t2 post))))))) ∧
              ((s 49 0) = (s 49 0) →
                AW l G d hX8_seeks 16 [some (.inr 49), some (.inl a1), some (.inl (a2 + (-1 : Int32))), some (.inl (s 49 0)), some (.inl a4), some (.inl a5)] [] s post))))) ∧
          (a3 = (s 49 26) →
            ((a4 ≤ a1 →
              ((¬ a2 = (s 49 0) →
                (vp_in a2 10 ∧
                ((¬ (s 69 a2.toNatClampNeg) = (s 49 0) →
                  (vp_in a2 10 ∧
                  (vp_in a2 10 ∧
                  (vp_in a2 9 ∧
                  (∃ (d' : Nat) (Q3 : Int32 → Mem → Prop), d' < d ∧ Spec l G d' hX8_breaksAt [.inr 49, .inl a2] (wrM (wrM s 69 a2.toNatClampNeg ((s 69 a2.toNatClampNeg) + (1 : Int32))) 68 a2.toNatClampNeg (s 69 a2.toNatClampNeg)) Q3 ∧ ∀ (r3 : Int32) (t3 : Mem), Q3 r3 t3 →
                  ((r3 ≤ 0 →
                    (vp_in (a2 + (1 : Int32)) 10 ∧
                    AW l G d hX8_seeks 16 [some (.inr 49), some (.inl a1), some (.inl (a2 + (1 : Int32))), some (.inl (s 69 a2.toNatClampNeg)), some (.inl a4), some (.inl a5)] [] (wrM t3 69 (a2 + (1 : Int32)).toNatClampNeg (0 : Int32)) post)) ∧
                  (¬ r3 ≤ 0 →
                    AW l G d hX8_seeks 16 [some (.inr 49), some (.inl a1), some (.inl a2), some (.inl (s 69 a2.toNatClampNeg)), some (.inl a4), some (.inl a5)] [] t3 post))))))) ∧
                ((s 69 a2.toNatClampNeg) = (s 49 0) →
                  AW l G d hX8_seeks 16 [some (.inr 49), some (.inl a1), some (.inl (a2 + (-1 : Int32))), some (.inl (s 69 a2.toNatClampNeg)), some (.inl a4), some (.inl a5)] [] s post)))) ∧
              (a2 = (s 49 0) →
                ((¬ (s 49 0) = (s 49 0) →
                  (vp_in a2 10 ∧
                  (vp_in a2 10 ∧
                  (vp_in a2 9 ∧
                  (∃ (d' : Nat) (Q4 : Int32 → Mem → Prop), d' < d ∧ Spec l G d' hX8_breaksAt [.inr 49, .inl a2] (wrM (wrM s 69 a2.toNatClampNeg ((s 69 a2.toNatClampNeg) + (1 : Int32))) 68 a2.toNatClampNeg (s 49 0)) Q4 ∧ ∀ (r4 : Int32) (t4 : Mem), Q4 r4 t4 →
                  ((r4 ≤ 0 →
                    (vp_in (a2 + (1 : Int32)) 10 ∧
                    AW l G d hX8_seeks 16 [some (.inr 49), some (.inl a1), some (.inl (a2 + (1 : Int32))), some (.inl (s 49 0)), some (.inl a4), some (.inl a5)] [] (wrM t4 69 (a2 + (1 : Int32)).toNatClampNeg (0 : Int32)) post)) ∧
                  (¬ r4 ≤ 0 →
                    AW l G d hX8_seeks 16 [some (.inr 49), some (.inl a1), some (.inl a2), some (.inl (s 49 0)), some (.inl a4), some (.inl a5)] [] t4 post))))))) ∧
                ((s 49 0) = (s 49 0) →
                  AW l G d hX8_seeks 16 [some (.inr 49), some (.inl a1), some (.inl (a2 + (-1 : Int32))), some (.inl (s 49 0)), some (.inl a4), some (.inl a5)] [] s post))))) ∧
            (¬ a4 ≤ a1 →
              AW l G d hX8_seeks 122 [some (.inr 49), some (.inl a4), some (.inl a2), some (.inl a3), some (.inl a4), some (.inl (0 : Int32))] [] (wrM s 49 26 a3) post))))))))) ∧
    (¬ a2 ≤ a5 →
      (vp_in a5 9 ∧
      (vp_in (s 68 a5.toNatClampNeg) 8 ∧
      AW l G d hX8_seeks 47 [some (.inr 49), some (.inl a1), some (.inl a2), some (.inl a3), some (.inl (a4 + ((s 52 (s 68 a5.toNatClampNeg).toNatClampNeg) * (a5 + (1 : Int32))))), some (.inl (a5 + (1 : Int32)))] [] s post))))) :
    AW l G d hX8_seeks 47 [some (.inr 49), some (.inl a1), some (.inl a2), some (.inl a3), some (.inl a4), some (.inl a5)] [] s post := wps_ok (cut := [16, 47, 122]) oX8_seeks 56 47 _ _ _ h
set_option maxRecDepth 100000 in
theorem vX8_seeks_122 {l : Launch} {G : GG} {d : Nat} {post : Int32 → Mem → Prop} {a1 a2 a3 a4 a5 : Int32} {s : Mem} (h :
    ((a2 ≤ a5 →
      ((¬ a2 = (s 49 0) →
        (vp_in a2 10 ∧
        ((¬ (s 69 a2.toNatClampNeg) = (s 49 0) →
          (vp_in a2 10 ∧
          (vp_in a2 10 ∧
          (vp_in a2 9 ∧
          (∃ (d' : Nat) (Q1 : Int32 → Mem → Prop), d' < d ∧ Spec l G d' hX8_breaksAt [.inr 49, .inl a2] (wrM (wrM s 69 a2.toNatClampNeg ((s 69 a2.toNatClampNeg) + (1 : Int32))) 68 a2.toNatClampNeg (s 69 a2.toNatClampNeg)) Q1 ∧ ∀ (r1 : Int32) (t1 : Mem), Q1 r1 t1 →
          ((r1 ≤ 0 →
            (vp_in (a2 + (1 : Int32)) 10 ∧
            AW l G d hX8_seeks 16 [some (.inr 49), some (.inl a1), some (.inl (a2 + (1 : Int32))), some (.inl (s 69 a2.toNatClampNeg)), some (.inl a4), some (.inl a5)] [] (wrM t1 69 (a2 + (1 : Int32)).toNatClampNeg (0 : Int32)) post)) ∧
          (¬ r1 ≤ 0 →
            AW l G d hX8_seeks 16 [some (.inr 49), some (.inl a1), some (.inl a2), some (.inl (s 69 a2.toNatClampNeg)), some (.inl a4), some (.inl a5)] [] t1 post))))))) ∧
        ((s 69 a2.toNatClampNeg) = (s 49 0) →
          AW l G d hX8_seeks 16 [some (.inr 49), some (.inl a1), some (.inl (a2 + (-1 : Int32))), some (.inl (s 69 a2.toNatClampNeg)), some (.inl a4), some (.inl a5)] [] s post)))) ∧
      (a2 = (s 49 0) →
        ((¬ (s 49 0) = (s 49 0) →
          (vp_in a2 10 ∧
          (vp_in a2 10 ∧
          (vp_in a2 9 ∧
          (∃ (d' : Nat) (Q2 : Int32 → Mem → Prop), d' < d ∧ Spec l G d' hX8_breaksAt [.inr 49, .inl a2] (wrM (wrM s 69 a2.toNatClampNeg ((s 69 a2.toNatClampNeg) + (1 : Int32))) 68 a2.toNatClampNeg (s 49 0)) Q2 ∧ ∀ (r2 : Int32) (t2 : Mem), Q2 r2 t2 →
          ((r2 ≤ 0 →
            (vp_in (a2 + (1 : Int32)) 10 ∧
            AW l G d hX8_seeks 16 [some (.inr 49), some (.inl a1), some (.inl (a2 + (1 : Int32))), some (.inl (s 49 0)), some (.inl a4), some (.inl a5)] [] (wrM t2 69 (a2 + (1 : Int32)).toNatClampNeg (0 : Int32)) post)) ∧
          (¬ r2 ≤ 0 →
            AW l G d hX8_seeks 16 [some (.inr 49), some (.inl a1), some (.inl a2), some (.inl (s 49 0)), some (.inl a4), some (.inl a5)] [] t2 post))))))) ∧
        ((s 49 0) = (s 49 0) →
          AW l G d hX8_seeks 16 [some (.inr 49), some (.inl a1), some (.inl (a2 + (-1 : Int32))), some (.inl (s 49 0)), some (.inl a4), some (.inl a5)] [] s post))))) ∧
    (¬ a2 ≤ a5 →
      (vp_in a5 9 ∧
      (vp_in a5 8 ∧
      AW l G d hX8_seeks 122 [some (.inr 49), some (.inl a1), some (.inl a2), some (.inl a3), some (.inl a4), some (.inl (a5 + (1 : Int32)))] [] (wrM s 70 a5.toNatClampNeg (s 68 a5.toNatClampNeg)) post))))) :
    AW l G d hX8_seeks 122 [some (.inr 49), some (.inl a1), some (.inl a2), some (.inl a3), some (.inl a4), some (.inl a5)] [] s post := wps_ok (cut := [16, 47, 122]) oX8_seeks 41 122 _ _ _ h
set_option maxRecDepth 100000 in
theorem vX8_best_0 {l : Launch} {G : GG} {d : Nat} {post : Int32 → Mem → Prop} {s : Mem} (h :
    (∃ (d' : Nat) (Q1 : Int32 → Mem → Prop), d' < d ∧ Spec l G d' hX8_seeks [.inr 49] s Q1 ∧ ∀ (r1 : Int32) (t1 : Mem), Q1 r1 t1 →
    ((r1 = 0 →
      post (-1 : Int32) t1) ∧
    (¬ r1 = 0 →
      post (t1 49 26) t1)))) :
    AW l G d hX8_best 0 [some (.inr 49)] [] s post := wps_ok (cut := []) oX8_best 8 0 _ _ _ h
set_option maxRecDepth 100000 in
theorem vX8_bestAt_0 {l : Launch} {G : GG} {d : Nat} {post : Int32 → Mem → Prop} {a1 : Int32} {s : Mem} (h :
    (∃ (d' : Nat) (Q1 : Int32 → Mem → Prop), d' < d ∧ Spec l G d' hX8_seeks [.inr 49] s Q1 ∧ ∀ (r1 : Int32) (t1 : Mem), Q1 r1 t1 →
    ((r1 = 0 →
      post (-1 : Int32) t1) ∧
    (¬ r1 = 0 →
      (∃ (d' : Nat) (Q2 : Int32 → Mem → Prop), d' < d ∧ Spec l G d' hX8_in [.inl a1, .inl (0 : Int32), .inl ((t1 49 0) - (1 : Int32))] t1 Q2 ∧ ∀ (r2 : Int32) (t2 : Mem), Q2 r2 t2 →
      ((r2 = 0 →
        post (-1 : Int32) t2) ∧
      (¬ r2 = 0 →
        (vp_in a1 8 ∧
        post (t2 70 a1.toNatClampNeg) t2)))))))) :
    AW l G d hX8_bestAt 0 [some (.inr 49), some (.inl a1)] [] s post := wps_ok (cut := []) oX8_bestAt 18 0 _ _ _ h
set_option maxRecDepth 100000 in
theorem vX8_load_0 {l : Launch} {G : GG} {d : Nat} {post : Int32 → Mem → Prop} {a1 a2 : Int32} {s : Mem} (h :
    (∃ (d' : Nat) (Q1 : Int32 → Mem → Prop), d' < d ∧ Spec l G d' hX8_in [.inl a1, .inl (0 : Int32), .inl (7 : Int32)] s Q1 ∧ ∀ (r1 : Int32) (t1 : Mem), Q1 r1 t1 →
    ((r1 = 0 →
      (bool01 (0 : Int32) ∧ post (0 : Int32) t1)) ∧
    (¬ r1 = 0 →
      (∃ (d' : Nat) (Q2 : Int32 → Mem → Prop), d' < d ∧ Spec l G d' hX8_in [.inl a2, .inl (0 : Int32), .inl (10000 : Int32)] t1 Q2 ∧ ∀ (r2 : Int32) (t2 : Mem), Q2 r2 t2 →
      ((¬ r2 = 0 →
        (vp_in a1 8 ∧
        (bool01 (1 : Int32) ∧ post (1 : Int32) (wrM t2 57 a1.toNatClampNeg a2)))) ∧
      (r2 = 0 →
        (bool01 (0 : Int32) ∧ post (0 : Int32) t2)))))))) :
    AW l G d hX8_load 0 [some (.inr 49), some (.inl a1), some (.inl a2)] [] s post := wps_ok (cut := []) oX8_load 18 0 _ _ _ h
set_option maxRecDepth 100000 in
theorem vX8_share_0 {l : Launch} {G : GG} {d : Nat} {post : Int32 → Mem → Prop} {a1 a2 a3 : Int32} {s : Mem} (h :
    (∃ (d' : Nat) (Q1 : Int32 → Mem → Prop), d' < d ∧ Spec l G d' hX8_in [.inl a1, .inl (0 : Int32), .inl (7 : Int32)] s Q1 ∧ ∀ (r1 : Int32) (t1 : Mem), Q1 r1 t1 →
    ((r1 = 0 →
      (bool01 (0 : Int32) ∧ post (0 : Int32) t1)) ∧
    (¬ r1 = 0 →
      (∃ (d' : Nat) (Q2 : Int32 → Mem → Prop), d' < d ∧ Spec l G d' hX8_in [.inl a2, .inl (0 : Int32), .inl (7 : Int32)] t1 Q2 ∧ ∀ (r2 : Int32) (t2 : Mem), Q2 r2 t2 →
      ((r2 = 0 →
        (bool01 (0 : Int32) ∧ post (0 : Int32) t2)) ∧
      (¬ r2 = 0 →
        (∃ (d' : Nat) (Q3 : Int32 → Mem → Prop), d' < d ∧ Spec l G d' hX8_in [.inl a3, .inl (0 : Int32), .inl (100 : Int32)] t2 Q3 ∧ ∀ (r3 : Int32) (t3 : Mem), Q3 r3 t3 →
        ((¬ r3 = 0 →
          AW l G d hX8_share 38 [some (.inr 49), some (.inl a1), some (.inl a2), some (.inl a3), some (.inl a3), some (.inl (0 : Int32))] [] t3 post) ∧
        (r3 = 0 →
          (bool01 (0 : Int32) ∧ post (0 : Int32) t3))))))))))) :
    AW l G d hX8_share 0 [some (.inr 49), some (.inl a1), some (.inl a2), some (.inl a3), none, none] [] s post := wps_ok (cut := [38]) oX8_share 20 0 _ _ _ h
set_option maxRecDepth 100000 in
theorem vX8_share_38 {l : Launch} {G : GG} {d : Nat} {post : Int32 → Mem → Prop} {a1 a2 a3 a4 a5 : Int32} {s : Mem} (h :
    (((8 : Int32) ≤ a5 →
      ((a4 ≤ (100 : Int32) →
        (vp_in (((8 : Int32) * a1) + a2) 64 ∧
        (bool01 (1 : Int32) ∧ post (1 : Int32) (wrM s 58 (((8 : Int32) * a1) + a2).toNatClampNeg a3)))) ∧
      (¬ a4 ≤ (100 : Int32) →
        (bool01 (0 : Int32) ∧ post (0 : Int32) s)))) ∧
    (¬ (8 : Int32) ≤ a5 →
      ((¬ a5 = a2 →
        (vp_in (((8 : Int32) * a1) + a5) 64 ∧
        AW l G d hX8_share 38 [some (.inr 49), some (.inl a1), some (.inl a2), some (.inl a3), some (.inl (a4 + (s 58 (((8 : Int32) * a1) + a5).toNatClampNeg))), some (.inl (a5 + (1 : Int32)))] [] s post)) ∧
      (a5 = a2 →
        AW l G d hX8_share 38 [some (.inr 49), some (.inl a1), some (.inl a2), some (.inl a3), some (.inl (a4 + (0 : Int32))), some (.inl (a5 + (1 : Int32)))] [] s post))))) :
    AW l G d hX8_share 38 [some (.inr 49), some (.inl a1), some (.inl a2), some (.inl a3), some (.inl a4), some (.inl a5)] [] s post := wps_ok (cut := [38]) oX8_share 20 38 _ _ _ h
set_option maxRecDepth 100000 in
theorem vX8_exposed_0 {l : Launch} {G : GG} {d : Nat} {post : Int32 → Mem → Prop} {a1 a2 : Int32} {s : Mem} (h :
    (∃ (d' : Nat) (Q1 : Int32 → Mem → Prop), d' < d ∧ Spec l G d' hX8_in [.inl a1, .inl (0 : Int32), .inl (7 : Int32)] s Q1 ∧ ∀ (r1 : Int32) (t1 : Mem), Q1 r1 t1 →
    ((r1 = 0 →
      (bool01 (0 : Int32) ∧ post (0 : Int32) t1)) ∧
    (¬ r1 = 0 →
      (∃ (d' : Nat) (Q2 : Int32 → Mem → Prop), d' < d ∧ Spec l G d' hX8_in [.inl a2, .inl (-9 : Int32), .inl (9 : Int32)] t1 Q2 ∧ ∀ (r2 : Int32) (t2 : Mem), Q2 r2 t2 →
      ((¬ r2 = 0 →
        (vp_in a1 8 ∧
        (bool01 (1 : Int32) ∧ post (1 : Int32) (wrM t2 59 a1.toNatClampNeg a2)))) ∧
      (r2 = 0 →
        (bool01 (0 : Int32) ∧ post (0 : Int32) t2)))))))) :
    AW l G d hX8_exposed 0 [some (.inr 49), some (.inl a1), some (.inl a2)] [] s post := wps_ok (cut := []) oX8_exposed 18 0 _ _ _ h
set_option maxRecDepth 100000 in
theorem vX8_isUp_0 {l : Launch} {G : GG} {d : Nat} {post : Int32 → Mem → Prop} {a1 : Int32} {s : Mem} (h :
    (vp_in a1 8 ∧
    (((s 59 a1.toNatClampNeg) = 0 →
      AW l G d hX8_isUp 17 [some (.inr 49), some (.inl a1), some (.inl (0 : Int32)), some (.inl (0 : Int32))] [] s post) ∧
    (¬ (s 59 a1.toNatClampNeg) = 0 →
      AW l G d hX8_isUp 17 [some (.inr 49), some (.inl a1), some (.inl (1 : Int32)), some (.inl (0 : Int32))] [] s post)))) :
    AW l G d hX8_isUp 0 [some (.inr 49), some (.inl a1), none, none] [] s post := wps_ok (cut := [17]) oX8_isUp 11 0 _ _ _ h
set_option maxRecDepth 100000 in
theorem vX8_isUp_17 {l : Launch} {G : GG} {d : Nat} {post : Int32 → Mem → Prop} {a1 a2 a3 : Int32} {s : Mem} (h :
    (((8 : Int32) ≤ a3 →
      (bool01 a2 ∧ post a2 s)) ∧
    (¬ (8 : Int32) ≤ a3 →
      ((¬ a2 = 0 →
        AW l G d hX8_isUp 17 [some (.inr 49), some (.inl a1), some (.inl (1 : Int32)), some (.inl (a3 + (1 : Int32)))] [] s post) ∧
      (a2 = 0 →
        (vp_in (((8 : Int32) * a3) + a1) 64 ∧
        (((s 58 (((8 : Int32) * a3) + a1).toNatClampNeg) ≤ 0 →
          AW l G d hX8_isUp 17 [some (.inr 49), some (.inl a1), some (.inl (0 : Int32)), some (.inl (a3 + (1 : Int32)))] [] s post) ∧
        (¬ (s 58 (((8 : Int32) * a3) + a1).toNatClampNeg) ≤ 0 →
          AW l G d hX8_isUp 17 [some (.inr 49), some (.inl a1), some (.inl (1 : Int32)), some (.inl (a3 + (1 : Int32)))] [] s post)))))))) :
    AW l G d hX8_isUp 17 [some (.inr 49), some (.inl a1), some (.inl a2), some (.inl a3)] [] s post := wps_ok (cut := [17]) oX8_isUp 20 17 _ _ _ h
set_option maxRecDepth 100000 in
theorem vX8_hangs_0 {l : Launch} {G : GG} {d : Nat} {post : Int32 → Mem → Prop} {a1 : Int32} {s : Mem} (h :
    AW l G d hX8_hangs 7 [some (.inr 49), some (.inl a1), some (.inl (0 : Int32)), none] [] (wrM s 49 29 (0 : Int32)) post) :
    AW l G d hX8_hangs 0 [some (.inr 49), some (.inl a1), none, none] [] s post := wps_ok (cut := [7, 39, 86, 92]) oX8_hangs 6 0 _ _ _ h
set_option maxRecDepth 100000 in
theorem vX8_hangs_7 {l : Launch} {G : GG} {d : Nat} {post : Int32 → Mem → Prop} {a1 a2 : Int32} {s : Mem} (h :
    (((8 : Int32) ≤ a2 →
      AW l G d hX8_hangs 86 [some (.inr 49), some (.inl a1), some (.inl (1 : Int32)), none] [] s post) ∧
    (¬ (8 : Int32) ≤ a2 →
      (vp_in a2 8 ∧
      (vp_in a2 8 ∧
      (vp_in a2 8 ∧
      AW l G d hX8_hangs 39 [some (.inr 49), some (.inl a1), some (.inl a2), some (.inl (0 : Int32))] [] (wrM (wrM s 74 a2.toNatClampNeg (vp_nar .boolean (0 : Int32))) 73 a2.toNatClampNeg (((100 : Int32) * a1) * ((wrM s 74 a2.toNatClampNeg (vp_nar .boolean (0 : Int32))) 59 a2.toNatClampNeg))) post)))))) :
    AW l G d hX8_hangs 7 [some (.inr 49), some (.inl a1), some (.inl a2), none] [] s post := wps_ok (cut := [7, 39, 86, 92]) oX8_hangs 23 7 _ _ _ h
set_option maxRecDepth 100000 in
theorem vX8_hangs_39 {l : Launch} {G : GG} {d : Nat} {post : Int32 → Mem → Prop} {a1 a2 a3 : Int32} {s : Mem} (h :
    (((8 : Int32) ≤ a3 →
      AW l G d hX8_hangs 7 [some (.inr 49), some (.inl a1), some (.inl (a2 + (1 : Int32))), some (.inl a3)] [] s post) ∧
    (¬ (8 : Int32) ≤ a3 →
      (vp_in a2 8 ∧
      (vp_in a3 8 ∧
      (vp_in (((8 : Int32) * a3) + a2) 64 ∧
      (vp_in a2 8 ∧
      AW l G d hX8_hangs 39 [some (.inr 49), some (.inl a1), some (.inl a2), some (.inl (a3 + (1 : Int32)))] [] (wrM s 73 a2.toNatClampNeg ((s 73 a2.toNatClampNeg) + ((s 57 a3.toNatClampNeg) * (s 58 (((8 : Int32) * a3) + a2).toNatClampNeg)))) post))))))) :
    AW l G d hX8_hangs 39 [some (.inr 49), some (.inl a1), some (.inl a2), some (.inl a3)] [] s post := wps_ok (cut := [7, 39, 86, 92]) oX8_hangs 26 39 _ _ _ h
set_option maxRecDepth 100000 in
theorem vX8_hangs_86 {l : Launch} {G : GG} {d : Nat} {post : Int32 → Mem → Prop} {a1 a2 : Int32} {s : Mem} (h :
    ((a2 = 0 →
      post 0 s) ∧
    (¬ a2 = 0 →
      AW l G d hX8_hangs 92 [some (.inr 49), some (.inl a1), some (.inl a2), some (.inl (0 : Int32))] [] s post))) :
    AW l G d hX8_hangs 86 [some (.inr 49), some (.inl a1), some (.inl a2), none] [] s post := wps_ok (cut := [7, 39, 86, 92]) oX8_hangs 5 86 _ _ _ h
set_option maxRecDepth 100000 in
theorem vX8_hangs_92 {l : Launch} {G : GG} {d : Nat} {post : Int32 → Mem → Prop} {a1 a2 a3 : Int32} {s : Mem} (h :
    (((8 : Int32) ≤ a3 →
      (((8 : Int32) ≤ a3 →
        (((0 : Int32) = 0 →
          AW l G d hX8_hangs 86 [some (.inr 49), some (.inl a1), some (.inl (0 : Int32)), some (.inl a3)] [] s post) ∧
        (¬ (0 : Int32) = 0 →
          (∃ (d' : Nat) (Q1 : Int32 → Mem → Prop), d' < d ∧ Spec l G d' hX8_slackens [.inr 49, .inl a3] s Q1 ∧ ∀ (r1 : Int32) (t1 : Mem), Q1 r1 t1 →
          AW l G d hX8_hangs 86 [some (.inr 49), some (.inl a1), some (.inl (0 : Int32)), some (.inl a3)] [] t1 post)))) ∧
      (¬ (8 : Int32) ≤ a3 →
        (((1 : Int32) = 0 →
          AW l G d hX8_hangs 86 [some (.inr 49), some (.inl a1), some (.inl (1 : Int32)), some (.inl a3)] [] s post) ∧
        (¬ (1 : Int32) = 0 →
          (∃ (d' : Nat) (Q2 : Int32 → Mem → Prop), d' < d ∧ Spec l G d' hX8_slackens [.inr 49, .inl a3] s Q2 ∧ ∀ (r2 : Int32) (t2 : Mem), Q2 r2 t2 →
          AW l G d hX8_hangs 86 [some (.inr 49), some (.inl a1), some (.inl (1 : Int32)), some (.inl a3)] [] t2 post)))))) ∧
    (¬ (8 : Int32) ≤ a3 →
      (∃ (d' : Nat) (Q3 : Int32 → Mem → Prop), d' < d ∧ Spec l G d' hX8_isUp [.inr 49, .inl a3] s Q3 ∧ ∀ (r3 : Int32) (t3 : Mem), Q3 r3 t3 →
      ((r3 = 0 →
        AW l G d hX8_hangs 92 [some (.inr 49), some (.inl a1), some (.inl a2), some (.inl (a3 + (1 : Int32)))] [] t3 post) ∧
      (¬ r3 = 0 →
        (vp_in a3 8 ∧
        (((t3 73 a3.toNatClampNeg) < 0 →
          (((8 : Int32) ≤ a3 →
            (((0 : Int32) = 0 →
              AW l G d hX8_hangs 86 [some (.inr 49), some (.inl a1), some (.inl (0 : Int32)), some (.inl a3)] [] t3 post) ∧
            (¬ (0 : Int32) = 0 →
              (∃ (d' : Nat) (Q4 : Int32 → Mem → Prop), d' < d ∧ Spec l G d' hX8_slackens [.inr 49, .inl a3] t3 Q4 ∧ ∀ (r4 : Int32) (t4 : Mem), Q4 r4 t4 →
              AW l G d hX8_hangs 86 [some (.inr 49), some (.inl a1), some (.inl (0 : Int32)), some (.inl a3)] [] t4 post)))) ∧
          (¬ (8 : Int32) ≤ a3 →
            (((1 : Int32) = 0 →
              AW l G d hX8_hangs 86 [some (.inr 49), some (.inl a1), some (.inl (1 : Int32)), some (.inl a3)] [] t3 post) ∧
            (¬ (1 : Int32) = 0 →
              (∃ (d' : Nat) (Q5 : Int32 → Mem → Prop), d' < d ∧ Spec l G d' hX8_slackens [.inr 49, .inl a3] t3 Q5 ∧ ∀ (r5 : Int32) (t5 : Mem), Q5 r5 t5 →
              AW l G d hX8_hangs 86 [some (.inr 49), some (.inl a1), some (.inl (1 : Int32)), some (.inl a3)] [] t5 post)))))) ∧
        (¬ (t3 73 a3.toNatClampNeg) < 0 →
          AW l G d hX8_hangs 92 [some (.inr 49), some (.inl a1), some (.inl a2), some (.inl (a3 + (1 : Int32)))] [] t3 post))))))))) :
    AW l G d hX8_hangs 92 [some (.inr 49), some (.inl a1), some (.inl a2), some (.inl a3)] [] s post := wps_ok (cut := [7, 39, 86, 92]) oX8_hangs 25 92 _ _ _ h
set_option maxRecDepth 100000 in
theorem vX8_slackens_0 {l : Launch} {G : GG} {d : Nat} {post : Int32 → Mem → Prop} {a1 : Int32} {s : Mem} (h :
    (vp_in a1 8 ∧
    (vp_in a1 8 ∧
    (vp_in a1 8 ∧
    AW l G d hX8_slackens 26 [some (.inr 49), some (.inl a1), some (.inl (s 73 a1.toNatClampNeg)), some (.inl (0 : Int32)), some (.inl (0 : Int32)), none] [] (wrM (wrM s 73 a1.toNatClampNeg (0 : Int32)) 74 a1.toNatClampNeg (vp_nar .boolean (1 : Int32))) post)))) :
    AW l G d hX8_slackens 0 [some (.inr 49), some (.inl a1), none, none, none, none] [] s post := wps_ok (cut := [26, 88]) oX8_slackens 20 0 _ _ _ h
set_option maxRecDepth 100000 in
theorem vX8_slackens_26 {l : Launch} {G : GG} {d : Nat} {post : Int32 → Mem → Prop} {a1 a2 a3 a4 : Int32} {s : Mem} (h :
    (((8 : Int32) ≤ a4 →
      ((¬ a3 = 0 →
        (¬ a3 = 0 ∧
        AW l G d hX8_slackens 88 [some (.inr 49), some (.inl a1), some (.inl a2), some (.inl a3), some (.inl (a2 - ((a2 / a3) * a3))), some (.inl (0 : Int32))] [] s post)) ∧
      (a3 = 0 →
        post 0 (wrM s 49 29 a2)))) ∧
    (¬ (8 : Int32) ≤ a4 →
      (∃ (d' : Nat) (Q1 : Int32 → Mem → Prop), d' < d ∧ Spec l G d' hX8_isUp [.inr 49, .inl a4] s Q1 ∧ ∀ (r1 : Int32) (t1 : Mem), Q1 r1 t1 →
      ((r1 = 0 →
        AW l G d hX8_slackens 26 [some (.inr 49), some (.inl a1), some (.inl a2), some (.inl (a3 + (0 : Int32))), some (.inl (a4 + (1 : Int32))), none] [] t1 post) ∧
      (¬ r1 = 0 →
        (vp_in a4 8 ∧
        ((¬ (t1 74 a4.toNatClampNeg) = 0 →
          AW l G d hX8_slackens 26 [some (.inr 49), some (.inl a1), some (.inl a2), some (.inl (a3 + (0 : Int32))), some (.inl (a4 + (1 : Int32))), none] [] t1 post) ∧
        ((t1 74 a4.toNatClampNeg) = 0 →
          AW l G d hX8_slackens 26 [some (.inr 49), some (.inl a1), some (.inl a2), some (.inl (a3 + (1 : Int32))), some (.inl (a4 + (1 : Int32))), none] [] t1 post))))))))) :
    AW l G d hX8_slackens 26 [some (.inr 49), some (.inl a1), some (.inl a2), some (.inl a3), some (.inl a4), none] [] s post := wps_ok (cut := [26, 88]) oX8_slackens 20 26 _ _ _ h
set_option maxRecDepth 100000 in
theorem vX8_slackens_88 {l : Launch} {G : GG} {d : Nat} {post : Int32 → Mem → Prop} {a1 a2 a3 a4 a5 : Int32} {s : Mem} (h :
    (((8 : Int32) ≤ a5 →
      post 0 s) ∧
    (¬ (8 : Int32) ≤ a5 →
      (∃ (d' : Nat) (Q1 : Int32 → Mem → Prop), d' < d ∧ Spec l G d' hX8_isUp [.inr 49, .inl a5] s Q1 ∧ ∀ (r1 : Int32) (t1 : Mem), Q1 r1 t1 →
      ((r1 = 0 →
        AW l G d hX8_slackens 88 [some (.inr 49), some (.inl a1), some (.inl a2), some (.inl a3), some (.inl a4), some (.inl (a5 + (1 : Int32)))] [] t1 post) ∧
      (¬ r1 = 0 →
        (vp_in a5 8 ∧
        (((t1 74 a5.toNatClampNeg) = 0 →
          (vp_in a5 8 ∧
          (¬ a3 = 0 ∧
          (vp_in a5 8 ∧
          ((0 ≤ a4 →
            AW l G d hX8_slackens 88 [some (.inr 49), some (.inl a1), some (.inl a2), some (.inl a3), some (.inl a4), some (.inl (a5 + (1 : Int32)))] [] (wrM t1 73 a5.toNatClampNeg ((t1 73 a5.toNatClampNeg) + (a2 / a3))) post) ∧
          (¬ 0 ≤ a4 →
            (vp_in a5 8 ∧
            (vp_in a5 8 ∧
            AW l G d hX8_slackens 88 [some (.inr 49), some (.inl a1), some (.inl a2), some (.inl a3), some (.inl (a4 + (1 : Int32))), some (.inl (a5 + (1 : Int32)))] [] (wrM (wrM t1 73 a5.toNatClampNeg ((t1 73 a5.toNatClampNeg) + (a2 / a3))) 73 a5.toNatClampNeg (((wrM t1 73 a5.toNatClampNeg ((t1 73 a5.toNatClampNeg) + (a2 / a3))) 73 a5.toNatClampNeg) - (1 : Int32))) post)))))))) ∧
        (¬ (t1 74 a5.toNatClampNeg) = 0 →
          AW l G d hX8_slackens 88 [some (.inr 49), some (.inl a1), some (.inl a2), some (.inl a3), some (.inl a4), some (.inl (a5 + (1 : Int32)))] [] t1 post))))))))) :
    AW l G d hX8_slackens 88 [some (.inr 49), some (.inl a1), some (.inl a2), some (.inl a3), some (.inl a4), some (.inl a5)] [] s post := wps_ok (cut := [26, 88]) oX8_slackens 36 88 _ _ _ h
set_option maxRecDepth 100000 in
theorem vX8_isWind_0 {l : Launch} {G : GG} {d : Nat} {post : Int32 → Mem → Prop} {a0 : Int32} {s : Mem} (h :
    (∃ (d' : Nat) (Q1 : Int32 → Mem → Prop), d' < d ∧ Spec l G d' hX8_in [.inl a0, .inl (-100 : Int32), .inl (100 : Int32)] s Q1 ∧ ∀ (r1 : Int32) (t1 : Mem), Q1 r1 t1 →
    (bool01 r1 ∧ post r1 t1))) :
    AW l G d hX8_isWind 0 [some (.inl a0)] [] s post := wps_ok (cut := []) oX8_isWind 6 0 _ _ _ h
set_option maxRecDepth 100000 in
theorem vX8_part_0 {l : Launch} {G : GG} {d : Nat} {post : Int32 → Mem → Prop} {a1 a2 : Int32} {s : Mem} (h :
    (∃ (d' : Nat) (Q1 : Int32 → Mem → Prop), d' < d ∧ Spec l G d' hX8_in [.inl a1, .inl (0 : Int32), .inl (7 : Int32)] s Q1 ∧ ∀ (r1 : Int32) (t1 : Mem), Q1 r1 t1 →
    ((r1 = 0 →
      post (-1 : Int32) t1) ∧
    (¬ r1 = 0 →
      (∃ (d' : Nat) (Q2 : Int32 → Mem → Prop), d' < d ∧ Spec l G d' hX8_isWind [.inl a2] t1 Q2 ∧ ∀ (r2 : Int32) (t2 : Mem), Q2 r2 t2 →
      ((¬ r2 = 0 →
        (∃ (d' : Nat) (Q3 : Int32 → Mem → Prop), d' < d ∧ Spec l G d' hX8_hangs [.inr 49, .inl a2] t2 Q3 ∧ ∀ (r3 : Int32) (t3 : Mem), Q3 r3 t3 →
        (∃ (d' : Nat) (Q4 : Int32 → Mem → Prop), d' < d ∧ Spec l G d' hX8_isUp [.inr 49, .inl a1] t3 Q4 ∧ ∀ (r4 : Int32) (t4 : Mem), Q4 r4 t4 →
        ((r4 = 0 →
          post (0 : Int32) t4) ∧
        (¬ r4 = 0 →
          (vp_in a1 8 ∧
          post (t4 73 a1.toNatClampNeg) t4)))))) ∧
      (r2 = 0 →
        post (-1 : Int32) t2))))))) :
    AW l G d hX8_part 0 [some (.inr 49), some (.inl a1), some (.inl a2)] [] s post := wps_ok (cut := []) oX8_part 22 0 _ _ _ h
set_option maxRecDepth 100000 in
theorem vX8_slack_0 {l : Launch} {G : GG} {d : Nat} {post : Int32 → Mem → Prop} {a1 a2 : Int32} {s : Mem} (h :
    (∃ (d' : Nat) (Q1 : Int32 → Mem → Prop), d' < d ∧ Spec l G d' hX8_in [.inl a1, .inl (0 : Int32), .inl (7 : Int32)] s Q1 ∧ ∀ (r1 : Int32) (t1 : Mem), Q1 r1 t1 →
    ((r1 = 0 →
      (bool01 (0 : Int32) ∧ post (0 : Int32) t1)) ∧
    (¬ r1 = 0 →
      (∃ (d' : Nat) (Q2 : Int32 → Mem → Prop), d' < d ∧ Spec l G d' hX8_isWind [.inl a2] t1 Q2 ∧ ∀ (r2 : Int32) (t2 : Mem), Q2 r2 t2 →
      ((¬ r2 = 0 →
        (∃ (d' : Nat) (Q3 : Int32 → Mem → Prop), d' < d ∧ Spec l G d' hX8_hangs [.inr 49, .inl a2] t2 Q3 ∧ ∀ (r3 : Int32) (t3 : Mem), Q3 r3 t3 →
        (vp_in a1 8 ∧
        (bool01 (t3 74 a1.toNatClampNeg) ∧ post (t3 74 a1.toNatClampNeg) t3)))) ∧
      (r2 = 0 →
        (bool01 (0 : Int32) ∧ post (0 : Int32) t2)))))))) :
    AW l G d hX8_slack 0 [some (.inr 49), some (.inl a1), some (.inl a2)] [] s post := wps_ok (cut := []) oX8_slack 17 0 _ _ _ h
set_option maxRecDepth 100000 in
theorem vX8_gone_0 {l : Launch} {G : GG} {d : Nat} {post : Int32 → Mem → Prop} {a1 : Int32} {s : Mem} (h :
    (∃ (d' : Nat) (Q1 : Int32 → Mem → Prop), d' < d ∧ Spec l G d' hX8_isWind [.inl a1] s Q1 ∧ ∀ (r1 : Int32) (t1 : Mem), Q1 r1 t1 →
    ((¬ r1 = 0 →
      (∃ (d' : Nat) (Q2 : Int32 → Mem → Prop), d' < d ∧ Spec l G d' hX8_hangs [.inr 49, .inl a1] t1 Q2 ∧ ∀ (r2 : Int32) (t2 : Mem), Q2 r2 t2 →
      post (t2 49 29) t2)) ∧
    (r1 = 0 →
      post (0 : Int32) t1)))) :
    AW l G d hX8_gone 0 [some (.inr 49), some (.inl a1)] [] s post := wps_ok (cut := []) oX8_gone 10 0 _ _ _ h
set_option maxRecDepth 100000 in
theorem vX8_isTown_0 {l : Launch} {G : GG} {d : Nat} {post : Int32 → Mem → Prop} {a1 : Int32} {s : Mem} (h :
    (∃ (d' : Nat) (Q1 : Int32 → Mem → Prop), d' < d ∧ Spec l G d' hX8_in [.inl a1, .inl (0 : Int32), .inl ((s 49 11) - (1 : Int32))] s Q1 ∧ ∀ (r1 : Int32) (t1 : Mem), Q1 r1 t1 →
    (bool01 r1 ∧ post r1 t1))) :
    AW l G d hX8_isTown 0 [some (.inr 49), some (.inl a1)] [] s post := wps_ok (cut := []) oX8_isTown 9 0 _ _ _ h
set_option maxRecDepth 100000 in
theorem vX8_town_0 {l : Launch} {G : GG} {d : Nat} {post : Int32 → Mem → Prop} {a1 a2 a3 : Int32} {s : Mem} (h :
    (∃ (d' : Nat) (Q1 : Int32 → Mem → Prop), d' < d ∧ Spec l G d' hX8_in [.inl a1, .inl (0 : Int32), .inl (10000 : Int32)] s Q1 ∧ ∀ (r1 : Int32) (t1 : Mem), Q1 r1 t1 →
    ((r1 = 0 →
      post (-1 : Int32) t1) ∧
    (¬ r1 = 0 →
      (∃ (d' : Nat) (Q2 : Int32 → Mem → Prop), d' < d ∧ Spec l G d' hX8_in [.inl a2, .inl (0 : Int32), .inl (29 : Int32)] t1 Q2 ∧ ∀ (r2 : Int32) (t2 : Mem), Q2 r2 t2 →
      ((r2 = 0 →
        post (-1 : Int32) t2) ∧
      (¬ r2 = 0 →
        (∃ (d' : Nat) (Q3 : Int32 → Mem → Prop), d' < d ∧ Spec l G d' hX8_in [.inl a3, .inl a2, .inl (29 : Int32)] t2 Q3 ∧ ∀ (r3 : Int32) (t3 : Mem), Q3 r3 t3 →
        ((r3 = 0 →
          post (-1 : Int32) t3) ∧
        (¬ r3 = 0 →
          ((¬ (t3 49 11) = (8 : Int32) →
            (vp_in (t3 49 11) 8 ∧
            (vp_in ((wrM t3 60 (t3 49 11).toNatClampNeg a1) 49 11) 8 ∧
            (vp_in ((wrM (wrM t3 60 (t3 49 11).toNatClampNeg a1) 61 ((wrM t3 60 (t3 49 11).toNatClampNeg a1) 49 11).toNatClampNeg a2) 49 11) 8 ∧
            post (((wrM (wrM (wrM (wrM t3 60 (t3 49 11).toNatClampNeg a1) 61 ((wrM t3 60 (t3 49 11).toNatClampNeg a1) 49 11).toNatClampNeg a2) 62 ((wrM (wrM t3 60 (t3 49 11).toNatClampNeg a1) 61 ((wrM t3 60 (t3 49 11).toNatClampNeg a1) 49 11).toNatClampNeg a2) 49 11).toNatClampNeg a3) 49 11 (((wrM (wrM (wrM t3 60 (t3 49 11).toNatClampNeg a1) 61 ((wrM t3 60 (t3 49 11).toNatClampNeg a1) 49 11).toNatClampNeg a2) 62 ((wrM (wrM t3 60 (t3 49 11).toNatClampNeg a1) 61 ((wrM t3 60 (t3 49 11).toNatClampNeg a1) 49 11).toNatClampNeg a2) 49 11).toNatClampNeg a3) 49 11) + (1 : Int32))) 49 11) - (1 : Int32)) (wrM (wrM (wrM (wrM t3 60 (t3 49 11).toNatClampNeg a1) 61 ((wrM t3 60 (t3 49 11).toNatClampNeg a1) 49 11).toNatClampNeg a2) 62 ((wrM (wrM t3 60 (t3 49 11).toNatClampNeg a1) 61 ((wrM t3 60 (t3 49 11).toNatClampNeg a1) 49 11).toNatClampNeg a2) 49 11).toNatClampNeg a3) 49 11 (((wrM (wrM (wrM t3 60 (t3 49 11).toNatClampNeg a1) 61 ((wrM t3 60 (t3 49 11).toNatClampNeg a1) 49 11).toNatClampNeg a2) 62 ((wrM (wrM t3 60 (t3 49 11).toNatClampNeg a1) 61 ((wrM t3 60 (t3 49 11).toNatClampNeg a1) 49 11).toNatClampNeg a2) 49 11).toNatClampNeg a3) 49 11) + (1 : Int32))))))) ∧
          ((t3 49 11) = (8 : Int32) →
            post (-1 : Int32) t3)))))))))))) :
    AW l G d hX8_town 0 [some (.inr 49), some (.inl a1), some (.inl a2), some (.inl a3)] [] s post := wps_ok (cut := []) oX8_town 49 0 _ _ _ h
set_option maxRecDepth 100000 in
theorem vX8_way_0 {l : Launch} {G : GG} {d : Nat} {post : Int32 → Mem → Prop} {a1 a2 a3 : Int32} {s : Mem} (h :
    (∃ (d' : Nat) (Q1 : Int32 → Mem → Prop), d' < d ∧ Spec l G d' hX8_isTown [.inr 49, .inl a1] s Q1 ∧ ∀ (r1 : Int32) (t1 : Mem), Q1 r1 t1 →
    ((r1 = 0 →
      (bool01 (0 : Int32) ∧ post (0 : Int32) t1)) ∧
    (¬ r1 = 0 →
      (∃ (d' : Nat) (Q2 : Int32 → Mem → Prop), d' < d ∧ Spec l G d' hX8_isTown [.inr 49, .inl a2] t1 Q2 ∧ ∀ (r2 : Int32) (t2 : Mem), Q2 r2 t2 →
      ((r2 = 0 →
        (bool01 (0 : Int32) ∧ post (0 : Int32) t2)) ∧
      (¬ r2 = 0 →
        ((a1 = a2 →
          (bool01 (0 : Int32) ∧ post (0 : Int32) t2)) ∧
        (¬ a1 = a2 →
          (∃ (d' : Nat) (Q3 : Int32 → Mem → Prop), d' < d ∧ Spec l G d' hX8_in [.inl a3, .inl (1 : Int32), .inl (99 : Int32)] t2 Q3 ∧ ∀ (r3 : Int32) (t3 : Mem), Q3 r3 t3 →
          ((¬ r3 = 0 →
            (vp_in (((8 : Int32) * a1) + a2) 64 ∧
            (vp_in (((8 : Int32) * a2) + a1) 64 ∧
            (bool01 (1 : Int32) ∧ post (1 : Int32) (wrM (wrM t3 63 (((8 : Int32) * a1) + a2).toNatClampNeg a3) 63 (((8 : Int32) * a2) + a1).toNatClampNeg a3))))) ∧
          (r3 = 0 →
            (bool01 (0 : Int32) ∧ post (0 : Int32) t3))))))))))))) :
    AW l G d hX8_way 0 [some (.inr 49), some (.inl a1), some (.inl a2), some (.inl a3)] [] s post := wps_ok (cut := []) oX8_way 37 0 _ _ _ h
set_option maxRecDepth 100000 in
theorem vX8_reckons_0 {l : Launch} {G : GG} {d : Nat} {post : Int32 → Mem → Prop} {s : Mem} (h :
    AW l G d hX8_reckons 2 [some (.inr 49), some (.inl (0 : Int32)), none, none, none] [] s post) :
    AW l G d hX8_reckons 0 [some (.inr 49), none, none, none, none] [] s post := wps_ok (cut := [2, 10, 80, 88, 96]) oX8_reckons 3 0 _ _ _ h
set_option maxRecDepth 100000 in
theorem vX8_reckons_2 {l : Launch} {G : GG} {d : Nat} {post : Int32 → Mem → Prop} {a1 : Int32} {s : Mem} (h :
    (((8 : Int32) ≤ a1 →
      AW l G d hX8_reckons 80 [some (.inr 49), some (.inl (0 : Int32)), none, none, none] [] s post) ∧
    (¬ (8 : Int32) ≤ a1 →
      AW l G d hX8_reckons 10 [some (.inr 49), some (.inl a1), some (.inl (0 : Int32)), none, none] [] s post))) :
    AW l G d hX8_reckons 2 [some (.inr 49), some (.inl a1), none, none, none] [] s post := wps_ok (cut := [2, 10, 80, 88, 96]) oX8_reckons 6 2 _ _ _ h
set_option maxRecDepth 100000 in
theorem vX8_reckons_10 {l : Launch} {G : GG} {d : Nat} {post : Int32 → Mem → Prop} {a1 a2 : Int32} {s : Mem} (h :
    (((8 : Int32) ≤ a2 →
      AW l G d hX8_reckons 2 [some (.inr 49), some (.inl (a1 + (1 : Int32))), some (.inl a2), none, none] [] s post) ∧
    (¬ (8 : Int32) ≤ a2 →
      ((¬ a1 = a2 →
        (vp_in (((8 : Int32) * a1) + a2) 64 ∧
        (((s 63 (((8 : Int32) * a1) + a2).toNatClampNeg) ≤ 0 →
          (vp_in (((8 : Int32) * a1) + a2) 64 ∧
          AW l G d hX8_reckons 10 [some (.inr 49), some (.inl a1), some (.inl (a2 + (1 : Int32))), none, none] [] (wrM s 64 (((8 : Int32) * a1) + a2).toNatClampNeg (1000000 : Int32)) post)) ∧
        (¬ (s 63 (((8 : Int32) * a1) + a2).toNatClampNeg) ≤ 0 →
          (vp_in (((8 : Int32) * a1) + a2) 64 ∧
          (vp_in (((8 : Int32) * a1) + a2) 64 ∧
          AW l G d hX8_reckons 10 [some (.inr 49), some (.inl a1), some (.inl (a2 + (1 : Int32))), none, none] [] (wrM s 64 (((8 : Int32) * a1) + a2).toNatClampNeg (s 63 (((8 : Int32) * a1) + a2).toNatClampNeg)) post)))))) ∧
      (a1 = a2 →
        (vp_in (((8 : Int32) * a1) + a2) 64 ∧
        AW l G d hX8_reckons 10 [some (.inr 49), some (.inl a1), some (.inl (a2 + (1 : Int32))), none, none] [] (wrM s 64 (((8 : Int32) * a1) + a2).toNatClampNeg (0 : Int32)) post)))))) :
    AW l G d hX8_reckons 10 [some (.inr 49), some (.inl a1), some (.inl a2), none, none] [] s post := wps_ok (cut := [2, 10, 80, 88, 96]) oX8_reckons 35 10 _ _ _ h
set_option maxRecDepth 100000 in
theorem vX8_reckons_80 {l : Launch} {G : GG} {d : Nat} {post : Int32 → Mem → Prop} {a1 : Int32} {s : Mem} (h :
    (((8 : Int32) ≤ a1 →
      post 0 s) ∧
    (¬ (8 : Int32) ≤ a1 →
      AW l G d hX8_reckons 88 [some (.inr 49), some (.inl a1), some (.inl (0 : Int32)), none, none] [] s post))) :
    AW l G d hX8_reckons 80 [some (.inr 49), some (.inl a1), none, none, none] [] s post := wps_ok (cut := [2, 10, 80, 88, 96]) oX8_reckons 6 80 _ _ _ h
set_option maxRecDepth 100000 in
theorem vX8_reckons_88 {l : Launch} {G : GG} {d : Nat} {post : Int32 → Mem → Prop} {a1 a2 : Int32} {s : Mem} (h :
    (((8 : Int32) ≤ a2 →
      AW l G d hX8_reckons 80 [some (.inr 49), some (.inl (a1 + (1 : Int32))), some (.inl a2), none, none] [] s post) ∧
    (¬ (8 : Int32) ≤ a2 →
      AW l G d hX8_reckons 96 [some (.inr 49), some (.inl a1), some (.inl a2), some (.inl (0 : Int32)), none] [] s post))) :
    AW l G d hX8_reckons 88 [some (.inr 49), some (.inl a1), some (.inl a2), none, none] [] s post := wps_ok (cut := [2, 10, 80, 88, 96]) oX8_reckons 6 88 _ _ _ h
set_option maxRecDepth 100000 in
theorem vX8_reckons_96 {l : Launch} {G : GG} {d : Nat} {post : Int32 → Mem → Prop} {a1 a2 a3 : Int32} {s : Mem} (h :
    (((8 : Int32) ≤ a3 →
      AW l G d hX8_reckons 88 [some (.inr 49), some (.inl a1), some (.inl (a2 + (1 : Int32))), some (.inl a3), none] [] s post) ∧
    (¬ (8 : Int32) ≤ a3 →
      (vp_in (((8 : Int32) * a2) + a1) 64 ∧
      (vp_in (((8 : Int32) * a1) + a3) 64 ∧
      (vp_in (((8 : Int32) * a2) + a3) 64 ∧
      (((s 64 (((8 : Int32) * a2) + a3).toNatClampNeg) ≤ ((s 64 (((8 : Int32) * a2) + a1).toNatClampNeg) + (s 64 (((8 : Int32) * a1) + a3).toNatClampNeg)) →
        AW l G d hX8_reckons 96 [some (.inr 49), some (.inl a1), some (.inl a2), some (.inl (a3 + (1 : Int32))), some (.inl ((s 64 (((8 : Int32) * a2) + a1).toNatClampNeg) + (s 64 (((8 : Int32) * a1) + a3).toNatClampNeg)))] [] s post) ∧
      (¬ (s 64 (((8 : Int32) * a2) + a3).toNatClampNeg) ≤ ((s 64 (((8 : Int32) * a2) + a1).toNatClampNeg) + (s 64 (((8 : Int32) * a1) + a3).toNatClampNeg)) →
        (vp_in (((8 : Int32) * a2) + a3) 64 ∧
        AW l G d hX8_reckons 96 [some (.inr 49), some (.inl a1), some (.inl a2), some (.inl (a3 + (1 : Int32))), some (.inl ((s 64 (((8 : Int32) * a2) + a1).toNatClampNeg) + (s 64 (((8 : Int32) * a1) + a3).toNatClampNeg)))] [] (wrM s 64 (((8 : Int32) * a2) + a3).toNatClampNeg ((s 64 (((8 : Int32) * a2) + a1).toNatClampNeg) + (s 64 (((8 : Int32) * a1) + a3).toNatClampNeg))) post))))))))) :
    AW l G d hX8_reckons 96 [some (.inr 49), some (.inl a1), some (.inl a2), some (.inl a3), none] [] s post := wps_ok (cut := [2, 10, 80, 88, 96]) oX8_reckons 43 96 _ _ _ h
set_option maxRecDepth 100000 in
theorem vX8_hours_0 {l : Launch} {G : GG} {d : Nat} {post : Int32 → Mem → Prop} {a1 a2 : Int32} {s : Mem} (h :
    (∃ (d' : Nat) (Q1 : Int32 → Mem → Prop), d' < d ∧ Spec l G d' hX8_isTown [.inr 49, .inl a1] s Q1 ∧ ∀ (r1 : Int32) (t1 : Mem), Q1 r1 t1 →
    ((r1 = 0 →
      post (-1 : Int32) t1) ∧
    (¬ r1 = 0 →
      (∃ (d' : Nat) (Q2 : Int32 → Mem → Prop), d' < d ∧ Spec l G d' hX8_isTown [.inr 49, .inl a2] t1 Q2 ∧ ∀ (r2 : Int32) (t2 : Mem), Q2 r2 t2 →
      ((¬ r2 = 0 →
        (∃ (d' : Nat) (Q3 : Int32 → Mem → Prop), d' < d ∧ Spec l G d' hX8_reckons [.inr 49] t2 Q3 ∧ ∀ (r3 : Int32) (t3 : Mem), Q3 r3 t3 →
        (vp_in (((8 : Int32) * a1) + a2) 64 ∧
        (((t3 64 (((8 : Int32) * a1) + a2).toNatClampNeg) < (1000000 : Int32) →
          (vp_in (((8 : Int32) * a1) + a2) 64 ∧
          post (t3 64 (((8 : Int32) * a1) + a2).toNatClampNeg) t3)) ∧
        (¬ (t3 64 (((8 : Int32) * a1) + a2).toNatClampNeg) < (1000000 : Int32) →
          post (-1 : Int32) t3))))) ∧
      (r2 = 0 →
        post (-1 : Int32) t2))))))) :
    AW l G d hX8_hours 0 [some (.inr 49), some (.inl a1), some (.inl a2)] [] s post := wps_ok (cut := []) oX8_hours 30 0 _ _ _ h
set_option maxRecDepth 100000 in
theorem vX8_nightOf_0 {l : Launch} {G : GG} {d : Nat} {post : Int32 → Mem → Prop} {a1 a2 : Int32} {s : Mem} (h :
    ((¬ a2 = 0 →
      (vp_in (a2 - (1 : Int32)) 9 ∧
      (vp_in (((8 : Int32) * (s 68 (a2 - (1 : Int32)).toNatClampNeg)) + a1) 64 ∧
      (vp_in (a2 - (1 : Int32)) 9 ∧
      (¬ (10 : Int32) = 0 ∧
      (vp_in a1 8 ∧
      (((s 61 a1.toNatClampNeg) ≤ ((s 72 (a2 - (1 : Int32)).toNatClampNeg) + (((s 64 (((8 : Int32) * (s 68 (a2 - (1 : Int32)).toNatClampNeg)) + a1).toNatClampNeg) + (9 : Int32)) / (10 : Int32))) →
        (((1000000 : Int32) ≤ (s 64 (((8 : Int32) * (s 68 (a2 - (1 : Int32)).toNatClampNeg)) + a1).toNatClampNeg) →
          post (-1 : Int32) s) ∧
        (¬ (1000000 : Int32) ≤ (s 64 (((8 : Int32) * (s 68 (a2 - (1 : Int32)).toNatClampNeg)) + a1).toNatClampNeg) →
          (vp_in a1 8 ∧
          (((s 62 a1.toNatClampNeg) < ((s 72 (a2 - (1 : Int32)).toNatClampNeg) + (((s 64 (((8 : Int32) * (s 68 (a2 - (1 : Int32)).toNatClampNeg)) + a1).toNatClampNeg) + (9 : Int32)) / (10 : Int32))) →
            post (-1 : Int32) s) ∧
          (¬ (s 62 a1.toNatClampNeg) < ((s 72 (a2 - (1 : Int32)).toNatClampNeg) + (((s 64 (((8 : Int32) * (s 68 (a2 - (1 : Int32)).toNatClampNeg)) + a1).toNatClampNeg) + (9 : Int32)) / (10 : Int32))) →
            post ((s 72 (a2 - (1 : Int32)).toNatClampNeg) + (((s 64 (((8 : Int32) * (s 68 (a2 - (1 : Int32)).toNatClampNeg)) + a1).toNatClampNeg) + (9 : Int32)) / (10 : Int32))) s)))))) ∧
      (¬ (s 61 a1.toNatClampNeg) ≤ ((s 72 (a2 - (1 : Int32)).toNatClampNeg) + (((s 64 (((8 : Int32) * (s 68 (a2 - (1 : Int32)).toNatClampNeg)) + a1).toNatClampNeg) + (9 : Int32)) / (10 : Int32))) →
        (vp_in a1 8 ∧
        (((1000000 : Int32) ≤ (s 64 (((8 : Int32) * (s 68 (a2 - (1 : Int32)).toNatClampNeg)) + a1).toNatClampNeg) →
          post (-1 : Int32) s) ∧
        (¬ (1000000 : Int32) ≤ (s 64 (((8 : Int32) * (s 68 (a2 - (1 : Int32)).toNatClampNeg)) + a1).toNatClampNeg) →
          (vp_in a1 8 ∧
          (((s 62 a1.toNatClampNeg) < (s 61 a1.toNatClampNeg) →
            post (-1 : Int32) s) ∧
          (¬ (s 62 a1.toNatClampNeg) < (s 61 a1.toNatClampNeg) →
            post (s 61 a1.toNatClampNeg) s)))))))))))))) ∧
    (a2 = 0 →
      (vp_in a1 8 ∧
      post (s 61 a1.toNatClampNeg) s)))) :
    AW l G d hX8_nightOf 0 [some (.inr 49), some (.inl a1), some (.inl a2), none, none] [] s post := wps_ok (cut := []) oX8_nightOf 53 0 _ _ _ h
set_option maxRecDepth 100000 in
theorem vX8_goes_0 {l : Launch} {G : GG} {d : Nat} {post : Int32 → Mem → Prop} {s : Mem} (h :
    (∃ (d' : Nat) (Q1 : Int32 → Mem → Prop), d' < d ∧ Spec l G d' hX8_reckons [.inr 49] s Q1 ∧ ∀ (r1 : Int32) (t1 : Mem), Q1 r1 t1 →
    (vp_in (0 : Int32) 10 ∧
    AW l G d hX8_goes 23 [some (.inr 49), some (.inl (0 : Int32)), some (.inl (0 : Int32)), some (.inl (0 : Int32)), some (.inl (0 : Int32)), some (.inl (0 : Int32)), none, none] [] (wrM t1 69 (0 : Int32).toNatClampNeg (0 : Int32)) post))) :
    AW l G d hX8_goes 0 [some (.inr 49), none, none, none, none, none, none, none] [] s post := wps_ok (cut := [23, 210]) oX8_goes 18 0 _ _ _ h
set_option maxRecDepth 100000 in
theorem vX8_goes_23 {l : Launch} {G : GG} {d : Nat} {post : Int32 → Mem → Prop} {a1 a2 a3 a4 a5 : Int32} {s : Mem} (h :
    ((a4 < 0 →
      post a1 s) ∧
    (¬ a4 < 0 →
      (vp_in a4 10 ∧
      (((s 69 a4.toNatClampNeg) < (s 49 11) →
        (vp_in a4 10 ∧
        (vp_in a4 10 ∧
        ((((a5 >>> ((s 69 a4.toNatClampNeg) &&& 31)) &&& (1 : Int32)) = (1 : Int32) →
          AW l G d hX8_goes 23 [some (.inr 49), some (.inl a1), some (.inl a2), some (.inl a3), some (.inl a4), some (.inl a5), some (.inl (s 69 a4.toNatClampNeg)), none] [] (wrM s 69 a4.toNatClampNeg ((s 69 a4.toNatClampNeg) + (1 : Int32))) post) ∧
        (¬ ((a5 >>> ((s 69 a4.toNatClampNeg) &&& 31)) &&& (1 : Int32)) = (1 : Int32) →
          (∃ (d' : Nat) (Q1 : Int32 → Mem → Prop), d' < d ∧ Spec l G d' hX8_nightOf [.inr 49, .inl (s 69 a4.toNatClampNeg), .inl a4] (wrM s 69 a4.toNatClampNeg ((s 69 a4.toNatClampNeg) + (1 : Int32))) Q1 ∧ ∀ (r1 : Int32) (t1 : Mem), Q1 r1 t1 →
          ((¬ r1 = (-1 : Int32) →
            (∃ (d' : Nat) (Q2 : Int32 → Mem → Prop), d' < d ∧ Spec l G d' hX8_nightOf [.inr 49, .inl (s 69 a4.toNatClampNeg), .inl a4] t1 Q2 ∧ ∀ (r2 : Int32) (t2 : Mem), Q2 r2 t2 →
            (vp_in a4 9 ∧
            (vp_in a4 9 ∧
            (vp_in (s 69 a4.toNatClampNeg) 8 ∧
            (vp_in (a4 + (1 : Int32)) 10 ∧
            (((a4 + (1 : Int32)) < a1 →
              AW l G d hX8_goes 23 [some (.inr 49), some (.inl a1), some (.inl a2), some (.inl (a3 + ((wrM (wrM t2 72 a4.toNatClampNeg r2) 68 a4.toNatClampNeg (s 69 a4.toNatClampNeg)) 60 (s 69 a4.toNatClampNeg).toNatClampNeg))), some (.inl (a4 + (1 : Int32))), some (.inl (a5 ||| ((1 : Int32) <<< ((s 69 a4.toNatClampNeg) &&& 31)))), some (.inl (s 69 a4.toNatClampNeg)), none] [] (wrM (wrM (wrM t2 72 a4.toNatClampNeg r2) 68 a4.toNatClampNeg (s 69 a4.toNatClampNeg)) 69 (a4 + (1 : Int32)).toNatClampNeg (0 : Int32)) post) ∧
            (¬ (a4 + (1 : Int32)) < a1 →
              ((¬ (a4 + (1 : Int32)) = a1 →
                AW l G d hX8_goes 210 [some (.inr 49), some (.inl (a4 + (1 : Int32))), some (.inl (a3 + ((wrM (wrM t2 72 a4.toNatClampNeg r2) 68 a4.toNatClampNeg (s 69 a4.toNatClampNeg)) 60 (s 69 a4.toNatClampNeg).toNatClampNeg))), some (.inl (a3 + ((wrM (wrM t2 72 a4.toNatClampNeg r2) 68 a4.toNatClampNeg (s 69 a4.toNatClampNeg)) 60 (s 69 a4.toNatClampNeg).toNatClampNeg))), some (.inl (a4 + (1 : Int32))), some (.inl (a5 ||| ((1 : Int32) <<< ((s 69 a4.toNatClampNeg) &&& 31)))), some (.inl (s 69 a4.toNatClampNeg)), some (.inl (0 : Int32))] [] (wrM (wrM (wrM t2 72 a4.toNatClampNeg r2) 68 a4.toNatClampNeg (s 69 a4.toNatClampNeg)) 69 (a4 + (1 : Int32)).toNatClampNeg (0 : Int32)) post) ∧
              ((a4 + (1 : Int32)) = a1 →
                ((a2 < (a3 + ((wrM (wrM t2 72 a4.toNatClampNeg r2) 68 a4.toNatClampNeg (s 69 a4.toNatClampNeg)) 60 (s 69 a4.toNatClampNeg).toNatClampNeg)) →
                  AW l G d hX8_goes 210 [some (.inr 49), some (.inl (a4 + (1 : Int32))), some (.inl (a3 + ((wrM (wrM t2 72 a4.toNatClampNeg r2) 68 a4.toNatClampNeg (s 69 a4.toNatClampNeg)) 60 (s 69 a4.toNatClampNeg).toNatClampNeg))), some (.inl (a3 + ((wrM (wrM t2 72 a4.toNatClampNeg r2) 68 a4.toNatClampNeg (s 69 a4.toNatClampNeg)) 60 (s 69 a4.toNatClampNeg).toNatClampNeg))), some (.inl (a4 + (1 : Int32))), some (.inl (a5 ||| ((1 : Int32) <<< ((s 69 a4.toNatClampNeg) &&& 31)))), some (.inl (s 69 a4.toNatClampNeg)), some (.inl (0 : Int32))] [] (wrM (wrM (wrM t2 72 a4.toNatClampNeg r2) 68 a4.toNatClampNeg (s 69 a4.toNatClampNeg)) 69 (a4 + (1 : Int32)).toNatClampNeg (0 : Int32)) post) ∧
                (¬ a2 < (a3 + ((wrM (wrM t2 72 a4.toNatClampNeg r2) 68 a4.toNatClampNeg (s 69 a4.toNatClampNeg)) 60 (s 69 a4.toNatClampNeg).toNatClampNeg)) →
                  AW l G d hX8_goes 23 [some (.inr 49), some (.inl a1), some (.inl a2), some (.inl (a3 + ((wrM (wrM t2 72 a4.toNatClampNeg r2) 68 a4.toNatClampNeg (s 69 a4.toNatClampNeg)) 60 (s 69 a4.toNatClampNeg).toNatClampNeg))), some (.inl (a4 + (1 : Int32))), some (.inl (a5 ||| ((1 : Int32) <<< ((s 69 a4.toNatClampNeg) &&& 31)))), some (.inl (s 69 a4.toNatClampNeg)), none] [] (wrM (wrM (wrM t2 72 a4.toNatClampNeg r2) 68 a4.toNatClampNeg (s 69 a4.toNatClampNeg)) 69 (a4 + (1 : Int32)).toNatClampNeg (0 : Int32)) post)))))))))))) ∧
          (r1 = (-1 : Int32) →
            AW l G d hX8_goes 23 [some (.inr 49), some (.inl a1), some (.inl a2), some (.inl a3), some (.inl a4), some (.inl a5), some (.inl (s 69 a4.toNatClampNeg)), none] [] t1 post)))))))) ∧
      (¬ (s 69 a4.toNatClampNeg) < (s 49 11) →
        ((0 ≤ (a4 + (-1 : Int32)) →
          (vp_in (a4 + (-1 : Int32)) 9 ∧
          (vp_in (a4 + (-1 : Int32)) 9 ∧
          (vp_in (s 68 (a4 + (-1 : Int32)).toNatClampNeg) 8 ∧
          AW l G d hX8_goes 23 [some (.inr 49), some (.inl a1), some (.inl a2), some (.inl (a3 - (s 60 (s 68 (a4 + (-1 : Int32)).toNatClampNeg).toNatClampNeg))), some (.inl (a4 + (-1 : Int32))), some (.inl (a5 &&& (((1 : Int32) <<< ((s 68 (a4 + (-1 : Int32)).toNatClampNeg) &&& 31)) ^^^ (-1 : Int32)))), some (.inl (s 69 a4.toNatClampNeg)), none] [] s post)))) ∧
        (¬ 0 ≤ (a4 + (-1 : Int32)) →
          AW l G d hX8_goes 23 [some (.inr 49), some (.inl a1), some (.inl a2), some (.inl a3), some (.inl (a4 + (-1 : Int32))), some (.inl a5), some (.inl (s 69 a4.toNatClampNeg)), none] [] s post)))))))) :
    AW l G d hX8_goes 23 [some (.inr 49), some (.inl a1), some (.inl a2), some (.inl a3), some (.inl a4), some (.inl a5), none, none] [] s post := wps_ok (cut := [23, 210]) oX8_goes 80 23 _ _ _ h
set_option maxRecDepth 100000 in
theorem vX8_goes_210 {l : Launch} {G : GG} {d : Nat} {post : Int32 → Mem → Prop} {a1 a2 a3 a4 a5 a6 a7 : Int32} {s : Mem} (h :
    ((a4 ≤ a7 →
      AW l G d hX8_goes 23 [some (.inr 49), some (.inl a1), some (.inl a2), some (.inl a3), some (.inl a4), some (.inl a5), some (.inl a6), some (.inl a7)] [] s post) ∧
    (¬ a4 ≤ a7 →
      (vp_in a7 9 ∧
      (vp_in a7 8 ∧
      (vp_in a7 9 ∧
      (vp_in a7 8 ∧
      AW l G d hX8_goes 210 [some (.inr 49), some (.inl a1), some (.inl a2), some (.inl a3), some (.inl a4), some (.inl a5), some (.inl a6), some (.inl (a7 + (1 : Int32)))] [] (wrM (wrM s 70 a7.toNatClampNeg (s 68 a7.toNatClampNeg)) 71 a7.toNatClampNeg ((wrM s 70 a7.toNatClampNeg (s 68 a7.toNatClampNeg)) 72 a7.toNatClampNeg)) post))))))) :
    AW l G d hX8_goes 210 [some (.inr 49), some (.inl a1), some (.inl a2), some (.inl a3), some (.inl a4), some (.inl a5), some (.inl a6), some (.inl a7)] [] s post := wps_ok (cut := [23, 210]) oX8_goes 22 210 _ _ _ h
set_option maxRecDepth 100000 in
theorem vX8_route_0 {l : Launch} {G : GG} {d : Nat} {post : Int32 → Mem → Prop} {s : Mem} (h :
    (∃ (d' : Nat) (Q1 : Int32 → Mem → Prop), d' < d ∧ Spec l G d' hX8_goes [.inr 49] s Q1 ∧ ∀ (r1 : Int32) (t1 : Mem), Q1 r1 t1 →
    post r1 t1)) :
    AW l G d hX8_route 0 [some (.inr 49)] [] s post := wps_ok (cut := []) oX8_route 4 0 _ _ _ h
set_option maxRecDepth 100000 in
theorem vX8_routeAt_0 {l : Launch} {G : GG} {d : Nat} {post : Int32 → Mem → Prop} {a1 a2 : Int32} {s : Mem} (h :
    (∃ (d' : Nat) (Q1 : Int32 → Mem → Prop), d' < d ∧ Spec l G d' hX8_goes [.inr 49] s Q1 ∧ ∀ (r1 : Int32) (t1 : Mem), Q1 r1 t1 →
    (∃ (d' : Nat) (Q2 : Int32 → Mem → Prop), d' < d ∧ Spec l G d' hX8_in [.inl a1, .inl (0 : Int32), .inl (r1 - (1 : Int32))] t1 Q2 ∧ ∀ (r2 : Int32) (t2 : Mem), Q2 r2 t2 →
    ((r2 = 0 →
      post (-1 : Int32) t2) ∧
    (¬ r2 = 0 →
      (∃ (d' : Nat) (Q3 : Int32 → Mem → Prop), d' < d ∧ Spec l G d' hX8_in [.inl a2, .inl (0 : Int32), .inl (1 : Int32)] t2 Q3 ∧ ∀ (r3 : Int32) (t3 : Mem), Q3 r3 t3 →
      ((¬ r3 = 0 →
        ((¬ a2 = 0 →
          (vp_in a1 8 ∧
          post (t3 71 a1.toNatClampNeg) t3)) ∧
        (a2 = 0 →
          (vp_in a1 8 ∧
          post (t3 70 a1.toNatClampNeg) t3)))) ∧
      (r3 = 0 →
        post (-1 : Int32) t3)))))))) :
    AW l G d hX8_routeAt 0 [some (.inr 49), some (.inl a1), some (.inl a2)] [] s post := wps_ok (cut := []) oX8_routeAt 22 0 _ _ _ h
set_option maxRecDepth 100000 in
theorem vX8_took_0 {l : Launch} {G : GG} {d : Nat} {post : Int32 → Mem → Prop} {a1 a2 a3 : Int32} {s : Mem} (h :
    (∃ (d' : Nat) (Q1 : Int32 → Mem → Prop), d' < d ∧ Spec l G d' hX8_isTown [.inr 49, .inl a1] s Q1 ∧ ∀ (r1 : Int32) (t1 : Mem), Q1 r1 t1 →
    ((r1 = 0 →
      post (-1 : Int32) t1) ∧
    (¬ r1 = 0 →
      (∃ (d' : Nat) (Q2 : Int32 → Mem → Prop), d' < d ∧ Spec l G d' hX8_in [.inl a2, .inl (0 : Int32), .inl (6 : Int32)] t1 Q2 ∧ ∀ (r2 : Int32) (t2 : Mem), Q2 r2 t2 →
      ((r2 = 0 →
        post (-1 : Int32) t2) ∧
      (¬ r2 = 0 →
        (∃ (d' : Nat) (Q3 : Int32 → Mem → Prop), d' < d ∧ Spec l G d' hX8_in [.inl a3, .inl (0 : Int32), .inl (1000000 : Int32)] t2 Q3 ∧ ∀ (r3 : Int32) (t3 : Mem), Q3 r3 t3 →
        ((r3 = 0 →
          post (-1 : Int32) t3) ∧
        (¬ r3 = 0 →
          ((¬ (t3 49 17) = (500 : Int32) →
            (vp_in (t3 49 17) 500 ∧
            (vp_in ((wrM t3 65 (t3 49 17).toNatClampNeg a1) 49 17) 500 ∧
            (vp_in ((wrM (wrM t3 65 (t3 49 17).toNatClampNeg a1) 66 ((wrM t3 65 (t3 49 17).toNatClampNeg a1) 49 17).toNatClampNeg a2) 49 17) 500 ∧
            post ((wrM (wrM (wrM (wrM t3 65 (t3 49 17).toNatClampNeg a1) 66 ((wrM t3 65 (t3 49 17).toNatClampNeg a1) 49 17).toNatClampNeg a2) 67 ((wrM (wrM t3 65 (t3 49 17).toNatClampNeg a1) 66 ((wrM t3 65 (t3 49 17).toNatClampNeg a1) 49 17).toNatClampNeg a2) 49 17).toNatClampNeg a3) 49 17 (((wrM (wrM (wrM t3 65 (t3 49 17).toNatClampNeg a1) 66 ((wrM t3 65 (t3 49 17).toNatClampNeg a1) 49 17).toNatClampNeg a2) 67 ((wrM (wrM t3 65 (t3 49 17).toNatClampNeg a1) 66 ((wrM t3 65 (t3 49 17).toNatClampNeg a1) 49 17).toNatClampNeg a2) 49 17).toNatClampNeg a3) 49 17) + (1 : Int32))) 49 17) (wrM (wrM (wrM (wrM t3 65 (t3 49 17).toNatClampNeg a1) 66 ((wrM t3 65 (t3 49 17).toNatClampNeg a1) 49 17).toNatClampNeg a2) 67 ((wrM (wrM t3 65 (t3 49 17).toNatClampNeg a1) 66 ((wrM t3 65 (t3 49 17).toNatClampNeg a1) 49 17).toNatClampNeg a2) 49 17).toNatClampNeg a3) 49 17 (((wrM (wrM (wrM t3 65 (t3 49 17).toNatClampNeg a1) 66 ((wrM t3 65 (t3 49 17).toNatClampNeg a1) 49 17).toNatClampNeg a2) 67 ((wrM (wrM t3 65 (t3 49 17).toNatClampNeg a1) 66 ((wrM t3 65 (t3 49 17).toNatClampNeg a1) 49 17).toNatClampNeg a2) 49 17).toNatClampNeg a3) 49 17) + (1 : Int32))))))) ∧
          ((t3 49 17) = (500 : Int32) →
            post (-1 : Int32) t3)))))))))))) :
    AW l G d hX8_took 0 [some (.inr 49), some (.inl a1), some (.inl a2), some (.inl a3)] [] s post := wps_ok (cut := []) oX8_took 46 0 _ _ _ h
set_option maxRecDepth 100000 in
theorem vX8_foretold_0 {l : Launch} {G : GG} {d : Nat} {post : Int32 → Mem → Prop} {a1 a2 a3 : Int32} {s : Mem} (h :
    (∃ (d' : Nat) (Q1 : Int32 → Mem → Prop), d' < d ∧ Spec l G d' hX8_isTown [.inr 49, .inl a1] s Q1 ∧ ∀ (r1 : Int32) (t1 : Mem), Q1 r1 t1 →
    ((r1 = 0 →
      post (-1 : Int32) t1) ∧
    (¬ r1 = 0 →
      (∃ (d' : Nat) (Q2 : Int32 → Mem → Prop), d' < d ∧ Spec l G d' hX8_in [.inl a2, .inl (0 : Int32), .inl (6 : Int32)] t1 Q2 ∧ ∀ (r2 : Int32) (t2 : Mem), Q2 r2 t2 →
      ((r2 = 0 →
        post (-1 : Int32) t2) ∧
      (¬ r2 = 0 →
        (∃ (d' : Nat) (Q3 : Int32 → Mem → Prop), d' < d ∧ Spec l G d' hX8_in [.inl a3, .inl (0 : Int32), .inl (1 : Int32)] t2 Q3 ∧ ∀ (r3 : Int32) (t3 : Mem), Q3 r3 t3 →
        ((¬ r3 = 0 →
          AW l G d hX8_foretold 38 [some (.inr 49), some (.inl a1), some (.inl a2), some (.inl a3), some (.inl (0 : Int32)), some (.inl (0 : Int32)), some (.inl (0 : Int32)), none, none] [] t3 post) ∧
        (r3 = 0 →
          post (-1 : Int32) t3)))))))))) :
    AW l G d hX8_foretold 0 [some (.inr 49), some (.inl a1), some (.inl a2), some (.inl a3), none, none, none, none, none] [] s post := wps_ok (cut := [38, 52, 158]) oX8_foretold 21 0 _ _ _ h
set_option maxRecDepth 100000 in
theorem vX8_foretold_38 {l : Launch} {G : GG} {d : Nat} {post : Int32 → Mem → Prop} {a1 a2 a3 a4 a5 a6 : Int32} {s : Mem} (h :
    (((4 : Int32) ≤ a6 →
      ((¬ a5 = 0 →
        AW l G d hX8_foretold 158 [some (.inr 49), some (.inl a1), some (.inl a2), some (.inl a3), some (.inl a4), some (.inl a5), some (.inl a4), some (.inl a5), none] [] s post) ∧
      (a5 = 0 →
        post a3 s))) ∧
    (¬ (4 : Int32) ≤ a6 →
      ((¬ a5 = 0 →
        ((¬ a5 = 0 →
          AW l G d hX8_foretold 158 [some (.inr 49), some (.inl a1), some (.inl a2), some (.inl a3), some (.inl a4), some (.inl a5), some (.inl a4), some (.inl a5), none] [] s post) ∧
        (a5 = 0 →
          post a3 s))) ∧
      (a5 = 0 →
        AW l G d hX8_foretold 52 [some (.inr 49), some (.inl a1), some (.inl a2), some (.inl a3), some (.inl a4), some (.inl a5), some (.inl a6), some (.inl (0 : Int32)), none] [] s post))))) :
    AW l G d hX8_foretold 38 [some (.inr 49), some (.inl a1), some (.inl a2), some (.inl a3), some (.inl a4), some (.inl a5), some (.inl a6), none, none] [] s post := wps_ok (cut := [38, 52, 158]) oX8_foretold 12 38 _ _ _ h
set_option maxRecDepth 100000 in
theorem vX8_foretold_52 {l : Launch} {G : GG} {d : Nat} {post : Int32 → Mem → Prop} {a1 a2 a3 a4 a5 a6 a7 : Int32} {s : Mem} (h :
    (((s 49 17) ≤ a7 →
      AW l G d hX8_foretold 38 [some (.inr 49), some (.inl a1), some (.inl a2), some (.inl a3), some (.inl a4), some (.inl a5), some (.inl (a6 + (1 : Int32))), some (.inl a7), none] [] s post) ∧
    (¬ (s 49 17) ≤ a7 →
      (((1 : Int32) < a6 →
        ((a6 = (1 : Int32) →
          ((¬ (1 : Int32) = 0 →
            (vp_in a7 500 ∧
            AW l G d hX8_foretold 52 [some (.inr 49), some (.inl a1), some (.inl a2), some (.inl a3), some (.inl (a4 + (s 67 a7.toNatClampNeg))), some (.inl (a5 + (1 : Int32))), some (.inl a6), some (.inl (a7 + (1 : Int32))), some (.inl (1 : Int32))] [] s post)) ∧
          ((1 : Int32) = 0 →
            AW l G d hX8_foretold 52 [some (.inr 49), some (.inl a1), some (.inl a2), some (.inl a3), some (.inl a4), some (.inl a5), some (.inl a6), some (.inl (a7 + (1 : Int32))), some (.inl (1 : Int32))] [] s post))) ∧
        (¬ a6 = (1 : Int32) →
          ((a6 = (3 : Int32) →
            ((¬ (1 : Int32) = 0 →
              (vp_in a7 500 ∧
              AW l G d hX8_foretold 52 [some (.inr 49), some (.inl a1), some (.inl a2), some (.inl a3), some (.inl (a4 + (s 67 a7.toNatClampNeg))), some (.inl (a5 + (1 : Int32))), some (.inl a6), some (.inl (a7 + (1 : Int32))), some (.inl (1 : Int32))] [] s post)) ∧
            ((1 : Int32) = 0 →
              AW l G d hX8_foretold 52 [some (.inr 49), some (.inl a1), some (.inl a2), some (.inl a3), some (.inl a4), some (.inl a5), some (.inl a6), some (.inl (a7 + (1 : Int32))), some (.inl (1 : Int32))] [] s post))) ∧
          (¬ a6 = (3 : Int32) →
            (vp_in a7 500 ∧
            ((¬ (s 66 a7.toNatClampNeg) = a2 →
              ((¬ (0 : Int32) = 0 →
                (vp_in a7 500 ∧
                AW l G d hX8_foretold 52 [some (.inr 49), some (.inl a1), some (.inl a2), some (.inl a3), some (.inl (a4 + (s 67 a7.toNatClampNeg))), some (.inl (a5 + (1 : Int32))), some (.inl a6), some (.inl (a7 + (1 : Int32))), some (.inl (0 : Int32))] [] s post)) ∧
              ((0 : Int32) = 0 →
                AW l G d hX8_foretold 52 [some (.inr 49), some (.inl a1), some (.inl a2), some (.inl a3), some (.inl a4), some (.inl a5), some (.inl a6), some (.inl (a7 + (1 : Int32))), some (.inl (0 : Int32))] [] s post))) ∧
            ((s 66 a7.toNatClampNeg) = a2 →
              ((¬ (1 : Int32) = 0 →
                (vp_in a7 500 ∧
                AW l G d hX8_foretold 52 [some (.inr 49), some (.inl a1), some (.inl a2), some (.inl a3), some (.inl (a4 + (s 67 a7.toNatClampNeg))), some (.inl (a5 + (1 : Int32))), some (.inl a6), some (.inl (a7 + (1 : Int32))), some (.inl (1 : Int32))] [] s post)) ∧
              ((1 : Int32) = 0 →
                AW l G d hX8_foretold 52 [some (.inr 49), some (.inl a1), some (.inl a2), some (.inl a3), some (.inl a4), some (.inl a5), some (.inl a6), some (.inl (a7 + (1 : Int32))), some (.inl (1 : Int32))] [] s post)))))))))) ∧
      (¬ (1 : Int32) < a6 →
        (vp_in a7 500 ∧
        ((¬ (s 65 a7.toNatClampNeg) = a1 →
          ((¬ (0 : Int32) = 0 →
            (vp_in a7 500 ∧
            AW l G d hX8_foretold 52 [some (.inr 49), some (.inl a1), some (.inl a2), some (.inl a3), some (.inl (a4 + (s 67 a7.toNatClampNeg))), some (.inl (a5 + (1 : Int32))), some (.inl a6), some (.inl (a7 + (1 : Int32))), some (.inl (0 : Int32))] [] s post)) ∧
          ((0 : Int32) = 0 →
            AW l G d hX8_foretold 52 [some (.inr 49), some (.inl a1), some (.inl a2), some (.inl a3), some (.inl a4), some (.inl a5), some (.inl a6), some (.inl (a7 + (1 : Int32))), some (.inl (0 : Int32))] [] s post))) ∧
        ((s 65 a7.toNatClampNeg) = a1 →
          ((a6 = (1 : Int32) →
            ((¬ (1 : Int32) = 0 →
              (vp_in a7 500 ∧
              AW l G d hX8_foretold 52 [some (.inr 49), some (.inl a1), some (.inl a2), some (.inl a3), some (.inl (a4 + (s 67 a7.toNatClampNeg))), some (.inl (a5 + (1 : Int32))), some (.inl a6), some (.inl (a7 + (1 : Int32))), some (.inl (1 : Int32))] [] s post)) ∧
            ((1 : Int32) = 0 →
              AW l G d hX8_foretold 52 [some (.inr 49), some (.inl a1), some (.inl a2), some (.inl a3), some (.inl a4), some (.inl a5), some (.inl a6), some (.inl (a7 + (1 : Int32))), some (.inl (1 : Int32))] [] s post))) ∧
          (¬ a6 = (1 : Int32) →
            ((a6 = (3 : Int32) →
              ((¬ (1 : Int32) = 0 →
                (vp_in a7 500 ∧
                AW l G d hX8_foretold 52 [some (.inr 49), some (.inl a1), some (.inl a2), some (.inl a3), some (.inl (a4 + (s 67 a7.toNatClampNeg))), some (.inl (a5 + (1 : Int32))), some (.inl a6), some (.inl (a7 + (1 : Int32))), some (.inl (1 : Int32))] [] s post)) ∧
              ((1 : Int32) = 0 →
                AW l G d hX8_foretold 52 [some (.inr 49), some (.inl a1), some (.inl a2), some (.inl a3), some (.inl a4), some (.inl a5), some (.inl a6), some (.inl (a7 + (1 : Int32))), some (.inl (1 : Int32))] [] s post))) ∧
            (¬ a6 = (3 : Int32) →
              (vp_in a7 500 ∧
              ((¬ (s 66 a7.toNatClampNeg) = a2 →
                ((¬ (0 : Int32) = 0 →
                  (vp_in a7 500 ∧
                  AW l G d hX8_foretold 52 [some (.inr 49), some (.inl a1), some (.inl a2), some (.inl a3), some (.inl (a4 + (s 67 a7.toNatClampNeg))), some (.inl (a5 + (1 : Int32))), some (.inl a6), some (.inl (a7 + (1 : Int32))), some (.inl (0 : Int32))] [] s post)) ∧
                ((0 : Int32) = 0 →
                  AW l G d hX8_foretold 52 [some (.inr 49), some (.inl a1), some (.inl a2), some (.inl a3), some (.inl a4), some (.inl a5), some (.inl a6), some (.inl (a7 + (1 : Int32))), some (.inl (0 : Int32))] [] s post))) ∧
              ((s 66 a7.toNatClampNeg) = a2 →
                ((¬ (1 : Int32) = 0 →
                  (vp_in a7 500 ∧
                  AW l G d hX8_foretold 52 [some (.inr 49), some (.inl a1), some (.inl a2), some (.inl a3), some (.inl (a4 + (s 67 a7.toNatClampNeg))), some (.inl (a5 + (1 : Int32))), some (.inl a6), some (.inl (a7 + (1 : Int32))), some (.inl (1 : Int32))] [] s post)) ∧
                ((1 : Int32) = 0 →
                  AW l G d hX8_foretold 52 [some (.inr 49), some (.inl a1), some (.inl a2), some (.inl a3), some (.inl a4), some (.inl a5), some (.inl a6), some (.inl (a7 + (1 : Int32))), some (.inl (1 : Int32))] [] s post))))))))))))))))) :
    AW l G d hX8_foretold 52 [some (.inr 49), some (.inl a1), some (.inl a2), some (.inl a3), some (.inl a4), some (.inl a5), some (.inl a6), some (.inl a7), none] [] s post := wps_ok (cut := [38, 52, 158]) oX8_foretold 41 52 _ _ _ h
set_option maxRecDepth 100000 in
theorem vX8_foretold_158 {l : Launch} {G : GG} {d : Nat} {post : Int32 → Mem → Prop} {a1 a2 a3 a4 a5 a6 a7 : Int32} {s : Mem} (h :
    ((a7 = 0 →
      ((¬ a3 = 0 →
        (¬ a6 = 0 ∧
        post (a5 / a6) s)) ∧
      (a3 = 0 →
        (¬ a6 = 0 ∧
        post (a4 / a6) s)))) ∧
    (¬ a7 = 0 →
      (¬ a7 = 0 ∧
      AW l G d hX8_foretold 158 [some (.inr 49), some (.inl a1), some (.inl a2), some (.inl a3), some (.inl a4), some (.inl a5), some (.inl a7), some (.inl (a6 - a6 / a7 * a7)), some (.inl (a6 - a6 / a7 * a7))] [] s post)))) :
    AW l G d hX8_foretold 158 [some (.inr 49), some (.inl a1), some (.inl a2), some (.inl a3), some (.inl a4), some (.inl a5), some (.inl a6), some (.inl a7), none] [] s post := wps_ok (cut := [38, 52, 158]) oX8_foretold 12 158 _ _ _ h
set_option maxRecDepth 100000 in
theorem vX8_count_0 {l : Launch} {G : GG} {d : Nat} {post : Int32 → Mem → Prop} {a1 : Int32} {s : Mem} (h :
    (((a1.toInt < 0 ∨ 4 < a1.toInt) →
      post (-1 : Int32) s) ∧
    ((a1.toInt = 0 →
      post (s 49 0) s) ∧
    ((a1.toInt = 0 + 1 →
      post (s 49 11) s) ∧
    ((a1.toInt = 0 + 1 + 1 →
      AW l G d hX8_count 48 [some (.inr 49), some (.inl a1), some (.inl (0 : Int32)), some (.inl (0 : Int32))] [] s post) ∧
    ((a1.toInt = 0 + 1 + 1 + 1 →
      AW l G d hX8_count 81 [some (.inr 49), some (.inl a1), some (.inl (0 : Int32)), some (.inl (0 : Int32))] [] s post) ∧
    ((a1.toInt = 0 + 1 + 1 + 1 + 1 →
      post (s 49 17) s) ∧
    True))))))) :
    AW l G d hX8_count 0 [some (.inr 49), some (.inl a1), none, none] [] s post := wps_ok (cut := [48, 81]) oX8_count 8 0 _ _ _ h
set_option maxRecDepth 100000 in
theorem vX8_count_48 {l : Launch} {G : GG} {d : Nat} {post : Int32 → Mem → Prop} {a1 a2 a3 : Int32} {s : Mem} (h :
    (((16 : Int32) ≤ a3 →
      post a2 s) ∧
    (¬ (16 : Int32) ≤ a3 →
      (vp_in a3 16 ∧
      (((s 56 a3.toNatClampNeg) = 0 →
        AW l G d hX8_count 48 [some (.inr 49), some (.inl a1), some (.inl (a2 + (0 : Int32))), some (.inl (a3 + (1 : Int32)))] [] s post) ∧
      (¬ (s 56 a3.toNatClampNeg) = 0 →
        AW l G d hX8_count 48 [some (.inr 49), some (.inl a1), some (.inl (a2 + (1 : Int32))), some (.inl (a3 + (1 : Int32)))] [] s post)))))) :
    AW l G d hX8_count 48 [some (.inr 49), some (.inl a1), some (.inl a2), some (.inl a3)] [] s post := wps_ok (cut := [48, 81]) oX8_count 16 48 _ _ _ h
set_option maxRecDepth 100000 in
theorem vX8_count_81 {l : Launch} {G : GG} {d : Nat} {post : Int32 → Mem → Prop} {a1 a2 a3 : Int32} {s : Mem} (h :
    (((8 : Int32) ≤ a3 →
      post a2 s) ∧
    (¬ (8 : Int32) ≤ a3 →
      (∃ (d' : Nat) (Q1 : Int32 → Mem → Prop), d' < d ∧ Spec l G d' hX8_isUp [.inr 49, .inl a3] s Q1 ∧ ∀ (r1 : Int32) (t1 : Mem), Q1 r1 t1 →
      ((r1 = 0 →
        AW l G d hX8_count 81 [some (.inr 49), some (.inl a1), some (.inl (a2 + (0 : Int32))), some (.inl (a3 + (1 : Int32)))] [] t1 post) ∧
      (¬ r1 = 0 →
        AW l G d hX8_count 81 [some (.inr 49), some (.inl a1), some (.inl (a2 + (1 : Int32))), some (.inl (a3 + (1 : Int32)))] [] t1 post)))))) :
    AW l G d hX8_count 81 [some (.inr 49), some (.inl a1), some (.inl a2), some (.inl a3)] [] s post := wps_ok (cut := [48, 81]) oX8_count 15 81 _ _ _ h
