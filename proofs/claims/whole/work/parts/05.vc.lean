set_option maxRecDepth 100000 in
theorem vX0_refresh_0 {l : Launch} {G : GG} {d : Nat} {post : Int32 → Mem → Prop} {s : Mem} (h :
    ((¬ (s 15 2) = (s 1 8) →
      (bool01 (0 : Int32) ∧
      (∃ (d' : Nat) (Q1 : Int32 → Mem → Prop), d' < d ∧ Spec l G d' hX0_readLeastChanges [.inr 15] (wrM (wrM s 15 2 (s 1 8)) 15 3 (0 : Int32)) Q1 ∧ ∀ (r1 : Int32) (t1 : Mem), Q1 r1 t1 →
      (∃ (d' : Nat) (Q2 : Int32 → Mem → Prop), d' < d ∧ Spec l G d' hX0_sortByWorth [.inr 15] t1 Q2 ∧ ∀ (r2 : Int32) (t2 : Mem), Q2 r2 t2 →
      (((t2 1 0) ≤ 0 →
        post 0 t2) ∧
      (¬ (t2 1 0) ≤ 0 →
        (∃ (d' : Nat) (Q3 : Int32 → Mem → Prop), d' < d ∧ Spec l G d' hX0_extend [.inr 15, .inl (0 : Int32)] t2 Q3 ∧ ∀ (r3 : Int32) (t3 : Mem), Q3 r3 t3 →
        post 0 t3))))))) ∧
    ((s 15 2) = (s 1 8) →
      post 0 s))) :
    AW l G d hX0_refresh 0 [some (.inr 15)] [] s post := wps_ok (cut := []) oX0_refresh 27 0 _ _ _ h
set_option maxRecDepth 100000 in
theorem vX0_extend_0 {l : Launch} {G : GG} {d : Nat} {post : Int32 → Mem → Prop} {a1 : Int32} {s : Mem} (h :
    (((8 : Int32) ≤ a1 →
      (∃ (d' : Nat) (Q1 : Int32 → Mem → Prop), d' < d ∧ Spec l G d' hX0_keep [.inr 15] s Q1 ∧ ∀ (r1 : Int32) (t1 : Mem), Q1 r1 t1 →
      post 0 t1)) ∧
    (¬ (8 : Int32) ≤ a1 →
      ((a1 < (s 1 0) →
        AW l G d hX0_extend 24 [some (.inr 15), some (.inl a1), some (.inl (0 : Int32))] [] s post) ∧
      (¬ a1 < (s 1 0) →
        (∃ (d' : Nat) (Q2 : Int32 → Mem → Prop), d' < d ∧ Spec l G d' hX0_keep [.inr 15] s Q2 ∧ ∀ (r2 : Int32) (t2 : Mem), Q2 r2 t2 →
        post 0 t2)))))) :
    AW l G d hX0_extend 0 [some (.inr 15), some (.inl a1), none] [] s post := wps_ok (cut := [24]) oX0_extend 12 0 _ _ _ h
set_option maxRecDepth 100000 in
theorem vX0_extend_24 {l : Launch} {G : GG} {d : Nat} {post : Int32 → Mem → Prop} {a1 a2 : Int32} {s : Mem} (h :
    (((s 1 0) ≤ a2 →
      post 0 s) ∧
    (¬ (s 1 0) ≤ a2 →
      (∃ (d' : Nat) (Q1 : Int32 → Mem → Prop), d' < d ∧ Spec l G d' hX2_put [.inr 16, .inl a1, .inl a2] s Q1 ∧ ∀ (r1 : Int32) (t1 : Mem), Q1 r1 t1 →
      ((¬ r1 = 0 →
        AW l G d hX0_extend 24 [some (.inr 15), some (.inl a1), some (.inl (a2 + (1 : Int32)))] [] t1 post) ∧
      (r1 = 0 →
        (∃ (d' : Nat) (Q2 : Int32 → Mem → Prop), d' < d ∧ Spec l G d' hX0_canWin [.inr 15, .inl (a1 + (1 : Int32))] t1 Q2 ∧ ∀ (r2 : Int32) (t2 : Mem), Q2 r2 t2 →
        ((r2 = 0 →
          AW l G d hX0_extend 24 [some (.inr 15), some (.inl a1), some (.inl (a2 + (1 : Int32)))] [] t2 post) ∧
        (¬ r2 = 0 →
          (∃ (d' : Nat) (Q3 : Int32 → Mem → Prop), d' < d ∧ Spec l G d' hX0_extend [.inr 15, .inl (a1 + (1 : Int32))] t2 Q3 ∧ ∀ (r3 : Int32) (t3 : Mem), Q3 r3 t3 →
          AW l G d hX0_extend 24 [some (.inr 15), some (.inl a1), some (.inl (a2 + (1 : Int32)))] [] t3 post)))))))))) :
    AW l G d hX0_extend 24 [some (.inr 15), some (.inl a1), some (.inl a2)] [] s post := wps_ok (cut := [24]) oX0_extend 25 24 _ _ _ h
set_option maxRecDepth 100000 in
theorem vX0_keep_0 {l : Launch} {G : GG} {d : Nat} {post : Int32 → Mem → Prop} {s : Mem} (h :
    (bool01 (1 : Int32) ∧
    (vp_in ((wrM s 15 3 (1 : Int32)) 1 0) 9 ∧
    (vp_in ((wrM (wrM s 15 3 (1 : Int32)) 15 4 ((wrM s 15 3 (1 : Int32)) 21 ((wrM s 15 3 (1 : Int32)) 1 0).toNatClampNeg)) 1 0) 9 ∧
    ((1 ≤ d ∧ ¬ (0 : Int32) < 0 ∧ ¬ (0 : Int32) < 0 ∧ ¬ (8 : Int32) < 0 ∧ (0 : Int32).toNatClampNeg + (8 : Int32).toNatClampNeg ≤ 8 ∧ (0 : Int32).toNatClampNeg + (8 : Int32).toNatClampNeg ≤ 8) ∧
    post 0 (stM (wrM (wrM (wrM s 15 3 (1 : Int32)) 15 4 ((wrM s 15 3 (1 : Int32)) 21 ((wrM s 15 3 (1 : Int32)) 1 0).toNatClampNeg)) 15 5 ((wrM (wrM s 15 3 (1 : Int32)) 15 4 ((wrM s 15 3 (1 : Int32)) 21 ((wrM s 15 3 (1 : Int32)) 1 0).toNatClampNeg)) 22 ((wrM (wrM s 15 3 (1 : Int32)) 15 4 ((wrM s 15 3 (1 : Int32)) 21 ((wrM s 15 3 (1 : Int32)) 1 0).toNatClampNeg)) 1 0).toNatClampNeg)) 23 (va_cpy ((wrM (wrM (wrM s 15 3 (1 : Int32)) 15 4 ((wrM s 15 3 (1 : Int32)) 21 ((wrM s 15 3 (1 : Int32)) 1 0).toNatClampNeg)) 15 5 ((wrM (wrM s 15 3 (1 : Int32)) 15 4 ((wrM s 15 3 (1 : Int32)) 21 ((wrM s 15 3 (1 : Int32)) 1 0).toNatClampNeg)) 22 ((wrM (wrM s 15 3 (1 : Int32)) 15 4 ((wrM s 15 3 (1 : Int32)) 21 ((wrM s 15 3 (1 : Int32)) 1 0).toNatClampNeg)) 1 0).toNatClampNeg)) 17) ((wrM (wrM (wrM s 15 3 (1 : Int32)) 15 4 ((wrM s 15 3 (1 : Int32)) 21 ((wrM s 15 3 (1 : Int32)) 1 0).toNatClampNeg)) 15 5 ((wrM (wrM s 15 3 (1 : Int32)) 15 4 ((wrM s 15 3 (1 : Int32)) 21 ((wrM s 15 3 (1 : Int32)) 1 0).toNatClampNeg)) 22 ((wrM (wrM s 15 3 (1 : Int32)) 15 4 ((wrM s 15 3 (1 : Int32)) 21 ((wrM s 15 3 (1 : Int32)) 1 0).toNatClampNeg)) 1 0).toNatClampNeg)) 23) (0 : Int32).toNatClampNeg (0 : Int32).toNatClampNeg (8 : Int32).toNatClampNeg))))))) :
    AW l G d hX0_keep 0 [some (.inr 15)] [] s post := wps_ok (cut := []) oX0_keep 32 0 _ _ _ h
set_option maxRecDepth 100000 in
theorem vX0_canWin_0 {l : Launch} {G : GG} {d : Nat} {post : Int32 → Mem → Prop} {a1 : Int32} {s : Mem} (h :
    ((¬ (s 15 3) = 0 →
      (vp_in a1 9 ∧
      (∃ (d' : Nat) (Q1 : Int32 → Mem → Prop), d' < d ∧ Spec l G d' hX0_leastGapsBehind [.inr 15, .inl a1] s Q1 ∧ ∀ (r1 : Int32) (t1 : Mem), Q1 r1 t1 →
      ((((s 21 a1.toNatClampNeg) + r1) = (t1 15 4) →
        (vp_in a1 9 ∧
        (∃ (d' : Nat) (Q2 : Int32 → Mem → Prop), d' < d ∧ Spec l G d' hX0_mostWorthBehind [.inr 15, .inl a1] t1 Q2 ∧ ∀ (r2 : Int32) (t2 : Mem), Q2 r2 t2 →
        ((((t1 22 a1.toNatClampNeg) + r2) ≤ (t2 15 5) →
          (bool01 (0 : Int32) ∧ post (0 : Int32) t2)) ∧
        (¬ ((t1 22 a1.toNatClampNeg) + r2) ≤ (t2 15 5) →
          (bool01 (1 : Int32) ∧ post (1 : Int32) t2)))))) ∧
      (¬ ((s 21 a1.toNatClampNeg) + r1) = (t1 15 4) →
        (((t1 15 4) ≤ ((s 21 a1.toNatClampNeg) + r1) →
          (bool01 (0 : Int32) ∧ post (0 : Int32) t1)) ∧
        (¬ (t1 15 4) ≤ ((s 21 a1.toNatClampNeg) + r1) →
          (bool01 (1 : Int32) ∧ post (1 : Int32) t1)))))))) ∧
    ((s 15 3) = 0 →
      (bool01 (1 : Int32) ∧ post (1 : Int32) s)))) :
    AW l G d hX0_canWin 0 [some (.inr 15), some (.inl a1), none] [] s post := wps_ok (cut := []) oX0_canWin 33 0 _ _ _ h
set_option maxRecDepth 100000 in
theorem vX0_leastGapsBehind_0 {l : Launch} {G : GG} {d : Nat} {post : Int32 → Mem → Prop} {a1 : Int32} {s : Mem} (h :
    (vp_in a1 9 ∧
    AW l G d hX0_leastGapsBehind 13 [some (.inr 15), some (.inl a1), some (.inl (-(s 20 a1.toNatClampNeg))), some (.inl (0 : Int32))] [] s post)) :
    AW l G d hX0_leastGapsBehind 0 [some (.inr 15), some (.inl a1), none, none] [] s post := wps_ok (cut := [13]) oX0_leastGapsBehind 10 0 _ _ _ h
set_option maxRecDepth 100000 in
theorem vX0_leastGapsBehind_13 {l : Launch} {G : GG} {d : Nat} {post : Int32 → Mem → Prop} {a1 a2 a3 : Int32} {s : Mem} (h :
    (((s 1 0) ≤ a3 →
      (1 ≤ d ∧
      post (if (0 : Int32) < a2 then a2 else (0 : Int32)) s)) ∧
    (¬ (s 1 0) ≤ a3 →
      (vp_in a1 9 ∧
      ((¬ (((s 18 a1.toNatClampNeg) >>> (a3 &&& 31)) &&& (1 : Int32)) = 0 →
        AW l G d hX0_leastGapsBehind 13 [some (.inr 15), some (.inl a1), some (.inl a2), some (.inl (a3 + (1 : Int32)))] [] s post) ∧
      ((((s 18 a1.toNatClampNeg) >>> (a3 &&& 31)) &&& (1 : Int32)) = 0 →
        (∃ (d' : Nat) (Q1 : Int32 → Mem → Prop), d' < d ∧ Spec l G d' hX4_isClowns [.inr 1, .inl a3] s Q1 ∧ ∀ (r1 : Int32) (t1 : Mem), Q1 r1 t1 →
        ((r1 = 0 →
          (vp_in a3 8 ∧
          AW l G d hX0_leastGapsBehind 13 [some (.inr 15), some (.inl a1), some (.inl (a2 + (t1 24 a3.toNatClampNeg))), some (.inl (a3 + (1 : Int32)))] [] t1 post)) ∧
        (¬ r1 = 0 →
          (vp_in a3 8 ∧
          AW l G d hX0_leastGapsBehind 13 [some (.inr 15), some (.inl a1), some (.inl (a2 + (-(t1 2 a3.toNatClampNeg)))), some (.inl (a3 + (1 : Int32)))] [] t1 post)))))))))) :
    AW l G d hX0_leastGapsBehind 13 [some (.inr 15), some (.inl a1), some (.inl a2), some (.inl a3)] [] s post := wps_ok (cut := [13]) oX0_leastGapsBehind 33 13 _ _ _ h
set_option maxRecDepth 100000 in
theorem vX0_mostWorthBehind_0 {l : Launch} {G : GG} {d : Nat} {post : Int32 → Mem → Prop} {a1 : Int32} {s : Mem} (h :
    AW l G d hX0_mostWorthBehind 7 [some (.inr 15), some (.inl a1), some (.inl (0 : Int32)), some (.inl a1), some (.inl (0 : Int32)), none] [] s post) :
    AW l G d hX0_mostWorthBehind 0 [some (.inr 15), some (.inl a1), none, none, none, none] [] s post := wps_ok (cut := [7]) oX0_mostWorthBehind 7 0 _ _ _ h
set_option maxRecDepth 100000 in
theorem vX0_mostWorthBehind_7 {l : Launch} {G : GG} {d : Nat} {post : Int32 → Mem → Prop} {a1 a2 a3 a4 : Int32} {s : Mem} (h :
    (((s 1 0) ≤ a4 →
      post a2 s) ∧
    (¬ (s 1 0) ≤ a4 →
      (vp_in a4 8 ∧
      (vp_in a1 9 ∧
      ((¬ (((s 18 a1.toNatClampNeg) >>> ((s 25 a4.toNatClampNeg) &&& 31)) &&& (1 : Int32)) = 0 →
        AW l G d hX0_mostWorthBehind 7 [some (.inr 15), some (.inl a1), some (.inl a2), some (.inl a3), some (.inl (a4 + (1 : Int32))), some (.inl (s 25 a4.toNatClampNeg))] [] s post) ∧
      ((((s 18 a1.toNatClampNeg) >>> ((s 25 a4.toNatClampNeg) &&& 31)) &&& (1 : Int32)) = 0 →
        (vp_in (s 25 a4.toNatClampNeg) 8 ∧
        AW l G d hX0_mostWorthBehind 7 [some (.inr 15), some (.inl a1), some (.inl (a2 + ((s 4 (s 25 a4.toNatClampNeg).toNatClampNeg) * (a3 + (1 : Int32))))), some (.inl (a3 + (1 : Int32))), some (.inl (a4 + (1 : Int32))), some (.inl (s 25 a4.toNatClampNeg))] [] s post)))))))) :
    AW l G d hX0_mostWorthBehind 7 [some (.inr 15), some (.inl a1), some (.inl a2), some (.inl a3), some (.inl a4), none] [] s post := wps_ok (cut := [7]) oX0_mostWorthBehind 34 7 _ _ _ h
set_option maxRecDepth 100000 in
theorem vX0_readLeastChanges_0 {l : Launch} {G : GG} {d : Nat} {post : Int32 → Mem → Prop} {s : Mem} (h :
    AW l G d hX0_readLeastChanges 2 [some (.inr 15), some (.inl (0 : Int32)), none, none] [] s post) :
    AW l G d hX0_readLeastChanges 0 [some (.inr 15), none, none, none] [] s post := wps_ok (cut := [2, 28]) oX0_readLeastChanges 3 0 _ _ _ h
set_option maxRecDepth 100000 in
theorem vX0_readLeastChanges_2 {l : Launch} {G : GG} {d : Nat} {post : Int32 → Mem → Prop} {a1 : Int32} {s : Mem} (h :
    (((s 1 0) ≤ a1 →
      post 0 s) ∧
    (¬ (s 1 0) ≤ a1 →
      (vp_in a1 8 ∧
      (∃ (d' : Nat) (Q1 : Int32 → Mem → Prop), d' < d ∧ Spec l G d' hJ6_bitCount_0f7a4 [.inl (s 6 a1.toNatClampNeg)] s Q1 ∧ ∀ (r1 : Int32) (t1 : Mem), Q1 r1 t1 →
      AW l G d hX0_readLeastChanges 28 [some (.inr 15), some (.inl a1), some (.inl r1), some (.inl (0 : Int32))] [] t1 post))))) :
    AW l G d hX0_readLeastChanges 2 [some (.inr 15), some (.inl a1), none, none] [] s post := wps_ok (cut := [2, 28]) oX0_readLeastChanges 15 2 _ _ _ h
set_option maxRecDepth 100000 in
theorem vX0_readLeastChanges_28 {l : Launch} {G : GG} {d : Nat} {post : Int32 → Mem → Prop} {a1 a2 a3 : Int32} {s : Mem} (h :
    (((s 1 0) ≤ a3 →
      (vp_in a1 8 ∧
      AW l G d hX0_readLeastChanges 2 [some (.inr 15), some (.inl (a1 + (1 : Int32))), some (.inl a2), some (.inl a3)] [] (wrM s 24 a1.toNatClampNeg ((2 : Int32) * a2)) post)) ∧
    (¬ (s 1 0) ≤ a3 →
      ((a3 = a1 →
        AW l G d hX0_readLeastChanges 28 [some (.inr 15), some (.inl a1), some (.inl a2), some (.inl (a3 + (1 : Int32)))] [] s post) ∧
      (¬ a3 = a1 →
        (∃ (d' : Nat) (Q1 : Int32 → Mem → Prop), d' < d ∧ Spec l G d' hX4_isClowns [.inr 1, .inl a3] s Q1 ∧ ∀ (r1 : Int32) (t1 : Mem), Q1 r1 t1 →
        ((¬ r1 = 0 →
          AW l G d hX0_readLeastChanges 28 [some (.inr 15), some (.inl a1), some (.inl a2), some (.inl (a3 + (1 : Int32)))] [] t1 post) ∧
        (r1 = 0 →
          (vp_in a3 8 ∧
          (vp_in a1 8 ∧
          (∃ (d' : Nat) (Q2 : Int32 → Mem → Prop), d' < d ∧ Spec l G d' hJ6_bitCount_0f7a4 [.inl ((t1 6 a3.toNatClampNeg) ^^^ (t1 6 a1.toNatClampNeg))] t1 Q2 ∧ ∀ (r2 : Int32) (t2 : Mem), Q2 r2 t2 →
          (1 ≤ d ∧
          AW l G d hX0_readLeastChanges 28 [some (.inr 15), some (.inl a1), some (.inl (if r2 < a2 then r2 else a2)), some (.inl (a3 + (1 : Int32)))] [] t2 post)))))))))))) :
    AW l G d hX0_readLeastChanges 28 [some (.inr 15), some (.inl a1), some (.inl a2), some (.inl a3)] [] s post := wps_ok (cut := [2, 28]) oX0_readLeastChanges 31 28 _ _ _ h
set_option maxRecDepth 100000 in
theorem vX0_sortByWorth_0 {l : Launch} {G : GG} {d : Nat} {post : Int32 → Mem → Prop} {s : Mem} (h :
    AW l G d hX0_sortByWorth 2 [some (.inr 15), some (.inl (0 : Int32)), none] [] s post) :
    AW l G d hX0_sortByWorth 0 [some (.inr 15), none, none] [] s post := wps_ok (cut := [2, 15]) oX0_sortByWorth 3 0 _ _ _ h
set_option maxRecDepth 100000 in
theorem vX0_sortByWorth_2 {l : Launch} {G : GG} {d : Nat} {post : Int32 → Mem → Prop} {a1 : Int32} {s : Mem} (h :
    (((s 1 0) ≤ a1 →
      post 0 s) ∧
    (¬ (s 1 0) ≤ a1 →
      AW l G d hX0_sortByWorth 15 [some (.inr 15), some (.inl a1), some (.inl a1)] [] s post))) :
    AW l G d hX0_sortByWorth 2 [some (.inr 15), some (.inl a1), none] [] s post := wps_ok (cut := [2, 15]) oX0_sortByWorth 8 2 _ _ _ h
set_option maxRecDepth 100000 in
theorem vX0_sortByWorth_15 {l : Launch} {G : GG} {d : Nat} {post : Int32 → Mem → Prop} {a1 a2 : Int32} {s : Mem} (h :
    ((a2 ≤ 0 →
      (vp_in a2 8 ∧
      AW l G d hX0_sortByWorth 2 [some (.inr 15), some (.inl (a1 + (1 : Int32))), some (.inl a2)] [] (wrM s 25 a2.toNatClampNeg a1) post)) ∧
    (¬ a2 ≤ 0 →
      (vp_in (a2 - (1 : Int32)) 8 ∧
      (vp_in (s 25 (a2 - (1 : Int32)).toNatClampNeg) 8 ∧
      (vp_in a1 8 ∧
      (((s 4 (s 25 (a2 - (1 : Int32)).toNatClampNeg).toNatClampNeg) ≤ (s 4 a1.toNatClampNeg) →
        (vp_in a2 8 ∧
        AW l G d hX0_sortByWorth 2 [some (.inr 15), some (.inl (a1 + (1 : Int32))), some (.inl a2)] [] (wrM s 25 a2.toNatClampNeg a1) post)) ∧
      (¬ (s 4 (s 25 (a2 - (1 : Int32)).toNatClampNeg).toNatClampNeg) ≤ (s 4 a1.toNatClampNeg) →
        (vp_in (a2 - (1 : Int32)) 8 ∧
        (vp_in a2 8 ∧
        AW l G d hX0_sortByWorth 15 [some (.inr 15), some (.inl a1), some (.inl (a2 + (-1 : Int32)))] [] (wrM s 25 a2.toNatClampNeg (s 25 (a2 - (1 : Int32)).toNatClampNeg)) post)))))))))) :
    AW l G d hX0_sortByWorth 15 [some (.inr 15), some (.inl a1), some (.inl a2)] [] s post := wps_ok (cut := [2, 15]) oX0_sortByWorth 31 15 _ _ _ h
set_option maxRecDepth 100000 in
theorem vX1_refresh_0 {l : Launch} {G : GG} {d : Nat} {post : Int32 → Mem → Prop} {s : Mem} (h :
    ((¬ (s 39 1) = (s 33 6) →
      (∃ (d' : Nat) (Q1 : Int32 → Mem → Prop), d' < d ∧ Spec l G d' hX1_extend [.inr 39, .inl (0 : Int32)] (wrM (wrM (wrM s 39 1 (s 33 6)) 39 2 (0 : Int32)) 39 3 (0 : Int32)) Q1 ∧ ∀ (r1 : Int32) (t1 : Mem), Q1 r1 t1 →
      post 0 t1)) ∧
    ((s 39 1) = (s 33 6) →
      post 0 s))) :
    AW l G d hX1_refresh 0 [some (.inr 39)] [] s post := wps_ok (cut := []) oX1_refresh 22 0 _ _ _ h
set_option maxRecDepth 100000 in
theorem vX1_extend_0 {l : Launch} {G : GG} {d : Nat} {post : Int32 → Mem → Prop} {a1 : Int32} {s : Mem} (h :
    (∃ (d' : Nat) (Q1 : Int32 → Mem → Prop), d' < d ∧ Spec l G d' hX1_keepIfBetter [.inr 39, .inl a1] s Q1 ∧ ∀ (r1 : Int32) (t1 : Mem), Q1 r1 t1 →
    ((a1 < (8 : Int32) →
      AW l G d hX1_extend 14 [some (.inr 39), some (.inl a1), some (.inl (0 : Int32))] [] t1 post) ∧
    (¬ a1 < (8 : Int32) →
      post 0 t1)))) :
    AW l G d hX1_extend 0 [some (.inr 39), some (.inl a1), none] [] s post := wps_ok (cut := [14]) oX1_extend 9 0 _ _ _ h
set_option maxRecDepth 100000 in
theorem vX1_extend_14 {l : Launch} {G : GG} {d : Nat} {post : Int32 → Mem → Prop} {a1 a2 : Int32} {s : Mem} (h :
    (((s 33 0) ≤ a2 →
      post 0 s) ∧
    (¬ (s 33 0) ≤ a2 →
      (∃ (d' : Nat) (Q1 : Int32 → Mem → Prop), d' < d ∧ Spec l G d' hX1_put [.inr 39, .inl a1, .inl a2] s Q1 ∧ ∀ (r1 : Int32) (t1 : Mem), Q1 r1 t1 →
      ((r1 = 0 →
        AW l G d hX1_extend 14 [some (.inr 39), some (.inl a1), some (.inl (a2 + (1 : Int32)))] [] t1 post) ∧
      (¬ r1 = 0 →
        (∃ (d' : Nat) (Q2 : Int32 → Mem → Prop), d' < d ∧ Spec l G d' hX1_canWin [.inr 39, .inl (a1 + (1 : Int32))] t1 Q2 ∧ ∀ (r2 : Int32) (t2 : Mem), Q2 r2 t2 →
        ((r2 = 0 →
          AW l G d hX1_extend 14 [some (.inr 39), some (.inl a1), some (.inl (a2 + (1 : Int32)))] [] t2 post) ∧
        (¬ r2 = 0 →
          (∃ (d' : Nat) (Q3 : Int32 → Mem → Prop), d' < d ∧ Spec l G d' hX1_extend [.inr 39, .inl (a1 + (1 : Int32))] t2 Q3 ∧ ∀ (r3 : Int32) (t3 : Mem), Q3 r3 t3 →
          AW l G d hX1_extend 14 [some (.inr 39), some (.inl a1), some (.inl (a2 + (1 : Int32)))] [] t3 post)))))))))) :
    AW l G d hX1_extend 14 [some (.inr 39), some (.inl a1), some (.inl a2)] [] s post := wps_ok (cut := [14]) oX1_extend 24 14 _ _ _ h
set_option maxRecDepth 100000 in
theorem vX1_put_0 {l : Launch} {G : GG} {d : Nat} {post : Int32 → Mem → Prop} {a1 a2 : Int32} {s : Mem} (h :
    (∃ (d' : Nat) (Q1 : Int32 → Mem → Prop), d' < d ∧ Spec l G d' hX1_nightAt [.inr 39, .inl a1, .inl a2] s Q1 ∧ ∀ (r1 : Int32) (t1 : Mem), Q1 r1 t1 →
    ((¬ r1 = (-1 : Int32) →
      (vp_in a1 8 ∧
      (vp_in a1 8 ∧
      (vp_in a1 9 ∧
      (vp_in (a1 + (1 : Int32)) 9 ∧
      (vp_in a1 9 ∧
      (vp_in a2 8 ∧
      (vp_in (a1 + (1 : Int32)) 9 ∧
      (bool01 (1 : Int32) ∧ post (1 : Int32) (wrM (wrM (wrM (wrM t1 42 a1.toNatClampNeg a2) 43 a1.toNatClampNeg r1) 44 (a1 + (1 : Int32)).toNatClampNeg (((wrM (wrM t1 42 a1.toNatClampNeg a2) 43 a1.toNatClampNeg r1) 44 a1.toNatClampNeg) ||| ((1 : Int32) <<< (a2 &&& 31)))) 45 (a1 + (1 : Int32)).toNatClampNeg (((wrM (wrM (wrM t1 42 a1.toNatClampNeg a2) 43 a1.toNatClampNeg r1) 44 (a1 + (1 : Int32)).toNatClampNeg (((wrM (wrM t1 42 a1.toNatClampNeg a2) 43 a1.toNatClampNeg r1) 44 a1.toNatClampNeg) ||| ((1 : Int32) <<< (a2 &&& 31)))) 45 a1.toNatClampNeg) + ((wrM (wrM (wrM t1 42 a1.toNatClampNeg a2) 43 a1.toNatClampNeg r1) 44 (a1 + (1 : Int32)).toNatClampNeg (((wrM (wrM t1 42 a1.toNatClampNeg a2) 43 a1.toNatClampNeg r1) 44 a1.toNatClampNeg) ||| ((1 : Int32) <<< (a2 &&& 31)))) 34 a2.toNatClampNeg)))))))))))) ∧
    (r1 = (-1 : Int32) →
      (bool01 (0 : Int32) ∧ post (0 : Int32) t1))))) :
    AW l G d hX1_put 0 [some (.inr 39), some (.inl a1), some (.inl a2), none] [] s post := wps_ok (cut := []) oX1_put 51 0 _ _ _ h
set_option maxRecDepth 100000 in
theorem vX1_nightAt_0 {l : Launch} {G : GG} {d : Nat} {post : Int32 → Mem → Prop} {a1 a2 : Int32} {s : Mem} (h :
    (vp_in a1 9 ∧
    (((((s 44 a1.toNatClampNeg) >>> (a2 &&& 31)) &&& (1 : Int32)) = 0 →
      ((¬ a1 = 0 →
        (vp_in (a1 - (1 : Int32)) 8 ∧
        (vp_in (a1 - (1 : Int32)) 8 ∧
        (∃ (d' : Nat) (Q1 : Int32 → Mem → Prop), d' < d ∧ Spec l G d' hX3_nightBehind [.inr 33, .inl (s 42 (a1 - (1 : Int32)).toNatClampNeg), .inl (s 43 (a1 - (1 : Int32)).toNatClampNeg), .inl a2] s Q1 ∧ ∀ (r1 : Int32) (t1 : Mem), Q1 r1 t1 →
        post r1 t1)))) ∧
      (a1 = 0 →
        (vp_in a2 8 ∧
        post (s 35 a2.toNatClampNeg) s)))) ∧
    (¬ (((s 44 a1.toNatClampNeg) >>> (a2 &&& 31)) &&& (1 : Int32)) = 0 →
      post (-1 : Int32) s)))) :
    AW l G d hX1_nightAt 0 [some (.inr 39), some (.inl a1), some (.inl a2)] [] s post := wps_ok (cut := []) oX1_nightAt 29 0 _ _ _ h
set_option maxRecDepth 100000 in
theorem vX1_keepIfBetter_0 {l : Launch} {G : GG} {d : Nat} {post : Int32 → Mem → Prop} {a1 : Int32} {s : Mem} (h :
    (vp_in a1 9 ∧
    (∃ (d' : Nat) (Q1 : Int32 → Mem → Prop), d' < d ∧ Spec l G d' hX1_isBetter [.inr 39, .inl a1, .inl (s 45 a1.toNatClampNeg)] s Q1 ∧ ∀ (r1 : Int32) (t1 : Mem), Q1 r1 t1 →
    ((r1 = 0 →
      post 0 t1) ∧
    (¬ r1 = 0 →
      (vp_in a1 9 ∧
      ((1 ≤ d ∧ ¬ (0 : Int32) < 0 ∧ ¬ (0 : Int32) < 0 ∧ ¬ a1 < 0 ∧ (0 : Int32).toNatClampNeg + a1.toNatClampNeg ≤ 8 ∧ (0 : Int32).toNatClampNeg + a1.toNatClampNeg ≤ 8) ∧
      ((1 ≤ d ∧ ¬ (0 : Int32) < 0 ∧ ¬ (0 : Int32) < 0 ∧ ¬ a1 < 0 ∧ (0 : Int32).toNatClampNeg + a1.toNatClampNeg ≤ 8 ∧ (0 : Int32).toNatClampNeg + a1.toNatClampNeg ≤ 8) ∧
      post 0 (stM (stM (wrM (wrM t1 39 2 a1) 39 3 ((wrM t1 39 2 a1) 45 a1.toNatClampNeg)) 40 (va_cpy ((wrM (wrM t1 39 2 a1) 39 3 ((wrM t1 39 2 a1) 45 a1.toNatClampNeg)) 42) ((wrM (wrM t1 39 2 a1) 39 3 ((wrM t1 39 2 a1) 45 a1.toNatClampNeg)) 40) (0 : Int32).toNatClampNeg (0 : Int32).toNatClampNeg a1.toNatClampNeg)) 41 (va_cpy ((stM (wrM (wrM t1 39 2 a1) 39 3 ((wrM t1 39 2 a1) 45 a1.toNatClampNeg)) 40 (va_cpy ((wrM (wrM t1 39 2 a1) 39 3 ((wrM t1 39 2 a1) 45 a1.toNatClampNeg)) 42) ((wrM (wrM t1 39 2 a1) 39 3 ((wrM t1 39 2 a1) 45 a1.toNatClampNeg)) 40) (0 : Int32).toNatClampNeg (0 : Int32).toNatClampNeg a1.toNatClampNeg)) 43) ((stM (wrM (wrM t1 39 2 a1) 39 3 ((wrM t1 39 2 a1) 45 a1.toNatClampNeg)) 40 (va_cpy ((wrM (wrM t1 39 2 a1) 39 3 ((wrM t1 39 2 a1) 45 a1.toNatClampNeg)) 42) ((wrM (wrM t1 39 2 a1) 39 3 ((wrM t1 39 2 a1) 45 a1.toNatClampNeg)) 40) (0 : Int32).toNatClampNeg (0 : Int32).toNatClampNeg a1.toNatClampNeg)) 41) (0 : Int32).toNatClampNeg (0 : Int32).toNatClampNeg a1.toNatClampNeg)))))))))) :
    AW l G d hX1_keepIfBetter 0 [some (.inr 39), some (.inl a1)] [] s post := wps_ok (cut := []) oX1_keepIfBetter 35 0 _ _ _ h
set_option maxRecDepth 100000 in
theorem vX1_isBetter_0 {l : Launch} {G : GG} {d : Nat} {post : Int32 → Mem → Prop} {a1 a2 : Int32} {s : Mem} (h :
    ((a1 = (s 39 2) →
      ((a2 ≤ (s 39 3) →
        (bool01 (0 : Int32) ∧ post (0 : Int32) s)) ∧
      (¬ a2 ≤ (s 39 3) →
        (bool01 (1 : Int32) ∧ post (1 : Int32) s)))) ∧
    (¬ a1 = (s 39 2) →
      ((a1 ≤ (s 39 2) →
        (bool01 (0 : Int32) ∧ post (0 : Int32) s)) ∧
      (¬ a1 ≤ (s 39 2) →
        (bool01 (1 : Int32) ∧ post (1 : Int32) s)))))) :
    AW l G d hX1_isBetter 0 [some (.inr 39), some (.inl a1), some (.inl a2)] [] s post := wps_ok (cut := []) oX1_isBetter 12 0 _ _ _ h
set_option maxRecDepth 100000 in
theorem vX1_canWin_0 {l : Launch} {G : GG} {d : Nat} {post : Int32 → Mem → Prop} {a1 : Int32} {s : Mem} (h :
    (vp_in a1 9 ∧
    (((8 : Int32) ≤ a1 →
      (∃ (d' : Nat) (Q1 : Int32 → Mem → Prop), d' < d ∧ Spec l G d' hX1_isBetter [.inr 39, .inl a1, .inl (s 45 a1.toNatClampNeg)] s Q1 ∧ ∀ (r1 : Int32) (t1 : Mem), Q1 r1 t1 →
      (bool01 r1 ∧ post r1 t1))) ∧
    (¬ (8 : Int32) ≤ a1 →
      AW l G d hX1_canWin 18 [some (.inr 39), some (.inl a1), some (.inl a1), some (.inl (s 45 a1.toNatClampNeg)), some (.inl (0 : Int32))] [] s post)))) :
    AW l G d hX1_canWin 0 [some (.inr 39), some (.inl a1), none, none, none] [] s post := wps_ok (cut := [18]) oX1_canWin 16 0 _ _ _ h
set_option maxRecDepth 100000 in
theorem vX1_canWin_18 {l : Launch} {G : GG} {d : Nat} {post : Int32 → Mem → Prop} {a1 a2 a3 a4 : Int32} {s : Mem} (h :
    (((s 33 0) ≤ a4 →
      (∃ (d' : Nat) (Q1 : Int32 → Mem → Prop), d' < d ∧ Spec l G d' hX1_isBetter [.inr 39, .inl a2, .inl a3] s Q1 ∧ ∀ (r1 : Int32) (t1 : Mem), Q1 r1 t1 →
      (bool01 r1 ∧ post r1 t1))) ∧
    (¬ (s 33 0) ≤ a4 →
      (∃ (d' : Nat) (Q2 : Int32 → Mem → Prop), d' < d ∧ Spec l G d' hX1_nightAt [.inr 39, .inl a1, .inl a4] s Q2 ∧ ∀ (r2 : Int32) (t2 : Mem), Q2 r2 t2 →
      ((r2 = (-1 : Int32) →
        AW l G d hX1_canWin 18 [some (.inr 39), some (.inl a1), some (.inl a2), some (.inl a3), some (.inl (a4 + (1 : Int32)))] [] t2 post) ∧
      (¬ r2 = (-1 : Int32) →
        (vp_in a4 8 ∧
        AW l G d hX1_canWin 18 [some (.inr 39), some (.inl a1), some (.inl (a2 + (1 : Int32))), some (.inl (a3 + (t2 34 a4.toNatClampNeg))), some (.inl (a4 + (1 : Int32)))] [] t2 post))))))) :
    AW l G d hX1_canWin 18 [some (.inr 39), some (.inl a1), some (.inl a2), some (.inl a3), some (.inl a4)] [] s post := wps_ok (cut := [18]) oX1_canWin 23 18 _ _ _ h
set_option maxRecDepth 100000 in
theorem vX2_canBeTold_0 {l : Launch} {G : GG} {d : Nat} {post : Int32 → Mem → Prop} {a0 a1 : Int32} {s : Mem} (h :
    ((a0 < 0 →
      (bool01 (0 : Int32) ∧ post (0 : Int32) s)) ∧
    (¬ a0 < 0 →
      ((a1 < 0 →
        (bool01 (0 : Int32) ∧ post (0 : Int32) s)) ∧
      (¬ a1 < 0 →
        ((a1 ≤ (8 : Int32) →
          AW l G d hX2_canBeTold 20 [some (.inl a0), some (.inl a1), some (.inl a0), some (.inl (0 : Int32))] [] s post) ∧
        (¬ a1 ≤ (8 : Int32) →
          (bool01 (0 : Int32) ∧ post (0 : Int32) s)))))))) :
    AW l G d hX2_canBeTold 0 [some (.inl a0), some (.inl a1), none, none] [] s post := wps_ok (cut := [20]) oX2_canBeTold 12 0 _ _ _ h
set_option maxRecDepth 100000 in
theorem vX2_canBeTold_20 {l : Launch} {G : GG} {d : Nat} {post : Int32 → Mem → Prop} {a0 a1 a2 a3 : Int32} {s : Mem} (h :
    ((a1 ≤ a3 →
      ((¬ a2 = 0 →
        (bool01 (0 : Int32) ∧ post (0 : Int32) s)) ∧
      (a2 = 0 →
        (bool01 (1 : Int32) ∧ post (1 : Int32) s)))) ∧
    (¬ a1 ≤ a3 →
      (¬ (10 : Int32) = 0 ∧
      AW l G d hX2_canBeTold 20 [some (.inl a0), some (.inl a1), some (.inl (a2 / (10 : Int32))), some (.inl (a3 + (1 : Int32)))] [] s post)))) :
    AW l G d hX2_canBeTold 20 [some (.inl a0), some (.inl a1), some (.inl a2), some (.inl a3)] [] s post := wps_ok (cut := [20]) oX2_canBeTold 10 20 _ _ _ h
set_option maxRecDepth 100000 in
theorem vX2_read_told_0 {l : Launch} {G : GG} {d : Nat} {post : Int32 → Mem → Prop} {a1 a2 : Int32} {s : Mem} (h :
    AW l G d hX2_read 5 [some (.inr 8), some (.inl a1), some (.inl a2), some (.inl a1), some (.inl (0 : Int32)), none] [] s post) :
    AW l G d hX2_read 0 [some (.inr 8), some (.inl a1), some (.inl a2), none, none, none] [] s post := wps_ok (cut := [5]) oX2_read 5 0 _ _ _ h
set_option maxRecDepth 100000 in
theorem vX2_read_told_5 {l : Launch} {G : GG} {d : Nat} {post : Int32 → Mem → Prop} {a1 a2 a3 a4 : Int32} {s : Mem} (h :
    ((a2 ≤ a4 →
      ((((wrM s 8 7 a2) 1 0) ≤ a2 →
        post (0 : Int32) (wrM s 8 7 a2)) ∧
      (¬ ((wrM s 8 7 a2) 1 0) ≤ a2 →
        post (4 : Int32) (wrM s 8 7 a2)))) ∧
    (¬ a2 ≤ a4 →
      (¬ (10 : Int32) = 0 ∧
      (∃ (d' : Nat) (Q1 : Int32 → Mem → Prop), d' < d ∧ Spec l G d' hX2_put [.inr 8, .inl a4, .inl (a3 - a3 / (10 : Int32) * (10 : Int32))] s Q1 ∧ ∀ (r1 : Int32) (t1 : Mem), Q1 r1 t1 →
      ((r1 = 0 →
        (¬ (10 : Int32) = 0 ∧
        AW l G d hX2_read 5 [some (.inr 8), some (.inl a1), some (.inl a2), some (.inl (a3 / (10 : Int32))), some (.inl (a4 + (1 : Int32))), some (.inl r1)] [] t1 post)) ∧
      (¬ r1 = 0 →
        post r1 (wrM t1 8 7 a4)))))))) :
    AW l G d hX2_read 5 [some (.inr 8), some (.inl a1), some (.inl a2), some (.inl a3), some (.inl a4), none] [] s post := wps_ok (cut := [5]) oX2_read 19 5 _ _ _ h
set_option maxRecDepth 100000 in
theorem vX2_read_row_0 {l : Launch} {G : GG} {d : Nat} {post : Int32 → Mem → Prop} {a1 a2 : Int32} {s : Mem} (h :
    AW l G d hX2_read 5 [some (.inr 16), some (.inl a1), some (.inl a2), some (.inl a1), some (.inl (0 : Int32)), none] [] s post) :
    AW l G d hX2_read 0 [some (.inr 16), some (.inl a1), some (.inl a2), none, none, none] [] s post := wps_ok (cut := [5]) oX2_read 5 0 _ _ _ h
set_option maxRecDepth 100000 in
theorem vX2_read_row_5 {l : Launch} {G : GG} {d : Nat} {post : Int32 → Mem → Prop} {a1 a2 a3 a4 : Int32} {s : Mem} (h :
    ((a2 ≤ a4 →
      ((((wrM s 16 7 a2) 1 0) ≤ a2 →
        post (0 : Int32) (wrM s 16 7 a2)) ∧
      (¬ ((wrM s 16 7 a2) 1 0) ≤ a2 →
        post (4 : Int32) (wrM s 16 7 a2)))) ∧
    (¬ a2 ≤ a4 →
      (¬ (10 : Int32) = 0 ∧
      (∃ (d' : Nat) (Q1 : Int32 → Mem → Prop), d' < d ∧ Spec l G d' hX2_put [.inr 16, .inl a4, .inl (a3 - a3 / (10 : Int32) * (10 : Int32))] s Q1 ∧ ∀ (r1 : Int32) (t1 : Mem), Q1 r1 t1 →
      ((r1 = 0 →
        (¬ (10 : Int32) = 0 ∧
        AW l G d hX2_read 5 [some (.inr 16), some (.inl a1), some (.inl a2), some (.inl (a3 / (10 : Int32))), some (.inl (a4 + (1 : Int32))), some (.inl r1)] [] t1 post)) ∧
      (¬ r1 = 0 →
        post r1 (wrM t1 16 7 a4)))))))) :
    AW l G d hX2_read 5 [some (.inr 16), some (.inl a1), some (.inl a2), some (.inl a3), some (.inl a4), none] [] s post := wps_ok (cut := [5]) oX2_read 19 5 _ _ _ h
set_option maxRecDepth 100000 in
theorem vX2_put_told_0 {l : Launch} {G : GG} {d : Nat} {post : Int32 → Mem → Prop} {a1 a2 : Int32} {s : Mem} (h :
    (∃ (d' : Nat) (Q1 : Int32 → Mem → Prop), d' < d ∧ Spec l G d' hX2_breakAt [.inr 8, .inl a1, .inl a2] s Q1 ∧ ∀ (r1 : Int32) (t1 : Mem), Q1 r1 t1 →
    ((¬ r1 = 0 →
      post r1 t1) ∧
    (r1 = 0 →
      (∃ (d' : Nat) (Q2 : Int32 → Mem → Prop), d' < d ∧ Spec l G d' hX2_set [.inr 8, .inl a1, .inl a2] t1 Q2 ∧ ∀ (r2 : Int32) (t2 : Mem), Q2 r2 t2 →
      post r1 t2))))) :
    AW l G d hX2_put 0 [some (.inr 8), some (.inl a1), some (.inl a2), none] [] s post := wps_ok (cut := []) oX2_put 14 0 _ _ _ h
set_option maxRecDepth 100000 in
theorem vX2_put_row_0 {l : Launch} {G : GG} {d : Nat} {post : Int32 → Mem → Prop} {a1 a2 : Int32} {s : Mem} (h :
    (∃ (d' : Nat) (Q1 : Int32 → Mem → Prop), d' < d ∧ Spec l G d' hX2_breakAt [.inr 16, .inl a1, .inl a2] s Q1 ∧ ∀ (r1 : Int32) (t1 : Mem), Q1 r1 t1 →
    ((¬ r1 = 0 →
      post r1 t1) ∧
    (r1 = 0 →
      (∃ (d' : Nat) (Q2 : Int32 → Mem → Prop), d' < d ∧ Spec l G d' hX2_set [.inr 16, .inl a1, .inl a2] t1 Q2 ∧ ∀ (r2 : Int32) (t2 : Mem), Q2 r2 t2 →
      post r1 t2))))) :
    AW l G d hX2_put 0 [some (.inr 16), some (.inl a1), some (.inl a2), none] [] s post := wps_ok (cut := []) oX2_put 14 0 _ _ _ h
set_option maxRecDepth 100000 in
theorem vX2_breakAt_told_0 {l : Launch} {G : GG} {d : Nat} {post : Int32 → Mem → Prop} {a1 a2 : Int32} {s : Mem} (h :
    (∃ (d' : Nat) (Q1 : Int32 → Mem → Prop), d' < d ∧ Spec l G d' hX7_isIn [.inl a1, .inl (8 : Int32)] s Q1 ∧ ∀ (r1 : Int32) (t1 : Mem), Q1 r1 t1 →
    ((r1 = 0 →
      post (1 : Int32) t1) ∧
    (¬ r1 = 0 →
      (∃ (d' : Nat) (Q2 : Int32 → Mem → Prop), d' < d ∧ Spec l G d' hX7_isIn [.inl a2, .inl (t1 1 0)] t1 Q2 ∧ ∀ (r2 : Int32) (t2 : Mem), Q2 r2 t2 →
      ((r2 = 0 →
        post (1 : Int32) t2) ∧
      (¬ r2 = 0 →
        (vp_in a1 9 ∧
        (((((t2 10 a1.toNatClampNeg) >>> (a2 &&& 31)) &&& (1 : Int32)) = 0 →
          AW l G d hX2_breakAt 40 [some (.inr 8), some (.inl a1), some (.inl a2), some (.inl (1 : Int32)), none] [] t2 post) ∧
        (¬ (((t2 10 a1.toNatClampNeg) >>> (a2 &&& 31)) &&& (1 : Int32)) = 0 →
          post (1 : Int32) t2)))))))))) :
    AW l G d hX2_breakAt 0 [some (.inr 8), some (.inl a1), some (.inl a2), none, none] [] s post := wps_ok (cut := [40]) oX2_breakAt 22 0 _ _ _ h
set_option maxRecDepth 100000 in
theorem vX2_breakAt_told_40 {l : Launch} {G : GG} {d : Nat} {post : Int32 → Mem → Prop} {a1 a2 a3 : Int32} {s : Mem} (h :
    (((3 : Int32) < a3 →
      ((a1 ≤ 0 →
        post (0 : Int32) s) ∧
      (¬ a1 ≤ 0 →
        (vp_in (a1 - (1 : Int32)) 8 ∧
        (vp_in (s 9 (a1 - (1 : Int32)).toNatClampNeg) 8 ∧
        (vp_in a2 8 ∧
        (∃ (d' : Nat) (Q1 : Int32 → Mem → Prop), d' < d ∧ Spec l G d' hX4_isBanned [.inr 1, .inl (s 3 (s 9 (a1 - (1 : Int32)).toNatClampNeg).toNatClampNeg), .inl (s 3 a2.toNatClampNeg)] s Q1 ∧ ∀ (r1 : Int32) (t1 : Mem), Q1 r1 t1 →
        ((r1 = 0 →
          post (0 : Int32) t1) ∧
        (¬ r1 = 0 →
          post (3 : Int32) t1))))))))) ∧
    (¬ (3 : Int32) < a3 →
      ((a1 < a3 →
        ((a1 ≤ 0 →
          post (0 : Int32) s) ∧
        (¬ a1 ≤ 0 →
          (vp_in (a1 - (1 : Int32)) 8 ∧
          (vp_in (s 9 (a1 - (1 : Int32)).toNatClampNeg) 8 ∧
          (vp_in a2 8 ∧
          (∃ (d' : Nat) (Q2 : Int32 → Mem → Prop), d' < d ∧ Spec l G d' hX4_isBanned [.inr 1, .inl (s 3 (s 9 (a1 - (1 : Int32)).toNatClampNeg).toNatClampNeg), .inl (s 3 a2.toNatClampNeg)] s Q2 ∧ ∀ (r2 : Int32) (t2 : Mem), Q2 r2 t2 →
          ((r2 = 0 →
            post (0 : Int32) t2) ∧
          (¬ r2 = 0 →
            post (3 : Int32) t2))))))))) ∧
      (¬ a1 < a3 →
        (vp_in a2 8 ∧
        (vp_in (a1 - a3) 8 ∧
        (vp_in (s 9 (a1 - a3).toNatClampNeg) 8 ∧
        (vp_in a3 4 ∧
        (((((s 5 a2.toNatClampNeg) &&& (s 5 (s 9 (a1 - a3).toNatClampNeg).toNatClampNeg)) &&& (s 7 a3.toNatClampNeg)) = 0 →
          AW l G d hX2_breakAt 40 [some (.inr 8), some (.inl a1), some (.inl a2), some (.inl (a3 + (1 : Int32))), some (.inl ((s 5 a2.toNatClampNeg) &&& (s 5 (s 9 (a1 - a3).toNatClampNeg).toNatClampNeg)))] [] s post) ∧
        (¬ (((s 5 a2.toNatClampNeg) &&& (s 5 (s 9 (a1 - a3).toNatClampNeg).toNatClampNeg)) &&& (s 7 a3.toNatClampNeg)) = 0 →
          post (2 : Int32) s))))))))))) :
    AW l G d hX2_breakAt 40 [some (.inr 8), some (.inl a1), some (.inl a2), some (.inl a3), none] [] s post := wps_ok (cut := [40]) oX2_breakAt 34 40 _ _ _ h
set_option maxRecDepth 100000 in
theorem vX2_breakAt_row_0 {l : Launch} {G : GG} {d : Nat} {post : Int32 → Mem → Prop} {a1 a2 : Int32} {s : Mem} (h :
    (∃ (d' : Nat) (Q1 : Int32 → Mem → Prop), d' < d ∧ Spec l G d' hX7_isIn [.inl a1, .inl (8 : Int32)] s Q1 ∧ ∀ (r1 : Int32) (t1 : Mem), Q1 r1 t1 →
    ((r1 = 0 →
      post (1 : Int32) t1) ∧
    (¬ r1 = 0 →
      (∃ (d' : Nat) (Q2 : Int32 → Mem → Prop), d' < d ∧ Spec l G d' hX7_isIn [.inl a2, .inl (t1 1 0)] t1 Q2 ∧ ∀ (r2 : Int32) (t2 : Mem), Q2 r2 t2 →
      ((r2 = 0 →
        post (1 : Int32) t2) ∧
      (¬ r2 = 0 →
        (vp_in a1 9 ∧
        (((((t2 18 a1.toNatClampNeg) >>> (a2 &&& 31)) &&& (1 : Int32)) = 0 →
          AW l G d hX2_breakAt 40 [some (.inr 16), some (.inl a1), some (.inl a2), some (.inl (1 : Int32)), none] [] t2 post) ∧
        (¬ (((t2 18 a1.toNatClampNeg) >>> (a2 &&& 31)) &&& (1 : Int32)) = 0 →
          post (1 : Int32) t2)))))))))) :
    AW l G d hX2_breakAt 0 [some (.inr 16), some (.inl a1), some (.inl a2), none, none] [] s post := wps_ok (cut := [40]) oX2_breakAt 22 0 _ _ _ h
set_option maxRecDepth 100000 in
theorem vX2_breakAt_row_40 {l : Launch} {G : GG} {d : Nat} {post : Int32 → Mem → Prop} {a1 a2 a3 : Int32} {s : Mem} (h :
    (((3 : Int32) < a3 →
      ((a1 ≤ 0 →
        post (0 : Int32) s) ∧
      (¬ a1 ≤ 0 →
        (vp_in (a1 - (1 : Int32)) 8 ∧
        (vp_in (s 17 (a1 - (1 : Int32)).toNatClampNeg) 8 ∧
        (vp_in a2 8 ∧
        (∃ (d' : Nat) (Q1 : Int32 → Mem → Prop), d' < d ∧ Spec l G d' hX4_isBanned [.inr 1, .inl (s 3 (s 17 (a1 - (1 : Int32)).toNatClampNeg).toNatClampNeg), .inl (s 3 a2.toNatClampNeg)] s Q1 ∧ ∀ (r1 : Int32) (t1 : Mem), Q1 r1 t1 →
        ((r1 = 0 →
          post (0 : Int32) t1) ∧
        (¬ r1 = 0 →
          post (3 : Int32) t1))))))))) ∧
    (¬ (3 : Int32) < a3 →
      ((a1 < a3 →
        ((a1 ≤ 0 →
          post (0 : Int32) s) ∧
        (¬ a1 ≤ 0 →
          (vp_in (a1 - (1 : Int32)) 8 ∧
          (vp_in (s 17 (a1 - (1 : Int32)).toNatClampNeg) 8 ∧
          (vp_in a2 8 ∧
          (∃ (d' : Nat) (Q2 : Int32 → Mem → Prop), d' < d ∧ Spec l G d' hX4_isBanned [.inr 1, .inl (s 3 (s 17 (a1 - (1 : Int32)).toNatClampNeg).toNatClampNeg), .inl (s 3 a2.toNatClampNeg)] s Q2 ∧ ∀ (r2 : Int32) (t2 : Mem), Q2 r2 t2 →
          ((r2 = 0 →
            post (0 : Int32) t2) ∧
          (¬ r2 = 0 →
            post (3 : Int32) t2))))))))) ∧
      (¬ a1 < a3 →
        (vp_in a2 8 ∧
        (vp_in (a1 - a3) 8 ∧
        (vp_in (s 17 (a1 - a3).toNatClampNeg) 8 ∧
        (vp_in a3 4 ∧
        (((((s 5 a2.toNatClampNeg) &&& (s 5 (s 17 (a1 - a3).toNatClampNeg).toNatClampNeg)) &&& (s 7 a3.toNatClampNeg)) = 0 →
          AW l G d hX2_breakAt 40 [some (.inr 16), some (.inl a1), some (.inl a2), some (.inl (a3 + (1 : Int32))), some (.inl ((s 5 a2.toNatClampNeg) &&& (s 5 (s 17 (a1 - a3).toNatClampNeg).toNatClampNeg)))] [] s post) ∧
        (¬ (((s 5 a2.toNatClampNeg) &&& (s 5 (s 17 (a1 - a3).toNatClampNeg).toNatClampNeg)) &&& (s 7 a3.toNatClampNeg)) = 0 →
          post (2 : Int32) s))))))))))) :
    AW l G d hX2_breakAt 40 [some (.inr 16), some (.inl a1), some (.inl a2), some (.inl a3), none] [] s post := wps_ok (cut := [40]) oX2_breakAt 34 40 _ _ _ h
set_option maxRecDepth 100000 in
theorem vX2_set_told_0 {l : Launch} {G : GG} {d : Nat} {post : Int32 → Mem → Prop} {a1 a2 : Int32} {s : Mem} (h :
    (vp_in a1 8 ∧
    (vp_in a1 9 ∧
    (vp_in (a1 + (1 : Int32)) 9 ∧
    (vp_in a1 9 ∧
    (vp_in a2 8 ∧
    (vp_in (a1 + (1 : Int32)) 9 ∧
    (∃ (d' : Nat) (Q1 : Int32 → Mem → Prop), d' < d ∧ Spec l G d' hX4_isClowns [.inr 1, .inl a2] (wrM (wrM (wrM s 9 a1.toNatClampNeg a2) 10 (a1 + (1 : Int32)).toNatClampNeg (((wrM s 9 a1.toNatClampNeg a2) 10 a1.toNatClampNeg) ||| ((1 : Int32) <<< (a2 &&& 31)))) 14 (a1 + (1 : Int32)).toNatClampNeg (((wrM (wrM s 9 a1.toNatClampNeg a2) 10 (a1 + (1 : Int32)).toNatClampNeg (((wrM s 9 a1.toNatClampNeg a2) 10 a1.toNatClampNeg) ||| ((1 : Int32) <<< (a2 &&& 31)))) 14 a1.toNatClampNeg) + (((wrM (wrM s 9 a1.toNatClampNeg a2) 10 (a1 + (1 : Int32)).toNatClampNeg (((wrM s 9 a1.toNatClampNeg a2) 10 a1.toNatClampNeg) ||| ((1 : Int32) <<< (a2 &&& 31)))) 4 a2.toNatClampNeg) * (a1 + (1 : Int32))))) Q1 ∧ ∀ (r1 : Int32) (t1 : Mem), Q1 r1 t1 →
    ((r1 = 0 →
      (vp_in a1 9 ∧
      (vp_in a2 8 ∧
      (∃ (d' : Nat) (Q2 : Int32 → Mem → Prop), d' < d ∧ Spec l G d' hJ6_bitCount_0f7a4 [.inl ((t1 11 a1.toNatClampNeg) ^^^ (t1 6 a2.toNatClampNeg))] t1 Q2 ∧ ∀ (r2 : Int32) (t2 : Mem), Q2 r2 t2 →
      (vp_in a1 9 ∧
      (vp_in a1 9 ∧
      (1 ≤ d ∧
      (vp_in (a1 + (1 : Int32)) 9 ∧
      (vp_in a2 8 ∧
      (vp_in (a1 + (1 : Int32)) 9 ∧
      (vp_in (a1 + (1 : Int32)) 9 ∧
      post 0 (wrM (wrM (wrM t2 13 (a1 + (1 : Int32)).toNatClampNeg ((t2 13 a1.toNatClampNeg) + (if (0 : Int32) < (((2 : Int32) * r2) - (t2 12 a1.toNatClampNeg)) then (((2 : Int32) * r2) - (t2 12 a1.toNatClampNeg)) else (0 : Int32)))) 11 (a1 + (1 : Int32)).toNatClampNeg ((wrM t2 13 (a1 + (1 : Int32)).toNatClampNeg ((t2 13 a1.toNatClampNeg) + (if (0 : Int32) < (((2 : Int32) * r2) - (t2 12 a1.toNatClampNeg)) then (((2 : Int32) * r2) - (t2 12 a1.toNatClampNeg)) else (0 : Int32)))) 6 a2.toNatClampNeg)) 12 (a1 + (1 : Int32)).toNatClampNeg (0 : Int32))))))))))))) ∧
    (¬ r1 = 0 →
      (vp_in a1 9 ∧
      (vp_in (a1 + (1 : Int32)) 9 ∧
      (vp_in a1 9 ∧
      (vp_in (a1 + (1 : Int32)) 9 ∧
      (vp_in a1 9 ∧
      (vp_in a2 8 ∧
      (vp_in (a1 + (1 : Int32)) 9 ∧
      post 0 (wrM (wrM (wrM t1 13 (a1 + (1 : Int32)).toNatClampNeg (t1 13 a1.toNatClampNeg)) 11 (a1 + (1 : Int32)).toNatClampNeg ((wrM t1 13 (a1 + (1 : Int32)).toNatClampNeg (t1 13 a1.toNatClampNeg)) 11 a1.toNatClampNeg)) 12 (a1 + (1 : Int32)).toNatClampNeg (((wrM (wrM t1 13 (a1 + (1 : Int32)).toNatClampNeg (t1 13 a1.toNatClampNeg)) 11 (a1 + (1 : Int32)).toNatClampNeg ((wrM t1 13 (a1 + (1 : Int32)).toNatClampNeg (t1 13 a1.toNatClampNeg)) 11 a1.toNatClampNeg)) 12 a1.toNatClampNeg) + ((wrM (wrM t1 13 (a1 + (1 : Int32)).toNatClampNeg (t1 13 a1.toNatClampNeg)) 11 (a1 + (1 : Int32)).toNatClampNeg ((wrM t1 13 (a1 + (1 : Int32)).toNatClampNeg (t1 13 a1.toNatClampNeg)) 11 a1.toNatClampNeg)) 2 a2.toNatClampNeg)))))))))))))))))))) :
    AW l G d hX2_set 0 [some (.inr 8), some (.inl a1), some (.inl a2), none, none] [] s post := wps_ok (cut := []) oX2_set 89 0 _ _ _ h
set_option maxRecDepth 100000 in
theorem vX2_set_row_0 {l : Launch} {G : GG} {d : Nat} {post : Int32 → Mem → Prop} {a1 a2 : Int32} {s : Mem} (h :
    (vp_in a1 8 ∧
    (vp_in a1 9 ∧
    (vp_in (a1 + (1 : Int32)) 9 ∧
    (vp_in a1 9 ∧
    (vp_in a2 8 ∧
    (vp_in (a1 + (1 : Int32)) 9 ∧
    (∃ (d' : Nat) (Q1 : Int32 → Mem → Prop), d' < d ∧ Spec l G d' hX4_isClowns [.inr 1, .inl a2] (wrM (wrM (wrM s 17 a1.toNatClampNeg a2) 18 (a1 + (1 : Int32)).toNatClampNeg (((wrM s 17 a1.toNatClampNeg a2) 18 a1.toNatClampNeg) ||| ((1 : Int32) <<< (a2 &&& 31)))) 22 (a1 + (1 : Int32)).toNatClampNeg (((wrM (wrM s 17 a1.toNatClampNeg a2) 18 (a1 + (1 : Int32)).toNatClampNeg (((wrM s 17 a1.toNatClampNeg a2) 18 a1.toNatClampNeg) ||| ((1 : Int32) <<< (a2 &&& 31)))) 22 a1.toNatClampNeg) + (((wrM (wrM s 17 a1.toNatClampNeg a2) 18 (a1 + (1 : Int32)).toNatClampNeg (((wrM s 17 a1.toNatClampNeg a2) 18 a1.toNatClampNeg) ||| ((1 : Int32) <<< (a2 &&& 31)))) 4 a2.toNatClampNeg) * (a1 + (1 : Int32))))) Q1 ∧ ∀ (r1 : Int32) (t1 : Mem), Q1 r1 t1 →
    ((r1 = 0 →
      (vp_in a1 9 ∧
      (vp_in a2 8 ∧
      (∃ (d' : Nat) (Q2 : Int32 → Mem → Prop), d' < d ∧ Spec l G d' hJ6_bitCount_0f7a4 [.inl ((t1 19 a1.toNatClampNeg) ^^^ (t1 6 a2.toNatClampNeg))] t1 Q2 ∧ ∀ (r2 : Int32) (t2 : Mem), Q2 r2 t2 →
      (vp_in a1 9 ∧
      (vp_in a1 9 ∧
      (1 ≤ d ∧
      (vp_in (a1 + (1 : Int32)) 9 ∧
      (vp_in a2 8 ∧
      (vp_in (a1 + (1 : Int32)) 9 ∧
      (vp_in (a1 + (1 : Int32)) 9 ∧
      post 0 (wrM (wrM (wrM t2 21 (a1 + (1 : Int32)).toNatClampNeg ((t2 21 a1.toNatClampNeg) + (if (0 : Int32) < (((2 : Int32) * r2) - (t2 20 a1.toNatClampNeg)) then (((2 : Int32) * r2) - (t2 20 a1.toNatClampNeg)) else (0 : Int32)))) 19 (a1 + (1 : Int32)).toNatClampNeg ((wrM t2 21 (a1 + (1 : Int32)).toNatClampNeg ((t2 21 a1.toNatClampNeg) + (if (0 : Int32) < (((2 : Int32) * r2) - (t2 20 a1.toNatClampNeg)) then (((2 : Int32) * r2) - (t2 20 a1.toNatClampNeg)) else (0 : Int32)))) 6 a2.toNatClampNeg)) 20 (a1 + (1 : Int32)).toNatClampNeg (0 : Int32))))))))))))) ∧
    (¬ r1 = 0 →
      (vp_in a1 9 ∧
      (vp_in (a1 + (1 : Int32)) 9 ∧
      (vp_in a1 9 ∧
      (vp_in (a1 + (1 : Int32)) 9 ∧
      (vp_in a1 9 ∧
      (vp_in a2 8 ∧
      (vp_in (a1 + (1 : Int32)) 9 ∧
      post 0 (wrM (wrM (wrM t1 21 (a1 + (1 : Int32)).toNatClampNeg (t1 21 a1.toNatClampNeg)) 19 (a1 + (1 : Int32)).toNatClampNeg ((wrM t1 21 (a1 + (1 : Int32)).toNatClampNeg (t1 21 a1.toNatClampNeg)) 19 a1.toNatClampNeg)) 20 (a1 + (1 : Int32)).toNatClampNeg (((wrM (wrM t1 21 (a1 + (1 : Int32)).toNatClampNeg (t1 21 a1.toNatClampNeg)) 19 (a1 + (1 : Int32)).toNatClampNeg ((wrM t1 21 (a1 + (1 : Int32)).toNatClampNeg (t1 21 a1.toNatClampNeg)) 19 a1.toNatClampNeg)) 20 a1.toNatClampNeg) + ((wrM (wrM t1 21 (a1 + (1 : Int32)).toNatClampNeg (t1 21 a1.toNatClampNeg)) 19 (a1 + (1 : Int32)).toNatClampNeg ((wrM t1 21 (a1 + (1 : Int32)).toNatClampNeg (t1 21 a1.toNatClampNeg)) 19 a1.toNatClampNeg)) 2 a2.toNatClampNeg)))))))))))))))))))) :
    AW l G d hX2_set 0 [some (.inr 16), some (.inl a1), some (.inl a2), none, none] [] s post := wps_ok (cut := []) oX2_set 89 0 _ _ _ h
set_option maxRecDepth 100000 in
theorem vX3_has_0 {l : Launch} {G : GG} {d : Nat} {post : Int32 → Mem → Prop} {a1 : Int32} {s : Mem} (h :
    (∃ (d' : Nat) (Q1 : Int32 → Mem → Prop), d' < d ∧ Spec l G d' hX7_isIn [.inl a1, .inl (s 33 0)] s Q1 ∧ ∀ (r1 : Int32) (t1 : Mem), Q1 r1 t1 →
    (bool01 r1 ∧ post r1 t1))) :
    AW l G d hX3_has 0 [some (.inr 33), some (.inl a1)] [] s post := wps_ok (cut := []) oX3_has 6 0 _ _ _ h
set_option maxRecDepth 100000 in
theorem vX3_add_0 {l : Launch} {G : GG} {d : Nat} {post : Int32 → Mem → Prop} {a1 a2 a3 : Int32} {s : Mem} (h :
    (((8 : Int32) ≤ (s 33 0) →
      post (-1 : Int32) s) ∧
    (¬ (8 : Int32) ≤ (s 33 0) →
      ((a1 < 0 →
        post (-1 : Int32) s) ∧
      (¬ a1 < 0 →
        ((a1 ≤ (10000 : Int32) →
          (∃ (d' : Nat) (Q1 : Int32 → Mem → Prop), d' < d ∧ Spec l G d' hX7_isIn [.inl a2, .inl (30 : Int32)] s Q1 ∧ ∀ (r1 : Int32) (t1 : Mem), Q1 r1 t1 →
          ((r1 = 0 →
            post (-1 : Int32) t1) ∧
          (¬ r1 = 0 →
            (∃ (d' : Nat) (Q2 : Int32 → Mem → Prop), d' < d ∧ Spec l G d' hX7_isIn [.inl a3, .inl (30 : Int32)] t1 Q2 ∧ ∀ (r2 : Int32) (t2 : Mem), Q2 r2 t2 →
            ((r2 = 0 →
              post (-1 : Int32) t2) ∧
            (¬ r2 = 0 →
              ((a2 ≤ a3 →
                (vp_in (t2 33 0) 8 ∧
                (vp_in (t2 33 0) 8 ∧
                (vp_in (t2 33 0) 8 ∧
                post (t2 33 0) (wrM (wrM (wrM (wrM (wrM t2 34 (t2 33 0).toNatClampNeg a1) 35 (t2 33 0).toNatClampNeg a2) 36 (t2 33 0).toNatClampNeg a3) 33 0 (((wrM (wrM (wrM t2 34 (t2 33 0).toNatClampNeg a1) 35 (t2 33 0).toNatClampNeg a2) 36 (t2 33 0).toNatClampNeg a3) 33 0) + (1 : Int32))) 33 6 (((wrM (wrM (wrM (wrM t2 34 (t2 33 0).toNatClampNeg a1) 35 (t2 33 0).toNatClampNeg a2) 36 (t2 33 0).toNatClampNeg a3) 33 0 (((wrM (wrM (wrM t2 34 (t2 33 0).toNatClampNeg a1) 35 (t2 33 0).toNatClampNeg a2) 36 (t2 33 0).toNatClampNeg a3) 33 0) + (1 : Int32))) 33 6) + (1 : Int32))))))) ∧
              (¬ a2 ≤ a3 →
                post (-1 : Int32) t2))))))))) ∧
        (¬ a1 ≤ (10000 : Int32) →
          post (-1 : Int32) s))))))) :
    AW l G d hX3_add 0 [some (.inr 33), some (.inl a1), some (.inl a2), some (.inl a3), none] [] s post := wps_ok (cut := []) oX3_add 53 0 _ _ _ h
set_option maxRecDepth 100000 in
theorem vX3_join_0 {l : Launch} {G : GG} {d : Nat} {post : Int32 → Mem → Prop} {a1 a2 a3 : Int32} {s : Mem} (h :
    (∃ (d' : Nat) (Q1 : Int32 → Mem → Prop), d' < d ∧ Spec l G d' hX3_has [.inr 33, .inl a1] s Q1 ∧ ∀ (r1 : Int32) (t1 : Mem), Q1 r1 t1 →
    ((r1 = 0 →
      (bool01 (0 : Int32) ∧ post (0 : Int32) t1)) ∧
    (¬ r1 = 0 →
      (∃ (d' : Nat) (Q2 : Int32 → Mem → Prop), d' < d ∧ Spec l G d' hX3_has [.inr 33, .inl a2] t1 Q2 ∧ ∀ (r2 : Int32) (t2 : Mem), Q2 r2 t2 →
      ((r2 = 0 →
        (bool01 (0 : Int32) ∧ post (0 : Int32) t2)) ∧
      (¬ r2 = 0 →
        ((a1 = a2 →
          (bool01 (0 : Int32) ∧ post (0 : Int32) t2)) ∧
        (¬ a1 = a2 →
          ((a3 < (1 : Int32) →
            (bool01 (0 : Int32) ∧ post (0 : Int32) t2)) ∧
          (¬ a3 < (1 : Int32) →
            ((a3 ≤ (99 : Int32) →
              (vp_in ((a1 * (8 : Int32)) + a2) 64 ∧
              (vp_in ((a2 * (8 : Int32)) + a1) 64 ∧
              (∃ (d' : Nat) (Q3 : Int32 → Mem → Prop), d' < d ∧ Spec l G d' hX3_measure [.inr 33] (wrM (wrM (wrM t2 37 ((a1 * (8 : Int32)) + a2).toNatClampNeg a3) 37 ((a2 * (8 : Int32)) + a1).toNatClampNeg a3) 33 6 (((wrM (wrM t2 37 ((a1 * (8 : Int32)) + a2).toNatClampNeg a3) 37 ((a2 * (8 : Int32)) + a1).toNatClampNeg a3) 33 6) + (1 : Int32))) Q3 ∧ ∀ (r3 : Int32) (t3 : Mem), Q3 r3 t3 →
              (bool01 (1 : Int32) ∧ post (1 : Int32) t3))))) ∧
            (¬ a3 ≤ (99 : Int32) →
              (bool01 (0 : Int32) ∧ post (0 : Int32) t2)))))))))))))) :
    AW l G d hX3_join 0 [some (.inr 33), some (.inl a1), some (.inl a2), some (.inl a3)] [] s post := wps_ok (cut := []) oX3_join 46 0 _ _ _ h
set_option maxRecDepth 100000 in
theorem vX3_measure_0 {l : Launch} {G : GG} {d : Nat} {post : Int32 → Mem → Prop} {s : Mem} (h :
    ((1 ≤ d ∧ ¬ (0 : Int32) < 0 ∧ ¬ (0 : Int32) < 0 ∧ ¬ (64 : Int32) < 0 ∧ (0 : Int32).toNatClampNeg + (64 : Int32).toNatClampNeg ≤ 64 ∧ (0 : Int32).toNatClampNeg + (64 : Int32).toNatClampNeg ≤ 64) ∧
    AW l G d hX3_measure 17 [some (.inr 33), some (.inl (0 : Int32)), none, none] [] (stM s 38 (va_cpy (s 37) (s 38) (0 : Int32).toNatClampNeg (0 : Int32).toNatClampNeg (64 : Int32).toNatClampNeg)) post)) :
    AW l G d hX3_measure 0 [some (.inr 33), none, none, none] [] s post := wps_ok (cut := [17, 27, 37]) oX3_measure 11 0 _ _ _ h
set_option maxRecDepth 100000 in
theorem vX3_measure_17 {l : Launch} {G : GG} {d : Nat} {post : Int32 → Mem → Prop} {a1 : Int32} {s : Mem} (h :
    (((s 33 0) ≤ a1 →
      post 0 s) ∧
    (¬ (s 33 0) ≤ a1 →
      AW l G d hX3_measure 27 [some (.inr 33), some (.inl a1), some (.inl (0 : Int32)), none] [] s post))) :
    AW l G d hX3_measure 17 [some (.inr 33), some (.inl a1), none, none] [] s post := wps_ok (cut := [17, 27, 37]) oX3_measure 7 17 _ _ _ h
set_option maxRecDepth 100000 in
theorem vX3_measure_27 {l : Launch} {G : GG} {d : Nat} {post : Int32 → Mem → Prop} {a1 a2 : Int32} {s : Mem} (h :
    (((s 33 0) ≤ a2 →
      AW l G d hX3_measure 17 [some (.inr 33), some (.inl (a1 + (1 : Int32))), some (.inl a2), none] [] s post) ∧
    (¬ (s 33 0) ≤ a2 →
      AW l G d hX3_measure 37 [some (.inr 33), some (.inl a1), some (.inl a2), some (.inl (0 : Int32))] [] s post))) :
    AW l G d hX3_measure 27 [some (.inr 33), some (.inl a1), some (.inl a2), none] [] s post := wps_ok (cut := [17, 27, 37]) oX3_measure 7 27 _ _ _ h
set_option maxRecDepth 100000 in
theorem vX3_measure_37 {l : Launch} {G : GG} {d : Nat} {post : Int32 → Mem → Prop} {a1 a2 a3 : Int32} {s : Mem} (h :
    (((s 33 0) ≤ a3 →
      AW l G d hX3_measure 27 [some (.inr 33), some (.inl a1), some (.inl (a2 + (1 : Int32))), some (.inl a3)] [] s post) ∧
    (¬ (s 33 0) ≤ a3 →
      (∃ (d' : Nat) (Q1 : Int32 → Mem → Prop), d' < d ∧ Spec l G d' hX3_goBy [.inr 33, .inl a2, .inl a1, .inl a3] s Q1 ∧ ∀ (r1 : Int32) (t1 : Mem), Q1 r1 t1 →
      AW l G d hX3_measure 37 [some (.inr 33), some (.inl a1), some (.inl a2), some (.inl (a3 + (1 : Int32)))] [] t1 post)))) :
    AW l G d hX3_measure 37 [some (.inr 33), some (.inl a1), some (.inl a2), some (.inl a3)] [] s post := wps_ok (cut := [17, 27, 37]) oX3_measure 12 37 _ _ _ h
set_option maxRecDepth 100000 in
theorem vX3_goBy_0 {l : Launch} {G : GG} {d : Nat} {post : Int32 → Mem → Prop} {a1 a2 a3 : Int32} {s : Mem} (h :
    (vp_in ((a1 * (8 : Int32)) + a2) 64 ∧
    (vp_in ((a2 * (8 : Int32)) + a3) 64 ∧
    (vp_in ((a1 * (8 : Int32)) + a3) 64 ∧
    (((s 38 ((a1 * (8 : Int32)) + a2).toNatClampNeg) = (-1 : Int32) →
      post 0 s) ∧
    (¬ (s 38 ((a1 * (8 : Int32)) + a2).toNatClampNeg) = (-1 : Int32) →
      (((s 38 ((a2 * (8 : Int32)) + a3).toNatClampNeg) = (-1 : Int32) →
        post 0 s) ∧
      (¬ (s 38 ((a2 * (8 : Int32)) + a3).toNatClampNeg) = (-1 : Int32) →
        (((s 38 ((a1 * (8 : Int32)) + a3).toNatClampNeg) = (-1 : Int32) →
          (vp_in ((a1 * (8 : Int32)) + a3) 64 ∧
          post 0 (wrM s 38 ((a1 * (8 : Int32)) + a3).toNatClampNeg ((s 38 ((a1 * (8 : Int32)) + a2).toNatClampNeg) + (s 38 ((a2 * (8 : Int32)) + a3).toNatClampNeg))))) ∧
        (¬ (s 38 ((a1 * (8 : Int32)) + a3).toNatClampNeg) = (-1 : Int32) →
          (((s 38 ((a1 * (8 : Int32)) + a3).toNatClampNeg) ≤ ((s 38 ((a1 * (8 : Int32)) + a2).toNatClampNeg) + (s 38 ((a2 * (8 : Int32)) + a3).toNatClampNeg)) →
            post 0 s) ∧
          (¬ (s 38 ((a1 * (8 : Int32)) + a3).toNatClampNeg) ≤ ((s 38 ((a1 * (8 : Int32)) + a2).toNatClampNeg) + (s 38 ((a2 * (8 : Int32)) + a3).toNatClampNeg)) →
            (vp_in ((a1 * (8 : Int32)) + a3) 64 ∧
            post 0 (wrM s 38 ((a1 * (8 : Int32)) + a3).toNatClampNeg ((s 38 ((a1 * (8 : Int32)) + a2).toNatClampNeg) + (s 38 ((a2 * (8 : Int32)) + a3).toNatClampNeg)))))))))))))))) :
    AW l G d hX3_goBy 0 [some (.inr 33), some (.inl a1), some (.inl a2), some (.inl a3), none, none, none] [] s post := wps_ok (cut := []) oX3_goBy 54 0 _ _ _ h
set_option maxRecDepth 100000 in
theorem vX3_leastHours_0 {l : Launch} {G : GG} {d : Nat} {post : Int32 → Mem → Prop} {a1 a2 : Int32} {s : Mem} (h :
    (vp_in ((a1 * (8 : Int32)) + a2) 64 ∧
    post (s 38 ((a1 * (8 : Int32)) + a2).toNatClampNeg) s)) :
    AW l G d hX3_leastHours 0 [some (.inr 33), some (.inl a1), some (.inl a2)] [] s post := wps_ok (cut := []) oX3_leastHours 10 0 _ _ _ h
set_option maxRecDepth 100000 in
theorem vX3_nightBehind_0 {l : Launch} {G : GG} {d : Nat} {post : Int32 → Mem → Prop} {a1 a2 a3 : Int32} {s : Mem} (h :
    (∃ (d' : Nat) (Q1 : Int32 → Mem → Prop), d' < d ∧ Spec l G d' hX3_leastHours [.inr 33, .inl a1, .inl a3] s Q1 ∧ ∀ (r1 : Int32) (t1 : Mem), Q1 r1 t1 →
    ((¬ r1 = (-1 : Int32) →
      (¬ (10 : Int32) = 0 ∧
      (vp_in a3 8 ∧
      (1 ≤ d ∧
      (vp_in a3 8 ∧
      (((t1 36 a3.toNatClampNeg) < (if (a2 + (((r1 + (10 : Int32)) - (1 : Int32)) / (10 : Int32))) < (t1 35 a3.toNatClampNeg) then (t1 35 a3.toNatClampNeg) else (a2 + (((r1 + (10 : Int32)) - (1 : Int32)) / (10 : Int32)))) →
        post (-1 : Int32) t1) ∧
      (¬ (t1 36 a3.toNatClampNeg) < (if (a2 + (((r1 + (10 : Int32)) - (1 : Int32)) / (10 : Int32))) < (t1 35 a3.toNatClampNeg) then (t1 35 a3.toNatClampNeg) else (a2 + (((r1 + (10 : Int32)) - (1 : Int32)) / (10 : Int32)))) →
        post (if (a2 + (((r1 + (10 : Int32)) - (1 : Int32)) / (10 : Int32))) < (t1 35 a3.toNatClampNeg) then (t1 35 a3.toNatClampNeg) else (a2 + (((r1 + (10 : Int32)) - (1 : Int32)) / (10 : Int32)))) t1))))))) ∧
    (r1 = (-1 : Int32) →
      post (-1 : Int32) t1)))) :
    AW l G d hX3_nightBehind 0 [some (.inr 33), some (.inl a1), some (.inl a2), some (.inl a3), none, none, none] [] s post := wps_ok (cut := []) oX3_nightBehind 35 0 _ _ _ h
set_option maxRecDepth 100000 in
theorem vX4_add_0 {l : Launch} {G : GG} {d : Nat} {post : Int32 → Mem → Prop} {a1 a2 a3 : Int32} {s : Mem} (h :
    (((8 : Int32) ≤ (s 1 0) →
      post (-1 : Int32) s) ∧
    (¬ (8 : Int32) ≤ (s 1 0) →
      (∃ (d' : Nat) (Q1 : Int32 → Mem → Prop), d' < d ∧ Spec l G d' hX4_canBe [.inl a1, .inl a2, .inl a3] s Q1 ∧ ∀ (r1 : Int32) (t1 : Mem), Q1 r1 t1 →
      ((¬ r1 = 0 →
        (¬ (1000 : Int32) = 0 ∧
        (vp_in (t1 1 0) 8 ∧
        (¬ (100 : Int32) = 0 ∧
        (¬ (10 : Int32) = 0 ∧
        (vp_in (t1 1 0) 8 ∧
        (¬ (100 : Int32) = 0 ∧
        (vp_in (t1 1 0) 8 ∧
        (vp_in (t1 1 0) 8 ∧
        (vp_in (t1 1 0) 8 ∧
        post (t1 1 0) (wrM (wrM (wrM (wrM (wrM (wrM (wrM t1 2 (t1 1 0).toNatClampNeg (a1 / (1000 : Int32))) 3 (t1 1 0).toNatClampNeg ((a1 / (100 : Int32)) - (a1 / (100 : Int32)) / (10 : Int32) * (10 : Int32))) 4 (t1 1 0).toNatClampNeg (a1 - a1 / (100 : Int32) * (100 : Int32))) 5 (t1 1 0).toNatClampNeg a2) 6 (t1 1 0).toNatClampNeg a3) 1 0 (((wrM (wrM (wrM (wrM (wrM t1 2 (t1 1 0).toNatClampNeg (a1 / (1000 : Int32))) 3 (t1 1 0).toNatClampNeg ((a1 / (100 : Int32)) - (a1 / (100 : Int32)) / (10 : Int32) * (10 : Int32))) 4 (t1 1 0).toNatClampNeg (a1 - a1 / (100 : Int32) * (100 : Int32))) 5 (t1 1 0).toNatClampNeg a2) 6 (t1 1 0).toNatClampNeg a3) 1 0) + (1 : Int32))) 1 8 (((wrM (wrM (wrM (wrM (wrM (wrM t1 2 (t1 1 0).toNatClampNeg (a1 / (1000 : Int32))) 3 (t1 1 0).toNatClampNeg ((a1 / (100 : Int32)) - (a1 / (100 : Int32)) / (10 : Int32) * (10 : Int32))) 4 (t1 1 0).toNatClampNeg (a1 - a1 / (100 : Int32) * (100 : Int32))) 5 (t1 1 0).toNatClampNeg a2) 6 (t1 1 0).toNatClampNeg a3) 1 0 (((wrM (wrM (wrM (wrM (wrM t1 2 (t1 1 0).toNatClampNeg (a1 / (1000 : Int32))) 3 (t1 1 0).toNatClampNeg ((a1 / (100 : Int32)) - (a1 / (100 : Int32)) / (10 : Int32) * (10 : Int32))) 4 (t1 1 0).toNatClampNeg (a1 - a1 / (100 : Int32) * (100 : Int32))) 5 (t1 1 0).toNatClampNeg a2) 6 (t1 1 0).toNatClampNeg a3) 1 0) + (1 : Int32))) 1 8) + (1 : Int32))))))))))))) ∧
      (r1 = 0 →
        post (-1 : Int32) t1)))))) :
    AW l G d hX4_add 0 [some (.inr 1), some (.inl a1), some (.inl a2), some (.inl a3), none] [] s post := wps_ok (cut := []) oX4_add 60 0 _ _ _ h
set_option maxRecDepth 100000 in
theorem vX4_canBe_0 {l : Launch} {G : GG} {d : Nat} {post : Int32 → Mem → Prop} {a0 a1 a2 : Int32} {s : Mem} (h :
    ((a0 < (1000 : Int32) →
      (bool01 (0 : Int32) ∧ post (0 : Int32) s)) ∧
    (¬ a0 < (1000 : Int32) →
      (¬ (1000 : Int32) = 0 ∧
      (((a0 / (1000 : Int32)) ≤ (60 : Int32) →
        (¬ (100 : Int32) = 0 ∧
        (¬ (10 : Int32) = 0 ∧
        (((4 : Int32) ≤ ((a0 / (100 : Int32)) - (a0 / (100 : Int32)) / (10 : Int32) * (10 : Int32)) →
          (bool01 (0 : Int32) ∧ post (0 : Int32) s)) ∧
        (¬ (4 : Int32) ≤ ((a0 / (100 : Int32)) - (a0 / (100 : Int32)) / (10 : Int32) * (10 : Int32)) →
          ((a1 < 0 →
            (bool01 (0 : Int32) ∧ post (0 : Int32) s)) ∧
          (¬ a1 < 0 →
            ((a1 ≤ (1023 : Int32) →
              ((a2 < 0 →
                (bool01 (0 : Int32) ∧ post (0 : Int32) s)) ∧
              (¬ a2 < 0 →
                ((¬ ((a0 / (100 : Int32)) - (a0 / (100 : Int32)) / (10 : Int32) * (10 : Int32)) = (3 : Int32) →
                  (((255 : Int32) < a2 →
                    (bool01 (0 : Int32) ∧ post (0 : Int32) s)) ∧
                  (¬ (255 : Int32) < a2 →
                    (bool01 (1 : Int32) ∧ post (1 : Int32) s)))) ∧
                (((a0 / (100 : Int32)) - (a0 / (100 : Int32)) / (10 : Int32) * (10 : Int32)) = (3 : Int32) →
                  (((0 : Int32) < a2 →
                    (bool01 (0 : Int32) ∧ post (0 : Int32) s)) ∧
                  (¬ (0 : Int32) < a2 →
                    (bool01 (1 : Int32) ∧ post (1 : Int32) s)))))))) ∧
            (¬ a1 ≤ (1023 : Int32) →
              (bool01 (0 : Int32) ∧ post (0 : Int32) s)))))))))) ∧
      (¬ (a0 / (1000 : Int32)) ≤ (60 : Int32) →
        (bool01 (0 : Int32) ∧ post (0 : Int32) s))))))) :
    AW l G d hX4_canBe 0 [some (.inl a0), some (.inl a1), some (.inl a2), none] [] s post := wps_ok (cut := []) oX4_canBe 35 0 _ _ _ h
set_option maxRecDepth 100000 in
theorem vX4_setRest_0 {l : Launch} {G : GG} {d : Nat} {post : Int32 → Mem → Prop} {a1 a2 : Int32} {s : Mem} (h :
    (∃ (d' : Nat) (Q1 : Int32 → Mem → Prop), d' < d ∧ Spec l G d' hX7_isIn [.inl a1, .inl (10 : Int32)] s Q1 ∧ ∀ (r1 : Int32) (t1 : Mem), Q1 r1 t1 →
    ((r1 = 0 →
      (bool01 (0 : Int32) ∧ post (0 : Int32) t1)) ∧
    (¬ r1 = 0 →
      ((a2 < 0 →
        (bool01 (0 : Int32) ∧ post (0 : Int32) t1)) ∧
      (¬ a2 < 0 →
        ((a2 ≤ (3 : Int32) →
          AW l G d hX4_setRest 22 [some (.inr 1), some (.inl a1), some (.inl a2), some (.inl (1 : Int32))] [] t1 post) ∧
        (¬ a2 ≤ (3 : Int32) →
          (bool01 (0 : Int32) ∧ post (0 : Int32) t1))))))))) :
    AW l G d hX4_setRest 0 [some (.inr 1), some (.inl a1), some (.inl a2), none] [] s post := wps_ok (cut := [22]) oX4_setRest 12 0 _ _ _ h
set_option maxRecDepth 100000 in
theorem vX4_setRest_22 {l : Launch} {G : GG} {d : Nat} {post : Int32 → Mem → Prop} {a1 a2 a3 : Int32} {s : Mem} (h :
    (((3 : Int32) < a3 →
      (bool01 (1 : Int32) ∧ post (1 : Int32) (wrM s 1 8 ((s 1 8) + (1 : Int32))))) ∧
    (¬ (3 : Int32) < a3 →
      ((a2 < a3 →
        (vp_in a3 4 ∧
        (vp_in a3 4 ∧
        AW l G d hX4_setRest 22 [some (.inr 1), some (.inl a1), some (.inl a2), some (.inl (a3 + (1 : Int32)))] [] (wrM s 7 a3.toNatClampNeg ((s 7 a3.toNatClampNeg) &&& (((1 : Int32) <<< (a1 &&& 31)) ^^^ (-1 : Int32)))) post))) ∧
      (¬ a2 < a3 →
        (vp_in a3 4 ∧
        (vp_in a3 4 ∧
        AW l G d hX4_setRest 22 [some (.inr 1), some (.inl a1), some (.inl a2), some (.inl (a3 + (1 : Int32)))] [] (wrM s 7 a3.toNatClampNeg ((s 7 a3.toNatClampNeg) ||| ((1 : Int32) <<< (a1 &&& 31)))) post))))))) :
    AW l G d hX4_setRest 22 [some (.inr 1), some (.inl a1), some (.inl a2), some (.inl a3)] [] s post := wps_ok (cut := [22]) oX4_setRest 21 22 _ _ _ h
set_option maxRecDepth 100000 in
theorem vX4_setBan_0 {l : Launch} {G : GG} {d : Nat} {post : Int32 → Mem → Prop} {a1 a2 a3 : Int32} {s : Mem} (h :
    (∃ (d' : Nat) (Q1 : Int32 → Mem → Prop), d' < d ∧ Spec l G d' hX7_isIn [.inl a1, .inl (4 : Int32)] s Q1 ∧ ∀ (r1 : Int32) (t1 : Mem), Q1 r1 t1 →
    ((r1 = 0 →
      (bool01 (0 : Int32) ∧ post (0 : Int32) t1)) ∧
    (¬ r1 = 0 →
      (∃ (d' : Nat) (Q2 : Int32 → Mem → Prop), d' < d ∧ Spec l G d' hX7_isIn [.inl a2, .inl (4 : Int32)] t1 Q2 ∧ ∀ (r2 : Int32) (t2 : Mem), Q2 r2 t2 →
      ((r2 = 0 →
        (bool01 (0 : Int32) ∧ post (0 : Int32) t2)) ∧
      (¬ r2 = 0 →
        (∃ (d' : Nat) (Q3 : Int32 → Mem → Prop), d' < d ∧ Spec l G d' hX4_isBanned [.inr 1, .inl a1, .inl a2] t2 Q3 ∧ ∀ (r3 : Int32) (t3 : Mem), Q3 r3 t3 →
        ((¬ r3 = a3 →
          (bool01 (1 : Int32) ∧ post (1 : Int32) (wrM (wrM t3 1 7 ((t3 1 7) ^^^ ((1 : Int32) <<< (((a1 * (4 : Int32)) + a2) &&& 31)))) 1 8 (((wrM t3 1 7 ((t3 1 7) ^^^ ((1 : Int32) <<< (((a1 * (4 : Int32)) + a2) &&& 31)))) 1 8) + (1 : Int32))))) ∧
        (r3 = a3 →
          (bool01 (0 : Int32) ∧ post (0 : Int32) t3))))))))))) :
    AW l G d hX4_setBan 0 [some (.inr 1), some (.inl a1), some (.inl a2), some (.inl a3)] [] s post := wps_ok (cut := []) oX4_setBan 35 0 _ _ _ h
set_option maxRecDepth 100000 in
theorem vX4_isBanned_0 {l : Launch} {G : GG} {d : Nat} {post : Int32 → Mem → Prop} {a1 a2 : Int32} {s : Mem} (h :
    (((((s 1 7) >>> (((a1 * (4 : Int32)) + a2) &&& 31)) &&& (1 : Int32)) = 0 →
      (bool01 (0 : Int32) ∧ post (0 : Int32) s)) ∧
    (¬ (((s 1 7) >>> (((a1 * (4 : Int32)) + a2) &&& 31)) &&& (1 : Int32)) = 0 →
      (bool01 (1 : Int32) ∧ post (1 : Int32) s)))) :
    AW l G d hX4_isBanned 0 [some (.inr 1), some (.inl a1), some (.inl a2)] [] s post := wps_ok (cut := []) oX4_isBanned 15 0 _ _ _ h
set_option maxRecDepth 100000 in
theorem vX4_isClowns_0 {l : Launch} {G : GG} {d : Nat} {post : Int32 → Mem → Prop} {a1 : Int32} {s : Mem} (h :
    (vp_in a1 8 ∧
    ((¬ (s 3 a1.toNatClampNeg) = (3 : Int32) →
      (bool01 (0 : Int32) ∧ post (0 : Int32) s)) ∧
    ((s 3 a1.toNatClampNeg) = (3 : Int32) →
      (bool01 (1 : Int32) ∧ post (1 : Int32) s))))) :
    AW l G d hX4_isClowns 0 [some (.inr 1), some (.inl a1)] [] s post := wps_ok (cut := []) oX4_isClowns 10 0 _ _ _ h
set_option maxRecDepth 100000 in
theorem vX5_isWind_0 {l : Launch} {G : GG} {d : Nat} {post : Int32 → Mem → Prop} {a0 : Int32} {s : Mem} (h :
    ((a0 < (-100 : Int32) →
      (bool01 (0 : Int32) ∧ post (0 : Int32) s)) ∧
    (¬ a0 < (-100 : Int32) →
      (((100 : Int32) < a0 →
        (bool01 (0 : Int32) ∧ post (0 : Int32) s)) ∧
      (¬ (100 : Int32) < a0 →
        (bool01 (1 : Int32) ∧ post (1 : Int32) s)))))) :
    AW l G d hX5_isWind 0 [some (.inl a0)] [] s post := wps_ok (cut := []) oX5_isWind 10 0 _ _ _ h
set_option maxRecDepth 100000 in
theorem vX5_setLoad_0 {l : Launch} {G : GG} {d : Nat} {post : Int32 → Mem → Prop} {a1 a2 : Int32} {s : Mem} (h :
    (∃ (d' : Nat) (Q1 : Int32 → Mem → Prop), d' < d ∧ Spec l G d' hX7_isIn [.inl a1, .inl (8 : Int32)] s Q1 ∧ ∀ (r1 : Int32) (t1 : Mem), Q1 r1 t1 →
    ((r1 = 0 →
      (bool01 (0 : Int32) ∧ post (0 : Int32) t1)) ∧
    (¬ r1 = 0 →
      ((a2 < 0 →
        (bool01 (0 : Int32) ∧ post (0 : Int32) t1)) ∧
      (¬ a2 < 0 →
        ((a2 ≤ (10000 : Int32) →
          (vp_in a1 8 ∧
          (bool01 (1 : Int32) ∧ post (1 : Int32) (wrM t1 27 a1.toNatClampNeg a2)))) ∧
        (¬ a2 ≤ (10000 : Int32) →
          (bool01 (0 : Int32) ∧ post (0 : Int32) t1))))))))) :
    AW l G d hX5_setLoad 0 [some (.inr 26), some (.inl a1), some (.inl a2)] [] s post := wps_ok (cut := []) oX5_setLoad 17 0 _ _ _ h
set_option maxRecDepth 100000 in
theorem vX5_setShare_0 {l : Launch} {G : GG} {d : Nat} {post : Int32 → Mem → Prop} {a1 a2 a3 : Int32} {s : Mem} (h :
    (∃ (d' : Nat) (Q1 : Int32 → Mem → Prop), d' < d ∧ Spec l G d' hX7_isIn [.inl a1, .inl (8 : Int32)] s Q1 ∧ ∀ (r1 : Int32) (t1 : Mem), Q1 r1 t1 →
    ((r1 = 0 →
      (bool01 (0 : Int32) ∧ post (0 : Int32) t1)) ∧
    (¬ r1 = 0 →
      (∃ (d' : Nat) (Q2 : Int32 → Mem → Prop), d' < d ∧ Spec l G d' hX7_isIn [.inl a2, .inl (8 : Int32)] t1 Q2 ∧ ∀ (r2 : Int32) (t2 : Mem), Q2 r2 t2 →
      ((r2 = 0 →
        (bool01 (0 : Int32) ∧ post (0 : Int32) t2)) ∧
      (¬ r2 = 0 →
        ((a3 < 0 →
          (bool01 (0 : Int32) ∧ post (0 : Int32) t2)) ∧
        (¬ a3 < 0 →
          ((a3 ≤ (100 : Int32) →
            (∃ (d' : Nat) (Q3 : Int32 → Mem → Prop), d' < d ∧ Spec l G d' hX5_sharesBeside [.inr 26, .inl a1, .inl a2] t2 Q3 ∧ ∀ (r3 : Int32) (t3 : Mem), Q3 r3 t3 →
            (((r3 + a3) ≤ (100 : Int32) →
              (vp_in ((a1 * (8 : Int32)) + a2) 64 ∧
              (bool01 (1 : Int32) ∧ post (1 : Int32) (wrM t3 28 ((a1 * (8 : Int32)) + a2).toNatClampNeg a3)))) ∧
            (¬ (r3 + a3) ≤ (100 : Int32) →
              (bool01 (0 : Int32) ∧ post (0 : Int32) t3))))) ∧
          (¬ a3 ≤ (100 : Int32) →
            (bool01 (0 : Int32) ∧ post (0 : Int32) t2)))))))))))) :
    AW l G d hX5_setShare 0 [some (.inr 26), some (.inl a1), some (.inl a2), some (.inl a3)] [] s post := wps_ok (cut := []) oX5_setShare 33 0 _ _ _ h
set_option maxRecDepth 100000 in
theorem vX5_sharesBeside_0 {l : Launch} {G : GG} {d : Nat} {post : Int32 → Mem → Prop} {a1 a2 : Int32} {s : Mem} (h :
    AW l G d hX5_sharesBeside 5 [some (.inr 26), some (.inl a1), some (.inl a2), some (.inl (0 : Int32)), some (.inl (0 : Int32))] [] s post) :
    AW l G d hX5_sharesBeside 0 [some (.inr 26), some (.inl a1), some (.inl a2), none, none] [] s post := wps_ok (cut := [5]) oX5_sharesBeside 5 0 _ _ _ h
set_option maxRecDepth 100000 in
theorem vX5_sharesBeside_5 {l : Launch} {G : GG} {d : Nat} {post : Int32 → Mem → Prop} {a1 a2 a3 a4 : Int32} {s : Mem} (h :
    (((8 : Int32) ≤ a4 →
      post a3 s) ∧
    (¬ (8 : Int32) ≤ a4 →
      ((a4 = a2 →
        AW l G d hX5_sharesBeside 5 [some (.inr 26), some (.inl a1), some (.inl a2), some (.inl a3), some (.inl (a4 + (1 : Int32)))] [] s post) ∧
      (¬ a4 = a2 →
        (vp_in ((a1 * (8 : Int32)) + a4) 64 ∧
        AW l G d hX5_sharesBeside 5 [some (.inr 26), some (.inl a1), some (.inl a2), some (.inl (a3 + (s 28 ((a1 * (8 : Int32)) + a4).toNatClampNeg))), some (.inl (a4 + (1 : Int32)))] [] s post)))))) :
    AW l G d hX5_sharesBeside 5 [some (.inr 26), some (.inl a1), some (.inl a2), some (.inl a3), some (.inl a4)] [] s post := wps_ok (cut := [5]) oX5_sharesBeside 20 5 _ _ _ h
set_option maxRecDepth 100000 in
theorem vX5_setExposed_0 {l : Launch} {G : GG} {d : Nat} {post : Int32 → Mem → Prop} {a1 a2 : Int32} {s : Mem} (h :
    (∃ (d' : Nat) (Q1 : Int32 → Mem → Prop), d' < d ∧ Spec l G d' hX7_isIn [.inl a1, .inl (8 : Int32)] s Q1 ∧ ∀ (r1 : Int32) (t1 : Mem), Q1 r1 t1 →
    ((r1 = 0 →
      (bool01 (0 : Int32) ∧ post (0 : Int32) t1)) ∧
    (¬ r1 = 0 →
      ((a2 < (-9 : Int32) →
        (bool01 (0 : Int32) ∧ post (0 : Int32) t1)) ∧
      (¬ a2 < (-9 : Int32) →
        ((a2 ≤ (9 : Int32) →
          (vp_in a1 8 ∧
          (bool01 (1 : Int32) ∧ post (1 : Int32) (wrM t1 29 a1.toNatClampNeg a2)))) ∧
        (¬ a2 ≤ (9 : Int32) →
          (bool01 (0 : Int32) ∧ post (0 : Int32) t1))))))))) :
    AW l G d hX5_setExposed 0 [some (.inr 26), some (.inl a1), some (.inl a2)] [] s post := wps_ok (cut := []) oX5_setExposed 18 0 _ _ _ h
set_option maxRecDepth 100000 in
theorem vX5_isUp_0 {l : Launch} {G : GG} {d : Nat} {post : Int32 → Mem → Prop} {a1 : Int32} {s : Mem} (h :
    AW l G d hX5_isUp 2 [some (.inr 26), some (.inl a1), some (.inl (0 : Int32))] [] s post) :
    AW l G d hX5_isUp 0 [some (.inr 26), some (.inl a1), none] [] s post := wps_ok (cut := [2]) oX5_isUp 3 0 _ _ _ h
set_option maxRecDepth 100000 in
theorem vX5_isUp_2 {l : Launch} {G : GG} {d : Nat} {post : Int32 → Mem → Prop} {a1 a2 : Int32} {s : Mem} (h :
    (((8 : Int32) ≤ a2 →
      (vp_in a1 8 ∧
      (((s 29 a1.toNatClampNeg) = 0 →
        (bool01 (0 : Int32) ∧ post (0 : Int32) s)) ∧
      (¬ (s 29 a1.toNatClampNeg) = 0 →
        (bool01 (1 : Int32) ∧ post (1 : Int32) s))))) ∧
    (¬ (8 : Int32) ≤ a2 →
      (vp_in ((a2 * (8 : Int32)) + a1) 64 ∧
      (((s 28 ((a2 * (8 : Int32)) + a1).toNatClampNeg) ≤ 0 →
        AW l G d hX5_isUp 2 [some (.inr 26), some (.inl a1), some (.inl (a2 + (1 : Int32)))] [] s post) ∧
      (¬ (s 28 ((a2 * (8 : Int32)) + a1).toNatClampNeg) ≤ 0 →
        (bool01 (1 : Int32) ∧ post (1 : Int32) s))))))) :
    AW l G d hX5_isUp 2 [some (.inr 26), some (.inl a1), some (.inl a2)] [] s post := wps_ok (cut := [2]) oX5_isUp 15 2 _ _ _ h
set_option maxRecDepth 100000 in
theorem vX5_ropesUp_0 {l : Launch} {G : GG} {d : Nat} {post : Int32 → Mem → Prop} {s : Mem} (h :
    AW l G d hX5_ropesUp 4 [some (.inr 26), some (.inl (0 : Int32)), some (.inl (0 : Int32))] [] s post) :
    AW l G d hX5_ropesUp 0 [some (.inr 26), none, none] [] s post := wps_ok (cut := [4]) oX5_ropesUp 5 0 _ _ _ h
set_option maxRecDepth 100000 in
theorem vX5_ropesUp_4 {l : Launch} {G : GG} {d : Nat} {post : Int32 → Mem → Prop} {a1 a2 : Int32} {s : Mem} (h :
    (((8 : Int32) ≤ a2 →
      post a1 s) ∧
    (¬ (8 : Int32) ≤ a2 →
      (∃ (d' : Nat) (Q1 : Int32 → Mem → Prop), d' < d ∧ Spec l G d' hX5_isUp [.inr 26, .inl a2] s Q1 ∧ ∀ (r1 : Int32) (t1 : Mem), Q1 r1 t1 →
      ((r1 = 0 →
        AW l G d hX5_ropesUp 4 [some (.inr 26), some (.inl a1), some (.inl (a2 + (1 : Int32)))] [] t1 post) ∧
      (¬ r1 = 0 →
        AW l G d hX5_ropesUp 4 [some (.inr 26), some (.inl (a1 + (1 : Int32))), some (.inl (a2 + (1 : Int32)))] [] t1 post)))))) :
    AW l G d hX5_ropesUp 4 [some (.inr 26), some (.inl a1), some (.inl a2)] [] s post := wps_ok (cut := [4]) oX5_ropesUp 11 4 _ _ _ h
set_option maxRecDepth 100000 in
theorem vX5_settle_0 {l : Launch} {G : GG} {d : Nat} {post : Int32 → Mem → Prop} {a1 : Int32} {s : Mem} (h :
    (∃ (d' : Nat) (Q1 : Int32 → Mem → Prop), d' < d ∧ Spec l G d' hX5_hang [.inr 26, .inl a1] s Q1 ∧ ∀ (r1 : Int32) (t1 : Mem), Q1 r1 t1 →
    AW l G d hX5_settle 7 [some (.inr 26), some (.inl a1), some (.inl (0 : Int32)), none] [] t1 post)) :
    AW l G d hX5_settle 0 [some (.inr 26), some (.inl a1), none, none] [] s post := wps_ok (cut := [7]) oX5_settle 6 0 _ _ _ h
set_option maxRecDepth 100000 in
theorem vX5_settle_7 {l : Launch} {G : GG} {d : Nat} {post : Int32 → Mem → Prop} {a1 a2 : Int32} {s : Mem} (h :
    (((8 : Int32) ≤ a2 →
      post 0 s) ∧
    (¬ (8 : Int32) ≤ a2 →
      (∃ (d' : Nat) (Q1 : Int32 → Mem → Prop), d' < d ∧ Spec l G d' hX5_firstThatPushes [.inr 26] s Q1 ∧ ∀ (r1 : Int32) (t1 : Mem), Q1 r1 t1 →
      ((¬ r1 = (-1 : Int32) →
        (∃ (d' : Nat) (Q2 : Int32 → Mem → Prop), d' < d ∧ Spec l G d' hX5_slacken [.inr 26, .inl r1] t1 Q2 ∧ ∀ (r2 : Int32) (t2 : Mem), Q2 r2 t2 →
        AW l G d hX5_settle 7 [some (.inr 26), some (.inl a1), some (.inl (a2 + (1 : Int32))), some (.inl r1)] [] t2 post)) ∧
      (r1 = (-1 : Int32) →
        post 0 t1)))))) :
    AW l G d hX5_settle 7 [some (.inr 26), some (.inl a1), some (.inl a2), none] [] s post := wps_ok (cut := [7]) oX5_settle 15 7 _ _ _ h
set_option maxRecDepth 100000 in
theorem vX5_hang_0 {l : Launch} {G : GG} {d : Nat} {post : Int32 → Mem → Prop} {a1 : Int32} {s : Mem} (h :
    AW l G d hX5_hang 7 [some (.inr 26), some (.inl a1), some (.inl (0 : Int32)), none, none] [] (wrM s 26 6 (0 : Int32)) post) :
    AW l G d hX5_hang 0 [some (.inr 26), some (.inl a1), none, none, none] [] s post := wps_ok (cut := [7, 28]) oX5_hang 6 0 _ _ _ h
set_option maxRecDepth 100000 in
theorem vX5_hang_7 {l : Launch} {G : GG} {d : Nat} {post : Int32 → Mem → Prop} {a1 a2 : Int32} {s : Mem} (h :
    (((8 : Int32) ≤ a2 →
      post 0 s) ∧
    (¬ (8 : Int32) ≤ a2 →
      (vp_in a2 8 ∧
      AW l G d hX5_hang 28 [some (.inr 26), some (.inl a1), some (.inl a2), some (.inl (((100 : Int32) * a1) * (s 29 a2.toNatClampNeg))), some (.inl (0 : Int32))] [] s post)))) :
    AW l G d hX5_hang 7 [some (.inr 26), some (.inl a1), some (.inl a2), none, none] [] s post := wps_ok (cut := [7, 28]) oX5_hang 15 7 _ _ _ h
set_option maxRecDepth 100000 in
theorem vX5_hang_28 {l : Launch} {G : GG} {d : Nat} {post : Int32 → Mem → Prop} {a1 a2 a3 a4 : Int32} {s : Mem} (h :
    (((8 : Int32) ≤ a4 →
      (vp_in a2 8 ∧
      (∃ (d' : Nat) (Q1 : Int32 → Mem → Prop), d' < d ∧ Spec l G d' hX5_isUp [.inr 26, .inl a2] (wrM s 30 a2.toNatClampNeg a3) Q1 ∧ ∀ (r1 : Int32) (t1 : Mem), Q1 r1 t1 →
      (vp_in a2 8 ∧
      (vp_in a2 8 ∧
      AW l G d hX5_hang 7 [some (.inr 26), some (.inl a1), some (.inl (a2 + (1 : Int32))), some (.inl a3), some (.inl a4)] [] (wrM (wrM t1 31 a2.toNatClampNeg (vp_nar .boolean r1)) 32 a2.toNatClampNeg (vp_nar .boolean (0 : Int32))) post))))) ∧
    (¬ (8 : Int32) ≤ a4 →
      (vp_in a4 8 ∧
      (vp_in ((a4 * (8 : Int32)) + a2) 64 ∧
      AW l G d hX5_hang 28 [some (.inr 26), some (.inl a1), some (.inl a2), some (.inl (a3 + ((s 27 a4.toNatClampNeg) * (s 28 ((a4 * (8 : Int32)) + a2).toNatClampNeg)))), some (.inl (a4 + (1 : Int32)))] [] s post))))) :
    AW l G d hX5_hang 28 [some (.inr 26), some (.inl a1), some (.inl a2), some (.inl a3), some (.inl a4)] [] s post := wps_ok (cut := [7, 28]) oX5_hang 23 28 _ _ _ h
set_option maxRecDepth 100000 in
theorem vX5_firstThatPushes_0 {l : Launch} {G : GG} {d : Nat} {post : Int32 → Mem → Prop} {s : Mem} (h :
    AW l G d hX5_firstThatPushes 2 [some (.inr 26), some (.inl (0 : Int32))] [] s post) :
    AW l G d hX5_firstThatPushes 0 [some (.inr 26), none] [] s post := wps_ok (cut := [2]) oX5_firstThatPushes 3 0 _ _ _ h
set_option maxRecDepth 100000 in
theorem vX5_firstThatPushes_2 {l : Launch} {G : GG} {d : Nat} {post : Int32 → Mem → Prop} {a1 : Int32} {s : Mem} (h :
    (((8 : Int32) ≤ a1 →
      post (-1 : Int32) s) ∧
    (¬ (8 : Int32) ≤ a1 →
      (vp_in a1 8 ∧
      (((s 31 a1.toNatClampNeg) = 0 →
        AW l G d hX5_firstThatPushes 2 [some (.inr 26), some (.inl (a1 + (1 : Int32)))] [] s post) ∧
      (¬ (s 31 a1.toNatClampNeg) = 0 →
        (vp_in a1 8 ∧
        ((0 ≤ (s 30 a1.toNatClampNeg) →
          AW l G d hX5_firstThatPushes 2 [some (.inr 26), some (.inl (a1 + (1 : Int32)))] [] s post) ∧
        (¬ 0 ≤ (s 30 a1.toNatClampNeg) →
          post a1 s))))))))) :
    AW l G d hX5_firstThatPushes 2 [some (.inr 26), some (.inl a1)] [] s post := wps_ok (cut := [2]) oX5_firstThatPushes 16 2 _ _ _ h
set_option maxRecDepth 100000 in
theorem vX5_slacken_0 {l : Launch} {G : GG} {d : Nat} {post : Int32 → Mem → Prop} {a1 : Int32} {s : Mem} (h :
    (vp_in a1 8 ∧
    (vp_in a1 8 ∧
    (vp_in a1 8 ∧
    (vp_in a1 8 ∧
    (∃ (d' : Nat) (Q1 : Int32 → Mem → Prop), d' < d ∧ Spec l G d' hX5_ropesThatBear [.inr 26] (wrM (wrM (wrM s 30 a1.toNatClampNeg (0 : Int32)) 31 a1.toNatClampNeg (vp_nar .boolean (0 : Int32))) 32 a1.toNatClampNeg (vp_nar .boolean (1 : Int32))) Q1 ∧ ∀ (r1 : Int32) (t1 : Mem), Q1 r1 t1 →
    ((¬ r1 = 0 →
      (¬ r1 = 0 ∧
      (¬ r1 = 0 ∧
      (∃ (d' : Nat) (Q2 : Int32 → Mem → Prop), d' < d ∧ Spec l G d' hX5_spread [.inr 26, .inl ((s 30 a1.toNatClampNeg) / r1), .inl ((s 30 a1.toNatClampNeg) - (s 30 a1.toNatClampNeg) / r1 * r1)] t1 Q2 ∧ ∀ (r2 : Int32) (t2 : Mem), Q2 r2 t2 →
      post 0 t2)))) ∧
    (r1 = 0 →
      post 0 (wrM t1 26 6 (s 30 a1.toNatClampNeg)))))))))) :
    AW l G d hX5_slacken 0 [some (.inr 26), some (.inl a1), none, none] [] s post := wps_ok (cut := []) oX5_slacken 35 0 _ _ _ h
set_option maxRecDepth 100000 in
theorem vX5_ropesThatBear_0 {l : Launch} {G : GG} {d : Nat} {post : Int32 → Mem → Prop} {s : Mem} (h :
    AW l G d hX5_ropesThatBear 4 [some (.inr 26), some (.inl (0 : Int32)), some (.inl (0 : Int32))] [] s post) :
    AW l G d hX5_ropesThatBear 0 [some (.inr 26), none, none] [] s post := wps_ok (cut := [4]) oX5_ropesThatBear 5 0 _ _ _ h
set_option maxRecDepth 100000 in
theorem vX5_ropesThatBear_4 {l : Launch} {G : GG} {d : Nat} {post : Int32 → Mem → Prop} {a1 a2 : Int32} {s : Mem} (h :
    (((8 : Int32) ≤ a2 →
      post a1 s) ∧
    (¬ (8 : Int32) ≤ a2 →
      (vp_in a2 8 ∧
      (((s 31 a2.toNatClampNeg) = 0 →
        AW l G d hX5_ropesThatBear 4 [some (.inr 26), some (.inl a1), some (.inl (a2 + (1 : Int32)))] [] s post) ∧
      (¬ (s 31 a2.toNatClampNeg) = 0 →
        AW l G d hX5_ropesThatBear 4 [some (.inr 26), some (.inl (a1 + (1 : Int32))), some (.inl (a2 + (1 : Int32)))] [] s post)))))) :
    AW l G d hX5_ropesThatBear 4 [some (.inr 26), some (.inl a1), some (.inl a2)] [] s post := wps_ok (cut := [4]) oX5_ropesThatBear 12 4 _ _ _ h
set_option maxRecDepth 100000 in
theorem vX5_spread_0 {l : Launch} {G : GG} {d : Nat} {post : Int32 → Mem → Prop} {a1 a2 : Int32} {s : Mem} (h :
    AW l G d hX5_spread 5 [some (.inr 26), some (.inl a1), some (.inl a2), some (.inl a2), some (.inl (0 : Int32))] [] s post) :
    AW l G d hX5_spread 0 [some (.inr 26), some (.inl a1), some (.inl a2), none, none] [] s post := wps_ok (cut := [5]) oX5_spread 5 0 _ _ _ h
set_option maxRecDepth 100000 in
theorem vX5_spread_5 {l : Launch} {G : GG} {d : Nat} {post : Int32 → Mem → Prop} {a1 a2 a3 a4 : Int32} {s : Mem} (h :
    (((8 : Int32) ≤ a4 →
      post 0 s) ∧
    (¬ (8 : Int32) ≤ a4 →
      (vp_in a4 8 ∧
      (((s 31 a4.toNatClampNeg) = 0 →
        AW l G d hX5_spread 5 [some (.inr 26), some (.inl a1), some (.inl a2), some (.inl a3), some (.inl (a4 + (1 : Int32)))] [] s post) ∧
      (¬ (s 31 a4.toNatClampNeg) = 0 →
        (vp_in a4 8 ∧
        (vp_in a4 8 ∧
        ((0 ≤ a3 →
          AW l G d hX5_spread 5 [some (.inr 26), some (.inl a1), some (.inl a2), some (.inl a3), some (.inl (a4 + (1 : Int32)))] [] (wrM s 30 a4.toNatClampNeg ((s 30 a4.toNatClampNeg) + a1)) post) ∧
        (¬ 0 ≤ a3 →
          (vp_in a4 8 ∧
          (vp_in a4 8 ∧
          AW l G d hX5_spread 5 [some (.inr 26), some (.inl a1), some (.inl a2), some (.inl (a3 + (1 : Int32))), some (.inl (a4 + (1 : Int32)))] [] (wrM (wrM s 30 a4.toNatClampNeg ((s 30 a4.toNatClampNeg) + a1)) 30 a4.toNatClampNeg (((wrM s 30 a4.toNatClampNeg ((s 30 a4.toNatClampNeg) + a1)) 30 a4.toNatClampNeg) - (1 : Int32))) post)))))))))))) :
    AW l G d hX5_spread 5 [some (.inr 26), some (.inl a1), some (.inl a2), some (.inl a3), some (.inl a4)] [] s post := wps_ok (cut := [5]) oX5_spread 30 5 _ _ _ h
set_option maxRecDepth 100000 in
theorem vX6_add_0 {l : Launch} {G : GG} {d : Nat} {post : Int32 → Mem → Prop} {a1 a2 a3 : Int32} {s : Mem} (h :
    (((500 : Int32) ≤ (s 46 0) →
      post (-1 : Int32) s) ∧
    (¬ (500 : Int32) ≤ (s 46 0) →
      (∃ (d' : Nat) (Q1 : Int32 → Mem → Prop), d' < d ∧ Spec l G d' hX7_isIn [.inl a1, .inl (8 : Int32)] s Q1 ∧ ∀ (r1 : Int32) (t1 : Mem), Q1 r1 t1 →
      ((r1 = 0 →
        post (-1 : Int32) t1) ∧
      (¬ r1 = 0 →
        (∃ (d' : Nat) (Q2 : Int32 → Mem → Prop), d' < d ∧ Spec l G d' hX7_isIn [.inl a2, .inl (7 : Int32)] t1 Q2 ∧ ∀ (r2 : Int32) (t2 : Mem), Q2 r2 t2 →
        ((¬ r2 = 0 →
          ((a3 < 0 →
            post (-1 : Int32) t2) ∧
          (¬ a3 < 0 →
            ((a3 ≤ (1000000 : Int32) →
              (vp_in ((a1 * (7 : Int32)) + a2) 56 ∧
              (vp_in ((a1 * (7 : Int32)) + a2) 56 ∧
              (vp_in ((a1 * (7 : Int32)) + a2) 56 ∧
              (vp_in ((a1 * (7 : Int32)) + a2) 56 ∧
              post ((wrM (wrM (wrM t2 47 ((a1 * (7 : Int32)) + a2).toNatClampNeg ((t2 47 ((a1 * (7 : Int32)) + a2).toNatClampNeg) + a3)) 48 ((a1 * (7 : Int32)) + a2).toNatClampNeg (((wrM t2 47 ((a1 * (7 : Int32)) + a2).toNatClampNeg ((t2 47 ((a1 * (7 : Int32)) + a2).toNatClampNeg) + a3)) 48 ((a1 * (7 : Int32)) + a2).toNatClampNeg) + (1 : Int32))) 46 0 (((wrM (wrM t2 47 ((a1 * (7 : Int32)) + a2).toNatClampNeg ((t2 47 ((a1 * (7 : Int32)) + a2).toNatClampNeg) + a3)) 48 ((a1 * (7 : Int32)) + a2).toNatClampNeg (((wrM t2 47 ((a1 * (7 : Int32)) + a2).toNatClampNeg ((t2 47 ((a1 * (7 : Int32)) + a2).toNatClampNeg) + a3)) 48 ((a1 * (7 : Int32)) + a2).toNatClampNeg) + (1 : Int32))) 46 0) + (1 : Int32))) 46 0) (wrM (wrM (wrM t2 47 ((a1 * (7 : Int32)) + a2).toNatClampNeg ((t2 47 ((a1 * (7 : Int32)) + a2).toNatClampNeg) + a3)) 48 ((a1 * (7 : Int32)) + a2).toNatClampNeg (((wrM t2 47 ((a1 * (7 : Int32)) + a2).toNatClampNeg ((t2 47 ((a1 * (7 : Int32)) + a2).toNatClampNeg) + a3)) 48 ((a1 * (7 : Int32)) + a2).toNatClampNeg) + (1 : Int32))) 46 0 (((wrM (wrM t2 47 ((a1 * (7 : Int32)) + a2).toNatClampNeg ((t2 47 ((a1 * (7 : Int32)) + a2).toNatClampNeg) + a3)) 48 ((a1 * (7 : Int32)) + a2).toNatClampNeg (((wrM t2 47 ((a1 * (7 : Int32)) + a2).toNatClampNeg ((t2 47 ((a1 * (7 : Int32)) + a2).toNatClampNeg) + a3)) 48 ((a1 * (7 : Int32)) + a2).toNatClampNeg) + (1 : Int32))) 46 0) + (1 : Int32)))))))) ∧
            (¬ a3 ≤ (1000000 : Int32) →
              post (-1 : Int32) t2))))) ∧
        (r2 = 0 →
          post (-1 : Int32) t2))))))))) :
    AW l G d hX6_add 0 [some (.inr 46), some (.inl a1), some (.inl a2), some (.inl a3)] [] s post := wps_ok (cut := []) oX6_add 51 0 _ _ _ h
set_option maxRecDepth 100000 in
theorem vX6_foretell_0 {l : Launch} {G : GG} {d : Nat} {post : Int32 → Mem → Prop} {a1 a2 : Int32} {s : Mem} (h :
    (∃ (d' : Nat) (Q1 : Int32 → Mem → Prop), d' < d ∧ Spec l G d' hX6_gather [.inr 46, .inl a1, .inl a1, .inl a2, .inl a2] s Q1 ∧ ∀ (r1 : Int32) (t1 : Mem), Q1 r1 t1 →
    ((¬ (t1 46 4) = 0 →
      ((¬ (t1 46 4) = 0 →
        ((¬ (t1 46 4) = 0 →
          (∃ (d' : Nat) (Q2 : Int32 → Mem → Prop), d' < d ∧ Spec l G d' hX6_reduce [.inr 46] t1 Q2 ∧ ∀ (r2 : Int32) (t2 : Mem), Q2 r2 t2 →
          post 0 t2)) ∧
        ((t1 46 4) = 0 →
          (∃ (d' : Nat) (Q3 : Int32 → Mem → Prop), d' < d ∧ Spec l G d' hX6_gather [.inr 46, .inl (0 : Int32), .inl (7 : Int32), .inl (0 : Int32), .inl (6 : Int32)] t1 Q3 ∧ ∀ (r3 : Int32) (t3 : Mem), Q3 r3 t3 →
          (∃ (d' : Nat) (Q4 : Int32 → Mem → Prop), d' < d ∧ Spec l G d' hX6_reduce [.inr 46] t3 Q4 ∧ ∀ (r4 : Int32) (t4 : Mem), Q4 r4 t4 →
          post 0 t4))))) ∧
      ((t1 46 4) = 0 →
        (∃ (d' : Nat) (Q5 : Int32 → Mem → Prop), d' < d ∧ Spec l G d' hX6_gather [.inr 46, .inl (0 : Int32), .inl (7 : Int32), .inl a2, .inl a2] t1 Q5 ∧ ∀ (r5 : Int32) (t5 : Mem), Q5 r5 t5 →
        ((¬ (t5 46 4) = 0 →
          (∃ (d' : Nat) (Q6 : Int32 → Mem → Prop), d' < d ∧ Spec l G d' hX6_reduce [.inr 46] t5 Q6 ∧ ∀ (r6 : Int32) (t6 : Mem), Q6 r6 t6 →
          post 0 t6)) ∧
        ((t5 46 4) = 0 →
          (∃ (d' : Nat) (Q7 : Int32 → Mem → Prop), d' < d ∧ Spec l G d' hX6_gather [.inr 46, .inl (0 : Int32), .inl (7 : Int32), .inl (0 : Int32), .inl (6 : Int32)] t5 Q7 ∧ ∀ (r7 : Int32) (t7 : Mem), Q7 r7 t7 →
          (∃ (d' : Nat) (Q8 : Int32 → Mem → Prop), d' < d ∧ Spec l G d' hX6_reduce [.inr 46] t7 Q8 ∧ ∀ (r8 : Int32) (t8 : Mem), Q8 r8 t8 →
          post 0 t8)))))))) ∧
    ((t1 46 4) = 0 →
      (∃ (d' : Nat) (Q9 : Int32 → Mem → Prop), d' < d ∧ Spec l G d' hX6_gather [.inr 46, .inl a1, .inl a1, .inl (0 : Int32), .inl (6 : Int32)] t1 Q9 ∧ ∀ (r9 : Int32) (t9 : Mem), Q9 r9 t9 →
      ((¬ (t9 46 4) = 0 →
        ((¬ (t9 46 4) = 0 →
          (∃ (d' : Nat) (Q10 : Int32 → Mem → Prop), d' < d ∧ Spec l G d' hX6_reduce [.inr 46] t9 Q10 ∧ ∀ (r10 : Int32) (t10 : Mem), Q10 r10 t10 →
          post 0 t10)) ∧
        ((t9 46 4) = 0 →
          (∃ (d' : Nat) (Q11 : Int32 → Mem → Prop), d' < d ∧ Spec l G d' hX6_gather [.inr 46, .inl (0 : Int32), .inl (7 : Int32), .inl (0 : Int32), .inl (6 : Int32)] t9 Q11 ∧ ∀ (r11 : Int32) (t11 : Mem), Q11 r11 t11 →
          (∃ (d' : Nat) (Q12 : Int32 → Mem → Prop), d' < d ∧ Spec l G d' hX6_reduce [.inr 46] t11 Q12 ∧ ∀ (r12 : Int32) (t12 : Mem), Q12 r12 t12 →
          post 0 t12))))) ∧
      ((t9 46 4) = 0 →
        (∃ (d' : Nat) (Q13 : Int32 → Mem → Prop), d' < d ∧ Spec l G d' hX6_gather [.inr 46, .inl (0 : Int32), .inl (7 : Int32), .inl a2, .inl a2] t9 Q13 ∧ ∀ (r13 : Int32) (t13 : Mem), Q13 r13 t13 →
        ((¬ (t13 46 4) = 0 →
          (∃ (d' : Nat) (Q14 : Int32 → Mem → Prop), d' < d ∧ Spec l G d' hX6_reduce [.inr 46] t13 Q14 ∧ ∀ (r14 : Int32) (t14 : Mem), Q14 r14 t14 →
          post 0 t14)) ∧
        ((t13 46 4) = 0 →
          (∃ (d' : Nat) (Q15 : Int32 → Mem → Prop), d' < d ∧ Spec l G d' hX6_gather [.inr 46, .inl (0 : Int32), .inl (7 : Int32), .inl (0 : Int32), .inl (6 : Int32)] t13 Q15 ∧ ∀ (r15 : Int32) (t15 : Mem), Q15 r15 t15 →
          (∃ (d' : Nat) (Q16 : Int32 → Mem → Prop), d' < d ∧ Spec l G d' hX6_reduce [.inr 46] t15 Q16 ∧ ∀ (r16 : Int32) (t16 : Mem), Q16 r16 t16 →
          post 0 t16)))))))))))) :
    AW l G d hX6_foretell 0 [some (.inr 46), some (.inl a1), some (.inl a2)] [] s post := wps_ok (cut := []) oX6_foretell 37 0 _ _ _ h
set_option maxRecDepth 100000 in
theorem vX6_gather_0 {l : Launch} {G : GG} {d : Nat} {post : Int32 → Mem → Prop} {a1 a2 a3 a4 : Int32} {s : Mem} (h :
    AW l G d hX6_gather 13 [some (.inr 46), some (.inl a1), some (.inl a2), some (.inl a3), some (.inl a4), some (.inl a1), none] [] (wrM (wrM s 46 3 (0 : Int32)) 46 4 (0 : Int32)) post) :
    AW l G d hX6_gather 0 [some (.inr 46), some (.inl a1), some (.inl a2), some (.inl a3), some (.inl a4), none, none] [] s post := wps_ok (cut := [13, 22]) oX6_gather 9 0 _ _ _ h
set_option maxRecDepth 100000 in
theorem vX6_gather_13 {l : Launch} {G : GG} {d : Nat} {post : Int32 → Mem → Prop} {a1 a2 a3 a4 a5 : Int32} {s : Mem} (h :
    ((a2 < a5 →
      post 0 s) ∧
    (¬ a2 < a5 →
      AW l G d hX6_gather 22 [some (.inr 46), some (.inl a1), some (.inl a2), some (.inl a3), some (.inl a4), some (.inl a5), some (.inl a3)] [] s post))) :
    AW l G d hX6_gather 13 [some (.inr 46), some (.inl a1), some (.inl a2), some (.inl a3), some (.inl a4), some (.inl a5), none] [] s post := wps_ok (cut := [13, 22]) oX6_gather 6 13 _ _ _ h
set_option maxRecDepth 100000 in
theorem vX6_gather_22 {l : Launch} {G : GG} {d : Nat} {post : Int32 → Mem → Prop} {a1 a2 a3 a4 a5 a6 : Int32} {s : Mem} (h :
    ((a4 < a6 →
      AW l G d hX6_gather 13 [some (.inr 46), some (.inl a1), some (.inl a2), some (.inl a3), some (.inl a4), some (.inl (a5 + (1 : Int32))), some (.inl a6)] [] s post) ∧
    (¬ a4 < a6 →
      (vp_in ((a5 * (7 : Int32)) + a6) 56 ∧
      (vp_in ((a5 * (7 : Int32)) + a6) 56 ∧
      AW l G d hX6_gather 22 [some (.inr 46), some (.inl a1), some (.inl a2), some (.inl a3), some (.inl a4), some (.inl a5), some (.inl (a6 + (1 : Int32)))] [] (wrM (wrM s 46 3 ((s 46 3) + (s 47 ((a5 * (7 : Int32)) + a6).toNatClampNeg))) 46 4 (((wrM s 46 3 ((s 46 3) + (s 47 ((a5 * (7 : Int32)) + a6).toNatClampNeg))) 46 4) + ((wrM s 46 3 ((s 46 3) + (s 47 ((a5 * (7 : Int32)) + a6).toNatClampNeg))) 48 ((a5 * (7 : Int32)) + a6).toNatClampNeg))) post))))) :
    AW l G d hX6_gather 22 [some (.inr 46), some (.inl a1), some (.inl a2), some (.inl a3), some (.inl a4), some (.inl a5), some (.inl a6)] [] s post := wps_ok (cut := [13, 22]) oX6_gather 32 22 _ _ _ h
set_option maxRecDepth 100000 in
theorem vX6_reduce_0 {l : Launch} {G : GG} {d : Nat} {post : Int32 → Mem → Prop} {s : Mem} (h :
    (∃ (d' : Nat) (Q1 : Int32 → Mem → Prop), d' < d ∧ Spec l G d' hX6_commonDivisor [.inl (s 46 3), .inl (s 46 4)] s Q1 ∧ ∀ (r1 : Int32) (t1 : Mem), Q1 r1 t1 →
    ((r1 ≤ 0 →
      post 0 (wrM t1 46 4 (1 : Int32))) ∧
    (¬ r1 ≤ 0 →
      (¬ r1 = 0 ∧
      (¬ r1 = 0 ∧
      post 0 (wrM (wrM t1 46 3 ((t1 46 3) / r1)) 46 4 (((wrM t1 46 3 ((t1 46 3) / r1)) 46 4) / r1)))))))) :
    AW l G d hX6_reduce 0 [some (.inr 46), none] [] s post := wps_ok (cut := []) oX6_reduce 23 0 _ _ _ h
set_option maxRecDepth 100000 in
theorem vX6_commonDivisor_0 {l : Launch} {G : GG} {d : Nat} {post : Int32 → Mem → Prop} {a0 a1 : Int32} {s : Mem} (h :
    AW l G d hX6_commonDivisor 7 [some (.inl a0), some (.inl a1), some (.inl a0), some (.inl a1), some (.inl (0 : Int32)), none] [] s post) :
    AW l G d hX6_commonDivisor 0 [some (.inl a0), some (.inl a1), none, none, none, none] [] s post := wps_ok (cut := [7]) oX6_commonDivisor 7 0 _ _ _ h
set_option maxRecDepth 100000 in
theorem vX6_commonDivisor_7 {l : Launch} {G : GG} {d : Nat} {post : Int32 → Mem → Prop} {a0 a1 a2 a3 a4 : Int32} {s : Mem} (h :
    (((64 : Int32) ≤ a4 →
      post a2 s) ∧
    (¬ (64 : Int32) ≤ a4 →
      ((a3 = 0 →
        post a2 s) ∧
      (¬ a3 = 0 →
        (¬ a3 = 0 ∧
        AW l G d hX6_commonDivisor 7 [some (.inl a0), some (.inl a1), some (.inl a3), some (.inl (a2 - a2 / a3 * a3)), some (.inl (a4 + (1 : Int32))), some (.inl (a2 - a2 / a3 * a3))] [] s post)))))) :
    AW l G d hX6_commonDivisor 7 [some (.inl a0), some (.inl a1), some (.inl a2), some (.inl a3), some (.inl a4), none] [] s post := wps_ok (cut := [7]) oX6_commonDivisor 16 7 _ _ _ h
set_option maxRecDepth 100000 in
theorem vX7_act_0 {l : Launch} {G : GG} {d : Nat} {post : Int32 → Mem → Prop} {a1 a2 a3 : Int32} {s : Mem} (h :
    (∃ (d' : Nat) (Q1 : Int32 → Mem → Prop), d' < d ∧ Spec l G d' hX4_add [.inr 1, .inl a1, .inl a2, .inl a3] s Q1 ∧ ∀ (r1 : Int32) (t1 : Mem), Q1 r1 t1 →
    post r1 t1)) :
    AW l G d hX7_act 0 [some (.inr 0), some (.inl a1), some (.inl a2), some (.inl a3)] [] s post := wps_ok (cut := []) oX7_act 8 0 _ _ _ h
set_option maxRecDepth 100000 in
theorem vX7_rests_0 {l : Launch} {G : GG} {d : Nat} {post : Int32 → Mem → Prop} {a1 a2 : Int32} {s : Mem} (h :
    (∃ (d' : Nat) (Q1 : Int32 → Mem → Prop), d' < d ∧ Spec l G d' hX4_setRest [.inr 1, .inl a1, .inl a2] s Q1 ∧ ∀ (r1 : Int32) (t1 : Mem), Q1 r1 t1 →
    (bool01 r1 ∧ post r1 t1))) :
    AW l G d hX7_rests 0 [some (.inr 0), some (.inl a1), some (.inl a2)] [] s post := wps_ok (cut := []) oX7_rests 7 0 _ _ _ h
set_option maxRecDepth 100000 in
theorem vX7_ban_0 {l : Launch} {G : GG} {d : Nat} {post : Int32 → Mem → Prop} {a1 a2 a3 : Int32} {s : Mem} (h :
    (∃ (d' : Nat) (Q1 : Int32 → Mem → Prop), d' < d ∧ Spec l G d' hX4_setBan [.inr 1, .inl a1, .inl a2, .inl a3] s Q1 ∧ ∀ (r1 : Int32) (t1 : Mem), Q1 r1 t1 →
    (bool01 r1 ∧ post r1 t1))) :
    AW l G d hX7_ban 0 [some (.inr 0), some (.inl a1), some (.inl a2), some (.inl a3)] [] s post := wps_ok (cut := []) oX7_ban 8 0 _ _ _ h
set_option maxRecDepth 100000 in
theorem vX7_judge_0 {l : Launch} {G : GG} {d : Nat} {post : Int32 → Mem → Prop} {a1 a2 a3 : Int32} {s : Mem} (h :
    ((a3 < 0 →
      post (-1 : Int32) s) ∧
    (¬ a3 < 0 →
      (((1 : Int32) < a3 →
        post (-1 : Int32) s) ∧
      (¬ (1 : Int32) < a3 →
        (∃ (d' : Nat) (Q1 : Int32 → Mem → Prop), d' < d ∧ Spec l G d' hX2_canBeTold [.inl a1, .inl a2] s Q1 ∧ ∀ (r1 : Int32) (t1 : Mem), Q1 r1 t1 →
        ((¬ r1 = 0 →
          (∃ (d' : Nat) (Q2 : Int32 → Mem → Prop), d' < d ∧ Spec l G d' hX2_read [.inr 8, .inl a1, .inl a2] t1 Q2 ∧ ∀ (r2 : Int32) (t2 : Mem), Q2 r2 t2 →
          ((¬ r2 = 0 →
            ((¬ a3 = 0 →
              post r2 t2) ∧
            (a3 = 0 →
              post (t2 8 7) t2))) ∧
          (r2 = 0 →
            post (-1 : Int32) t2)))) ∧
        (r1 = 0 →
          post (-1 : Int32) t1)))))))) :
    AW l G d hX7_judge 0 [some (.inr 0), some (.inl a1), some (.inl a2), some (.inl a3), none] [] s post := wps_ok (cut := []) oX7_judge 25 0 _ _ _ h
set_option maxRecDepth 100000 in
theorem vX7_gaps_0 {l : Launch} {G : GG} {d : Nat} {post : Int32 → Mem → Prop} {a1 a2 : Int32} {s : Mem} (h :
    (∃ (d' : Nat) (Q1 : Int32 → Mem → Prop), d' < d ∧ Spec l G d' hX2_canBeTold [.inl a1, .inl a2] s Q1 ∧ ∀ (r1 : Int32) (t1 : Mem), Q1 r1 t1 →
    ((r1 = 0 →
      post (-1 : Int32) t1) ∧
    (¬ r1 = 0 →
      (∃ (d' : Nat) (Q2 : Int32 → Mem → Prop), d' < d ∧ Spec l G d' hX2_read [.inr 8, .inl a1, .inl a2] t1 Q2 ∧ ∀ (r2 : Int32) (t2 : Mem), Q2 r2 t2 →
      ((r2 = 0 →
        (vp_in a2 9 ∧
        post (t2 13 a2.toNatClampNeg) t2)) ∧
      (¬ r2 = 0 →
        post (-1 : Int32) t2))))))) :
    AW l G d hX7_gaps 0 [some (.inr 0), some (.inl a1), some (.inl a2)] [] s post := wps_ok (cut := []) oX7_gaps 17 0 _ _ _ h
set_option maxRecDepth 100000 in
theorem vX7_best_0 {l : Launch} {G : GG} {d : Nat} {post : Int32 → Mem → Prop} {s : Mem} (h :
    (∃ (d' : Nat) (Q1 : Int32 → Mem → Prop), d' < d ∧ Spec l G d' hX0_refresh [.inr 15] s Q1 ∧ ∀ (r1 : Int32) (t1 : Mem), Q1 r1 t1 →
    (((t1 15 3) = 0 →
      post (-1 : Int32) t1) ∧
    (¬ (t1 15 3) = 0 →
      post (t1 15 4) t1)))) :
    AW l G d hX7_best 0 [some (.inr 0)] [] s post := wps_ok (cut := []) oX7_best 13 0 _ _ _ h
set_option maxRecDepth 100000 in
theorem vX7_bestAt_0 {l : Launch} {G : GG} {d : Nat} {post : Int32 → Mem → Prop} {a1 : Int32} {s : Mem} (h :
    (∃ (d' : Nat) (Q1 : Int32 → Mem → Prop), d' < d ∧ Spec l G d' hX0_refresh [.inr 15] s Q1 ∧ ∀ (r1 : Int32) (t1 : Mem), Q1 r1 t1 →
    (((t1 15 3) = 0 →
      post (-1 : Int32) t1) ∧
    (¬ (t1 15 3) = 0 →
      ((a1 < 0 →
        post (-1 : Int32) t1) ∧
      (¬ a1 < 0 →
        ((a1 < (t1 1 0) →
          (vp_in a1 8 ∧
          post (t1 23 a1.toNatClampNeg) t1)) ∧
        (¬ a1 < (t1 1 0) →
          post (-1 : Int32) t1)))))))) :
    AW l G d hX7_bestAt 0 [some (.inr 0), some (.inl a1)] [] s post := wps_ok (cut := []) oX7_bestAt 21 0 _ _ _ h
set_option maxRecDepth 100000 in
theorem vX7_load_0 {l : Launch} {G : GG} {d : Nat} {post : Int32 → Mem → Prop} {a1 a2 : Int32} {s : Mem} (h :
    (∃ (d' : Nat) (Q1 : Int32 → Mem → Prop), d' < d ∧ Spec l G d' hX5_setLoad [.inr 26, .inl a1, .inl a2] s Q1 ∧ ∀ (r1 : Int32) (t1 : Mem), Q1 r1 t1 →
    (bool01 r1 ∧ post r1 t1))) :
    AW l G d hX7_load 0 [some (.inr 0), some (.inl a1), some (.inl a2)] [] s post := wps_ok (cut := []) oX7_load 7 0 _ _ _ h
set_option maxRecDepth 100000 in
theorem vX7_share_0 {l : Launch} {G : GG} {d : Nat} {post : Int32 → Mem → Prop} {a1 a2 a3 : Int32} {s : Mem} (h :
    (∃ (d' : Nat) (Q1 : Int32 → Mem → Prop), d' < d ∧ Spec l G d' hX5_setShare [.inr 26, .inl a1, .inl a2, .inl a3] s Q1 ∧ ∀ (r1 : Int32) (t1 : Mem), Q1 r1 t1 →
    (bool01 r1 ∧ post r1 t1))) :
    AW l G d hX7_share 0 [some (.inr 0), some (.inl a1), some (.inl a2), some (.inl a3)] [] s post := wps_ok (cut := []) oX7_share 8 0 _ _ _ h
set_option maxRecDepth 100000 in
theorem vX7_exposed_0 {l : Launch} {G : GG} {d : Nat} {post : Int32 → Mem → Prop} {a1 a2 : Int32} {s : Mem} (h :
    (∃ (d' : Nat) (Q1 : Int32 → Mem → Prop), d' < d ∧ Spec l G d' hX5_setExposed [.inr 26, .inl a1, .inl a2] s Q1 ∧ ∀ (r1 : Int32) (t1 : Mem), Q1 r1 t1 →
    (bool01 r1 ∧ post r1 t1))) :
    AW l G d hX7_exposed 0 [some (.inr 0), some (.inl a1), some (.inl a2)] [] s post := wps_ok (cut := []) oX7_exposed 7 0 _ _ _ h
set_option maxRecDepth 100000 in
theorem vX7_part_0 {l : Launch} {G : GG} {d : Nat} {post : Int32 → Mem → Prop} {a1 a2 : Int32} {s : Mem} (h :
    (∃ (d' : Nat) (Q1 : Int32 → Mem → Prop), d' < d ∧ Spec l G d' hX7_isIn [.inl a1, .inl (8 : Int32)] s Q1 ∧ ∀ (r1 : Int32) (t1 : Mem), Q1 r1 t1 →
    ((r1 = 0 →
      post (-1 : Int32) t1) ∧
    (¬ r1 = 0 →
      (∃ (d' : Nat) (Q2 : Int32 → Mem → Prop), d' < d ∧ Spec l G d' hX5_isWind [.inl a2] t1 Q2 ∧ ∀ (r2 : Int32) (t2 : Mem), Q2 r2 t2 →
      ((¬ r2 = 0 →
        (∃ (d' : Nat) (Q3 : Int32 → Mem → Prop), d' < d ∧ Spec l G d' hX5_settle [.inr 26, .inl a2] t2 Q3 ∧ ∀ (r3 : Int32) (t3 : Mem), Q3 r3 t3 →
        (vp_in a1 8 ∧
        post (t3 30 a1.toNatClampNeg) t3))) ∧
      (r2 = 0 →
        post (-1 : Int32) t2))))))) :
    AW l G d hX7_part 0 [some (.inr 0), some (.inl a1), some (.inl a2)] [] s post := wps_ok (cut := []) oX7_part 18 0 _ _ _ h
set_option maxRecDepth 100000 in
theorem vX7_slack_0 {l : Launch} {G : GG} {d : Nat} {post : Int32 → Mem → Prop} {a1 a2 : Int32} {s : Mem} (h :
    (∃ (d' : Nat) (Q1 : Int32 → Mem → Prop), d' < d ∧ Spec l G d' hX7_isIn [.inl a1, .inl (8 : Int32)] s Q1 ∧ ∀ (r1 : Int32) (t1 : Mem), Q1 r1 t1 →
    ((r1 = 0 →
      (bool01 (0 : Int32) ∧ post (0 : Int32) t1)) ∧
    (¬ r1 = 0 →
      (∃ (d' : Nat) (Q2 : Int32 → Mem → Prop), d' < d ∧ Spec l G d' hX5_isWind [.inl a2] t1 Q2 ∧ ∀ (r2 : Int32) (t2 : Mem), Q2 r2 t2 →
      ((¬ r2 = 0 →
        (∃ (d' : Nat) (Q3 : Int32 → Mem → Prop), d' < d ∧ Spec l G d' hX5_settle [.inr 26, .inl a2] t2 Q3 ∧ ∀ (r3 : Int32) (t3 : Mem), Q3 r3 t3 →
        (vp_in a1 8 ∧
        (bool01 (t3 32 a1.toNatClampNeg) ∧ post (t3 32 a1.toNatClampNeg) t3)))) ∧
      (r2 = 0 →
        (bool01 (0 : Int32) ∧ post (0 : Int32) t2)))))))) :
    AW l G d hX7_slack 0 [some (.inr 0), some (.inl a1), some (.inl a2)] [] s post := wps_ok (cut := []) oX7_slack 18 0 _ _ _ h
set_option maxRecDepth 100000 in
theorem vX7_gone_0 {l : Launch} {G : GG} {d : Nat} {post : Int32 → Mem → Prop} {a1 : Int32} {s : Mem} (h :
    (∃ (d' : Nat) (Q1 : Int32 → Mem → Prop), d' < d ∧ Spec l G d' hX5_isWind [.inl a1] s Q1 ∧ ∀ (r1 : Int32) (t1 : Mem), Q1 r1 t1 →
    ((¬ r1 = 0 →
      (∃ (d' : Nat) (Q2 : Int32 → Mem → Prop), d' < d ∧ Spec l G d' hX5_settle [.inr 26, .inl a1] t1 Q2 ∧ ∀ (r2 : Int32) (t2 : Mem), Q2 r2 t2 →
      post (t2 26 6) t2)) ∧
    (r1 = 0 →
      post (0 : Int32) t1)))) :
    AW l G d hX7_gone 0 [some (.inr 0), some (.inl a1)] [] s post := wps_ok (cut := []) oX7_gone 12 0 _ _ _ h
set_option maxRecDepth 100000 in
theorem vX7_town_0 {l : Launch} {G : GG} {d : Nat} {post : Int32 → Mem → Prop} {a1 a2 a3 : Int32} {s : Mem} (h :
    (∃ (d' : Nat) (Q1 : Int32 → Mem → Prop), d' < d ∧ Spec l G d' hX3_add [.inr 33, .inl a1, .inl a2, .inl a3] s Q1 ∧ ∀ (r1 : Int32) (t1 : Mem), Q1 r1 t1 →
    post r1 t1)) :
    AW l G d hX7_town 0 [some (.inr 0), some (.inl a1), some (.inl a2), some (.inl a3)] [] s post := wps_ok (cut := []) oX7_town 8 0 _ _ _ h
set_option maxRecDepth 100000 in
theorem vX7_way_0 {l : Launch} {G : GG} {d : Nat} {post : Int32 → Mem → Prop} {a1 a2 a3 : Int32} {s : Mem} (h :
    (∃ (d' : Nat) (Q1 : Int32 → Mem → Prop), d' < d ∧ Spec l G d' hX3_join [.inr 33, .inl a1, .inl a2, .inl a3] s Q1 ∧ ∀ (r1 : Int32) (t1 : Mem), Q1 r1 t1 →
    (bool01 r1 ∧ post r1 t1))) :
    AW l G d hX7_way 0 [some (.inr 0), some (.inl a1), some (.inl a2), some (.inl a3)] [] s post := wps_ok (cut := []) oX7_way 8 0 _ _ _ h
set_option maxRecDepth 100000 in
theorem vX7_hours_0 {l : Launch} {G : GG} {d : Nat} {post : Int32 → Mem → Prop} {a1 a2 : Int32} {s : Mem} (h :
    (∃ (d' : Nat) (Q1 : Int32 → Mem → Prop), d' < d ∧ Spec l G d' hX3_has [.inr 33, .inl a1] s Q1 ∧ ∀ (r1 : Int32) (t1 : Mem), Q1 r1 t1 →
    ((r1 = 0 →
      post (-1 : Int32) t1) ∧
    (¬ r1 = 0 →
      (∃ (d' : Nat) (Q2 : Int32 → Mem → Prop), d' < d ∧ Spec l G d' hX3_has [.inr 33, .inl a2] t1 Q2 ∧ ∀ (r2 : Int32) (t2 : Mem), Q2 r2 t2 →
      ((¬ r2 = 0 →
        (∃ (d' : Nat) (Q3 : Int32 → Mem → Prop), d' < d ∧ Spec l G d' hX3_leastHours [.inr 33, .inl a1, .inl a2] t2 Q3 ∧ ∀ (r3 : Int32) (t3 : Mem), Q3 r3 t3 →
        post r3 t3)) ∧
      (r2 = 0 →
        post (-1 : Int32) t2))))))) :
    AW l G d hX7_hours 0 [some (.inr 0), some (.inl a1), some (.inl a2)] [] s post := wps_ok (cut := []) oX7_hours 17 0 _ _ _ h
set_option maxRecDepth 100000 in
theorem vX7_route_0 {l : Launch} {G : GG} {d : Nat} {post : Int32 → Mem → Prop} {s : Mem} (h :
    (∃ (d' : Nat) (Q1 : Int32 → Mem → Prop), d' < d ∧ Spec l G d' hX1_refresh [.inr 39] s Q1 ∧ ∀ (r1 : Int32) (t1 : Mem), Q1 r1 t1 →
    post (t1 39 2) t1)) :
    AW l G d hX7_route 0 [some (.inr 0)] [] s post := wps_ok (cut := []) oX7_route 8 0 _ _ _ h
set_option maxRecDepth 100000 in
theorem vX7_routeAt_0 {l : Launch} {G : GG} {d : Nat} {post : Int32 → Mem → Prop} {a1 a2 : Int32} {s : Mem} (h :
    (∃ (d' : Nat) (Q1 : Int32 → Mem → Prop), d' < d ∧ Spec l G d' hX1_refresh [.inr 39] s Q1 ∧ ∀ (r1 : Int32) (t1 : Mem), Q1 r1 t1 →
    (∃ (d' : Nat) (Q2 : Int32 → Mem → Prop), d' < d ∧ Spec l G d' hX7_isIn [.inl a1, .inl (t1 39 2)] t1 Q2 ∧ ∀ (r2 : Int32) (t2 : Mem), Q2 r2 t2 →
    ((r2 = 0 →
      post (-1 : Int32) t2) ∧
    (¬ r2 = 0 →
      ((a2 < 0 →
        post (-1 : Int32) t2) ∧
      (¬ a2 < 0 →
        ((a2 ≤ (1 : Int32) →
          ((¬ a2 = 0 →
            (vp_in a1 8 ∧
            post (t2 41 a1.toNatClampNeg) t2)) ∧
          (a2 = 0 →
            (vp_in a1 8 ∧
            post (t2 40 a1.toNatClampNeg) t2)))) ∧
        (¬ a2 ≤ (1 : Int32) →
          post (-1 : Int32) t2))))))))) :
    AW l G d hX7_routeAt 0 [some (.inr 0), some (.inl a1), some (.inl a2)] [] s post := wps_ok (cut := []) oX7_routeAt 24 0 _ _ _ h
set_option maxRecDepth 100000 in
theorem vX7_took_0 {l : Launch} {G : GG} {d : Nat} {post : Int32 → Mem → Prop} {a1 a2 a3 : Int32} {s : Mem} (h :
    (∃ (d' : Nat) (Q1 : Int32 → Mem → Prop), d' < d ∧ Spec l G d' hX3_has [.inr 33, .inl a1] s Q1 ∧ ∀ (r1 : Int32) (t1 : Mem), Q1 r1 t1 →
    ((r1 = 0 →
      post (-1 : Int32) t1) ∧
    (¬ r1 = 0 →
      (∃ (d' : Nat) (Q2 : Int32 → Mem → Prop), d' < d ∧ Spec l G d' hX6_add [.inr 46, .inl a1, .inl a2, .inl a3] t1 Q2 ∧ ∀ (r2 : Int32) (t2 : Mem), Q2 r2 t2 →
      post r2 t2))))) :
    AW l G d hX7_took 0 [some (.inr 0), some (.inl a1), some (.inl a2), some (.inl a3)] [] s post := wps_ok (cut := []) oX7_took 14 0 _ _ _ h
set_option maxRecDepth 100000 in
theorem vX7_foretold_0 {l : Launch} {G : GG} {d : Nat} {post : Int32 → Mem → Prop} {a1 a2 a3 : Int32} {s : Mem} (h :
    (∃ (d' : Nat) (Q1 : Int32 → Mem → Prop), d' < d ∧ Spec l G d' hX3_has [.inr 33, .inl a1] s Q1 ∧ ∀ (r1 : Int32) (t1 : Mem), Q1 r1 t1 →
    ((r1 = 0 →
      post (-1 : Int32) t1) ∧
    (¬ r1 = 0 →
      (∃ (d' : Nat) (Q2 : Int32 → Mem → Prop), d' < d ∧ Spec l G d' hX7_isIn [.inl a2, .inl (7 : Int32)] t1 Q2 ∧ ∀ (r2 : Int32) (t2 : Mem), Q2 r2 t2 →
      ((r2 = 0 →
        post (-1 : Int32) t2) ∧
      (¬ r2 = 0 →
        ((a3 < 0 →
          post (-1 : Int32) t2) ∧
        (¬ a3 < 0 →
          ((a3 ≤ (1 : Int32) →
            (∃ (d' : Nat) (Q3 : Int32 → Mem → Prop), d' < d ∧ Spec l G d' hX6_foretell [.inr 46, .inl a1, .inl a2] t2 Q3 ∧ ∀ (r3 : Int32) (t3 : Mem), Q3 r3 t3 →
            ((¬ a3 = 0 →
              post (t3 46 4) t3) ∧
            (a3 = 0 →
              post (t3 46 3) t3)))) ∧
          (¬ a3 ≤ (1 : Int32) →
            post (-1 : Int32) t2))))))))))) :
    AW l G d hX7_foretold 0 [some (.inr 0), some (.inl a1), some (.inl a2), some (.inl a3)] [] s post := wps_ok (cut := []) oX7_foretold 27 0 _ _ _ h
set_option maxRecDepth 100000 in
theorem vX7_count_0 {l : Launch} {G : GG} {d : Nat} {post : Int32 → Mem → Prop} {a1 : Int32} {s : Mem} (h :
    (((a1.toInt < 0 ∨ 4 < a1.toInt) →
      post (-1 : Int32) s) ∧
    ((a1.toInt = 0 →
      post (s 1 0) s) ∧
    ((a1.toInt = 0 + 1 →
      post (s 33 0) s) ∧
    ((a1.toInt = 0 + 1 + 1 →
      (∃ (d' : Nat) (Q1 : Int32 → Mem → Prop), d' < d ∧ Spec l G d' hJ6_bitCount_0f7a4 [.inl (s 1 7)] s Q1 ∧ ∀ (r1 : Int32) (t1 : Mem), Q1 r1 t1 →
      post r1 t1)) ∧
    ((a1.toInt = 0 + 1 + 1 + 1 →
      (∃ (d' : Nat) (Q2 : Int32 → Mem → Prop), d' < d ∧ Spec l G d' hX5_ropesUp [.inr 26] s Q2 ∧ ∀ (r2 : Int32) (t2 : Mem), Q2 r2 t2 →
      post r2 t2)) ∧
    ((a1.toInt = 0 + 1 + 1 + 1 + 1 →
      post (s 46 0) s) ∧
    True))))))) :
    AW l G d hX7_count 0 [some (.inr 0), some (.inl a1)] [] s post := wps_ok (cut := []) oX7_count 8 0 _ _ _ h
set_option maxRecDepth 100000 in
theorem vX7_isIn_0 {l : Launch} {G : GG} {d : Nat} {post : Int32 → Mem → Prop} {a0 a1 : Int32} {s : Mem} (h :
    ((a0 < 0 →
      (bool01 (0 : Int32) ∧ post (0 : Int32) s)) ∧
    (¬ a0 < 0 →
      ((a1 ≤ a0 →
        (bool01 (0 : Int32) ∧ post (0 : Int32) s)) ∧
      (¬ a1 ≤ a0 →
        (bool01 (1 : Int32) ∧ post (1 : Int32) s)))))) :
    AW l G d hX7_isIn 0 [some (.inl a0), some (.inl a1)] [] s post := wps_ok (cut := []) oX7_isIn 9 0 _ _ _ h
set_option maxRecDepth 100000 in
theorem vJ6_bitCount_0f7a4_0 {l : Launch} {G : GG} {d : Nat} {post : Int32 → Mem → Prop} {a0 : Int32} {s : Mem} (h :
    post ((((((((a0 - (((a0.toUInt32 >>> ((1 : Int32).toUInt32 &&& Int32.toUInt32 31)).toInt32) &&& (1431655765 : Int32))) &&& (858993459 : Int32)) + ((((a0 - (((a0.toUInt32 >>> ((1 : Int32).toUInt32 &&& Int32.toUInt32 31)).toInt32) &&& (1431655765 : Int32))).toUInt32 >>> ((2 : Int32).toUInt32 &&& Int32.toUInt32 31)).toInt32) &&& (858993459 : Int32))) + (((((a0 - (((a0.toUInt32 >>> ((1 : Int32).toUInt32 &&& Int32.toUInt32 31)).toInt32) &&& (1431655765 : Int32))) &&& (858993459 : Int32)) + ((((a0 - (((a0.toUInt32 >>> ((1 : Int32).toUInt32 &&& Int32.toUInt32 31)).toInt32) &&& (1431655765 : Int32))).toUInt32 >>> ((2 : Int32).toUInt32 &&& Int32.toUInt32 31)).toInt32) &&& (858993459 : Int32))).toUInt32 >>> ((4 : Int32).toUInt32 &&& Int32.toUInt32 31)).toInt32)) &&& (252645135 : Int32)) + (((((((a0 - (((a0.toUInt32 >>> ((1 : Int32).toUInt32 &&& Int32.toUInt32 31)).toInt32) &&& (1431655765 : Int32))) &&& (858993459 : Int32)) + ((((a0 - (((a0.toUInt32 >>> ((1 : Int32).toUInt32 &&& Int32.toUInt32 31)).toInt32) &&& (1431655765 : Int32))).toUInt32 >>> ((2 : Int32).toUInt32 &&& Int32.toUInt32 31)).toInt32) &&& (858993459 : Int32))) + (((((a0 - (((a0.toUInt32 >>> ((1 : Int32).toUInt32 &&& Int32.toUInt32 31)).toInt32) &&& (1431655765 : Int32))) &&& (858993459 : Int32)) + ((((a0 - (((a0.toUInt32 >>> ((1 : Int32).toUInt32 &&& Int32.toUInt32 31)).toInt32) &&& (1431655765 : Int32))).toUInt32 >>> ((2 : Int32).toUInt32 &&& Int32.toUInt32 31)).toInt32) &&& (858993459 : Int32))).toUInt32 >>> ((4 : Int32).toUInt32 &&& Int32.toUInt32 31)).toInt32)) &&& (252645135 : Int32)).toUInt32 >>> ((8 : Int32).toUInt32 &&& Int32.toUInt32 31)).toInt32)) + ((((((((a0 - (((a0.toUInt32 >>> ((1 : Int32).toUInt32 &&& Int32.toUInt32 31)).toInt32) &&& (1431655765 : Int32))) &&& (858993459 : Int32)) + ((((a0 - (((a0.toUInt32 >>> ((1 : Int32).toUInt32 &&& Int32.toUInt32 31)).toInt32) &&& (1431655765 : Int32))).toUInt32 >>> ((2 : Int32).toUInt32 &&& Int32.toUInt32 31)).toInt32) &&& (858993459 : Int32))) + (((((a0 - (((a0.toUInt32 >>> ((1 : Int32).toUInt32 &&& Int32.toUInt32 31)).toInt32) &&& (1431655765 : Int32))) &&& (858993459 : Int32)) + ((((a0 - (((a0.toUInt32 >>> ((1 : Int32).toUInt32 &&& Int32.toUInt32 31)).toInt32) &&& (1431655765 : Int32))).toUInt32 >>> ((2 : Int32).toUInt32 &&& Int32.toUInt32 31)).toInt32) &&& (858993459 : Int32))).toUInt32 >>> ((4 : Int32).toUInt32 &&& Int32.toUInt32 31)).toInt32)) &&& (252645135 : Int32)) + (((((((a0 - (((a0.toUInt32 >>> ((1 : Int32).toUInt32 &&& Int32.toUInt32 31)).toInt32) &&& (1431655765 : Int32))) &&& (858993459 : Int32)) + ((((a0 - (((a0.toUInt32 >>> ((1 : Int32).toUInt32 &&& Int32.toUInt32 31)).toInt32) &&& (1431655765 : Int32))).toUInt32 >>> ((2 : Int32).toUInt32 &&& Int32.toUInt32 31)).toInt32) &&& (858993459 : Int32))) + (((((a0 - (((a0.toUInt32 >>> ((1 : Int32).toUInt32 &&& Int32.toUInt32 31)).toInt32) &&& (1431655765 : Int32))) &&& (858993459 : Int32)) + ((((a0 - (((a0.toUInt32 >>> ((1 : Int32).toUInt32 &&& Int32.toUInt32 31)).toInt32) &&& (1431655765 : Int32))).toUInt32 >>> ((2 : Int32).toUInt32 &&& Int32.toUInt32 31)).toInt32) &&& (858993459 : Int32))).toUInt32 >>> ((4 : Int32).toUInt32 &&& Int32.toUInt32 31)).toInt32)) &&& (252645135 : Int32)).toUInt32 >>> ((8 : Int32).toUInt32 &&& Int32.toUInt32 31)).toInt32)).toUInt32 >>> ((16 : Int32).toUInt32 &&& Int32.toUInt32 31)).toInt32)) &&& (63 : Int32)) s) :
    AW l G d hJ6_bitCount_0f7a4 0 [some (.inl a0)] [] s post := wps_ok (cut := []) oJ6_bitCount_0f7a4 43 0 _ _ _ h
