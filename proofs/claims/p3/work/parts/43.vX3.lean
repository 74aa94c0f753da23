set_option maxRecDepth 20000 in
theorem vX3_has {d : Nat} {σ : am_S} {Q : Int32 → am_S → Prop} {l1 : Int32} (H :
    (l1 < 0 →
      Q (0 : Int32) σ) ∧
    (¬ l1 < 0 →
      ((gS σ 11 6) ≤ l1 →
        Q (0 : Int32) σ) ∧
      (¬ (gS σ 11 6) ≤ l1 →
        Q (1 : Int32) σ))) : am_K ri am_Lx IX3_has (d + 1) [.ref 11, .int l1] σ Q := K_of am_owX3_has (Nat.le_of_ble_eq_true rfl) (X_if (fun _ _ => blX3_has_0) (fun z0 => (X_go (fun _ _ => blX3_has_16) (X_ret (fun _ _ => blX3_has_17 (Or.inl rfl)) (H.1 z0)))) (fun z0 => (X_if (fun _ _ => blX3_has_4) (fun z1 => (X_go (fun _ _ => blX3_has_16) (X_ret (fun _ _ => blX3_has_17 (Or.inl rfl)) ((H.2 z0).1 z1)))) (fun z1 => (X_go (fun _ _ => blX3_has_12) (X_ret (fun _ _ => blX3_has_17 (Or.inr rfl)) ((H.2 z0).2 z1)))))))
set_option maxRecDepth 20000 in
theorem vX3_inPattern {d : Nat} {σ : am_S} {Q : Int32 → am_S → Prop} {l1 : Int32} (H :
    ((((gS σ 16 8) >>> (l1 &&& 31)) &&& (1 : Int32)) = 0 →
      Q (0 : Int32) σ) ∧
    (¬ (((gS σ 16 8) >>> (l1 &&& 31)) &&& (1 : Int32)) = 0 →
      Q (1 : Int32) σ)) : am_K ri am_Lx IX3_inPattern (d + 1) [.ref 11, .int l1] σ Q := K_of am_owX3_inPattern (Nat.le_of_ble_eq_true rfl) (X_if (fun _ _ => blX3_inPattern_0) (fun z0 => (X_go (fun _ _ => blX3_inPattern_18) (X_ret (fun _ _ => blX3_inPattern_19 (Or.inl rfl)) (H.1 z0)))) (fun z0 => (X_go (fun _ _ => blX3_inPattern_14) (X_ret (fun _ _ => blX3_inPattern_19 (Or.inr rfl)) (H.2 z0)))))
set_option maxRecDepth 20000 in
theorem vX3_put {d : Nat} {σ : am_S} {Q : Option Nat → am_S → Prop} {l1 : Int32} {l2 : Int32} (H :
    am_K ri am_Lx IX3_has d [.ref 11, .int l1] σ (fun r1 σ1 =>
      (r1 = 0 →
        Q none σ1) ∧
      (¬ r1 = 0 →
        am_K ri am_Lx IX4_rankOf d [.ref 16, .int l2] σ1 (fun r2 σ2 =>
          (vp_in ((l1 * (4 : Int32)) + r2) 200) ∧
          am_K rn am_Lx IX1_made d [.ref 12, .long (gJ σ2 27 (((l1 * (4 : Int32)) + r2)).toNatClampNeg), .ref 3] σ2 (fun r3 σ3 =>
            (r3 = none →
              Q none σ3) ∧
            (∀ t4, r3 = some t4 →
              Q (some t4) σ3)))))) : am_K rn am_Lx IX3_put (d + 1) [.ref 11, .int l1, .int l2, .ref 3] σ Q := K_of am_owX3_put (Nat.le_of_ble_eq_true rfl) (X_call (fun _ _ _ _ => blX3_put_0) (K_mono H (fun r1 σ1 q0 => (X_if (fun _ _ => blX3_put_5) (fun z1 => (X_go (fun _ _ => blX3_put_36) (X_ret (fun _ _ => blX3_put_37_n) (q0.1 z1)))) (fun z1 => (X_call (fun _ _ _ _ => blX3_put_8) (K_mono (q0.2 z1) (fun r2 σ2 q2 => (X_calln (fun _ _ _ _ => blX3_put_27 q2.1) (K_mono q2.2 (fun r3 σ3 q3 => And.intro (fun z3 => (X_go (fun _ _ => blX3_put_33_n) (X_ret (fun _ _ => blX3_put_37_n) (q3.1 z3)))) (fun t4 z3 => (X_go (fun _ _ => blX3_put_33_r) (X_ret (fun _ _ => blX3_put_37_r) (q3.2 t4 z3)))))))))))))))
set_option maxRecDepth 20000 in
theorem vX3_found {d : Nat} {σ : am_S} {Q : Int32 → am_S → Prop} {l1 : Nat} {l2 : Nat} (H :
    am_K ru am_Lx IX1_take d [.ref 12, .ref l2] (wS σ 11 6 (0 : Int32)) (fun _ σ1 =>
      am_K ri am_Lx IX4_takes d [.ref 16, .ref l1, .ref 12] σ1 (fun r2 σ2 =>
        (¬ r2 = 0 →
          am_X ri am_Lx IX3_found (d + 1) 32 [some (.ref 11), some (.ref l1), some (.ref l2), some (.int (0 : Int32))] [] σ2 Q) ∧
        (r2 = 0 →
          Q (0 : Int32) σ2)))) : am_K ri am_Lx IX3_found (d + 1) [.ref 11, .ref l1, .ref l2] σ Q := K_of am_owX3_found (Nat.le_of_ble_eq_true rfl) (X_call (fun _ _ _ _ => blX3_found_0) (K_mono H (fun _ σ1 q0 => (X_call (fun _ _ _ _ => blX3_found_13) (K_mono q0 (fun r2 σ2 q1 => (X_ifn (fun _ _ => blX3_found_25) (fun z2 => (X_go (fun _ _ => blX3_found_30) (q1.1 z2))) (fun z2 => (X_ret (fun _ _ => blX3_found_28) (q1.2 z2))))))))))
set_option maxRecDepth 20000 in
theorem vX3_found_32 {d : Nat} {σ : am_S} {Q : Int32 → am_S → Prop} {l1 : Nat} {l2 : Nat} {l3 : Int32} (H :
    ((40 : Int32) ≤ l3 →
      am_X ri am_Lx IX3_found (d + 1) 53 [some (.ref 11), some (.ref l1), some (.ref l2), some (.int (0 : Int32))] [] σ Q) ∧
    (¬ (40 : Int32) ≤ l3 →
      (vp_in l3 1640) ∧
      am_X ri am_Lx IX3_found (d + 1) 32 [some (.ref 11), some (.ref l1), some (.ref l2), some (.int (l3 + (1 : Int32)))] [] (wA σ 24 (l3).toNatClampNeg (0 : Int32)) Q)) : am_X ri am_Lx IX3_found (d + 1) 32 [some (.ref 11), some (.ref l1), some (.ref l2), some (.int l3)] [] σ Q := (X_if (fun _ _ => blX3_found_32) (fun z0 => (X_go (fun _ _ => blX3_found_51) (H.1 z0))) (fun z0 => (X_go (fun _ _ => blX3_found_38 (H.2 z0).1) (H.2 z0).2)))
set_option maxRecDepth 20000 in
theorem vX3_found_53 {d : Nat} {σ : am_S} {Q : Int32 → am_S → Prop} {l1 : Nat} {l2 : Nat} {l3 : Int32} (H :
    ((4 : Int32) ≤ l3 →
      am_K ri am_Lx IX1_idOf d [.ref 12, .ref l2] σ (fun r1 σ1 =>
        am_K ri am_Lx IX3_assigned d [.ref 11, .int (0 : Int32), .int (0 : Int32), .int r1, .int (0 : Int32)] σ1 (fun r2 σ2 =>
          (r2 = 0 →
            ((gS σ2 11 6) ≤ (50 : Int32) →
              Q (gS σ2 11 6) σ2) ∧
            (¬ (gS σ2 11 6) ≤ (50 : Int32) →
              Q (-4 : Int32) (wS σ2 11 6 (0 : Int32)))) ∧
          (¬ r2 = 0 →
            am_K ru am_Lx IX3_search d [.ref 11, .int (0 : Int32)] σ2 (fun _ σ3 =>
              ((gS σ3 11 6) ≤ (50 : Int32) →
                Q (gS σ3 11 6) σ3) ∧
              (¬ (gS σ3 11 6) ≤ (50 : Int32) →
                Q (-4 : Int32) (wS σ3 11 6 (0 : Int32)))))))) ∧
    (¬ (4 : Int32) ≤ l3 →
      (vp_in l3 164) ∧
      am_X ri am_Lx IX3_found (d + 1) 53 [some (.ref 11), some (.ref l1), some (.ref l2), some (.int (l3 + (1 : Int32)))] [] (wJ σ 26 (l3).toNatClampNeg (0 : Int64)) Q)) : am_X ri am_Lx IX3_found (d + 1) 53 [some (.ref 11), some (.ref l1), some (.ref l2), some (.int l3)] [] σ Q := (X_if (fun _ _ => blX3_found_53) (fun z0 => (X_call (fun _ _ _ _ => blX3_found_71) (K_mono (H.1 z0) (fun r1 σ1 q1 => (X_call (fun _ _ _ _ => blX3_found_82) (K_mono q1 (fun r2 σ2 q2 => (X_if (fun _ _ => blX3_found_86) (fun z3 => (X_if (fun _ _ => blX3_found_94) (fun z4 => (X_ret (fun _ _ => blX3_found_111) ((q2.1 z3).1 z4))) (fun z4 => (X_ret (fun _ _ => blX3_found_103) ((q2.1 z3).2 z4))))) (fun z3 => (X_call (fun _ _ _ _ => blX3_found_89) (K_mono (q2.2 z3) (fun _ σ3 q4 => (X_if (fun _ _ => blX3_found_94) (fun z5 => (X_ret (fun _ _ => blX3_found_111) (q4.1 z5))) (fun z5 => (X_ret (fun _ _ => blX3_found_103) (q4.2 z5)))))))))))))))) (fun z0 => (X_go (fun _ _ => blX3_found_58 (H.2 z0).1) (H.2 z0).2)))
set_option maxRecDepth 20000 in
theorem vX3_search {d : Nat} {σ : am_S} {Q : Unit → am_S → Prop} {l1 : Int32} (H :
    ((50 : Int32) < (gS σ 11 6) →
      Q () σ) ∧
    (¬ (50 : Int32) < (gS σ 11 6) →
      ((41 : Int32) ≤ (l1 + (1 : Int32)) →
        Q () σ) ∧
      (¬ (41 : Int32) ≤ (l1 + (1 : Int32)) →
        am_K ri am_Lx IX3_settled d [.ref 11, .int l1] σ (fun r1 σ1 =>
          (¬ r1 = 0 →
            am_K ri am_Lx IX3_choice d [.ref 11, .int l1] σ1 (fun r2 σ2 =>
              (0 ≤ r2 →
                (vp_in r2 40) ∧
                (gP σ2 17 (r2).toNatClampNeg = none →
                  False) ∧
                (∀ t3, gP σ2 17 (r2).toNatClampNeg = some t3 →
                  (am_isT am_Lx σ2 t3) ∧
                  (¬ (gS σ2 t3 0) = 0 →
                    am_K ru am_Lx IX3_tryParts d [.ref 11, .int l1, .int r2] σ2 (fun _ σ4 =>
                      Q () σ4)) ∧
                  ((gS σ2 t3 0) = 0 →
                    am_K ru am_Lx IX3_tryRows d [.ref 11, .int l1, .int r2] σ2 (fun _ σ5 =>
                      Q () σ5)))) ∧
              (¬ 0 ≤ r2 →
                am_K ru am_Lx IX3_enlist d [.ref 11, .int (l1 * (4 : Int32))] σ2 (fun _ σ6 =>
                  Q () σ6)))) ∧
          (r1 = 0 →
            Q () σ1))))) : am_K ru am_Lx IX3_search (d + 1) [.ref 11, .int l1] σ Q := K_of am_owX3_search (Nat.le_of_ble_eq_true rfl) (X_if (fun _ _ => blX3_search_0) (fun z0 => (X_ret (fun _ _ => blX3_search_25) (H.1 z0))) (fun z0 => (X_if (fun _ _ => blX3_search_9) (fun z1 => (X_ret (fun _ _ => blX3_search_25) ((H.2 z0).1 z1))) (fun z1 => (X_call (fun _ _ _ _ => blX3_search_17) (K_mono ((H.2 z0).2 z1) (fun r1 σ1 q2 => (X_ifn (fun _ _ => blX3_search_22) (fun z3 => (X_call (fun _ _ _ _ => blX3_search_26) (K_mono (q2.1 z3) (fun r2 σ2 q4 => (X_if (fun _ _ => blX3_search_31) (fun z5 => (X_opt (fun _ _ => blX3_search_46 (q4.1 z5).1) (fun z6 => (False.elim ((q4.1 z5).2.1 z6))) (fun t3 z6 => (X_ifn (fun _ _ => blX3_search_55_r ((q4.1 z5).2.2 t3 z6).1) (fun z7 => (X_call (fun _ _ _ _ => blX3_search_70) (K_mono (((q4.1 z5).2.2 t3 z6).2.1 z7) (fun _ σ4 q8 => (X_ret (fun _ _ => blX3_search_76) q8))))) (fun z7 => (X_call (fun _ _ _ _ => blX3_search_61) (K_mono (((q4.1 z5).2.2 t3 z6).2.2 z7) (fun _ σ5 q8 => (X_go (fun _ _ => blX3_search_67) (X_ret (fun _ _ => blX3_search_76) q8)))))))))) (fun z5 => (X_call (fun _ _ _ _ => blX3_search_36) (K_mono (q4.2 z5) (fun _ σ6 q6 => (X_go (fun _ _ => blX3_search_43) (X_ret (fun _ _ => blX3_search_76) q6))))))))))) (fun z3 => (X_ret (fun _ _ => blX3_search_25) (q2.2 z3)))))))))))
set_option maxRecDepth 20000 in
theorem vX3_tryRows {d : Nat} {σ : am_S} {Q : Unit → am_S → Prop} {l1 : Int32} {l2 : Int32} (H :
    (vp_in l2 40) ∧
    (vp_in ((l1 * (40 : Int32)) + (gA σ 20 (l2).toNatClampNeg)) 1640) ∧
    (vp_in l2 40) ∧
    am_K rj am_Lx IX7_divided d [.long (gJ σ 25 (((l1 * (40 : Int32)) + (gA σ 20 (l2).toNatClampNeg))).toNatClampNeg), .int (gA σ 19 (l2).toNatClampNeg)] σ (fun r1 σ1 =>
      am_K ri am_Lx IX7_size d [.long r1] σ1 (fun r2 σ2 =>
        (vp_in l2 40) ∧
        (gP σ2 17 (l2).toNatClampNeg = none →
          False) ∧
        (∀ t3, gP σ2 17 (l2).toNatClampNeg = some t3 →
          (am_isT am_Lx σ2 t3) ∧
          am_K ri am_Lx IX4_rankOf d [.ref 16, .int (gS σ2 t3 1)] σ2 (fun r4 σ4 =>
            am_X ru am_Lx IX3_tryRows (d + 1) 64 [some (.ref 11), some (.int l1), some (.int l2), some (.long r1), none, some (.int ((1 : Int32) <<< (r2 &&& 31))), some (.int r4), some (.int (1 : Int32)), none, none] [] σ4 Q))))) : am_K ru am_Lx IX3_tryRows (d + 1) [.ref 11, .int l1, .int l2] σ Q := K_of am_owX3_tryRows (Nat.le_of_ble_eq_true rfl) (X_call (fun _ _ _ _ => blX3_tryRows_0 H.1 H.2.1 H.2.2.1) (K_mono H.2.2.2 (fun r1 σ1 q0 => (X_call (fun _ _ _ _ => blX3_tryRows_31) (K_mono q0 (fun r2 σ2 q1 => (X_opt (fun _ _ => blX3_tryRows_37 q1.1) (fun z2 => (False.elim (q1.2.1 z2))) (fun t3 z2 => (X_call (fun _ _ _ _ => blX3_tryRows_53_r (q1.2.2 t3 z2).1) (K_mono (q1.2.2 t3 z2).2 (fun r4 σ4 q3 => (X_go (fun _ _ => blX3_tryRows_59) q3))))))))))))
set_option maxRecDepth 20000 in
theorem vX3_tryRows_64 {d : Nat} {σ : am_S} {Q : Unit → am_S → Prop} {l1 : Int32} {l2 : Int32} {l3 : Int64} {l5 : Int32} {l6 : Int32} {l7 : Int32} (H :
    (l5 ≤ l7 →
      Q () σ) ∧
    (¬ l5 ≤ l7 →
      ((50 : Int32) < (gS σ 11 6) →
        Q () σ) ∧
      (¬ (50 : Int32) < (gS σ 11 6) →
        am_K rj am_Lx IX7_picked d [.long l3, .int l7] σ (fun r1 σ1 =>
          ((lg_cmp r1 (-1 : Int64)) = 0 →
            am_X ru am_Lx IX3_tryRows (d + 1) 64 [some (.ref 11), some (.int l1), some (.int l2), some (.long l3), none, some (.int l5), some (.int l6), some (.int (l7 + (1 : Int32))), none, none] [] σ1 Q) ∧
          (¬ (lg_cmp r1 (-1 : Int64)) = 0 →
            am_K ru am_Lx IX3_copy d [.ref 11, .int l1] σ1 (fun _ σ2 =>
              am_K rj am_Lx IX1_valueOf d [.ref 12, .long r1] σ2 (fun r3 σ3 =>
                (vp_in (((l1 + (1 : Int32)) * (4 : Int32)) + l6) 164) ∧
                am_K ru am_Lx IX3_search d [.ref 11, .int (l1 + (1 : Int32))] (wJ σ3 26 ((((l1 + (1 : Int32)) * (4 : Int32)) + l6)).toNatClampNeg r3) (fun _ σ4 =>
                  am_X ru am_Lx IX3_tryRows (d + 1) 64 [some (.ref 11), some (.int l1), some (.int l2), some (.long l3), none, some (.int l5), some (.int l6), some (.int (l7 + (1 : Int32))), none, none] [] σ4 Q)))))))) : am_X ru am_Lx IX3_tryRows (d + 1) 64 [some (.ref 11), some (.int l1), some (.int l2), some (.long l3), none, some (.int l5), some (.int l6), some (.int l7), none, none] [] σ Q := (X_if (fun _ _ => blX3_tryRows_64) (fun z0 => (X_ret (fun _ _ => blX3_tryRows_137) (H.1 z0))) (fun z0 => (X_if (fun _ _ => blX3_tryRows_71) (fun z1 => (X_ret (fun _ _ => blX3_tryRows_137) ((H.2 z0).1 z1))) (fun z1 => (X_call (fun _ _ _ _ => blX3_tryRows_80) (K_mono ((H.2 z0).2 z1) (fun r1 σ1 q2 => (X_if (fun _ _ => blX3_tryRows_86) (fun z3 => (X_go (fun _ _ => blX3_tryRows_131) (q2.1 z3))) (fun z3 => (X_call (fun _ _ _ _ => blX3_tryRows_97) (K_mono (q2.2 z3) (fun _ σ2 q4 => (X_call (fun _ _ _ _ => blX3_tryRows_102) (K_mono q4 (fun r3 σ3 q5 => (X_call (fun _ _ _ _ => blX3_tryRows_123 q5.1) (K_mono q5.2 (fun _ σ4 q6 => (X_go (fun _ _ => blX3_tryRows_131) q6)))))))))))))))))))
set_option maxRecDepth 20000 in
theorem vX3_tryParts {d : Nat} {σ : am_S} {Q : Unit → am_S → Prop} {l1 : Int32} {l2 : Int32} (H :
    (vp_in l2 40) ∧
    (vp_in ((l1 * (40 : Int32)) + (gA σ 20 (l2).toNatClampNeg)) 1640) ∧
    (vp_in l2 40) ∧
    am_K rj am_Lx IX7_divided d [.long (gJ σ 25 (((l1 * (40 : Int32)) + (gA σ 20 (l2).toNatClampNeg))).toNatClampNeg), .int (gA σ 19 (l2).toNatClampNeg)] σ (fun r1 σ1 =>
      am_K ri am_Lx IX7_size d [.long r1] σ1 (fun r2 σ2 =>
        am_X ru am_Lx IX3_tryParts (d + 1) 59 [some (.ref 11), some (.int l1), some (.int l2), some (.int (gA σ 20 (l2).toNatClampNeg)), some (.int (((l1 + (1 : Int32)) * (40 : Int32)) + (gA σ 20 (l2).toNatClampNeg))), some (.long (gJ σ 25 (((l1 * (40 : Int32)) + (gA σ 20 (l2).toNatClampNeg))).toNatClampNeg)), none, some (.long r1), none, some (.int r2), some (.int (0 : Int32)), none, none] [] σ2 Q))) : am_K ru am_Lx IX3_tryParts (d + 1) [.ref 11, .int l1, .int l2] σ Q := K_of am_owX3_tryParts (Nat.le_of_ble_eq_true rfl) (X_call (fun _ _ _ _ => blX3_tryParts_0 H.1 H.2.1 H.2.2.1) (K_mono H.2.2.2 (fun r1 σ1 q0 => (X_call (fun _ _ _ _ => blX3_tryParts_47) (K_mono q0 (fun r2 σ2 q1 => (X_go (fun _ _ => blX3_tryParts_54) q1)))))))
set_option maxRecDepth 20000 in
theorem vX3_tryParts_59 {d : Nat} {σ : am_S} {Q : Unit → am_S → Prop} {l1 : Int32} {l2 : Int32} {l3 : Int32} {l4 : Int32} {l5 : Int64} {l7 : Int64} {l9 : Int32} {l10 : Int32} (H :
    (l9 ≤ l10 →
      Q () σ) ∧
    (¬ l9 ≤ l10 →
      ((50 : Int32) < (gS σ 11 6) →
        Q () σ) ∧
      (¬ (50 : Int32) < (gS σ 11 6) →
        am_K ri am_Lx IX7_at d [.long l7, .int l10] σ (fun r1 σ1 =>
          (l10 = 0 →
            am_K ri am_Lx IX3_alike d [.ref 11, .int l2, .int r1] σ1 (fun r2 σ2 =>
              (r2 = 0 →
                am_X ru am_Lx IX3_tryParts (d + 1) 59 [some (.ref 11), some (.int l1), some (.int l2), some (.int l3), some (.int l4), some (.long l5), none, some (.long l7), none, some (.int l9), some (.int (l10 + (1 : Int32))), none, none] [] σ2 Q) ∧
              (¬ r2 = 0 →
                am_K ru am_Lx IX3_copy d [.ref 11, .int l1] σ2 (fun _ σ3 =>
                  (vp_in l4 1640) ∧
                  (vp_in l3 40) ∧
                  (vp_in l4 1640) ∧
                  am_X ru am_Lx IX3_tryParts (d + 1) 146 [some (.ref 11), some (.int l1), some (.int l2), some (.int l3), some (.int l4), some (.long l5), none, some (.long l7), none, some (.int l9), some (.int l10), some (.int r1), some (.int (0 : Int32))] [] (wA σ3 24 (l4).toNatClampNeg ((gA σ3 24 (l4).toNatClampNeg) &&& (((1 : Int32) <<< ((l2 - (gA σ3 21 (l3).toNatClampNeg)) &&& 31)) ^^^ (-1 : Int32)))) Q)))) ∧
          (¬ l10 = 0 →
            am_K ri am_Lx IX7_at d [.long l7, .int (l10 - (1 : Int32))] σ1 (fun r4 σ4 =>
              (r1 = r4 →
                am_X ru am_Lx IX3_tryParts (d + 1) 59 [some (.ref 11), some (.int l1), some (.int l2), some (.int l3), some (.int l4), some (.long l5), none, some (.long l7), none, some (.int l9), some (.int (l10 + (1 : Int32))), none, none] [] σ4 Q) ∧
              (¬ r1 = r4 →
                am_K ri am_Lx IX3_alike d [.ref 11, .int l2, .int r1] σ4 (fun r5 σ5 =>
                  (r5 = 0 →
                    am_X ru am_Lx IX3_tryParts (d + 1) 59 [some (.ref 11), some (.int l1), some (.int l2), some (.int l3), some (.int l4), some (.long l5), none, some (.long l7), none, some (.int l9), some (.int (l10 + (1 : Int32))), none, none] [] σ5 Q) ∧
                  (¬ r5 = 0 →
                    am_K ru am_Lx IX3_copy d [.ref 11, .int l1] σ5 (fun _ σ6 =>
                      (vp_in l4 1640) ∧
                      (vp_in l3 40) ∧
                      (vp_in l4 1640) ∧
                      am_X ru am_Lx IX3_tryParts (d + 1) 146 [some (.ref 11), some (.int l1), some (.int l2), some (.int l3), some (.int l4), some (.long l5), none, some (.long l7), none, some (.int l9), some (.int l10), some (.int r1), some (.int (0 : Int32))] [] (wA σ6 24 (l4).toNatClampNeg ((gA σ6 24 (l4).toNatClampNeg) &&& (((1 : Int32) <<< ((l2 - (gA σ6 21 (l3).toNatClampNeg)) &&& 31)) ^^^ (-1 : Int32)))) Q)))))))))) : am_X ru am_Lx IX3_tryParts (d + 1) 59 [some (.ref 11), some (.int l1), some (.int l2), some (.int l3), some (.int l4), some (.long l5), none, some (.long l7), none, some (.int l9), some (.int l10), none, none] [] σ Q := (X_if (fun _ _ => blX3_tryParts_59) (fun z0 => (X_ret (fun _ _ => blX3_tryParts_219) (H.1 z0))) (fun z0 => (X_if (fun _ _ => blX3_tryParts_66) (fun z1 => (X_ret (fun _ _ => blX3_tryParts_219) ((H.2 z0).1 z1))) (fun z1 => (X_call (fun _ _ _ _ => blX3_tryParts_75) (K_mono ((H.2 z0).2 z1) (fun r1 σ1 q2 => (X_if (fun _ _ => blX3_tryParts_82) (fun z3 => (X_call (fun _ _ _ _ => blX3_tryParts_103) (K_mono (q2.1 z3) (fun r2 σ2 q4 => (X_if (fun _ _ => blX3_tryParts_110) (fun z5 => (X_go (fun _ _ => blX3_tryParts_213) (q4.1 z5))) (fun z5 => (X_call (fun _ _ _ _ => blX3_tryParts_113) (K_mono (q4.2 z5) (fun _ σ3 q6 => (X_go (fun _ _ => blX3_tryParts_118 q6.1 q6.2.1 q6.2.2.1) q6.2.2.2)))))))))) (fun z3 => (X_call (fun _ _ _ _ => blX3_tryParts_89) (K_mono (q2.2 z3) (fun r4 σ4 q4 => (X_if (fun _ _ => blX3_tryParts_100) (fun z5 => (X_go (fun _ _ => blX3_tryParts_213) (q4.1 z5))) (fun z5 => (X_call (fun _ _ _ _ => blX3_tryParts_103) (K_mono (q4.2 z5) (fun r5 σ5 q6 => (X_if (fun _ _ => blX3_tryParts_110) (fun z7 => (X_go (fun _ _ => blX3_tryParts_213) (q6.1 z7))) (fun z7 => (X_call (fun _ _ _ _ => blX3_tryParts_113) (K_mono (q6.2 z7) (fun _ σ6 q8 => (X_go (fun _ _ => blX3_tryParts_118 q8.1 q8.2.1 q8.2.2.1) q8.2.2.2)))))))))))))))))))))))
set_option maxRecDepth 20000 in
theorem vX3_tryParts_146 {d : Nat} {σ : am_S} {Q : Unit → am_S → Prop} {l1 : Int32} {l2 : Int32} {l3 : Int32} {l4 : Int32} {l5 : Int64} {l7 : Int64} {l9 : Int32} {l10 : Int32} {l11 : Int32} {l12 : Int32} (H :
    (vp_in l2 40) ∧
    ((gA σ 19 (l2).toNatClampNeg) ≤ l12 →
      am_K ri am_Lx IX3_assigned d [.ref 11, .int (l1 + (1 : Int32)), .int l2, .int l11, .int (0 : Int32)] σ (fun r1 σ1 =>
        (r1 = 0 →
          am_X ru am_Lx IX3_tryParts (d + 1) 59 [some (.ref 11), some (.int l1), some (.int l2), some (.int l3), some (.int l4), some (.long l5), none, some (.long l7), none, some (.int l9), some (.int (l10 + (1 : Int32))), none, none] [] σ1 Q) ∧
        (¬ r1 = 0 →
          am_K ru am_Lx IX3_search d [.ref 11, .int (l1 + (1 : Int32))] σ1 (fun _ σ2 =>
            am_X ru am_Lx IX3_tryParts (d + 1) 59 [some (.ref 11), some (.int l1), some (.int l2), some (.int l3), some (.int l4), some (.long l5), none, some (.long l7), none, some (.int l9), some (.int (l10 + (1 : Int32))), none, none] [] σ2 Q)))) ∧
    (¬ (gA σ 19 (l2).toNatClampNeg) ≤ l12 →
      (vp_in l4 1640) ∧
      am_K rj am_Lx IX7_empty d [.int (0 : Int32)] σ (fun r3 σ3 =>
        am_K rj am_Lx IX7_with d [.long r3, .int l11] σ3 (fun r4 σ4 =>
          am_K rj am_Lx IX7_minus d [.long (gJ σ 25 (l4).toNatClampNeg), .long r4] σ4 (fun r5 σ5 =>
            (vp_in l4 1640) ∧
            am_X ru am_Lx IX3_tryParts (d + 1) 146 [some (.ref 11), some (.int l1), some (.int l2), some (.int l3), some (.int l4), some (.long l5), none, some (.long l7), none, some (.int l9), some (.int l10), some (.int l11), some (.int (l12 + (1 : Int32)))] [] (wJ σ5 25 (l4).toNatClampNeg r5) Q))))) : am_X ru am_Lx IX3_tryParts (d + 1) 146 [some (.ref 11), some (.int l1), some (.int l2), some (.int l3), some (.int l4), some (.long l5), none, some (.long l7), none, some (.int l9), some (.int l10), some (.int l11), some (.int l12)] [] σ Q := (X_if (fun _ _ => blX3_tryParts_146 H.1) (fun z0 => (X_call (fun _ _ _ _ => blX3_tryParts_192) (K_mono (H.2.1 z0) (fun r1 σ1 q1 => (X_if (fun _ _ => blX3_tryParts_203) (fun z2 => (X_go (fun _ _ => blX3_tryParts_213) (q1.1 z2))) (fun z2 => (X_call (fun _ _ _ _ => blX3_tryParts_206) (K_mono (q1.2 z2) (fun _ σ2 q3 => (X_go (fun _ _ => blX3_tryParts_213) q3)))))))))) (fun z0 => (X_call (fun _ _ _ _ => blX3_tryParts_160 (H.2.2 z0).1) (K_mono (H.2.2 z0).2 (fun r3 σ3 q1 => (X_call (fun _ _ _ _ => blX3_tryParts_177) (K_mono q1 (fun r4 σ4 q2 => (X_call (fun _ _ _ _ => blX3_tryParts_182) (K_mono q2 (fun r5 σ5 q3 => (X_go (fun _ _ => blX3_tryParts_185 q3.1) q3.2))))))))))))
set_option maxRecDepth 20000 in
theorem vX3_copy {d : Nat} {σ : am_S} {Q : Unit → am_S → Prop} {l1 : Int32} (H :
    (¬ (l1 * (40 : Int32)) < 0) ∧
    (¬ ((l1 * (40 : Int32)) + (40 : Int32)) < 0) ∧
    (¬ (gS σ 16 7) < 0) ∧
    (((l1 * (40 : Int32))).toNatClampNeg + ((gS σ 16 7)).toNatClampNeg ≤ 1640) ∧
    ((((l1 * (40 : Int32)) + (40 : Int32))).toNatClampNeg + ((gS σ 16 7)).toNatClampNeg ≤ 1640) ∧
    (¬ (l1 * (40 : Int32)) < 0) ∧
    (¬ ((l1 * (40 : Int32)) + (40 : Int32)) < 0) ∧
    (¬ (gS σ 16 7) < 0) ∧
    (((l1 * (40 : Int32))).toNatClampNeg + ((gS σ 16 7)).toNatClampNeg ≤ 1640) ∧
    ((((l1 * (40 : Int32)) + (40 : Int32))).toNatClampNeg + ((gS σ 16 7)).toNatClampNeg ≤ 1640) ∧
    (¬ (l1 * (4 : Int32)) < 0) ∧
    (¬ ((l1 + (1 : Int32)) * (4 : Int32)) < 0) ∧
    (¬ (4 : Int32) < 0) ∧
    (((l1 * (4 : Int32))).toNatClampNeg + ((4 : Int32)).toNatClampNeg ≤ 164) ∧
    ((((l1 + (1 : Int32)) * (4 : Int32))).toNatClampNeg + ((4 : Int32)).toNatClampNeg ≤ 164) ∧
    Q () (wJf (wJf (wAf σ 24 (va_cpy (gA σ 24) (gA σ 24) ((l1 * (40 : Int32))).toNatClampNeg (((l1 * (40 : Int32)) + (40 : Int32))).toNatClampNeg ((gS σ 16 7)).toNatClampNeg)) 25 (va_cpy (gJ σ 25) (gJ σ 25) ((l1 * (40 : Int32))).toNatClampNeg (((l1 * (40 : Int32)) + (40 : Int32))).toNatClampNeg ((gS σ 16 7)).toNatClampNeg)) 26 (va_cpy (gJ σ 26) (gJ σ 26) ((l1 * (4 : Int32))).toNatClampNeg (((l1 + (1 : Int32)) * (4 : Int32))).toNatClampNeg ((4 : Int32)).toNatClampNeg))) : am_K ru am_Lx IX3_copy (d + 1) [.ref 11, .int l1] σ Q := K_of am_owX3_copy (Nat.le_of_ble_eq_true rfl) (X_ret (fun _ _ => blX3_copy_0 H.1 H.2.1 H.2.2.1 H.2.2.2.1 H.2.2.2.2.1 H.2.2.2.2.2.1 H.2.2.2.2.2.2.1 H.2.2.2.2.2.2.2.1 H.2.2.2.2.2.2.2.2.1 H.2.2.2.2.2.2.2.2.2.1 H.2.2.2.2.2.2.2.2.2.2.1 H.2.2.2.2.2.2.2.2.2.2.2.1 H.2.2.2.2.2.2.2.2.2.2.2.2.1 H.2.2.2.2.2.2.2.2.2.2.2.2.2.1 H.2.2.2.2.2.2.2.2.2.2.2.2.2.2.1) H.2.2.2.2.2.2.2.2.2.2.2.2.2.2.2)
set_option maxRecDepth 20000 in
theorem vX3_alike {d : Nat} {σ : am_S} {Q : Int32 → am_S → Prop} {l1 : Int32} {l2 : Int32} (H :
    (vp_in l1 40) ∧
    (gP σ 17 (l1).toNatClampNeg = none →
      (vp_in l2 64) ∧
      (gP σ 13 (l2).toNatClampNeg = none →
        Q (0 : Int32) σ) ∧
      (∀ t2, gP σ 13 (l2).toNatClampNeg = some t2 →
        False)) ∧
    (∀ t1, gP σ 17 (l1).toNatClampNeg = some t1 →
      (vp_in l2 64) ∧
      (gP σ 13 (l2).toNatClampNeg = none →
        Q (0 : Int32) σ) ∧
      (∀ t3, gP σ 13 (l2).toNatClampNeg = some t3 →
        (am_isT am_Lx σ t1) ∧
        (am_isT am_Lx σ t3) ∧
        (¬ (gS σ t1 0) = (gS σ t3 0) →
          Q (0 : Int32) σ) ∧
        ((gS σ t1 0) = (gS σ t3 0) →
          (am_isT am_Lx σ t1) ∧
          (am_isT am_Lx σ t3) ∧
          ((gS σ t1 1) = (gS σ t3 1) →
            (am_isT am_Lx σ t1) ∧
            (gQ σ t1 = none →
              False) ∧
            (∀ t4, gQ σ t1 = some t4 →
              (am_isA am_Lx σ t4) ∧
              (am_isT am_Lx σ t1) ∧
              (¬ (gS σ t1 0) = (2 : Int32) →
                (am_isT am_Lx σ t3) ∧
                (gQ σ t3 = none →
                  False) ∧
                (∀ t5, gQ σ t3 = some t5 →
                  (am_isA am_Lx σ t5) ∧
                  ((Int32.ofNat (am_rl am_Lx σ t5)) < (Int32.ofNat (am_rl am_Lx σ t4)) →
                    Q (0 : Int32) σ) ∧
                  (¬ (Int32.ofNat (am_rl am_Lx σ t5)) < (Int32.ofNat (am_rl am_Lx σ t4)) →
                    Q (1 : Int32) σ))) ∧
              ((gS σ t1 0) = (2 : Int32) →
                (am_isT am_Lx σ t3) ∧
                (gQ σ t3 = none →
                  False) ∧
                (∀ t6, gQ σ t3 = some t6 →
                  (am_isA am_Lx σ t6) ∧
                  (¬ (Int32.ofNat (am_rl am_Lx σ t4)) = (Int32.ofNat (am_rl am_Lx σ t6)) →
                    Q (0 : Int32) σ) ∧
                  ((Int32.ofNat (am_rl am_Lx σ t4)) = (Int32.ofNat (am_rl am_Lx σ t6)) →
                    Q (1 : Int32) σ))))) ∧
          (¬ (gS σ t1 1) = (gS σ t3 1) →
            Q (0 : Int32) σ))))) : am_K ri am_Lx IX3_alike (d + 1) [.ref 11, .int l1, .int l2] σ Q := K_of am_owX3_alike (Nat.le_of_ble_eq_true rfl) (X_opt (fun _ _ => blX3_alike_0 H.1) (fun z0 => (X_opt (fun _ _ => blX3_alike_9_n (H.2.1 z0).1) (fun z1 => (X_go (fun _ _ => blX3_alike_19_nn) (X_ret (fun _ _ => blX3_alike_50_nn (Or.inl rfl)) ((H.2.1 z0).2.1 z1)))) (fun t2 z1 => (X_go (fun _ _ => blX3_alike_19_nr) (False.elim ((H.2.1 z0).2.2 t2 z1)))))) (fun t1 z0 => (X_opt (fun _ _ => blX3_alike_9_r (H.2.2 t1 z0).1) (fun z1 => (X_go (fun _ _ => blX3_alike_19_rn) (X_ret (fun _ _ => blX3_alike_50_rn (Or.inl rfl)) ((H.2.2 t1 z0).2.1 z1)))) (fun t3 z1 => (X_go (fun _ _ => blX3_alike_19_rr) (X_ifn (fun _ _ => blX3_alike_26_r ((H.2.2 t1 z0).2.2 t3 z1).1 ((H.2.2 t1 z0).2.2 t3 z1).2.1) (fun z3 => (X_ret (fun _ _ => blX3_alike_50_rr (Or.inl rfl)) (((H.2.2 t1 z0).2.2 t3 z1).2.2.1 z3))) (fun z3 => (X_if (fun _ _ => blX3_alike_38 (((H.2.2 t1 z0).2.2 t3 z1).2.2.2 z3).1 (((H.2.2 t1 z0).2.2 t3 z1).2.2.2 z3).2.1) (fun z4 => (X_opt (fun _ _ => blX3_alike_52 ((((H.2.2 t1 z0).2.2 t3 z1).2.2.2 z3).2.2.1 z4).1) (fun z5 => (False.elim (((((H.2.2 t1 z0).2.2 t3 z1).2.2.2 z3).2.2.1 z4).2.1 z5))) (fun t4 z5 => (X_ifn (fun _ _ => blX3_alike_56_r (((((H.2.2 t1 z0).2.2 t3 z1).2.2.2 z3).2.2.1 z4).2.2 t4 z5).1 (((((H.2.2 t1 z0).2.2 t3 z1).2.2.2 z3).2.2.1 z4).2.2 t4 z5).2.1) (fun z6 => (X_opt (fun _ _ => blX3_alike_86 ((((((H.2.2 t1 z0).2.2 t3 z1).2.2.2 z3).2.2.1 z4).2.2 t4 z5).2.2.1 z6).1) (fun z7 => (False.elim (((((((H.2.2 t1 z0).2.2 t3 z1).2.2.2 z3).2.2.1 z4).2.2 t4 z5).2.2.1 z6).2.1 z7))) (fun t5 z7 => (X_if (fun _ _ => blX3_alike_93_r (((((((H.2.2 t1 z0).2.2 t3 z1).2.2.2 z3).2.2.1 z4).2.2 t4 z5).2.2.1 z6).2.2 t5 z7).1) (fun z8 => (X_go (fun _ _ => blX3_alike_101) (X_ret (fun _ _ => blX3_alike_102 (Or.inl rfl)) ((((((((H.2.2 t1 z0).2.2 t3 z1).2.2.2 z3).2.2.1 z4).2.2 t4 z5).2.2.1 z6).2.2 t5 z7).2.1 z8)))) (fun z8 => (X_go (fun _ _ => blX3_alike_97) (X_ret (fun _ _ => blX3_alike_102 (Or.inr rfl)) ((((((((H.2.2 t1 z0).2.2 t3 z1).2.2.2 z3).2.2.1 z4).2.2 t4 z5).2.2.1 z6).2.2 t5 z7).2.2 z8)))))))) (fun z6 => (X_opt (fun _ _ => blX3_alike_67 ((((((H.2.2 t1 z0).2.2 t3 z1).2.2.2 z3).2.2.1 z4).2.2 t4 z5).2.2.2 z6).1) (fun z7 => (False.elim (((((((H.2.2 t1 z0).2.2 t3 z1).2.2.2 z3).2.2.1 z4).2.2 t4 z5).2.2.2 z6).2.1 z7))) (fun t6 z7 => (X_ifn (fun _ _ => blX3_alike_74_r (((((((H.2.2 t1 z0).2.2 t3 z1).2.2.2 z3).2.2.1 z4).2.2 t4 z5).2.2.2 z6).2.2 t6 z7).1) (fun z8 => (X_go (fun _ _ => blX3_alike_82) (X_ret (fun _ _ => blX3_alike_102 (Or.inl rfl)) ((((((((H.2.2 t1 z0).2.2 t3 z1).2.2.2 z3).2.2.1 z4).2.2 t4 z5).2.2.2 z6).2.2 t6 z7).2.1 z8)))) (fun z8 => (X_go (fun _ _ => blX3_alike_78) (X_ret (fun _ _ => blX3_alike_102 (Or.inr rfl)) ((((((((H.2.2 t1 z0).2.2 t3 z1).2.2.2 z3).2.2.1 z4).2.2 t4 z5).2.2.2 z6).2.2 t6 z7).2.2 z8)))))))))))) (fun z4 => (X_ret (fun _ _ => blX3_alike_50_rr (Or.inl rfl)) ((((H.2.2 t1 z0).2.2 t3 z1).2.2.2 z3).2.2.2 z4)))))))))))
set_option maxRecDepth 20000 in
theorem vX3_assigned {d : Nat} {σ : am_S} {Q : Int32 → am_S → Prop} {l1 : Int32} {l2 : Int32} {l3 : Int32} {l4 : Int32} (H :
    (vp_in l2 40) ∧
    ((gA σ 18 (l2).toNatClampNeg) = 0 →
      (vp_in l2 40) ∧
      (gP σ 17 (l2).toNatClampNeg = none →
        False) ∧
      (∀ t1, gP σ 17 (l2).toNatClampNeg = some t1 →
        (am_isT am_Lx σ t1) ∧
        (¬ (gS σ t1 0) = 0 →
          ((40 : Int32) ≤ l4 →
            Q (0 : Int32) σ) ∧
          (¬ (40 : Int32) ≤ l4 →
            am_K ri am_Lx IX3_alike d [.ref 11, .int l2, .int l3] σ (fun r2 σ2 =>
              (¬ r2 = 0 →
                (vp_in l3 64) ∧
                (am_isT am_Lx σ2 t1) ∧
                (¬ (gS σ2 t1 0) = (2 : Int32) →
                  (vp_in l2 40) ∧
                  am_K rj am_Lx IX7_minus d [.long (gJ σ2 14 (l3).toNatClampNeg), .long (gJ σ2 23 (l2).toNatClampNeg)] σ2 (fun r3 σ3 =>
                    (vp_in ((l1 * (40 : Int32)) + l2) 1640) ∧
                    (vp_in l2 40) ∧
                    (vp_in ((l1 * (40 : Int32)) + l2) 1640) ∧
                    ((lg_cmp r3 (-1 : Int64)) = 0 →
                      Q (0 : Int32) (wA (wJ σ3 25 (((l1 * (40 : Int32)) + l2)).toNatClampNeg r3) 24 (((l1 * (40 : Int32)) + l2)).toNatClampNeg (((1 : Int32) <<< ((gA σ3 22 (l2).toNatClampNeg) &&& 31)) - (1 : Int32)))) ∧
                    (¬ (lg_cmp r3 (-1 : Int64)) = 0 →
                      Q (1 : Int32) (wA (wJ σ3 25 (((l1 * (40 : Int32)) + l2)).toNatClampNeg r3) 24 (((l1 * (40 : Int32)) + l2)).toNatClampNeg (((1 : Int32) <<< ((gA σ3 22 (l2).toNatClampNeg) &&& 31)) - (1 : Int32)))))) ∧
                ((gS σ2 t1 0) = (2 : Int32) →
                  am_X ri am_Lx IX3_assigned (d + 1) 121 [some (.ref 11), some (.int l1), some (.int l2), some (.int l3), some (.int l4), some (.ref t1), some (.long (gJ σ2 14 (l3).toNatClampNeg)), none, some (.int (1 : Int32)), some (.int (0 : Int32)), none] [] σ2 Q)) ∧
              (r2 = 0 →
                Q (0 : Int32) σ2)))) ∧
        ((gS σ t1 0) = 0 →
          (am_isT am_Lx σ t1) ∧
          am_K ri am_Lx IX4_rankOf d [.ref 16, .int (gS σ t1 1)] σ (fun r4 σ4 =>
            (vp_in l3 64) ∧
            am_K ri am_Lx IX3_bound d [.ref 11, .int l1, .int r4, .long (gJ σ4 15 (l3).toNatClampNeg)] σ4 (fun r5 σ5 =>
              (r5 = 0 ∨ r5 = 1) ∧ Q r5 σ5))))) ∧
    (¬ (gA σ 18 (l2).toNatClampNeg) = 0 →
      (vp_in l2 40) ∧
      (¬ (gA σ 18 (l2).toNatClampNeg) = l3 →
        Q (0 : Int32) σ) ∧
      ((gA σ 18 (l2).toNatClampNeg) = l3 →
        Q (1 : Int32) σ))) : am_K ri am_Lx IX3_assigned (d + 1) [.ref 11, .int l1, .int l2, .int l3, .int l4] σ Q := K_of am_owX3_assigned (Nat.le_of_ble_eq_true rfl) (X_if (fun _ _ => blX3_assigned_0 H.1) (fun z0 => (X_opt (fun _ _ => blX3_assigned_31 (H.2.1 z0).1) (fun z1 => (False.elim ((H.2.1 z0).2.1 z1))) (fun t1 z1 => (X_ifn (fun _ _ => blX3_assigned_40_r ((H.2.1 z0).2.2 t1 z1).1) (fun z2 => (X_if (fun _ _ => blX3_assigned_77) (fun z3 => (X_ret (fun _ _ => blX3_assigned_93 (Or.inl rfl)) ((((H.2.1 z0).2.2 t1 z1).2.1 z2).1 z3))) (fun z3 => (X_call (fun _ _ _ _ => blX3_assigned_84) (K_mono ((((H.2.1 z0).2.2 t1 z1).2.1 z2).2 z3) (fun r2 σ2 q4 => (X_ifn (fun _ _ => blX3_assigned_90) (fun z5 => (X_ifn (fun _ _ => blX3_assigned_95 (q4.1 z5).1 (q4.1 z5).2.1) (fun z6 => (X_call (fun _ _ _ _ => blX3_assigned_179 ((q4.1 z5).2.2.1 z6).1) (K_mono ((q4.1 z5).2.2.1 z6).2 (fun r3 σ3 q7 => (X_if (fun _ _ => blX3_assigned_193 q7.1 q7.2.1 q7.2.2.1) (fun z8 => (X_go (fun _ _ => blX3_assigned_245) (X_ret (fun _ _ => blX3_assigned_246 (Or.inl rfl)) (q7.2.2.2.1 z8)))) (fun z8 => (X_go (fun _ _ => blX3_assigned_241) (X_ret (fun _ _ => blX3_assigned_246 (Or.inr rfl)) (q7.2.2.2.2 z8))))))))) (fun z6 => (X_go (fun _ _ => blX3_assigned_118) ((q4.1 z5).2.2.2 z6))))) (fun z5 => (X_ret (fun _ _ => blX3_assigned_93 (Or.inl rfl)) (q4.2 z5)))))))))) (fun z2 => (X_call (fun _ _ _ _ => blX3_assigned_50 (((H.2.1 z0).2.2 t1 z1).2.2 z2).1) (K_mono (((H.2.1 z0).2.2 t1 z1).2.2 z2).2 (fun r4 σ4 q3 => (X_call (fun _ _ _ _ => blX3_assigned_64 q3.1) (K_mono q3.2 (fun r5 σ5 q4 => (X_ret (fun _ _ => blX3_assigned_76 q4.1) q4.2)))))))))))) (fun z0 => (X_ifn (fun _ _ => blX3_assigned_12 (H.2.2 z0).1) (fun z1 => (X_go (fun _ _ => blX3_assigned_29) (X_ret (fun _ _ => blX3_assigned_30 (Or.inl rfl)) ((H.2.2 z0).2.1 z1)))) (fun z1 => (X_go (fun _ _ => blX3_assigned_25) (X_ret (fun _ _ => blX3_assigned_30 (Or.inr rfl)) ((H.2.2 z0).2.2 z1)))))))
set_option maxRecDepth 20000 in
theorem vX3_assigned_121 {d : Nat} {σ : am_S} {Q : Int32 → am_S → Prop} {l1 : Int32} {l2 : Int32} {l3 : Int32} {l4 : Int32} {l5 : Nat} {l6 : Int64} {l8 : Int32} {l9 : Int32} (H :
    (l8 = 0 →
      (l8 = 0 ∨ l8 = 1) ∧ Q l8 σ) ∧
    (¬ l8 = 0 →
      (vp_in l2 40) ∧
      ((gA σ 22 (l2).toNatClampNeg) ≤ l9 →
        (l8 = 0 ∨ l8 = 1) ∧ Q l8 σ) ∧
      (¬ (gA σ 22 (l2).toNatClampNeg) ≤ l9 →
        (vp_in l2 40) ∧
        am_K ri am_Lx IX7_at d [.long l6, .int l9] σ (fun r1 σ1 =>
          am_K ri am_Lx IX3_assigned d [.ref 11, .int l1, .int ((gA σ 21 (l2).toNatClampNeg) + l9), .int r1, .int (l4 + (1 : Int32))] σ1 (fun r2 σ2 =>
            am_X ri am_Lx IX3_assigned (d + 1) 121 [some (.ref 11), some (.int l1), some (.int l2), some (.int l3), some (.int l4), some (.ref l5), some (.long l6), none, some (.int r2), some (.int (l9 + (1 : Int32))), none] [] σ2 Q))))) : am_X ri am_Lx IX3_assigned (d + 1) 121 [some (.ref 11), some (.int l1), some (.int l2), some (.int l3), some (.int l4), some (.ref l5), some (.long l6), none, some (.int l8), some (.int l9), none] [] σ Q := (X_if (fun _ _ => blX3_assigned_121) (fun z0 => (X_ret (fun _ _ => blX3_assigned_176 (H.1 z0).1) (H.1 z0).2)) (fun z0 => (X_if (fun _ _ => blX3_assigned_126 (H.2 z0).1) (fun z1 => (X_ret (fun _ _ => blX3_assigned_176 ((H.2 z0).2.1 z1).1) ((H.2 z0).2.1 z1).2)) (fun z1 => (X_call (fun _ _ _ _ => blX3_assigned_140 ((H.2 z0).2.2 z1).1) (K_mono ((H.2 z0).2.2 z1).2 (fun r1 σ1 q2 => (X_call (fun _ _ _ _ => blX3_assigned_161) (K_mono q2 (fun r2 σ2 q3 => (X_go (fun _ _ => blX3_assigned_168) q3)))))))))))
set_option maxRecDepth 20000 in
theorem vX3_bound {d : Nat} {σ : am_S} {Q : Int32 → am_S → Prop} {l1 : Int32} {l2 : Int32} {l3 : Int64} (H :
    (vp_in ((l1 * (4 : Int32)) + l2) 164) ∧
    (¬ (lg_cmp (gJ σ 26 (((l1 * (4 : Int32)) + l2)).toNatClampNeg) (0 : Int64)) = 0 →
      (vp_in ((l1 * (4 : Int32)) + l2) 164) ∧
      (¬ (lg_cmp (gJ σ 26 (((l1 * (4 : Int32)) + l2)).toNatClampNeg) l3) = 0 →
        Q (0 : Int32) σ) ∧
      ((lg_cmp (gJ σ 26 (((l1 * (4 : Int32)) + l2)).toNatClampNeg) l3) = 0 →
        Q (1 : Int32) σ)) ∧
    ((lg_cmp (gJ σ 26 (((l1 * (4 : Int32)) + l2)).toNatClampNeg) (0 : Int64)) = 0 →
      (vp_in ((l1 * (4 : Int32)) + l2) 164) ∧
      (vp_in ((l1 * (4 : Int32)) + l2) 164) ∧
      (¬ (lg_cmp (gJ (wJ σ 26 (((l1 * (4 : Int32)) + l2)).toNatClampNeg l3) 26 (((l1 * (4 : Int32)) + l2)).toNatClampNeg) l3) = 0 →
        Q (0 : Int32) (wJ σ 26 (((l1 * (4 : Int32)) + l2)).toNatClampNeg l3)) ∧
      ((lg_cmp (gJ (wJ σ 26 (((l1 * (4 : Int32)) + l2)).toNatClampNeg l3) 26 (((l1 * (4 : Int32)) + l2)).toNatClampNeg) l3) = 0 →
        Q (1 : Int32) (wJ σ 26 (((l1 * (4 : Int32)) + l2)).toNatClampNeg l3)))) : am_K ri am_Lx IX3_bound (d + 1) [.ref 11, .int l1, .int l2, .long l3] σ Q := K_of am_owX3_bound (Nat.le_of_ble_eq_true rfl) (X_ifn (fun _ _ => blX3_bound_0 H.1) (fun z0 => (X_ifn (fun _ _ => blX3_bound_27 (H.2.1 z0).1) (fun z1 => (X_go (fun _ _ => blX3_bound_43) (X_ret (fun _ _ => blX3_bound_44 (Or.inl rfl)) ((H.2.1 z0).2.1 z1)))) (fun z1 => (X_go (fun _ _ => blX3_bound_39) (X_ret (fun _ _ => blX3_bound_44 (Or.inr rfl)) ((H.2.1 z0).2.2 z1)))))) (fun z0 => (X_go (fun _ _ => blX3_bound_19 (H.2.2 z0).1) (X_ifn (fun _ _ => blX3_bound_27 (H.2.2 z0).2.1) (fun z2 => (X_go (fun _ _ => blX3_bound_43) (X_ret (fun _ _ => blX3_bound_44 (Or.inl rfl)) ((H.2.2 z0).2.2.1 z2)))) (fun z2 => (X_go (fun _ _ => blX3_bound_39) (X_ret (fun _ _ => blX3_bound_44 (Or.inr rfl)) ((H.2.2 z0).2.2.2 z2))))))))
set_option maxRecDepth 20000 in
theorem vX3_settled {d : Nat} {σ : am_S} {Q : Int32 → am_S → Prop} {l1 : Int32} (H :
    am_X ri am_Lx IX3_settled (d + 1) 4 [some (.ref 11), some (.int l1), some (.int (1 : Int32)), some (.int (0 : Int32)), none, none] [] σ Q) : am_K ri am_Lx IX3_settled (d + 1) [.ref 11, .int l1] σ Q := K_of am_owX3_settled (Nat.le_of_ble_eq_true rfl) (X_go (fun _ _ => blX3_settled_0) H)
set_option maxRecDepth 20000 in
theorem vX3_settled_4 {d : Nat} {σ : am_S} {Q : Int32 → am_S → Prop} {l1 : Int32} {l2 : Int32} {l3 : Int32} (H :
    (l2 = 0 →
      Q (1 : Int32) σ) ∧
    (¬ l2 = 0 →
      ((40 : Int32) < l3 →
        Q (1 : Int32) σ) ∧
      (¬ (40 : Int32) < l3 →
        am_X ri am_Lx IX3_settled (d + 1) 19 [some (.ref 11), some (.int l1), some (.int (0 : Int32)), some (.int l3), some (.int (0 : Int32)), none] [] σ Q))) : am_X ri am_Lx IX3_settled (d + 1) 4 [some (.ref 11), some (.int l1), some (.int l2), some (.int l3), none, none] [] σ Q := (X_if (fun _ _ => blX3_settled_4) (fun z0 => (X_ret (fun _ _ => blX3_settled_109 (Or.inr rfl)) (H.1 z0))) (fun z0 => (X_if (fun _ _ => blX3_settled_8) (fun z1 => (X_ret (fun _ _ => blX3_settled_109 (Or.inr rfl)) ((H.2 z0).1 z1))) (fun z1 => (X_go (fun _ _ => blX3_settled_14) ((H.2 z0).2 z1))))))
set_option maxRecDepth 20000 in
theorem vX3_settled_19 {d : Nat} {σ : am_S} {Q : Int32 → am_S → Prop} {l1 : Int32} {l2 : Int32} {l3 : Int32} {l4 : Int32} (H :
    ((gS σ 16 7) ≤ l4 →
      am_X ri am_Lx IX3_settled (d + 1) 4 [some (.ref 11), some (.int l1), some (.int l2), some (.int (l3 + (1 : Int32))), none, none] [] σ Q) ∧
    (¬ (gS σ 16 7) ≤ l4 →
      (vp_in ((l1 * (40 : Int32)) + l4) 1640) ∧
      ((gA σ 24 (((l1 * (40 : Int32)) + l4)).toNatClampNeg) = 0 →
        am_X ri am_Lx IX3_settled (d + 1) 19 [some (.ref 11), some (.int l1), some (.int l2), some (.int l3), some (.int (l4 + (1 : Int32))), none] [] σ Q) ∧
      (¬ (gA σ 24 (((l1 * (40 : Int32)) + l4)).toNatClampNeg) = 0 →
        am_K ri am_Lx IX3_takesBound d [.ref 11, .int l1, .int l4] σ (fun r1 σ1 =>
          (r1 = 0 →
            Q (0 : Int32) σ1) ∧
          (¬ r1 = 0 →
            am_K ri am_Lx IX3_placesLast d [.ref 11, .int l1, .int l4] σ1 (fun r2 σ2 =>
              (¬ r2 = 0 →
                (vp_in ((l1 * (40 : Int32)) + l4) 1640) ∧
                ((gA σ2 24 (((l1 * (40 : Int32)) + l4)).toNatClampNeg) = (gA σ 24 (((l1 * (40 : Int32)) + l4)).toNatClampNeg) →
                  am_X ri am_Lx IX3_settled (d + 1) 19 [some (.ref 11), some (.int l1), some (.int (l2 ||| (0 : Int32))), some (.int l3), some (.int (l4 + (1 : Int32))), none] [] σ2 Q) ∧
                (¬ (gA σ2 24 (((l1 * (40 : Int32)) + l4)).toNatClampNeg) = (gA σ 24 (((l1 * (40 : Int32)) + l4)).toNatClampNeg) →
                  am_X ri am_Lx IX3_settled (d + 1) 19 [some (.ref 11), some (.int l1), some (.int (l2 ||| (1 : Int32))), some (.int l3), some (.int (l4 + (1 : Int32))), none] [] σ2 Q)) ∧
              (r2 = 0 →
                Q (0 : Int32) σ2))))))) : am_X ri am_Lx IX3_settled (d + 1) 19 [some (.ref 11), some (.int l1), some (.int l2), some (.int l3), some (.int l4), none] [] σ Q := (X_if (fun _ _ => blX3_settled_19) (fun z0 => (X_go (fun _ _ => blX3_settled_103) (H.1 z0))) (fun z0 => (X_if (fun _ _ => blX3_settled_31 (H.2 z0).1) (fun z1 => (X_go (fun _ _ => blX3_settled_97) ((H.2 z0).2.1 z1))) (fun z1 => (X_call (fun _ _ _ _ => blX3_settled_50) (K_mono ((H.2 z0).2.2 z1) (fun r1 σ1 q2 => (X_if (fun _ _ => blX3_settled_57) (fun z3 => (X_ret (fun _ _ => blX3_settled_70 (Or.inl rfl)) (q2.1 z3))) (fun z3 => (X_call (fun _ _ _ _ => blX3_settled_60) (K_mono (q2.2 z3) (fun r2 σ2 q4 => (X_ifn (fun _ _ => blX3_settled_67) (fun z5 => (X_if (fun _ _ => blX3_settled_72 (q4.1 z5).1) (fun z6 => (X_go (fun _ _ => blX3_settled_94) (X_go (fun _ _ => blX3_settled_95) (X_go (fun _ _ => blX3_settled_97) ((q4.1 z5).2.1 z6))))) (fun z6 => (X_go (fun _ _ => blX3_settled_90) (X_go (fun _ _ => blX3_settled_95) (X_go (fun _ _ => blX3_settled_97) ((q4.1 z5).2.2 z6))))))) (fun z5 => (X_ret (fun _ _ => blX3_settled_70 (Or.inl rfl)) (q4.2 z5))))))))))))))))
set_option maxRecDepth 20000 in
theorem vX3_takesBound {d : Nat} {σ : am_S} {Q : Int32 → am_S → Prop} {l1 : Int32} {l2 : Int32} (H :
    am_X ri am_Lx IX3_takesBound (d + 1) 10 [some (.ref 11), some (.int l1), some (.int l2), some (.int ((l1 * (40 : Int32)) + l2)), some (.int (0 : Int32)), none, none, none, none, none] [] σ Q) : am_K ri am_Lx IX3_takesBound (d + 1) [.ref 11, .int l1, .int l2] σ Q := K_of am_owX3_takesBound (Nat.le_of_ble_eq_true rfl) (X_go (fun _ _ => blX3_takesBound_0) H)
set_option maxRecDepth 20000 in
theorem vX3_takesBound_10 {d : Nat} {σ : am_S} {Q : Int32 → am_S → Prop} {l1 : Int32} {l2 : Int32} {l3 : Int32} {l4 : Int32} (H :
    (vp_in l2 40) ∧
    ((gA σ 22 (l2).toNatClampNeg) ≤ l4 →
      Q (1 : Int32) σ) ∧
    (¬ (gA σ 22 (l2).toNatClampNeg) ≤ l4 →
      (vp_in l2 40) ∧
      (vp_in ((gA σ 21 (l2).toNatClampNeg) + l4) 40) ∧
      (gP σ 17 (((gA σ 21 (l2).toNatClampNeg) + l4)).toNatClampNeg = none →
        False) ∧
      (∀ t1, gP σ 17 (((gA σ 21 (l2).toNatClampNeg) + l4)).toNatClampNeg = some t1 →
        (am_isT am_Lx σ t1) ∧
        (¬ (gS σ t1 0) = 0 →
          (vp_in l3 1640) ∧
          ((((gA σ 24 (l3).toNatClampNeg) >>> (l4 &&& 31)) &&& (1 : Int32)) = 0 →
            am_X ri am_Lx IX3_takesBound (d + 1) 10 [some (.ref 11), some (.int l1), some (.int l2), some (.int l3), some (.int (l4 + (1 : Int32))), none, none, none, none, none] [] σ Q) ∧
          (¬ (((gA σ 24 (l3).toNatClampNeg) >>> (l4 &&& 31)) &&& (1 : Int32)) = 0 →
            ((lg_cmp (0 : Int64) (0 : Int64)) = 0 →
              am_X ri am_Lx IX3_takesBound (d + 1) 10 [some (.ref 11), some (.int l1), some (.int l2), some (.int l3), some (.int (l4 + (1 : Int32))), none, none, none, none, none] [] σ Q) ∧
            (¬ (lg_cmp (0 : Int64) (0 : Int64)) = 0 →
              am_X ri am_Lx IX3_takesBound (d + 1) 109 [some (.ref 11), some (.int l1), some (.int l2), some (.int l3), some (.int l4), some (.int ((gA σ 21 (l2).toNatClampNeg) + l4)), some (.ref t1), some (.long (0 : Int64)), none, some (.int (0 : Int32))] [] σ Q))) ∧
        ((gS σ t1 0) = 0 →
          (am_isT am_Lx σ t1) ∧
          am_K ri am_Lx IX4_rankOf d [.ref 16, .int (gS σ t1 1)] σ (fun r2 σ2 =>
            (vp_in ((l1 * (4 : Int32)) + r2) 164) ∧
            (vp_in l3 1640) ∧
            ((((gA σ2 24 (l3).toNatClampNeg) >>> (l4 &&& 31)) &&& (1 : Int32)) = 0 →
              am_X ri am_Lx IX3_takesBound (d + 1) 10 [some (.ref 11), some (.int l1), some (.int l2), some (.int l3), some (.int (l4 + (1 : Int32))), none, none, none, none, none] [] σ2 Q) ∧
            (¬ (((gA σ2 24 (l3).toNatClampNeg) >>> (l4 &&& 31)) &&& (1 : Int32)) = 0 →
              ((lg_cmp (gJ σ2 26 (((l1 * (4 : Int32)) + r2)).toNatClampNeg) (0 : Int64)) = 0 →
                am_X ri am_Lx IX3_takesBound (d + 1) 10 [some (.ref 11), some (.int l1), some (.int l2), some (.int l3), some (.int (l4 + (1 : Int32))), none, none, none, none, none] [] σ2 Q) ∧
              (¬ (lg_cmp (gJ σ2 26 (((l1 * (4 : Int32)) + r2)).toNatClampNeg) (0 : Int64)) = 0 →
                am_X ri am_Lx IX3_takesBound (d + 1) 109 [some (.ref 11), some (.int l1), some (.int l2), some (.int l3), some (.int l4), some (.int ((gA σ 21 (l2).toNatClampNeg) + l4)), some (.ref t1), some (.long (gJ σ2 26 (((l1 * (4 : Int32)) + r2)).toNatClampNeg)), none, some (.int (0 : Int32))] [] σ2 Q))))))) : am_X ri am_Lx IX3_takesBound (d + 1) 10 [some (.ref 11), some (.int l1), some (.int l2), some (.int l3), some (.int l4), none, none, none, none, none] [] σ Q := (X_if (fun _ _ => blX3_takesBound_10 H.1) (fun z0 => (X_ret (fun _ _ => blX3_takesBound_184 (Or.inr rfl)) (H.2.1 z0))) (fun z0 => (X_opt (fun _ _ => blX3_takesBound_24 (H.2.2 z0).1 (H.2.2 z0).2.1) (fun z1 => (False.elim ((H.2.2 z0).2.2.1 z1))) (fun t1 z1 => (X_ifn (fun _ _ => blX3_takesBound_48_r ((H.2.2 z0).2.2.2 t1 z1).1) (fun z2 => (X_go (fun _ _ => blX3_takesBound_82) (X_if (fun _ _ => blX3_takesBound_83 (((H.2.2 z0).2.2.2 t1 z1).2.1 z2).1) (fun z4 => (X_go (fun _ _ => blX3_takesBound_178) ((((H.2.2 z0).2.2.2 t1 z1).2.1 z2).2.1 z4))) (fun z4 => (X_if (fun _ _ => blX3_takesBound_99) (fun z5 => (X_go (fun _ _ => blX3_takesBound_178) (((((H.2.2 z0).2.2.2 t1 z1).2.1 z2).2.2 z4).1 z5))) (fun z5 => (X_go (fun _ _ => blX3_takesBound_106) (((((H.2.2 z0).2.2.2 t1 z1).2.1 z2).2.2 z4).2 z5)))))))) (fun z2 => (X_call (fun _ _ _ _ => blX3_takesBound_58 (((H.2.2 z0).2.2.2 t1 z1).2.2 z2).1) (K_mono (((H.2.2 z0).2.2.2 t1 z1).2.2 z2).2 (fun r2 σ2 q3 => (X_go (fun _ _ => blX3_takesBound_77 q3.1) (X_if (fun _ _ => blX3_takesBound_83 q3.2.1) (fun z5 => (X_go (fun _ _ => blX3_takesBound_178) (q3.2.2.1 z5))) (fun z5 => (X_if (fun _ _ => blX3_takesBound_99) (fun z6 => (X_go (fun _ _ => blX3_takesBound_178) ((q3.2.2.2 z5).1 z6))) (fun z6 => (X_go (fun _ _ => blX3_takesBound_106) ((q3.2.2.2 z5).2 z6))))))))))))))))
set_option maxRecDepth 20000 in
theorem vX3_takesBound_109 {d : Nat} {σ : am_S} {Q : Int32 → am_S → Prop} {l1 : Int32} {l2 : Int32} {l3 : Int32} {l4 : Int32} {l5 : Int32} {l6 : Nat} {l7 : Int64} {l9 : Int32} (H :
    (vp_in l5 40) ∧
    ((gA σ 19 (l5).toNatClampNeg) ≤ l9 →
      (vp_in l3 1640) ∧
      (vp_in l3 1640) ∧
      am_X ri am_Lx IX3_takesBound (d + 1) 10 [some (.ref 11), some (.int l1), some (.int l2), some (.int l3), some (.int (l4 + (1 : Int32))), none, none, none, none, none] [] (wA σ 24 (l3).toNatClampNeg ((gA σ 24 (l3).toNatClampNeg) &&& (((1 : Int32) <<< (l4 &&& 31)) ^^^ (-1 : Int32)))) Q) ∧
    (¬ (gA σ 19 (l5).toNatClampNeg) ≤ l9 →
      (vp_in l3 1640) ∧
      am_K rj am_Lx IX3_less d [.ref 11, .long (gJ σ 25 (l3).toNatClampNeg), .long l7] σ (fun r1 σ1 =>
        (vp_in l3 1640) ∧
        (vp_in l3 1640) ∧
        (¬ (lg_cmp (gJ (wJ σ1 25 (l3).toNatClampNeg r1) 25 (l3).toNatClampNeg) (-1 : Int64)) = 0 →
          am_X ri am_Lx IX3_takesBound (d + 1) 109 [some (.ref 11), some (.int l1), some (.int l2), some (.int l3), some (.int l4), some (.int l5), some (.ref l6), some (.long l7), none, some (.int (l9 + (1 : Int32)))] [] (wJ σ1 25 (l3).toNatClampNeg r1) Q) ∧
        ((lg_cmp (gJ (wJ σ1 25 (l3).toNatClampNeg r1) 25 (l3).toNatClampNeg) (-1 : Int64)) = 0 →
          Q (0 : Int32) (wJ σ1 25 (l3).toNatClampNeg r1))))) : am_X ri am_Lx IX3_takesBound (d + 1) 109 [some (.ref 11), some (.int l1), some (.int l2), some (.int l3), some (.int l4), some (.int l5), some (.ref l6), some (.long l7), none, some (.int l9)] [] σ Q := (X_if (fun _ _ => blX3_takesBound_109 H.1) (fun z0 => (X_go (fun _ _ => blX3_takesBound_163 (H.2.1 z0).1 (H.2.1 z0).2.1) (X_go (fun _ _ => blX3_takesBound_178) (H.2.1 z0).2.2))) (fun z0 => (X_call (fun _ _ _ _ => blX3_takesBound_124 (H.2.2 z0).1) (K_mono (H.2.2 z0).2 (fun r1 σ1 q1 => (X_ifn (fun _ _ => blX3_takesBound_141 q1.1 q1.2.1) (fun z2 => (X_go (fun _ _ => blX3_takesBound_157) (q1.2.2.1 z2))) (fun z2 => (X_ret (fun _ _ => blX3_takesBound_155 (Or.inl rfl)) (q1.2.2.2 z2)))))))))
set_option maxRecDepth 20000 in
theorem vX3_less {d : Nat} {σ : am_S} {Q : Int64 → am_S → Prop} {l1 : Int64} {l3 : Int64} (H :
    am_K ri am_Lx IX7_kind d [.long l1] σ (fun r1 σ1 =>
      am_K ri am_Lx IX7_kind d [.long l3] σ1 (fun r2 σ2 =>
        (¬ r1 = r2 →
          am_K ri am_Lx IX7_size d [.long l1] σ2 (fun r3 σ3 =>
            am_X rj am_Lx IX3_less (d + 1) 26 [some (.ref 11), some (.long l1), none, some (.long l3), none, some (.int r3), some (.int (0 : Int32))] [] σ3 Q)) ∧
        (r1 = r2 →
          am_K rj am_Lx IX7_minus d [.long l1, .long l3] σ2 (fun r4 σ4 =>
            Q r4 σ4))))) : am_K rj am_Lx IX3_less (d + 1) [.ref 11, .long l1, .long l3] σ Q := K_of am_owX3_less (Nat.le_of_ble_eq_true rfl) (X_call (fun _ _ _ _ => blX3_less_0) (K_mono H (fun r1 σ1 q0 => (X_call (fun _ _ _ _ => blX3_less_4) (K_mono q0 (fun r2 σ2 q1 => (X_ifn (fun _ _ => blX3_less_8) (fun z2 => (X_call (fun _ _ _ _ => blX3_less_17) (K_mono (q1.1 z2) (fun r3 σ3 q3 => (X_go (fun _ _ => blX3_less_21) q3))))) (fun z2 => (X_call (fun _ _ _ _ => blX3_less_11) (K_mono (q1.2 z2) (fun r4 σ4 q3 => (X_ret (fun _ _ => blX3_less_16) q3))))))))))))
set_option maxRecDepth 20000 in
theorem vX3_less_26 {d : Nat} {σ : am_S} {Q : Int64 → am_S → Prop} {l1 : Int64} {l3 : Int64} {l5 : Int32} {l6 : Int32} (H :
    (l5 ≤ l6 →
      Q (-1 : Int64) σ) ∧
    (¬ l5 ≤ l6 →
      am_K ri am_Lx IX7_at d [.long l1, .int l6] σ (fun r1 σ1 =>
        (vp_in r1 64) ∧
        (¬ (lg_cmp (gJ σ1 15 (r1).toNatClampNeg) l3) = 0 →
          am_X rj am_Lx IX3_less (d + 1) 26 [some (.ref 11), some (.long l1), none, some (.long l3), none, some (.int l5), some (.int (l6 + (1 : Int32)))] [] σ1 Q) ∧
        ((lg_cmp (gJ σ1 15 (r1).toNatClampNeg) l3) = 0 →
          am_K rj am_Lx IX7_without d [.long l1, .int l6] σ1 (fun r2 σ2 =>
            Q r2 σ2))))) : am_X rj am_Lx IX3_less (d + 1) 26 [some (.ref 11), some (.long l1), none, some (.long l3), none, some (.int l5), some (.int l6)] [] σ Q := (X_if (fun _ _ => blX3_less_26) (fun z0 => (X_ret (fun _ _ => blX3_less_65) (H.1 z0))) (fun z0 => (X_call (fun _ _ _ _ => blX3_less_33) (K_mono (H.2 z0) (fun r1 σ1 q1 => (X_ifn (fun _ _ => blX3_less_46 q1.1) (fun z2 => (X_go (fun _ _ => blX3_less_59) (q1.2.1 z2))) (fun z2 => (X_call (fun _ _ _ _ => blX3_less_52) (K_mono (q1.2.2 z2) (fun r2 σ2 q3 => (X_ret (fun _ _ => blX3_less_58) q3)))))))))))
set_option maxRecDepth 20000 in
theorem vX3_placesLast {d : Nat} {σ : am_S} {Q : Int32 → am_S → Prop} {l1 : Int32} {l2 : Int32} (H :
    am_X ri am_Lx IX3_placesLast (d + 1) 19 [some (.ref 11), some (.int l1), some (.int l2), some (.int ((l1 * (40 : Int32)) + l2)), some (.int (0 : Int32)), some (.int (-1 : Int32)), some (.int (0 : Int32)), some (.int (0 : Int32)), none, none] [] σ Q) : am_K ri am_Lx IX3_placesLast (d + 1) [.ref 11, .int l1, .int l2] σ Q := K_of am_owX3_placesLast (Nat.le_of_ble_eq_true rfl) (X_go (fun _ _ => blX3_placesLast_0) H)
set_option maxRecDepth 20000 in
theorem vX3_placesLast_19 {d : Nat} {σ : am_S} {Q : Int32 → am_S → Prop} {l1 : Int32} {l2 : Int32} {l3 : Int32} {l4 : Int32} {l5 : Int32} {l6 : Int32} {l7 : Int32} (H :
    (vp_in l2 40) ∧
    ((gA σ 22 (l2).toNatClampNeg) ≤ l7 →
      (vp_in l3 1640) ∧
      am_K ri am_Lx IX7_size d [.long (gJ σ 25 (l3).toNatClampNeg)] σ (fun r1 σ1 =>
        (r1 < l4 →
          Q (0 : Int32) σ1) ∧
        (¬ r1 < l4 →
          (¬ l6 = 0 →
            am_X ri am_Lx IX3_placesLast (d + 1) 140 [some (.ref 11), some (.int l1), some (.int l2), some (.int l3), some (.int l4), some (.int l5), some (.int l6), some (.int r1), none, none] [] σ1 Q) ∧
          (l6 = 0 →
            (r1 ≤ l4 →
              am_X ri am_Lx IX3_placesLast (d + 1) 140 [some (.ref 11), some (.int l1), some (.int l2), some (.int l3), some (.int l4), some (.int l5), some (.int l6), some (.int r1), none, none] [] σ1 Q) ∧
            (¬ r1 ≤ l4 →
              Q (0 : Int32) σ1))))) ∧
    (¬ (gA σ 22 (l2).toNatClampNeg) ≤ l7 →
      (vp_in l3 1640) ∧
      ((((gA σ 24 (l3).toNatClampNeg) >>> (l7 &&& 31)) &&& (1 : Int32)) = 0 →
        am_X ri am_Lx IX3_placesLast (d + 1) 19 [some (.ref 11), some (.int l1), some (.int l2), some (.int l3), some (.int l4), some (.int l5), some (.int l6), some (.int (l7 + (1 : Int32))), none, none] [] σ Q) ∧
      (¬ (((gA σ 24 (l3).toNatClampNeg) >>> (l7 &&& 31)) &&& (1 : Int32)) = 0 →
        (vp_in l2 40) ∧
        (vp_in ((gA σ 21 (l2).toNatClampNeg) + l7) 40) ∧
        (vp_in ((gA σ 21 (l2).toNatClampNeg) + l7) 40) ∧
        (gP σ 17 (((gA σ 21 (l2).toNatClampNeg) + l7)).toNatClampNeg = none →
          False) ∧
        (∀ t2, gP σ 17 (((gA σ 21 (l2).toNatClampNeg) + l7)).toNatClampNeg = some t2 →
          (am_isT am_Lx σ t2) ∧
          (¬ (gS σ t2 0) = 0 →
            am_X ri am_Lx IX3_placesLast (d + 1) 19 [some (.ref 11), some (.int l1), some (.int l2), some (.int l3), some (.int (l4 + (gA σ 19 (((gA σ 21 (l2).toNatClampNeg) + l7)).toNatClampNeg))), some (.int ((gA σ 21 (l2).toNatClampNeg) + l7)), some (.int (l6 ||| (0 : Int32))), some (.int (l7 + (1 : Int32))), none, none] [] σ Q) ∧
          ((gS σ t2 0) = 0 →
            am_X ri am_Lx IX3_placesLast (d + 1) 19 [some (.ref 11), some (.int l1), some (.int l2), some (.int l3), some (.int (l4 + (gA σ 19 (((gA σ 21 (l2).toNatClampNeg) + l7)).toNatClampNeg))), some (.int ((gA σ 21 (l2).toNatClampNeg) + l7)), some (.int (l6 ||| (1 : Int32))), some (.int (l7 + (1 : Int32))), none, none] [] σ Q))))) : am_X ri am_Lx IX3_placesLast (d + 1) 19 [some (.ref 11), some (.int l1), some (.int l2), some (.int l3), some (.int l4), some (.int l5), some (.int l6), some (.int l7), none, none] [] σ Q := (X_if (fun _ _ => blX3_placesLast_19 H.1) (fun z0 => (X_call (fun _ _ _ _ => blX3_placesLast_108 (H.2.1 z0).1) (K_mono (H.2.1 z0).2 (fun r1 σ1 q1 => (X_if (fun _ _ => blX3_placesLast_117) (fun z2 => (X_ret (fun _ _ => blX3_placesLast_138 (Or.inl rfl)) (q1.1 z2))) (fun z2 => (X_ifn (fun _ _ => blX3_placesLast_126) (fun z3 => ((q1.2 z2).1 z3)) (fun z3 => (X_if (fun _ _ => blX3_placesLast_131) (fun z4 => (((q1.2 z2).2 z3).1 z4)) (fun z4 => (X_ret (fun _ _ => blX3_placesLast_138 (Or.inl rfl)) (((q1.2 z2).2 z3).2 z4)))))))))))) (fun z0 => (X_if (fun _ _ => blX3_placesLast_33 (H.2.2 z0).1) (fun z1 => (X_go (fun _ _ => blX3_placesLast_102) ((H.2.2 z0).2.1 z1))) (fun z1 => (X_opt (fun _ _ => blX3_placesLast_47 ((H.2.2 z0).2.2 z1).1 ((H.2.2 z0).2.2 z1).2.1 ((H.2.2 z0).2.2 z1).2.2.1) (fun z2 => (False.elim (((H.2.2 z0).2.2 z1).2.2.2.1 z2))) (fun t2 z2 => (X_ifn (fun _ _ => blX3_placesLast_88_r (((H.2.2 z0).2.2 z1).2.2.2.2 t2 z2).1) (fun z3 => (X_go (fun _ _ => blX3_placesLast_98) (X_go (fun _ _ => blX3_placesLast_99) (X_go (fun _ _ => blX3_placesLast_102) ((((H.2.2 z0).2.2 z1).2.2.2.2 t2 z2).2.1 z3))))) (fun z3 => (X_go (fun _ _ => blX3_placesLast_94) (X_go (fun _ _ => blX3_placesLast_99) (X_go (fun _ _ => blX3_placesLast_102) ((((H.2.2 z0).2.2 z1).2.2.2.2 t2 z2).2.2 z3))))))))))))
set_option maxRecDepth 20000 in
theorem vX3_placesLast_140 {d : Nat} {σ : am_S} {Q : Int32 → am_S → Prop} {l1 : Int32} {l2 : Int32} {l3 : Int32} {l4 : Int32} {l5 : Int32} {l6 : Int32} {l7 : Int32} (H :
    (vp_in l3 1640) ∧
    am_K ri am_Lx IJ6_bitCount_0f7a4 d [.int (gA σ 24 (l3).toNatClampNeg)] σ (fun r1 σ1 =>
      (r1 = (1 : Int32) →
        (vp_in l3 1640) ∧
        (vp_in l3 1640) ∧
        (vp_in l5 40) ∧
        am_K rj am_Lx IX7_divided d [.long (gJ σ1 25 (l3).toNatClampNeg), .int (gA σ1 19 (l5).toNatClampNeg)] (wA σ1 24 (l3).toNatClampNeg (0 : Int32)) (fun r2 σ2 =>
          am_K ri am_Lx IX7_size d [.long r2] σ2 (fun r3 σ3 =>
            (vp_in l5 40) ∧
            ((r3 * (gA σ3 19 (l5).toNatClampNeg)) = l7 →
              (l6 = 0 →
                am_K ri am_Lx IX7_at d [.long r2, .int (0 : Int32)] σ3 (fun r4 σ4 =>
                  am_K ri am_Lx IX3_assigned d [.ref 11, .int l1, .int l5, .int r4, .int (0 : Int32)] σ4 (fun r5 σ5 =>
                    (r5 = 0 ∨ r5 = 1) ∧ Q r5 σ5))) ∧
              (¬ l6 = 0 →
                (vp_in l5 40) ∧
                (gP σ3 17 (l5).toNatClampNeg = none →
                  False) ∧
                (∀ t6, gP σ3 17 (l5).toNatClampNeg = some t6 →
                  (am_isT am_Lx σ3 t6) ∧
                  am_K ri am_Lx IX4_rankOf d [.ref 16, .int (gS σ3 t6 1)] σ3 (fun r7 σ7 =>
                    am_K rj am_Lx IX1_valueOf d [.ref 12, .long r2] σ7 (fun r8 σ8 =>
                      am_K ri am_Lx IX3_bound d [.ref 11, .int l1, .int r7, .long r8] σ8 (fun r9 σ9 =>
                        (r9 = 0 ∨ r9 = 1) ∧ Q r9 σ9)))))) ∧
            (¬ (r3 * (gA σ3 19 (l5).toNatClampNeg)) = l7 →
              Q (0 : Int32) σ3)))) ∧
      (¬ r1 = (1 : Int32) →
        Q (1 : Int32) σ1))) : am_X ri am_Lx IX3_placesLast (d + 1) 140 [some (.ref 11), some (.int l1), some (.int l2), some (.int l3), some (.int l4), some (.int l5), some (.int l6), some (.int l7), none, none] [] σ Q := (X_call (fun _ _ _ _ => blX3_placesLast_140 H.1) (K_mono H.2 (fun r1 σ1 q0 => (X_if (fun _ _ => blX3_placesLast_149) (fun z1 => (X_call (fun _ _ _ _ => blX3_placesLast_155 (q0.1 z1).1 (q0.1 z1).2.1 (q0.1 z1).2.2.1) (K_mono (q0.1 z1).2.2.2 (fun r2 σ2 q2 => (X_call (fun _ _ _ _ => blX3_placesLast_181) (K_mono q2 (fun r3 σ3 q3 => (X_if (fun _ _ => blX3_placesLast_188 q3.1) (fun z4 => (X_if (fun _ _ => blX3_placesLast_206) (fun z5 => (X_call (fun _ _ _ _ => blX3_placesLast_248) (K_mono ((q3.2.1 z4).1 z5) (fun r4 σ4 q6 => (X_call (fun _ _ _ _ => blX3_placesLast_258) (K_mono q6 (fun r5 σ5 q7 => (X_ret (fun _ _ => blX3_placesLast_262 q7.1) q7.2)))))))) (fun z5 => (X_opt (fun _ _ => blX3_placesLast_211 ((q3.2.1 z4).2 z5).1) (fun z6 => (False.elim (((q3.2.1 z4).2 z5).2.1 z6))) (fun t6 z6 => (X_call (fun _ _ _ _ => blX3_placesLast_227_r (((q3.2.1 z4).2 z5).2.2 t6 z6).1) (K_mono (((q3.2.1 z4).2 z5).2.2 t6 z6).2 (fun r7 σ7 q7 => (X_call (fun _ _ _ _ => blX3_placesLast_233) (K_mono q7 (fun r8 σ8 q8 => (X_call (fun _ _ _ _ => blX3_placesLast_242) (K_mono q8 (fun r9 σ9 q9 => (X_go (fun _ _ => blX3_placesLast_245) (X_ret (fun _ _ => blX3_placesLast_262 q9.1) q9.2)))))))))))))))) (fun z4 => (X_ret (fun _ _ => blX3_placesLast_204 (Or.inl rfl)) (q3.2.2 z4))))))))))) (fun z1 => (X_ret (fun _ _ => blX3_placesLast_153 (Or.inr rfl)) (q0.2 z1)))))))
set_option maxRecDepth 20000 in
theorem vX3_choice {d : Nat} {σ : am_S} {Q : Int32 → am_S → Prop} {l1 : Int32} (H :
    am_X ri am_Lx IX3_choice (d + 1) 9 [some (.ref 11), some (.int l1), some (.int (-1 : Int32)), some (.int (256 : Int32)), some (.int (0 : Int32)), none, none, none, none] [] σ Q) : am_K ri am_Lx IX3_choice (d + 1) [.ref 11, .int l1] σ Q := K_of am_owX3_choice (Nat.le_of_ble_eq_true rfl) (X_go (fun _ _ => blX3_choice_0) H)
set_option maxRecDepth 20000 in
theorem vX3_choice_9 {d : Nat} {σ : am_S} {Q : Int32 → am_S → Prop} {l1 : Int32} {l2 : Int32} {l3 : Int32} {l4 : Int32} (H :
    ((gS σ 16 7) ≤ l4 →
      Q l2 σ) ∧
    (¬ (gS σ 16 7) ≤ l4 →
      (vp_in ((l1 * (40 : Int32)) + l4) 1640) ∧
      am_X ri am_Lx IX3_choice (d + 1) 38 [some (.ref 11), some (.int l1), some (.int l2), some (.int l3), some (.int l4), some (.int (gA σ 24 (((l1 * (40 : Int32)) + l4)).toNatClampNeg)), some (.int (0 : Int32)), none, none] [] σ Q)) : am_X ri am_Lx IX3_choice (d + 1) 9 [some (.ref 11), some (.int l1), some (.int l2), some (.int l3), some (.int l4), none, none, none, none] [] σ Q := (X_if (fun _ _ => blX3_choice_9) (fun z0 => (X_ret (fun _ _ => blX3_choice_135) (H.1 z0))) (fun z0 => (X_go (fun _ _ => blX3_choice_21 (H.2 z0).1) (H.2 z0).2)))
set_option maxRecDepth 20000 in
theorem vX3_choice_38 {d : Nat} {σ : am_S} {Q : Int32 → am_S → Prop} {l1 : Int32} {l2 : Int32} {l3 : Int32} {l4 : Int32} {l5 : Int32} {l6 : Int32} (H :
    (l5 = 0 →
      am_X ri am_Lx IX3_choice (d + 1) 9 [some (.ref 11), some (.int l1), some (.int l2), some (.int l3), some (.int (l4 + (1 : Int32))), none, none, none, none] [] σ Q) ∧
    (¬ l5 = 0 →
      (vp_in l4 40) ∧
      ((gA σ 22 (l4).toNatClampNeg) ≤ l6 →
        am_X ri am_Lx IX3_choice (d + 1) 9 [some (.ref 11), some (.int l1), some (.int l2), some (.int l3), some (.int (l4 + (1 : Int32))), none, none, none, none] [] σ Q) ∧
      (¬ (gA σ 22 (l4).toNatClampNeg) ≤ l6 →
        (vp_in l4 40) ∧
        (((l5 >>> (l6 &&& 31)) &&& (1 : Int32)) = 0 →
          am_X ri am_Lx IX3_choice (d + 1) 38 [some (.ref 11), some (.int l1), some (.int l2), some (.int l3), some (.int l4), some (.int l5), some (.int (l6 + (1 : Int32))), none, none] [] σ Q) ∧
        (¬ ((l5 >>> (l6 &&& 31)) &&& (1 : Int32)) = 0 →
          (vp_in ((l1 * (40 : Int32)) + l4) 1640) ∧
          am_K ri am_Lx IX3_ways d [.ref 11, .long (gJ σ 25 (((l1 * (40 : Int32)) + l4)).toNatClampNeg), .int ((gA σ 21 (l4).toNatClampNeg) + l6)] σ (fun r1 σ1 =>
            (l3 ≤ r1 →
              am_X ri am_Lx IX3_choice (d + 1) 38 [some (.ref 11), some (.int l1), some (.int l2), some (.int (if l3 < r1 then l3 else r1)), some (.int l4), some (.int l5), some (.int (l6 + (1 : Int32))), none, none] [] σ1 Q) ∧
            (¬ l3 ≤ r1 →
              am_X ri am_Lx IX3_choice (d + 1) 38 [some (.ref 11), some (.int l1), some (.int ((gA σ 21 (l4).toNatClampNeg) + l6)), some (.int (if l3 < r1 then l3 else r1)), some (.int l4), some (.int l5), some (.int (l6 + (1 : Int32))), none, none] [] σ1 Q)))))) : am_X ri am_Lx IX3_choice (d + 1) 38 [some (.ref 11), some (.int l1), some (.int l2), some (.int l3), some (.int l4), some (.int l5), some (.int l6), none, none] [] σ Q := (X_if (fun _ _ => blX3_choice_38) (fun z0 => (X_go (fun _ _ => blX3_choice_129) (H.1 z0))) (fun z0 => (X_if (fun _ _ => blX3_choice_43 (H.2 z0).1) (fun z1 => (X_go (fun _ _ => blX3_choice_129) ((H.2 z0).2.1 z1))) (fun z1 => (X_if (fun _ _ => blX3_choice_58 ((H.2 z0).2.2 z1).1) (fun z2 => (X_go (fun _ _ => blX3_choice_123) (((H.2 z0).2.2 z1).2.1 z2))) (fun z2 => (X_call (fun _ _ _ _ => blX3_choice_83 (((H.2 z0).2.2 z1).2.2 z2).1) (K_mono (((H.2 z0).2.2 z1).2.2 z2).2 (fun r1 σ1 q3 => (X_if (fun _ _ => blX3_choice_101) (fun z4 => (X_go (fun _ _ => blX3_choice_114) (X_go (fun _ _ => blX3_choice_115) (X_go (fun _ _ => blX3_choice_123) (q3.1 z4))))) (fun z4 => (X_go (fun _ _ => blX3_choice_109) (X_go (fun _ _ => blX3_choice_115) (X_go (fun _ _ => blX3_choice_123) (q3.2 z4)))))))))))))))
set_option maxRecDepth 20000 in
theorem vX3_ways {d : Nat} {σ : am_S} {Q : Int32 → am_S → Prop} {l1 : Int64} {l3 : Int32} (H :
    (vp_in l3 40) ∧
    am_K rj am_Lx IX7_divided d [.long l1, .int (gA σ 19 (l3).toNatClampNeg)] σ (fun r1 σ1 =>
      am_K ri am_Lx IX7_size d [.long r1] σ1 (fun r2 σ2 =>
        (vp_in l3 40) ∧
        (gP σ2 17 (l3).toNatClampNeg = none →
          False) ∧
        (∀ t3, gP σ2 17 (l3).toNatClampNeg = some t3 →
          (am_isT am_Lx σ2 t3) ∧
          (¬ (gS σ2 t3 0) = 0 →
            am_X ri am_Lx IX3_ways (d + 1) 50 [some (.ref 11), some (.long l1), none, some (.int l3), some (.long r1), none, some (.int r2), some (.int (0 : Int32)), some (.int (0 : Int32))] [] σ2 Q) ∧
          ((gS σ2 t3 0) = 0 →
            Q (((1 : Int32) <<< (r2 &&& 31)) - (1 : Int32)) σ2))))) : am_K ri am_Lx IX3_ways (d + 1) [.ref 11, .long l1, .int l3] σ Q := K_of am_owX3_ways (Nat.le_of_ble_eq_true rfl) (X_call (fun _ _ _ _ => blX3_ways_0 H.1) (K_mono H.2 (fun r1 σ1 q0 => (X_call (fun _ _ _ _ => blX3_ways_13) (K_mono q0 (fun r2 σ2 q1 => (X_opt (fun _ _ => blX3_ways_20 q1.1) (fun z2 => (False.elim (q1.2.1 z2))) (fun t3 z2 => (X_ifn (fun _ _ => blX3_ways_31_r (q1.2.2 t3 z2).1) (fun z3 => (X_go (fun _ _ => blX3_ways_44) ((q1.2.2 t3 z2).2.1 z3))) (fun z3 => (X_ret (fun _ _ => blX3_ways_37) ((q1.2.2 t3 z2).2.2 z3))))))))))))
set_option maxRecDepth 20000 in
theorem vX3_ways_50 {d : Nat} {σ : am_S} {Q : Int32 → am_S → Prop} {l1 : Int64} {l3 : Int32} {l4 : Int64} {l6 : Int32} {l7 : Int32} {l8 : Int32} (H :
    (l6 ≤ l8 →
      Q l7 σ) ∧
    (¬ l6 ≤ l8 →
      am_K ri am_Lx IX7_at d [.long l4, .int l8] σ (fun r1 σ1 =>
        am_K ri am_Lx IX3_alike d [.ref 11, .int l3, .int r1] σ1 (fun r2 σ2 =>
          (r2 = 0 →
            am_X ri am_Lx IX3_ways (d + 1) 50 [some (.ref 11), some (.long l1), none, some (.int l3), some (.long l4), none, some (.int l6), some (.int (l7 + (0 : Int32))), some (.int (l8 + (1 : Int32)))] [] σ2 Q) ∧
          (¬ r2 = 0 →
            am_X ri am_Lx IX3_ways (d + 1) 50 [some (.ref 11), some (.long l1), none, some (.int l3), some (.long l4), none, some (.int l6), some (.int (l7 + (1 : Int32))), some (.int (l8 + (1 : Int32)))] [] σ2 Q))))) : am_X ri am_Lx IX3_ways (d + 1) 50 [some (.ref 11), some (.long l1), none, some (.int l3), some (.long l4), none, some (.int l6), some (.int l7), some (.int l8)] [] σ Q := (X_if (fun _ _ => blX3_ways_50) (fun z0 => (X_ret (fun _ _ => blX3_ways_88) (H.1 z0))) (fun z0 => (X_call (fun _ _ _ _ => blX3_ways_57) (K_mono (H.2 z0) (fun r1 σ1 q1 => (X_call (fun _ _ _ _ => blX3_ways_68) (K_mono q1 (fun r2 σ2 q2 => (X_if (fun _ _ => blX3_ways_71) (fun z3 => (X_go (fun _ _ => blX3_ways_78) (X_go (fun _ _ => blX3_ways_79) (q2.1 z3)))) (fun z3 => (X_go (fun _ _ => blX3_ways_74) (X_go (fun _ _ => blX3_ways_79) (q2.2 z3)))))))))))))
set_option maxRecDepth 20000 in
theorem vX3_enlist {d : Nat} {σ : am_S} {Q : Unit → am_S → Prop} {l1 : Int32} (H :
    ((gS σ 11 6) < (50 : Int32) →
      am_X ru am_Lx IX3_enlist (d + 1) 21 [some (.ref 11), some (.int l1), some (.int (gS σ 11 6))] [] σ Q) ∧
    (¬ (gS σ 11 6) < (50 : Int32) →
      Q () (wS σ 11 6 (51 : Int32)))) : am_K ru am_Lx IX3_enlist (d + 1) [.ref 11, .int l1] σ Q := K_of am_owX3_enlist (Nat.le_of_ble_eq_true rfl) (X_if (fun _ _ => blX3_enlist_0) (fun z0 => (X_go (fun _ _ => blX3_enlist_16) (H.1 z0))) (fun z0 => (X_ret (fun _ _ => blX3_enlist_9) (H.2 z0))))
set_option maxRecDepth 20000 in
theorem vX3_enlist_21 {d : Nat} {σ : am_S} {Q : Unit → am_S → Prop} {l1 : Int32} {l2 : Int32} (H :
    (l2 ≤ 0 →
      (¬ l1 < 0) ∧
      (¬ (l2 * (4 : Int32)) < 0) ∧
      (¬ (4 : Int32) < 0) ∧
      ((l1).toNatClampNeg + ((4 : Int32)).toNatClampNeg ≤ 164) ∧
      (((l2 * (4 : Int32))).toNatClampNeg + ((4 : Int32)).toNatClampNeg ≤ 200) ∧
      Q () (wS (wJf σ 27 (va_cpy (gJ σ 26) (gJ σ 27) (l1).toNatClampNeg ((l2 * (4 : Int32))).toNatClampNeg ((4 : Int32)).toNatClampNeg)) 11 6 ((gS σ 11 6) + (1 : Int32)))) ∧
    (¬ l2 ≤ 0 →
      am_K ri am_Lx IX3_isAhead d [.ref 11, .int l1, .int ((l2 - (1 : Int32)) * (4 : Int32))] σ (fun r1 σ1 =>
        (r1 = 0 →
          (¬ l1 < 0) ∧
          (¬ (l2 * (4 : Int32)) < 0) ∧
          (¬ (4 : Int32) < 0) ∧
          ((l1).toNatClampNeg + ((4 : Int32)).toNatClampNeg ≤ 164) ∧
          (((l2 * (4 : Int32))).toNatClampNeg + ((4 : Int32)).toNatClampNeg ≤ 200) ∧
          Q () (wS (wJf σ1 27 (va_cpy (gJ σ1 26) (gJ σ1 27) (l1).toNatClampNeg ((l2 * (4 : Int32))).toNatClampNeg ((4 : Int32)).toNatClampNeg)) 11 6 ((gS σ1 11 6) + (1 : Int32)))) ∧
        (¬ r1 = 0 →
          (¬ ((l2 - (1 : Int32)) * (4 : Int32)) < 0) ∧
          (¬ (l2 * (4 : Int32)) < 0) ∧
          (¬ (4 : Int32) < 0) ∧
          ((((l2 - (1 : Int32)) * (4 : Int32))).toNatClampNeg + ((4 : Int32)).toNatClampNeg ≤ 200) ∧
          (((l2 * (4 : Int32))).toNatClampNeg + ((4 : Int32)).toNatClampNeg ≤ 200) ∧
          am_X ru am_Lx IX3_enlist (d + 1) 21 [some (.ref 11), some (.int l1), some (.int (l2 + (-1 : Int32)))] [] (wJf σ1 27 (va_cpy (gJ σ1 27) (gJ σ1 27) (((l2 - (1 : Int32)) * (4 : Int32))).toNatClampNeg ((l2 * (4 : Int32))).toNatClampNeg ((4 : Int32)).toNatClampNeg)) Q)))) : am_X ru am_Lx IX3_enlist (d + 1) 21 [some (.ref 11), some (.int l1), some (.int l2)] [] σ Q := (X_if (fun _ _ => blX3_enlist_21) (fun z0 => (X_ret (fun _ _ => blX3_enlist_64 (H.1 z0).1 (H.1 z0).2.1 (H.1 z0).2.2.1 (H.1 z0).2.2.2.1 (H.1 z0).2.2.2.2.1) (H.1 z0).2.2.2.2.2)) (fun z0 => (X_call (fun _ _ _ _ => blX3_enlist_25) (K_mono (H.2 z0) (fun r1 σ1 q1 => (X_if (fun _ _ => blX3_enlist_35) (fun z2 => (X_ret (fun _ _ => blX3_enlist_64 (q1.1 z2).1 (q1.1 z2).2.1 (q1.1 z2).2.2.1 (q1.1 z2).2.2.2.1 (q1.1 z2).2.2.2.2.1) (q1.1 z2).2.2.2.2.2)) (fun z2 => (X_go (fun _ _ => blX3_enlist_38 (q1.2 z2).1 (q1.2 z2).2.1 (q1.2 z2).2.2.1 (q1.2 z2).2.2.2.1 (q1.2 z2).2.2.2.2.1) (q1.2 z2).2.2.2.2.2))))))))
set_option maxRecDepth 20000 in
theorem vX3_isAhead {d : Nat} {σ : am_S} {Q : Int32 → am_S → Prop} {l1 : Int32} {l2 : Int32} (H :
    am_X ri am_Lx IX3_isAhead (d + 1) 5 [some (.ref 11), some (.int l1), some (.int l2), some (.int (0 : Int32)), some (.int (0 : Int32))] [] σ Q) : am_K ri am_Lx IX3_isAhead (d + 1) [.ref 11, .int l1, .int l2] σ Q := K_of am_owX3_isAhead (Nat.le_of_ble_eq_true rfl) (X_go (fun _ _ => blX3_isAhead_0) H)
set_option maxRecDepth 20000 in
theorem vX3_isAhead_5 {d : Nat} {σ : am_S} {Q : Int32 → am_S → Prop} {l1 : Int32} {l2 : Int32} {l3 : Int32} {l4 : Int32} (H :
    (¬ l3 = 0 →
      (0 ≤ l3 →
        Q (0 : Int32) σ) ∧
      (¬ 0 ≤ l3 →
        Q (1 : Int32) σ)) ∧
    (l3 = 0 →
      ((4 : Int32) ≤ l4 →
        (0 ≤ l3 →
          Q (0 : Int32) σ) ∧
        (¬ 0 ≤ l3 →
          Q (1 : Int32) σ)) ∧
      (¬ (4 : Int32) ≤ l4 →
        (vp_in (l1 + l4) 164) ∧
        (vp_in (l2 + l4) 200) ∧
        am_K ri am_Lx IJ13_compare_74951 d [.long (gJ σ 26 ((l1 + l4)).toNatClampNeg), .long (gJ σ 27 ((l2 + l4)).toNatClampNeg)] σ (fun r1 σ1 =>
          am_X ri am_Lx IX3_isAhead (d + 1) 5 [some (.ref 11), some (.int l1), some (.int l2), some (.int r1), some (.int (l4 + (1 : Int32)))] [] σ1 Q)))) : am_X ri am_Lx IX3_isAhead (d + 1) 5 [some (.ref 11), some (.int l1), some (.int l2), some (.int l3), some (.int l4)] [] σ Q := (X_ifn (fun _ _ => blX3_isAhead_5) (fun z0 => (X_if (fun _ _ => blX3_isAhead_43) (fun z1 => (X_go (fun _ _ => blX3_isAhead_51) (X_ret (fun _ _ => blX3_isAhead_52 (Or.inl rfl)) ((H.1 z0).1 z1)))) (fun z1 => (X_go (fun _ _ => blX3_isAhead_47) (X_ret (fun _ _ => blX3_isAhead_52 (Or.inr rfl)) ((H.1 z0).2 z1)))))) (fun z0 => (X_if (fun _ _ => blX3_isAhead_9) (fun z1 => (X_if (fun _ _ => blX3_isAhead_43) (fun z2 => (X_go (fun _ _ => blX3_isAhead_51) (X_ret (fun _ _ => blX3_isAhead_52 (Or.inl rfl)) (((H.2 z0).1 z1).1 z2)))) (fun z2 => (X_go (fun _ _ => blX3_isAhead_47) (X_ret (fun _ _ => blX3_isAhead_52 (Or.inr rfl)) (((H.2 z0).1 z1).2 z2)))))) (fun z1 => (X_call (fun _ _ _ _ => blX3_isAhead_15 ((H.2 z0).2 z1).1 ((H.2 z0).2 z1).2.1) (K_mono ((H.2 z0).2 z1).2.2 (fun r1 σ1 q2 => (X_go (fun _ _ => blX3_isAhead_36) q2))))))))
