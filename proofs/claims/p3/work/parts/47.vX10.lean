set_option maxRecDepth 20000 in
theorem vX10_type {d : Nat} {σ : am_S} {Q : Int32 → am_S → Prop} {l1 : Int64} {l3 : Int32} (H :
    am_K ri am_Lx IX6_typed d [.ref 7, .long l1, .int l3] σ (fun r1 σ1 =>
      Q r1 σ1)) : am_K ri am_Lx IX10_type (d + 1) [.ref 0, .long l1, .int l3] σ Q := K_of am_owX10_type (Nat.le_of_ble_eq_true rfl) (X_call (fun _ _ _ _ => blX10_type_0) (K_mono H (fun r1 σ1 q0 => (X_ret (fun _ _ => blX10_type_9) q0))))
set_option maxRecDepth 20000 in
theorem vX10_read {d : Nat} {σ : am_S} {Q : Int32 → am_S → Prop} {l1 : Int32} (H :
    am_K ri am_Lx IX10_isSlot d [.int l1] σ (fun r1 σ1 =>
      (¬ r1 = 0 →
        am_K rn am_Lx IX6_parsed d [.ref 7] σ1 (fun r2 σ2 =>
          (r2 = none →
            ((gS σ2 7 5) < 0 →
              am_K ri am_Lx IX10_kept d [.ref 0, .int l1, .null] σ2 (fun r3 σ3 =>
                Q r3 σ3)) ∧
            (¬ (gS σ2 7 5) < 0 →
              Q ((-10 : Int32) - (gS σ2 7 5)) σ2)) ∧
          (∀ t4, r2 = some t4 →
            ((gS σ2 7 5) < 0 →
              am_K ri am_Lx IX10_kept d [.ref 0, .int l1, .ref t4] σ2 (fun r5 σ5 =>
                Q r5 σ5)) ∧
            (¬ (gS σ2 7 5) < 0 →
              Q ((-10 : Int32) - (gS σ2 7 5)) σ2)))) ∧
      (r1 = 0 →
        Q (-1 : Int32) σ1))) : am_K ri am_Lx IX10_read (d + 1) [.ref 0, .int l1] σ Q := K_of am_owX10_read (Nat.le_of_ble_eq_true rfl) (X_call (fun _ _ _ _ => blX10_read_0) (K_mono H (fun r1 σ1 q0 => (X_ifn (fun _ _ => blX10_read_4) (fun z1 => (X_calln (fun _ _ _ _ => blX10_read_9) (K_mono (q0.1 z1) (fun r2 σ2 q2 => And.intro (fun z2 => (X_if (fun _ _ => blX10_read_16_n) (fun z3 => (X_call (fun _ _ _ _ => blX10_read_40_n) (K_mono ((q2.1 z2).1 z3) (fun r3 σ3 q4 => (X_ret (fun _ _ => blX10_read_46_n) q4))))) (fun z3 => (X_go (fun _ _ => blX10_read_27_n) (X_ret (fun _ _ => blX10_read_46_n) ((q2.1 z2).2 z3)))))) (fun t4 z2 => (X_if (fun _ _ => blX10_read_16_r) (fun z3 => (X_call (fun _ _ _ _ => blX10_read_40_r) (K_mono ((q2.2 t4 z2).1 z3) (fun r5 σ5 q4 => (X_ret (fun _ _ => blX10_read_46_r) q4))))) (fun z3 => (X_go (fun _ _ => blX10_read_27_r) (X_ret (fun _ _ => blX10_read_46_r) ((q2.2 t4 z2).2 z3)))))))))) (fun z1 => (X_ret (fun _ _ => blX10_read_7) (q0.2 z1)))))))
set_option maxRecDepth 20000 in
theorem vX10_told {d : Nat} {σ : am_S} {Q : Int32 → am_S → Prop} {l1 : Int32} {l2 : Int32} (H :
    am_K ri am_Lx IX10_isSlot d [.int l1] σ (fun r1 σ1 =>
      (r1 = 0 →
        Q (-1 : Int32) σ1) ∧
      (¬ r1 = 0 →
        (l2 < 0 →
          Q (-1 : Int32) σ1) ∧
        (¬ l2 < 0 →
          (l2 ≤ (4 : Int32) →
            (vp_in l1 16) ∧
            (gP σ1 1 (l1).toNatClampNeg = none →
              Q (-2 : Int32) σ1) ∧
            (∀ t2, gP σ1 1 (l1).toNatClampNeg = some t2 →
              False)) ∧
          (¬ l2 ≤ (4 : Int32) →
            Q (-1 : Int32) σ1))))) : am_K ri am_Lx IX10_told (d + 1) [.ref 0, .int l1, .int l2] σ Q := K_of am_owX10_told (Nat.le_of_ble_eq_true rfl) (X_call (fun _ _ _ _ => blX10_told_0) (K_mono H (fun r1 σ1 q0 => (X_if (fun _ _ => blX10_told_4) (fun z1 => (X_ret (fun _ _ => blX10_told_16) (q0.1 z1))) (fun z1 => (X_if (fun _ _ => blX10_told_7) (fun z2 => (X_ret (fun _ _ => blX10_told_16) ((q0.2 z1).1 z2))) (fun z2 => (X_if (fun _ _ => blX10_told_11) (fun z3 => (X_opt (fun _ _ => blX10_told_18 (((q0.2 z1).2 z2).1 z3).1) (fun z4 => (X_go (fun _ _ => blX10_told_24_n) (X_ret (fun _ _ => blX10_told_29) ((((q0.2 z1).2 z2).1 z3).2.1 z4)))) (fun t2 z4 => (X_go (fun _ _ => blX10_told_24_r) (False.elim ((((q0.2 z1).2 z2).1 z3).2.2 t2 z4)))))) (fun z3 => (X_ret (fun _ _ => blX10_told_16) (((q0.2 z1).2 z2).2 z3)))))))))))
set_option maxRecDepth 20000 in
theorem vX10_part {d : Nat} {σ : am_S} {Q : Int32 → am_S → Prop} {l1 : Int32} {l2 : Int32} {l3 : Int32} (H :
    am_K ri am_Lx IX10_isSlot d [.int l1] σ (fun r1 σ1 =>
      (r1 = 0 →
        Q (-1 : Int32) σ1) ∧
      (¬ r1 = 0 →
        am_K ri am_Lx IX10_isSlot d [.int l3] σ1 (fun r2 σ2 =>
          (¬ r2 = 0 →
            (vp_in l1 16) ∧
            (gP σ2 1 (l1).toNatClampNeg = none →
              Q (-2 : Int32) σ2) ∧
            (∀ t3, gP σ2 1 (l1).toNatClampNeg = some t3 →
              (l2 < 0 →
                Q (-1 : Int32) σ2) ∧
              (¬ l2 < 0 →
                (am_isT am_Lx σ2 t3) ∧
                (gQ σ2 t3 = none →
                  False) ∧
                (∀ t4, gQ σ2 t3 = some t4 →
                  (am_isA am_Lx σ2 t4) ∧
                  (l2 < (Int32.ofNat (am_rl am_Lx σ2 t4)) →
                    (am_isT am_Lx σ2 t3) ∧
                    (gQ σ2 t3 = none →
                      False) ∧
                    (∀ t5, gQ σ2 t3 = some t5 →
                      (am_isR am_Lx σ2 t5) ∧
                      (vp_in l2 (am_rl am_Lx σ2 t5)) ∧
                      (gP σ2 t5 (l2).toNatClampNeg = none →
                        am_K ri am_Lx IX10_kept d [.ref 0, .int l3, .null] σ2 (fun r7 σ7 =>
                          Q r7 σ7)) ∧
                      (∀ t6, gP σ2 t5 (l2).toNatClampNeg = some t6 →
                        am_K ri am_Lx IX10_kept d [.ref 0, .int l3, .ref t6] σ2 (fun r8 σ8 =>
                          Q r8 σ8)))) ∧
                  (¬ l2 < (Int32.ofNat (am_rl am_Lx σ2 t4)) →
                    Q (-1 : Int32) σ2))))) ∧
          (r2 = 0 →
            Q (-1 : Int32) σ2))))) : am_K ri am_Lx IX10_part (d + 1) [.ref 0, .int l1, .int l2, .int l3] σ Q := K_of am_owX10_part (Nat.le_of_ble_eq_true rfl) (X_call (fun _ _ _ _ => blX10_part_0) (K_mono H (fun r1 σ1 q0 => (X_if (fun _ _ => blX10_part_4) (fun z1 => (X_ret (fun _ _ => blX10_part_14) (q0.1 z1))) (fun z1 => (X_call (fun _ _ _ _ => blX10_part_7) (K_mono (q0.2 z1) (fun r2 σ2 q2 => (X_ifn (fun _ _ => blX10_part_11) (fun z3 => (X_opt (fun _ _ => blX10_part_16 (q2.1 z3).1) (fun z4 => (X_go (fun _ _ => blX10_part_22_n) (X_ret (fun _ _ => blX10_part_29) ((q2.1 z3).2.1 z4)))) (fun t3 z4 => (X_go (fun _ _ => blX10_part_22_r) (X_if (fun _ _ => blX10_part_32) (fun z6 => (X_ret (fun _ _ => blX10_part_46) (((q2.1 z3).2.2 t3 z4).1 z6))) (fun z6 => (X_opt (fun _ _ => blX10_part_36 (((q2.1 z3).2.2 t3 z4).2 z6).1) (fun z7 => (False.elim ((((q2.1 z3).2.2 t3 z4).2 z6).2.1 z7))) (fun t4 z7 => (X_if (fun _ _ => blX10_part_42_r ((((q2.1 z3).2.2 t3 z4).2 z6).2.2 t4 z7).1) (fun z8 => (X_opt (fun _ _ => blX10_part_48 (((((q2.1 z3).2.2 t3 z4).2 z6).2.2 t4 z7).2.1 z8).1) (fun z9 => (False.elim ((((((q2.1 z3).2.2 t3 z4).2 z6).2.2 t4 z7).2.1 z8).2.1 z9))) (fun t5 z9 => (X_opt (fun _ _ => blX10_part_55_r ((((((q2.1 z3).2.2 t3 z4).2 z6).2.2 t4 z7).2.1 z8).2.2 t5 z9).1 ((((((q2.1 z3).2.2 t3 z4).2 z6).2.2 t4 z7).2.1 z8).2.2 t5 z9).2.1) (fun z10 => (X_call (fun _ _ _ _ => blX10_part_57_n) (K_mono (((((((q2.1 z3).2.2 t3 z4).2 z6).2.2 t4 z7).2.1 z8).2.2 t5 z9).2.2.1 z10) (fun r7 σ7 q11 => (X_ret (fun _ _ => blX10_part_60) q11))))) (fun t6 z10 => (X_call (fun _ _ _ _ => blX10_part_57_r) (K_mono (((((((q2.1 z3).2.2 t3 z4).2 z6).2.2 t4 z7).2.1 z8).2.2 t5 z9).2.2.2 t6 z10) (fun r8 σ8 q11 => (X_ret (fun _ _ => blX10_part_60) q11))))))))) (fun z8 => (X_ret (fun _ _ => blX10_part_46) (((((q2.1 z3).2.2 t3 z4).2 z6).2.2 t4 z7).2.2 z8)))))))))))) (fun z3 => (X_ret (fun _ _ => blX10_part_14) (q2.2 z3))))))))))))
set_option maxRecDepth 20000 in
theorem vX10_order {d : Nat} {σ : am_S} {Q : Int32 → am_S → Prop} {l1 : Int32} {l2 : Int32} (H :
    am_K ri am_Lx IX10_isSlot d [.int l1] σ (fun r1 σ1 =>
      (r1 = 0 →
        Q (-1 : Int32) σ1) ∧
      (¬ r1 = 0 →
        am_K ri am_Lx IX10_isSlot d [.int l2] σ1 (fun r2 σ2 =>
          (¬ r2 = 0 →
            (vp_in l1 16) ∧
            (gP σ2 1 (l1).toNatClampNeg = none →
              (vp_in l2 16) ∧
              (gP σ2 1 (l2).toNatClampNeg = none →
                Q (-2 : Int32) σ2) ∧
              (∀ t4, gP σ2 1 (l2).toNatClampNeg = some t4 →
                Q (-2 : Int32) σ2)) ∧
            (∀ t3, gP σ2 1 (l1).toNatClampNeg = some t3 →
              (vp_in l2 16) ∧
              (gP σ2 1 (l2).toNatClampNeg = none →
                Q (-2 : Int32) σ2) ∧
              (∀ t5, gP σ2 1 (l2).toNatClampNeg = some t5 →
                am_K ri am_Lx IX8_compare d [.ref t3, .ref t5, .int (0 : Int32)] σ2 (fun r6 σ6 =>
                  (¬ r6 = 0 →
                    (0 ≤ r6 →
                      Q (2 : Int32) σ6) ∧
                    (¬ 0 ≤ r6 →
                      Q (1 : Int32) σ6)) ∧
                  (r6 = 0 →
                    Q (0 : Int32) σ6))))) ∧
          (r2 = 0 →
            Q (-1 : Int32) σ2))))) : am_K ri am_Lx IX10_order (d + 1) [.ref 0, .int l1, .int l2] σ Q := K_of am_owX10_order (Nat.le_of_ble_eq_true rfl) (X_call (fun _ _ _ _ => blX10_order_0) (K_mono H (fun r1 σ1 q0 => (X_if (fun _ _ => blX10_order_4) (fun z1 => (X_ret (fun _ _ => blX10_order_14) (q0.1 z1))) (fun z1 => (X_call (fun _ _ _ _ => blX10_order_7) (K_mono (q0.2 z1) (fun r2 σ2 q2 => (X_ifn (fun _ _ => blX10_order_11) (fun z3 => (X_opt (fun _ _ => blX10_order_16 (q2.1 z3).1) (fun z4 => (X_opt (fun _ _ => blX10_order_22_n ((q2.1 z3).2.1 z4).1) (fun z5 => (X_go (fun _ _ => blX10_order_29_nn) (X_ret (fun _ _ => blX10_order_40_nn) (((q2.1 z3).2.1 z4).2.1 z5)))) (fun t4 z5 => (X_go (fun _ _ => blX10_order_29_nr) (X_ret (fun _ _ => blX10_order_40_nr) (((q2.1 z3).2.1 z4).2.2 t4 z5)))))) (fun t3 z4 => (X_opt (fun _ _ => blX10_order_22_r ((q2.1 z3).2.2 t3 z4).1) (fun z5 => (X_go (fun _ _ => blX10_order_29_rn) (X_go (fun _ _ => blX10_order_35_n) (X_ret (fun _ _ => blX10_order_40_rn) (((q2.1 z3).2.2 t3 z4).2.1 z5))))) (fun t5 z5 => (X_go (fun _ _ => blX10_order_29_rr) (X_go (fun _ _ => blX10_order_35_r) (X_call (fun _ _ _ _ => blX10_order_43) (K_mono (((q2.1 z3).2.2 t3 z4).2.2 t5 z5) (fun r6 σ6 q8 => (X_ifn (fun _ _ => blX10_order_50) (fun z9 => (X_if (fun _ _ => blX10_order_61) (fun z10 => (X_go (fun _ _ => blX10_order_70) (X_ret (fun _ _ => blX10_order_71) ((q8.1 z9).1 z10)))) (fun z10 => (X_go (fun _ _ => blX10_order_66) (X_ret (fun _ _ => blX10_order_71) ((q8.1 z9).2 z10)))))) (fun z9 => (X_go (fun _ _ => blX10_order_57) (X_ret (fun _ _ => blX10_order_71) (q8.2 z9))))))))))))))) (fun z3 => (X_ret (fun _ _ => blX10_order_14) (q2.2 z3))))))))))))
set_option maxRecDepth 20000 in
theorem vX10_join {d : Nat} {σ : am_S} {Q : Int32 → am_S → Prop} {l1 : Int32} {l2 : Int32} {l3 : Int32} {l4 : Int32} (H :
    am_K ri am_Lx IX10_isSlot d [.int l1] σ (fun r1 σ1 =>
      (r1 = 0 →
        Q (-1 : Int32) σ1) ∧
      (¬ r1 = 0 →
        am_K ri am_Lx IX10_isSlot d [.int l2] σ1 (fun r2 σ2 =>
          (r2 = 0 →
            Q (-1 : Int32) σ2) ∧
          (¬ r2 = 0 →
            am_K ri am_Lx IX10_isSymbol d [.int l3] σ2 (fun r3 σ3 =>
              (r3 = 0 →
                Q (-1 : Int32) σ3) ∧
              (¬ r3 = 0 →
                am_K ri am_Lx IX10_isSlot d [.int l4] σ3 (fun r4 σ4 =>
                  (¬ r4 = 0 →
                    (vp_in l1 16) ∧
                    (gP σ4 1 (l1).toNatClampNeg = none →
                      (vp_in l2 16) ∧
                      (gP σ4 1 (l2).toNatClampNeg = none →
                        Q (-2 : Int32) σ4) ∧
                      (∀ t6, gP σ4 1 (l2).toNatClampNeg = some t6 →
                        Q (-2 : Int32) σ4)) ∧
                    (∀ t5, gP σ4 1 (l1).toNatClampNeg = some t5 →
                      (vp_in l2 16) ∧
                      (gP σ4 1 (l2).toNatClampNeg = none →
                        Q (-2 : Int32) σ4) ∧
                      (∀ t7, gP σ4 1 (l2).toNatClampNeg = some t7 →
                        am_K ri am_Lx IX2_mark d [.ref 3] σ4 (fun r8 σ8 =>
                          am_K ru am_Lx IX2_push d [.ref 3, .ref t5] σ8 (fun _ σ9 =>
                            am_K ru am_Lx IX2_push d [.ref 3, .ref t7] σ9 (fun _ σ10 =>
                              am_K rn am_Lx IX2_together d [.ref 3, .int ((3 : Int32) + l3), .int r8] σ10 (fun r11 σ11 =>
                                (r11 = none →
                                  am_K ri am_Lx IX10_kept d [.ref 0, .int l4, .null] σ11 (fun r12 σ12 =>
                                    Q r12 σ12)) ∧
                                (∀ t13, r11 = some t13 →
                                  am_K ri am_Lx IX10_kept d [.ref 0, .int l4, .ref t13] σ11 (fun r14 σ14 =>
                                    Q r14 σ14))))))))) ∧
                  (r4 = 0 →
                    Q (-1 : Int32) σ4))))))))) : am_K ri am_Lx IX10_join (d + 1) [.ref 0, .int l1, .int l2, .int l3, .int l4] σ Q := K_of am_owX10_join (Nat.le_of_ble_eq_true rfl) (X_call (fun _ _ _ _ => blX10_join_0) (K_mono H (fun r1 σ1 q0 => (X_if (fun _ _ => blX10_join_4) (fun z1 => (X_ret (fun _ _ => blX10_join_29) (q0.1 z1))) (fun z1 => (X_call (fun _ _ _ _ => blX10_join_7) (K_mono (q0.2 z1) (fun r2 σ2 q2 => (X_if (fun _ _ => blX10_join_11) (fun z3 => (X_ret (fun _ _ => blX10_join_29) (q2.1 z3))) (fun z3 => (X_call (fun _ _ _ _ => blX10_join_14) (K_mono (q2.2 z3) (fun r3 σ3 q4 => (X_if (fun _ _ => blX10_join_18) (fun z5 => (X_ret (fun _ _ => blX10_join_29) (q4.1 z5))) (fun z5 => (X_call (fun _ _ _ _ => blX10_join_21) (K_mono (q4.2 z5) (fun r4 σ4 q6 => (X_ifn (fun _ _ => blX10_join_26) (fun z7 => (X_opt (fun _ _ => blX10_join_31 (q6.1 z7).1) (fun z8 => (X_opt (fun _ _ => blX10_join_37_n ((q6.1 z7).2.1 z8).1) (fun z9 => (X_go (fun _ _ => blX10_join_45_nn) (X_ret (fun _ _ => blX10_join_57_nn) (((q6.1 z7).2.1 z8).2.1 z9)))) (fun t6 z9 => (X_go (fun _ _ => blX10_join_45_nr) (X_ret (fun _ _ => blX10_join_57_nr) (((q6.1 z7).2.1 z8).2.2 t6 z9)))))) (fun t5 z8 => (X_opt (fun _ _ => blX10_join_37_r ((q6.1 z7).2.2 t5 z8).1) (fun z9 => (X_go (fun _ _ => blX10_join_45_rn) (X_go (fun _ _ => blX10_join_52_n) (X_ret (fun _ _ => blX10_join_57_rn) (((q6.1 z7).2.2 t5 z8).2.1 z9))))) (fun t7 z9 => (X_go (fun _ _ => blX10_join_45_rr) (X_go (fun _ _ => blX10_join_52_r) (X_call (fun _ _ _ _ => blX10_join_60) (K_mono (((q6.1 z7).2.2 t5 z8).2.2 t7 z9) (fun r8 σ8 q12 => (X_call (fun _ _ _ _ => blX10_join_67) (K_mono q12 (fun _ σ9 q13 => (X_call (fun _ _ _ _ => blX10_join_78) (K_mono q13 (fun _ σ10 q14 => (X_calln (fun _ _ _ _ => blX10_join_87) (K_mono q14 (fun r11 σ11 q15 => And.intro (fun z15 => (X_call (fun _ _ _ _ => blX10_join_102_n) (K_mono (q15.1 z15) (fun r12 σ12 q16 => (X_ret (fun _ _ => blX10_join_105) q16))))) (fun t13 z15 => (X_call (fun _ _ _ _ => blX10_join_102_r) (K_mono (q15.2 t13 z15) (fun r14 σ14 q16 => (X_ret (fun _ _ => blX10_join_105) q16)))))))))))))))))))))))) (fun z7 => (X_ret (fun _ _ => blX10_join_29) (q6.2 z7))))))))))))))))))))))
set_option maxRecDepth 20000 in
theorem vX10_print {d : Nat} {σ : am_S} {Q : Int32 → am_S → Prop} {l1 : Int32} (H :
    am_K ri am_Lx IX10_isSlot d [.int l1] σ (fun r1 σ1 =>
      (¬ r1 = 0 →
        (vp_in l1 16) ∧
        (gP σ1 1 (l1).toNatClampNeg = none →
          Q (-2 : Int32) σ1) ∧
        (∀ t2, gP σ1 1 (l1).toNatClampNeg = some t2 →
          am_K ri am_Lx IX5_printed d [.ref 9, .ref t2] σ1 (fun r3 σ3 =>
            Q r3 σ3))) ∧
      (r1 = 0 →
        Q (-1 : Int32) σ1))) : am_K ri am_Lx IX10_print (d + 1) [.ref 0, .int l1] σ Q := K_of am_owX10_print (Nat.le_of_ble_eq_true rfl) (X_call (fun _ _ _ _ => blX10_print_0) (K_mono H (fun r1 σ1 q0 => (X_ifn (fun _ _ => blX10_print_4) (fun z1 => (X_opt (fun _ _ => blX10_print_9 (q0.1 z1).1) (fun z2 => (X_go (fun _ _ => blX10_print_15_n) (X_go (fun _ _ => blX10_print_20) (X_ret (fun _ _ => blX10_print_33_n) ((q0.1 z1).2.1 z2))))) (fun t2 z2 => (X_go (fun _ _ => blX10_print_15_r) (X_call (fun _ _ _ _ => blX10_print_25) (K_mono ((q0.1 z1).2.2 t2 z2) (fun r3 σ3 q4 => (X_ret (fun _ _ => blX10_print_33_r) q4)))))))) (fun z1 => (X_ret (fun _ _ => blX10_print_7) (q0.2 z1)))))))
set_option maxRecDepth 20000 in
theorem vX10_out {d : Nat} {σ : am_S} {Q : Int32 → am_S → Prop} {l1 : Int32} (H :
    am_K ri am_Lx IX5_byteAt d [.ref 9, .int l1] σ (fun r1 σ1 =>
      Q r1 σ1)) : am_K ri am_Lx IX10_out (d + 1) [.ref 0, .int l1] σ Q := K_of am_owX10_out (Nat.le_of_ble_eq_true rfl) (X_call (fun _ _ _ _ => blX10_out_0) (K_mono H (fun r1 σ1 q0 => (X_ret (fun _ _ => blX10_out_8) q0))))
set_option maxRecDepth 20000 in
theorem vX10_match {d : Nat} {σ : am_S} {Q : Int32 → am_S → Prop} {l1 : Int32} {l2 : Int32} (H :
    am_K ri am_Lx IX10_isSlot d [.int l1] σ (fun r1 σ1 =>
      (r1 = 0 →
        Q (-1 : Int32) σ1) ∧
      (¬ r1 = 0 →
        am_K ri am_Lx IX10_isSlot d [.int l2] σ1 (fun r2 σ2 =>
          (¬ r2 = 0 →
            (vp_in l1 16) ∧
            (gP σ2 1 (l1).toNatClampNeg = none →
              (vp_in l2 16) ∧
              (gP σ2 1 (l2).toNatClampNeg = none →
                Q (-2 : Int32) σ2) ∧
              (∀ t4, gP σ2 1 (l2).toNatClampNeg = some t4 →
                Q (-2 : Int32) σ2)) ∧
            (∀ t3, gP σ2 1 (l1).toNatClampNeg = some t3 →
              (vp_in l2 16) ∧
              (gP σ2 1 (l2).toNatClampNeg = none →
                Q (-2 : Int32) σ2) ∧
              (∀ t5, gP σ2 1 (l2).toNatClampNeg = some t5 →
                (am_isT am_Lx σ2 t3) ∧
                am_K ri am_Lx IJ6_bitCount_0f7a4 d [.int (gS σ2 t3 4)] σ2 (fun r6 σ6 =>
                  ((4 : Int32) < r6 →
                    Q (-3 : Int32) σ6) ∧
                  (¬ (4 : Int32) < r6 →
                    (am_isT am_Lx σ6 t5) ∧
                    ((gS σ6 t5 4) = 0 →
                      am_K ri am_Lx IX3_found d [.ref 11, .ref t3, .ref t5] σ6 (fun r7 σ7 =>
                        Q r7 σ7)) ∧
                    (¬ (gS σ6 t5 4) = 0 →
                      Q (-3 : Int32) σ6)))))) ∧
          (r2 = 0 →
            Q (-1 : Int32) σ2))))) : am_K ri am_Lx IX10_match (d + 1) [.ref 0, .int l1, .int l2] σ Q := K_of am_owX10_match (Nat.le_of_ble_eq_true rfl) (X_call (fun _ _ _ _ => blX10_match_0) (K_mono H (fun r1 σ1 q0 => (X_if (fun _ _ => blX10_match_4) (fun z1 => (X_ret (fun _ _ => blX10_match_14) (q0.1 z1))) (fun z1 => (X_call (fun _ _ _ _ => blX10_match_7) (K_mono (q0.2 z1) (fun r2 σ2 q2 => (X_ifn (fun _ _ => blX10_match_11) (fun z3 => (X_opt (fun _ _ => blX10_match_16 (q2.1 z3).1) (fun z4 => (X_opt (fun _ _ => blX10_match_22_n ((q2.1 z3).2.1 z4).1) (fun z5 => (X_go (fun _ _ => blX10_match_29_nn) (X_ret (fun _ _ => blX10_match_40_nn) (((q2.1 z3).2.1 z4).2.1 z5)))) (fun t4 z5 => (X_go (fun _ _ => blX10_match_29_nr) (X_ret (fun _ _ => blX10_match_40_nr) (((q2.1 z3).2.1 z4).2.2 t4 z5)))))) (fun t3 z4 => (X_opt (fun _ _ => blX10_match_22_r ((q2.1 z3).2.2 t3 z4).1) (fun z5 => (X_go (fun _ _ => blX10_match_29_rn) (X_go (fun _ _ => blX10_match_35_n) (X_ret (fun _ _ => blX10_match_40_rn) (((q2.1 z3).2.2 t3 z4).2.1 z5))))) (fun t5 z5 => (X_go (fun _ _ => blX10_match_29_rr) (X_go (fun _ _ => blX10_match_35_r) (X_call (fun _ _ _ _ => blX10_match_43 (((q2.1 z3).2.2 t3 z4).2.2 t5 z5).1) (K_mono (((q2.1 z3).2.2 t3 z4).2.2 t5 z5).2 (fun r6 σ6 q8 => (X_if (fun _ _ => blX10_match_50) (fun z9 => (X_ret (fun _ _ => blX10_match_62) (q8.1 z9))) (fun z9 => (X_if (fun _ _ => blX10_match_54 (q8.2 z9).1) (fun z10 => (X_call (fun _ _ _ _ => blX10_match_65) (K_mono ((q8.2 z9).2.1 z10) (fun r7 σ7 q11 => (X_ret (fun _ _ => blX10_match_75) q11))))) (fun z10 => (X_ret (fun _ _ => blX10_match_62) ((q8.2 z9).2.2 z10)))))))))))))))) (fun z3 => (X_ret (fun _ _ => blX10_match_14) (q2.2 z3))))))))))))
set_option maxRecDepth 20000 in
theorem vX10_matched {d : Nat} {σ : am_S} {Q : Int32 → am_S → Prop} {l1 : Int32} {l2 : Int32} {l3 : Int32} (H :
    am_K ri am_Lx IX3_has d [.ref 11, .int l1] σ (fun r1 σ1 =>
      (r1 = 0 →
        Q (-1 : Int32) σ1) ∧
      (¬ r1 = 0 →
        (l2 < 0 →
          Q (-1 : Int32) σ1) ∧
        (¬ l2 < 0 →
          ((22 : Int32) ≤ l2 →
            Q (-1 : Int32) σ1) ∧
          (¬ (22 : Int32) ≤ l2 →
            am_K ri am_Lx IX10_isSlot d [.int l3] σ1 (fun r2 σ2 =>
              (¬ r2 = 0 →
                am_K ri am_Lx IX3_inPattern d [.ref 11, .int l2] σ2 (fun r3 σ3 =>
                  (¬ r3 = 0 →
                    am_K rn am_Lx IX3_put d [.ref 11, .int l1, .int l2, .ref 3] σ3 (fun r4 σ4 =>
                      (r4 = none →
                        am_K ri am_Lx IX10_kept d [.ref 0, .int l3, .null] σ4 (fun r5 σ5 =>
                          Q r5 σ5)) ∧
                      (∀ t6, r4 = some t6 →
                        am_K ri am_Lx IX10_kept d [.ref 0, .int l3, .ref t6] σ4 (fun r7 σ7 =>
                          Q r7 σ7)))) ∧
                  (r3 = 0 →
                    Q (-2 : Int32) σ3))) ∧
              (r2 = 0 →
                Q (-1 : Int32) σ2))))))) : am_K ri am_Lx IX10_matched (d + 1) [.ref 0, .int l1, .int l2, .int l3] σ Q := K_of am_owX10_matched (Nat.le_of_ble_eq_true rfl) (X_call (fun _ _ _ _ => blX10_matched_0) (K_mono H (fun r1 σ1 q0 => (X_if (fun _ _ => blX10_matched_8) (fun z1 => (X_ret (fun _ _ => blX10_matched_28) (q0.1 z1))) (fun z1 => (X_if (fun _ _ => blX10_matched_11) (fun z2 => (X_ret (fun _ _ => blX10_matched_28) ((q0.2 z1).1 z2))) (fun z2 => (X_if (fun _ _ => blX10_matched_15) (fun z3 => (X_ret (fun _ _ => blX10_matched_28) (((q0.2 z1).2 z2).1 z3))) (fun z3 => (X_call (fun _ _ _ _ => blX10_matched_21) (K_mono (((q0.2 z1).2 z2).2 z3) (fun r2 σ2 q4 => (X_ifn (fun _ _ => blX10_matched_25) (fun z5 => (X_call (fun _ _ _ _ => blX10_matched_30) (K_mono (q4.1 z5) (fun r3 σ3 q6 => (X_ifn (fun _ _ => blX10_matched_38) (fun z7 => (X_calln (fun _ _ _ _ => blX10_matched_44) (K_mono (q6.1 z7) (fun r4 σ4 q8 => And.intro (fun z8 => (X_call (fun _ _ _ _ => blX10_matched_59_n) (K_mono (q8.1 z8) (fun r5 σ5 q9 => (X_ret (fun _ _ => blX10_matched_62) q9))))) (fun t6 z8 => (X_call (fun _ _ _ _ => blX10_matched_59_r) (K_mono (q8.2 t6 z8) (fun r7 σ7 q9 => (X_ret (fun _ _ => blX10_matched_62) q9))))))))) (fun z7 => (X_ret (fun _ _ => blX10_matched_41) (q6.2 z7)))))))) (fun z5 => (X_ret (fun _ _ => blX10_matched_28) (q4.2 z5))))))))))))))))
set_option maxRecDepth 20000 in
theorem vX10_instance {d : Nat} {σ : am_S} {Q : Int32 → am_S → Prop} {l1 : Int32} {l2 : Int32} {l3 : Int32} (H :
    am_K ri am_Lx IX3_has d [.ref 11, .int l1] σ (fun r1 σ1 =>
      (r1 = 0 →
        Q (-1 : Int32) σ1) ∧
      (¬ r1 = 0 →
        am_K ri am_Lx IX10_isSlot d [.int l2] σ1 (fun r2 σ2 =>
          (r2 = 0 →
            Q (-1 : Int32) σ2) ∧
          (¬ r2 = 0 →
            am_K ri am_Lx IX10_isSlot d [.int l3] σ2 (fun r3 σ3 =>
              (¬ r3 = 0 →
                (vp_in l2 16) ∧
                (gP σ3 1 (l2).toNatClampNeg = none →
                  Q (-2 : Int32) σ3) ∧
                (∀ t4, gP σ3 1 (l2).toNatClampNeg = some t4 →
                  am_X ri am_Lx IX10_instance (d + 1) 46 [some (.ref 0), some (.int l1), some (.int l2), some (.int l3), some (.ref t4), some (.int (0 : Int32))] [] σ3 Q)) ∧
              (r3 = 0 →
                Q (-1 : Int32) σ3))))))) : am_K ri am_Lx IX10_instance (d + 1) [.ref 0, .int l1, .int l2, .int l3] σ Q := K_of am_owX10_instance (Nat.le_of_ble_eq_true rfl) (X_call (fun _ _ _ _ => blX10_instance_0) (K_mono H (fun r1 σ1 q0 => (X_if (fun _ _ => blX10_instance_8) (fun z1 => (X_ret (fun _ _ => blX10_instance_25) (q0.1 z1))) (fun z1 => (X_call (fun _ _ _ _ => blX10_instance_11) (K_mono (q0.2 z1) (fun r2 σ2 q2 => (X_if (fun _ _ => blX10_instance_15) (fun z3 => (X_ret (fun _ _ => blX10_instance_25) (q2.1 z3))) (fun z3 => (X_call (fun _ _ _ _ => blX10_instance_18) (K_mono (q2.2 z3) (fun r3 σ3 q4 => (X_ifn (fun _ _ => blX10_instance_22) (fun z5 => (X_opt (fun _ _ => blX10_instance_27 (q4.1 z5).1) (fun z6 => (X_go (fun _ _ => blX10_instance_33_n) (X_ret (fun _ _ => blX10_instance_40) ((q4.1 z5).2.1 z6)))) (fun t4 z6 => (X_go (fun _ _ => blX10_instance_33_r) (X_go (fun _ _ => blX10_instance_43) ((q4.1 z5).2.2 t4 z6)))))) (fun z5 => (X_ret (fun _ _ => blX10_instance_25) (q4.2 z5)))))))))))))))))
set_option maxRecDepth 20000 in
theorem vX10_instance_46 {d : Nat} {σ : am_S} {Q : Int32 → am_S → Prop} {l1 : Int32} {l2 : Int32} {l3 : Int32} {l4 : Nat} {l5 : Int32} (H :
    ((22 : Int32) ≤ l5 →
      am_K rn am_Lx IX2_replaced d [.ref 3, .ref l4, .ref 2, .int (0 : Int32)] σ (fun r1 σ1 =>
        (r1 = none →
          am_K ri am_Lx IX10_kept d [.ref 0, .int l3, .null] σ1 (fun r2 σ2 =>
            Q r2 σ2)) ∧
        (∀ t3, r1 = some t3 →
          am_K ri am_Lx IX10_kept d [.ref 0, .int l3, .ref t3] σ1 (fun r4 σ4 =>
            Q r4 σ4)))) ∧
    (¬ (22 : Int32) ≤ l5 →
      am_K ri am_Lx IX3_inPattern d [.ref 11, .int l5] σ (fun r5 σ5 =>
        (r5 = 0 →
          am_K rn am_Lx IX2_variable d [.ref 3, .int l5] σ5 (fun r6 σ6 =>
            (r6 = none →
              (vp_in l5 22) ∧
              am_X ri am_Lx IX10_instance (d + 1) 46 [some (.ref 0), some (.int l1), some (.int l2), some (.int l3), some (.ref l4), some (.int (l5 + (1 : Int32)))] [] (wP σ6 2 (l5).toNatClampNeg none) Q) ∧
            (∀ t7, r6 = some t7 →
              (vp_in l5 22) ∧
              (am_isT am_Lx σ6 t7) ∧
              am_X ri am_Lx IX10_instance (d + 1) 46 [some (.ref 0), some (.int l1), some (.int l2), some (.int l3), some (.ref l4), some (.int (l5 + (1 : Int32)))] [] (wP σ6 2 (l5).toNatClampNeg (some t7)) Q))) ∧
        (¬ r5 = 0 →
          am_K rn am_Lx IX3_put d [.ref 11, .int l1, .int l5, .ref 3] σ5 (fun r8 σ8 =>
            (r8 = none →
              (vp_in l5 22) ∧
              am_X ri am_Lx IX10_instance (d + 1) 46 [some (.ref 0), some (.int l1), some (.int l2), some (.int l3), some (.ref l4), some (.int (l5 + (1 : Int32)))] [] (wP σ8 2 (l5).toNatClampNeg none) Q) ∧
            (∀ t9, r8 = some t9 →
              (vp_in l5 22) ∧
              (am_isT am_Lx σ8 t9) ∧
              am_X ri am_Lx IX10_instance (d + 1) 46 [some (.ref 0), some (.int l1), some (.int l2), some (.int l3), some (.ref l4), some (.int (l5 + (1 : Int32)))] [] (wP σ8 2 (l5).toNatClampNeg (some t9)) Q)))))) : am_X ri am_Lx IX10_instance (d + 1) 46 [some (.ref 0), some (.int l1), some (.int l2), some (.int l3), some (.ref l4), some (.int l5)] [] σ Q := (X_if (fun _ _ => blX10_instance_46) (fun z0 => (X_calln (fun _ _ _ _ => blX10_instance_104) (K_mono (H.1 z0) (fun r1 σ1 q1 => And.intro (fun z1 => (X_call (fun _ _ _ _ => blX10_instance_120_n) (K_mono (q1.1 z1) (fun r2 σ2 q2 => (X_ret (fun _ _ => blX10_instance_123) q2))))) (fun t3 z1 => (X_call (fun _ _ _ _ => blX10_instance_120_r) (K_mono (q1.2 t3 z1) (fun r4 σ4 q2 => (X_ret (fun _ _ => blX10_instance_123) q2))))))))) (fun z0 => (X_call (fun _ _ _ _ => blX10_instance_53) (K_mono (H.2 z0) (fun r5 σ5 q1 => (X_if (fun _ _ => blX10_instance_68) (fun z2 => (X_calln (fun _ _ _ _ => blX10_instance_88) (K_mono (q1.1 z2) (fun r6 σ6 q3 => And.intro (fun z3 => (X_go (fun _ _ => blX10_instance_97_n (q3.1 z3).1) (q3.1 z3).2)) (fun t7 z3 => (X_go (fun _ _ => blX10_instance_97_r (q3.2 t7 z3).1 (q3.2 t7 z3).2.1) (q3.2 t7 z3).2.2)))))) (fun z2 => (X_calln (fun _ _ _ _ => blX10_instance_71) (K_mono (q1.2 z2) (fun r8 σ8 q3 => And.intro (fun z3 => (X_go (fun _ _ => blX10_instance_85_n) (X_go (fun _ _ => blX10_instance_97_n (q3.1 z3).1) (q3.1 z3).2))) (fun t9 z3 => (X_go (fun _ _ => blX10_instance_85_r) (X_go (fun _ _ => blX10_instance_97_r (q3.2 t9 z3).1 (q3.2 t9 z3).2.1) (q3.2 t9 z3).2.2)))))))))))))
set_option maxRecDepth 20000 in
theorem vX10_system {d : Nat} {σ : am_S} {Q : Int32 → am_S → Prop} {l1 : Int32} {l2 : Int32} (H :
    (l1 < (1 : Int32) →
      Q (-1 : Int32) σ) ∧
    (¬ l1 < (1 : Int32) →
      ((3 : Int32) < l1 →
        Q (-1 : Int32) σ) ∧
      (¬ (3 : Int32) < l1 →
        (l2 < (1 : Int32) →
          Q (-1 : Int32) σ) ∧
        (¬ l2 < (1 : Int32) →
          (l2 ≤ (6 : Int32) →
            am_K ru am_Lx IX0_begin d [.ref 28, .int l1, .int l2] σ (fun _ σ1 =>
              Q (1 : Int32) σ1)) ∧
          (¬ l2 ≤ (6 : Int32) →
            Q (-1 : Int32) σ))))) : am_K ri am_Lx IX10_system (d + 1) [.ref 0, .int l1, .int l2] σ Q := K_of am_owX10_system (Nat.le_of_ble_eq_true rfl) (X_if (fun _ _ => blX10_system_0) (fun z0 => (X_ret (fun _ _ => blX10_system_21) (H.1 z0))) (fun z0 => (X_if (fun _ _ => blX10_system_5) (fun z1 => (X_ret (fun _ _ => blX10_system_21) ((H.2 z0).1 z1))) (fun z1 => (X_if (fun _ _ => blX10_system_10) (fun z2 => (X_ret (fun _ _ => blX10_system_21) (((H.2 z0).2 z1).1 z2))) (fun z2 => (X_if (fun _ _ => blX10_system_15) (fun z3 => (X_call (fun _ _ _ _ => blX10_system_23) (K_mono ((((H.2 z0).2 z1).2 z2).1 z3) (fun _ σ1 q4 => (X_ret (fun _ _ => blX10_system_32) q4))))) (fun z3 => (X_ret (fun _ _ => blX10_system_21) ((((H.2 z0).2 z1).2 z2).2 z3))))))))))
set_option maxRecDepth 20000 in
theorem vX10_number {d : Nat} {σ : am_S} {Q : Int32 → am_S → Prop} {l1 : Int32} {l2 : Int32} {l3 : Int32} (H :
    am_K ri am_Lx IX0_hasNumber d [.ref 28, .int l1, .int l2] σ (fun r1 σ1 =>
      (r1 = 0 →
        Q (-1001 : Int32) σ1) ∧
      (¬ r1 = 0 →
        (l3 < (-9 : Int32) →
          Q (-1001 : Int32) σ1) ∧
        (¬ l3 < (-9 : Int32) →
          (l3 ≤ (9 : Int32) →
            am_K ri am_Lx IX0_changed d [.ref 28, .int l1, .int l2, .int l3] σ1 (fun r2 σ2 =>
              Q r2 σ2)) ∧
          (¬ l3 ≤ (9 : Int32) →
            Q (-1001 : Int32) σ1))))) : am_K ri am_Lx IX10_number (d + 1) [.ref 0, .int l1, .int l2, .int l3] σ Q := K_of am_owX10_number (Nat.le_of_ble_eq_true rfl) (X_call (fun _ _ _ _ => blX10_number_0) (K_mono H (fun r1 σ1 q0 => (X_if (fun _ _ => blX10_number_9) (fun z1 => (X_ret (fun _ _ => blX10_number_24) (q0.1 z1))) (fun z1 => (X_if (fun _ _ => blX10_number_12) (fun z2 => (X_ret (fun _ _ => blX10_number_24) ((q0.2 z1).1 z2))) (fun z2 => (X_if (fun _ _ => blX10_number_18) (fun z3 => (X_call (fun _ _ _ _ => blX10_number_28) (K_mono (((q0.2 z1).2 z2).1 z3) (fun r2 σ2 q4 => (X_ret (fun _ _ => blX10_number_38) q4))))) (fun z3 => (X_ret (fun _ _ => blX10_number_24) (((q0.2 z1).2 z2).2 z3)))))))))))
set_option maxRecDepth 20000 in
theorem vX10_solve {d : Nat} {σ : am_S} {Q : Int32 → am_S → Prop} {l1 : Int32} (H :
    (l1 < (1 : Int32) →
      Q (-1 : Int32) σ) ∧
    (¬ l1 < (1 : Int32) →
      (l1 ≤ (16 : Int32) →
        am_K ri am_Lx IX0_found d [.ref 28, .int l1] σ (fun r1 σ1 =>
          Q r1 σ1)) ∧
      (¬ l1 ≤ (16 : Int32) →
        Q (-1 : Int32) σ))) : am_K ri am_Lx IX10_solve (d + 1) [.ref 0, .int l1] σ Q := K_of am_owX10_solve (Nat.le_of_ble_eq_true rfl) (X_if (fun _ _ => blX10_solve_0) (fun z0 => (X_go (fun _ _ => blX10_solve_11) (X_ret (fun _ _ => blX10_solve_23) (H.1 z0)))) (fun z0 => (X_if (fun _ _ => blX10_solve_5) (fun z1 => (X_call (fun _ _ _ _ => blX10_solve_15) (K_mono ((H.2 z0).1 z1) (fun r1 σ1 q2 => (X_ret (fun _ _ => blX10_solve_23) q2))))) (fun z1 => (X_go (fun _ _ => blX10_solve_11) (X_ret (fun _ _ => blX10_solve_23) ((H.2 z0).2 z1)))))))
set_option maxRecDepth 20000 in
theorem vX10_solution {d : Nat} {σ : am_S} {Q : Int32 → am_S → Prop} {l1 : Int32} {l2 : Int32} (H :
    am_K ri am_Lx IX0_has d [.ref 28, .int l1, .int l2] σ (fun r1 σ1 =>
      (r1 = 0 →
        Q (-1 : Int32) σ1) ∧
      (¬ r1 = 0 →
        am_K ri am_Lx IX0_given d [.ref 28, .int l1, .int l2] σ1 (fun r2 σ2 =>
          Q r2 σ2)))) : am_K ri am_Lx IX10_solution (d + 1) [.ref 0, .int l1, .int l2] σ Q := K_of am_owX10_solution (Nat.le_of_ble_eq_true rfl) (X_call (fun _ _ _ _ => blX10_solution_0) (K_mono H (fun r1 σ1 q0 => (X_if (fun _ _ => blX10_solution_9) (fun z1 => (X_go (fun _ _ => blX10_solution_24) (X_ret (fun _ _ => blX10_solution_25) (q0.1 z1)))) (fun z1 => (X_call (fun _ _ _ _ => blX10_solution_12) (K_mono (q0.2 z1) (fun r2 σ2 q2 => (X_go (fun _ _ => blX10_solution_21) (X_ret (fun _ _ => blX10_solution_25) q2))))))))))
set_option maxRecDepth 20000 in
theorem vX10_unify {d : Nat} {σ : am_S} {Q : Int32 → am_S → Prop} {l1 : Int32} {l2 : Int32} {l3 : Int32} (H :
    am_K ri am_Lx IX10_isSlot d [.int l1] σ (fun r1 σ1 =>
      (r1 = 0 →
        Q (-1 : Int32) σ1) ∧
      (¬ r1 = 0 →
        am_K ri am_Lx IX10_isSlot d [.int l2] σ1 (fun r2 σ2 =>
          (r2 = 0 →
            Q (-1 : Int32) σ2) ∧
          (¬ r2 = 0 →
            am_K ri am_Lx IX10_isSymbol d [.int l3] σ2 (fun r3 σ3 =>
              (¬ r3 = 0 →
                (vp_in l1 16) ∧
                (gP σ3 1 (l1).toNatClampNeg = none →
                  (vp_in l2 16) ∧
                  (gP σ3 1 (l2).toNatClampNeg = none →
                    Q (-2 : Int32) σ3) ∧
                  (∀ t5, gP σ3 1 (l2).toNatClampNeg = some t5 →
                    Q (-2 : Int32) σ3)) ∧
                (∀ t4, gP σ3 1 (l1).toNatClampNeg = some t4 →
                  (vp_in l2 16) ∧
                  (gP σ3 1 (l2).toNatClampNeg = none →
                    Q (-2 : Int32) σ3) ∧
                  (∀ t6, gP σ3 1 (l2).toNatClampNeg = some t6 →
                    am_K ri am_Lx IX9_takes d [.ref t4, .int ((3 : Int32) + l3)] σ3 (fun r7 σ7 =>
                      (r7 = 0 →
                        Q (-3 : Int32) σ7) ∧
                      (¬ r7 = 0 →
                        am_K ri am_Lx IX9_takes d [.ref t6, .int ((3 : Int32) + l3)] σ7 (fun r8 σ8 =>
                          (¬ r8 = 0 →
                            am_K ri am_Lx IX9_found d [.ref 35, .ref t4, .ref t6, .int ((3 : Int32) + l3)] σ8 (fun r9 σ9 =>
                              Q r9 σ9)) ∧
                          (r8 = 0 →
                            Q (-3 : Int32) σ8))))))) ∧
              (r3 = 0 →
                Q (-1 : Int32) σ3))))))) : am_K ri am_Lx IX10_unify (d + 1) [.ref 0, .int l1, .int l2, .int l3] σ Q := K_of am_owX10_unify (Nat.le_of_ble_eq_true rfl) (X_call (fun _ _ _ _ => blX10_unify_0) (K_mono H (fun r1 σ1 q0 => (X_if (fun _ _ => blX10_unify_4) (fun z1 => (X_ret (fun _ _ => blX10_unify_21) (q0.1 z1))) (fun z1 => (X_call (fun _ _ _ _ => blX10_unify_7) (K_mono (q0.2 z1) (fun r2 σ2 q2 => (X_if (fun _ _ => blX10_unify_11) (fun z3 => (X_ret (fun _ _ => blX10_unify_21) (q2.1 z3))) (fun z3 => (X_call (fun _ _ _ _ => blX10_unify_14) (K_mono (q2.2 z3) (fun r3 σ3 q4 => (X_ifn (fun _ _ => blX10_unify_18) (fun z5 => (X_opt (fun _ _ => blX10_unify_23 (q4.1 z5).1) (fun z6 => (X_opt (fun _ _ => blX10_unify_29_n ((q4.1 z5).2.1 z6).1) (fun z7 => (X_go (fun _ _ => blX10_unify_37_nn) (X_ret (fun _ _ => blX10_unify_49_nn) (((q4.1 z5).2.1 z6).2.1 z7)))) (fun t5 z7 => (X_go (fun _ _ => blX10_unify_37_nr) (X_ret (fun _ _ => blX10_unify_49_nr) (((q4.1 z5).2.1 z6).2.2 t5 z7)))))) (fun t4 z6 => (X_opt (fun _ _ => blX10_unify_29_r ((q4.1 z5).2.2 t4 z6).1) (fun z7 => (X_go (fun _ _ => blX10_unify_37_rn) (X_go (fun _ _ => blX10_unify_44_n) (X_ret (fun _ _ => blX10_unify_49_rn) (((q4.1 z5).2.2 t4 z6).2.1 z7))))) (fun t6 z7 => (X_go (fun _ _ => blX10_unify_37_rr) (X_go (fun _ _ => blX10_unify_44_r) (X_call (fun _ _ _ _ => blX10_unify_52) (K_mono (((q4.1 z5).2.2 t4 z6).2.2 t6 z7) (fun r7 σ7 q10 => (X_if (fun _ _ => blX10_unify_64) (fun z11 => (X_ret (fun _ _ => blX10_unify_77) (q10.1 z11))) (fun z11 => (X_call (fun _ _ _ _ => blX10_unify_67) (K_mono (q10.2 z11) (fun r8 σ8 q12 => (X_ifn (fun _ _ => blX10_unify_74) (fun z13 => (X_call (fun _ _ _ _ => blX10_unify_80) (K_mono (q12.1 z13) (fun r9 σ9 q14 => (X_ret (fun _ _ => blX10_unify_93) q14))))) (fun z13 => (X_ret (fun _ _ => blX10_unify_77) (q12.2 z13))))))))))))))))))) (fun z5 => (X_ret (fun _ _ => blX10_unify_21) (q4.2 z5)))))))))))))))))
set_option maxRecDepth 20000 in
theorem vX10_bases {d : Nat} {σ : am_S} {Q : Int32 → am_S → Prop} {l1 : Int32} (H :
    (l1 < 0 →
      Q (-1 : Int32) σ) ∧
    (¬ l1 < 0 →
      (l1 ≤ (2 : Int32) →
        (¬ (gS σ 35 10) = 0 →
          (¬ l1 = 0 →
            (¬ l1 = (1 : Int32) →
              Q (gS σ 35 7) σ) ∧
            (l1 = (1 : Int32) →
              Q (gS σ 35 9) σ)) ∧
          (l1 = 0 →
            Q (gS σ 36 11) σ)) ∧
        ((gS σ 35 10) = 0 →
          Q (-2 : Int32) σ)) ∧
      (¬ l1 ≤ (2 : Int32) →
        Q (-1 : Int32) σ))) : am_K ri am_Lx IX10_bases (d + 1) [.ref 0, .int l1] σ Q := K_of am_owX10_bases (Nat.le_of_ble_eq_true rfl) (X_if (fun _ _ => blX10_bases_0) (fun z0 => (X_ret (fun _ _ => blX10_bases_9) (H.1 z0))) (fun z0 => (X_if (fun _ _ => blX10_bases_4) (fun z1 => (X_ifn (fun _ _ => blX10_bases_11) (fun z2 => (X_ifn (fun _ _ => blX10_bases_24) (fun z3 => (X_ifn (fun _ _ => blX10_bases_41) (fun z4 => (X_go (fun _ _ => blX10_bases_56) (X_ret (fun _ _ => blX10_bases_63) (((((H.2 z0).1 z1).1 z2).1 z3).1 z4)))) (fun z4 => (X_go (fun _ _ => blX10_bases_46) (X_ret (fun _ _ => blX10_bases_63) (((((H.2 z0).1 z1).1 z2).1 z3).2 z4)))))) (fun z3 => (X_go (fun _ _ => blX10_bases_28) (X_ret (fun _ _ => blX10_bases_63) ((((H.2 z0).1 z1).1 z2).2 z3)))))) (fun z2 => (X_ret (fun _ _ => blX10_bases_21) (((H.2 z0).1 z1).2 z2))))) (fun z1 => (X_ret (fun _ _ => blX10_bases_9) ((H.2 z0).2 z1))))))
set_option maxRecDepth 20000 in
theorem vX10_base {d : Nat} {σ : am_S} {Q : Int32 → am_S → Prop} {l1 : Int32} {l2 : Int32} (H :
    ((gS σ 35 10) ≤ 0 →
      Q (-1 : Int32) σ) ∧
    (¬ (gS σ 35 10) ≤ 0 →
      am_K ri am_Lx IX0_has d [.ref 36, .int l1, .int l2] σ (fun r1 σ1 =>
        (r1 = 0 →
          Q (-1 : Int32) σ1) ∧
        (¬ r1 = 0 →
          am_K ri am_Lx IX0_given d [.ref 36, .int l1, .int l2] σ1 (fun r2 σ2 =>
            Q r2 σ2))))) : am_K ri am_Lx IX10_base (d + 1) [.ref 0, .int l1, .int l2] σ Q := K_of am_owX10_base (Nat.le_of_ble_eq_true rfl) (X_if (fun _ _ => blX10_base_0) (fun z0 => (X_go (fun _ _ => blX10_base_40) (X_ret (fun _ _ => blX10_base_41) (H.1 z0)))) (fun z0 => (X_call (fun _ _ _ _ => blX10_base_10) (K_mono (H.2 z0) (fun r1 σ1 q1 => (X_if (fun _ _ => blX10_base_22) (fun z2 => (X_go (fun _ _ => blX10_base_40) (X_ret (fun _ _ => blX10_base_41) (q1.1 z2)))) (fun z2 => (X_call (fun _ _ _ _ => blX10_base_25) (K_mono (q1.2 z2) (fun r2 σ2 q3 => (X_go (fun _ _ => blX10_base_37) (X_ret (fun _ _ => blX10_base_41) q3))))))))))))
set_option maxRecDepth 20000 in
theorem vX10_set {d : Nat} {σ : am_S} {Q : Int32 → am_S → Prop} {l1 : Int32} (H :
    (l1 < 0 →
      Q (-1 : Int32) σ) ∧
    (¬ l1 < 0 →
      (l1 < (gS σ 35 10) →
        am_K ri am_Lx IX9_bitsOf d [.ref 35, .int l1] σ (fun r1 σ1 =>
          Q r1 σ1)) ∧
      (¬ l1 < (gS σ 35 10) →
        Q (-1 : Int32) σ))) : am_K ri am_Lx IX10_set (d + 1) [.ref 0, .int l1] σ Q := K_of am_owX10_set (Nat.le_of_ble_eq_true rfl) (X_if (fun _ _ => blX10_set_0) (fun z0 => (X_go (fun _ _ => blX10_set_15) (X_ret (fun _ _ => blX10_set_27) (H.1 z0)))) (fun z0 => (X_if (fun _ _ => blX10_set_4) (fun z1 => (X_call (fun _ _ _ _ => blX10_set_19) (K_mono ((H.2 z0).1 z1) (fun r1 σ1 q2 => (X_ret (fun _ _ => blX10_set_27) q2))))) (fun z1 => (X_go (fun _ _ => blX10_set_15) (X_ret (fun _ _ => blX10_set_27) ((H.2 z0).2 z1)))))))
set_option maxRecDepth 20000 in
theorem vX10_unified {d : Nat} {σ : am_S} {Q : Int32 → am_S → Prop} {l1 : Int32} {l2 : Int32} {l3 : Int32} (H :
    (l1 < 0 →
      Q (-1 : Int32) σ) ∧
    (¬ l1 < 0 →
      ((gS σ 35 10) ≤ l1 →
        Q (-1 : Int32) σ) ∧
      (¬ (gS σ 35 10) ≤ l1 →
        am_K ri am_Lx IX10_isSlot d [.int l2] σ (fun r1 σ1 =>
          (r1 = 0 →
            Q (-1 : Int32) σ1) ∧
          (¬ r1 = 0 →
            am_K ri am_Lx IX10_isSlot d [.int l3] σ1 (fun r2 σ2 =>
              (¬ r2 = 0 →
                (vp_in l2 16) ∧
                (gP σ2 1 (l2).toNatClampNeg = none →
                  Q (-2 : Int32) σ2) ∧
                (∀ t3, gP σ2 1 (l2).toNatClampNeg = some t3 →
                  am_K ru am_Lx IX9_fill d [.ref 35, .ref 2, .int l1, .ref 3] σ2 (fun _ σ4 =>
                    am_K rn am_Lx IX2_replaced d [.ref 3, .ref t3, .ref 2, .int (0 : Int32)] σ4 (fun r5 σ5 =>
                      (r5 = none →
                        am_K ri am_Lx IX10_kept d [.ref 0, .int l3, .null] σ5 (fun r6 σ6 =>
                          Q r6 σ6)) ∧
                      (∀ t7, r5 = some t7 →
                        am_K ri am_Lx IX10_kept d [.ref 0, .int l3, .ref t7] σ5 (fun r8 σ8 =>
                          Q r8 σ8)))))) ∧
              (r2 = 0 →
                Q (-1 : Int32) σ2))))))) : am_K ri am_Lx IX10_unified (d + 1) [.ref 0, .int l1, .int l2, .int l3] σ Q := K_of am_owX10_unified (Nat.le_of_ble_eq_true rfl) (X_if (fun _ _ => blX10_unified_0) (fun z0 => (X_ret (fun _ _ => blX10_unified_29) (H.1 z0))) (fun z0 => (X_if (fun _ _ => blX10_unified_4) (fun z1 => (X_ret (fun _ _ => blX10_unified_29) ((H.2 z0).1 z1))) (fun z1 => (X_call (fun _ _ _ _ => blX10_unified_15) (K_mono ((H.2 z0).2 z1) (fun r1 σ1 q2 => (X_if (fun _ _ => blX10_unified_19) (fun z3 => (X_ret (fun _ _ => blX10_unified_29) (q2.1 z3))) (fun z3 => (X_call (fun _ _ _ _ => blX10_unified_22) (K_mono (q2.2 z3) (fun r2 σ2 q4 => (X_ifn (fun _ _ => blX10_unified_26) (fun z5 => (X_opt (fun _ _ => blX10_unified_31 (q4.1 z5).1) (fun z6 => (X_go (fun _ _ => blX10_unified_37_n) (X_ret (fun _ _ => blX10_unified_44) ((q4.1 z5).2.1 z6)))) (fun t3 z6 => (X_go (fun _ _ => blX10_unified_37_r) (X_call (fun _ _ _ _ => blX10_unified_47) (K_mono ((q4.1 z5).2.2 t3 z6) (fun _ σ4 q8 => (X_calln (fun _ _ _ _ => blX10_unified_63) (K_mono q8 (fun r5 σ5 q9 => And.intro (fun z9 => (X_call (fun _ _ _ _ => blX10_unified_79_n) (K_mono (q9.1 z9) (fun r6 σ6 q10 => (X_ret (fun _ _ => blX10_unified_82) q10))))) (fun t7 z9 => (X_call (fun _ _ _ _ => blX10_unified_79_r) (K_mono (q9.2 t7 z9) (fun r8 σ8 q10 => (X_ret (fun _ _ => blX10_unified_82) q10))))))))))))))) (fun z5 => (X_ret (fun _ _ => blX10_unified_29) (q4.2 z5))))))))))))))))
set_option maxRecDepth 20000 in
theorem vX10_isSlot {d : Nat} {σ : am_S} {Q : Int32 → am_S → Prop} {l0 : Int32} (H :
    (l0 < 0 →
      Q (0 : Int32) σ) ∧
    (¬ l0 < 0 →
      ((16 : Int32) ≤ l0 →
        Q (0 : Int32) σ) ∧
      (¬ (16 : Int32) ≤ l0 →
        Q (1 : Int32) σ))) : am_K ri am_Lx IX10_isSlot (d + 1) [.int l0] σ Q := K_of am_owX10_isSlot (Nat.le_of_ble_eq_true rfl) (X_if (fun _ _ => blX10_isSlot_0) (fun z0 => (X_go (fun _ _ => blX10_isSlot_14) (X_ret (fun _ _ => blX10_isSlot_15 (Or.inl rfl)) (H.1 z0)))) (fun z0 => (X_if (fun _ _ => blX10_isSlot_4) (fun z1 => (X_go (fun _ _ => blX10_isSlot_14) (X_ret (fun _ _ => blX10_isSlot_15 (Or.inl rfl)) ((H.2 z0).1 z1)))) (fun z1 => (X_go (fun _ _ => blX10_isSlot_10) (X_ret (fun _ _ => blX10_isSlot_15 (Or.inr rfl)) ((H.2 z0).2 z1)))))))
set_option maxRecDepth 20000 in
theorem vX10_isSymbol {d : Nat} {σ : am_S} {Q : Int32 → am_S → Prop} {l0 : Int32} (H :
    (l0 = 0 →
      Q (1 : Int32) σ) ∧
    (¬ l0 = 0 →
      (¬ l0 = (1 : Int32) →
        Q (0 : Int32) σ) ∧
      (l0 = (1 : Int32) →
        Q (1 : Int32) σ))) : am_K ri am_Lx IX10_isSymbol (d + 1) [.int l0] σ Q := K_of am_owX10_isSymbol (Nat.le_of_ble_eq_true rfl) (X_if (fun _ _ => blX10_isSymbol_0) (fun z0 => (X_go (fun _ _ => blX10_isSymbol_9) (X_ret (fun _ _ => blX10_isSymbol_14 (Or.inr rfl)) (H.1 z0)))) (fun z0 => (X_ifn (fun _ _ => blX10_isSymbol_4) (fun z1 => (X_go (fun _ _ => blX10_isSymbol_13) (X_ret (fun _ _ => blX10_isSymbol_14 (Or.inl rfl)) ((H.2 z0).1 z1)))) (fun z1 => (X_go (fun _ _ => blX10_isSymbol_9) (X_ret (fun _ _ => blX10_isSymbol_14 (Or.inr rfl)) ((H.2 z0).2 z1)))))))
set_option maxRecDepth 20000 in
theorem vX10_kept_r {d : Nat} {σ : am_S} {Q : Int32 → am_S → Prop} {l1 : Int32} {l2 : Nat} (H :
    (vp_in l1 16) ∧
    (am_isT am_Lx σ l2) ∧
    (am_isT am_Lx (wP σ 1 (l1).toNatClampNeg (some l2)) l2) ∧
    Q (gS σ l2 3) (wP σ 1 (l1).toNatClampNeg (some l2))) : am_K ri am_Lx IX10_kept (d + 1) [.ref 0, .int l1, .ref l2] σ Q := K_of am_owX10_kept (Nat.le_of_ble_eq_true rfl) (X_go (fun _ _ => blX10_kept_0_r) (X_ret (fun _ _ => blX10_kept_7 H.1 H.2.1 H.2.2.1) H.2.2.2))
set_option maxRecDepth 20000 in
theorem vX10_kept_n {d : Nat} {σ : am_S} {Q : Int32 → am_S → Prop} {l1 : Int32} (H :
    Q (-4 : Int32) σ) : am_K ri am_Lx IX10_kept (d + 1) [.ref 0, .int l1, .null] σ Q := K_of am_owX10_kept (Nat.le_of_ble_eq_true rfl) (X_go (fun _ _ => blX10_kept_0_n) (X_ret (fun _ _ => blX10_kept_4) H))
