set_option maxRecDepth 20000 in
theorem vX1_take {d : Nat} {σ : am_S} {Q : Unit → am_S → Prop} {l1 : Nat} (H :
    am_K ru am_Lx IX1_gather d [.ref 12, .ref l1, .int (0 : Int32)] (wS σ 12 3 (0 : Int32)) (fun _ σ1 =>
      am_X ru am_Lx IX1_take (d + 1) 13 [some (.ref 12), some (.ref l1), some (.int (1 : Int32)), none, none, none, none, none] [] σ1 Q)) : am_K ru am_Lx IX1_take (d + 1) [.ref 12, .ref l1] σ Q := K_of am_owX1_take (Nat.le_of_ble_eq_true rfl) (X_call (fun _ _ _ _ => blX1_take_0) (K_mono H (fun _ σ1 q0 => (X_go (fun _ _ => blX1_take_11) q0))))
set_option maxRecDepth 20000 in
theorem vX1_take_13 {d : Nat} {σ : am_S} {Q : Unit → am_S → Prop} {l1 : Nat} {l2 : Int32} (H :
    ((gS σ 12 3) < l2 →
      Q () σ) ∧
    (¬ (gS σ 12 3) < l2 →
      (vp_in l2 64) ∧
      (gP σ 13 (l2).toNatClampNeg = none →
        False) ∧
      (∀ t1, gP σ 13 (l2).toNatClampNeg = some t1 →
        (am_isT am_Lx σ t1) ∧
        ((gS σ t1 0) ≤ (2 : Int32) →
          am_K rj am_Lx IX7_empty d [.int (0 : Int32)] σ (fun r2 σ2 =>
            am_X ru am_Lx IX1_take (d + 1) 64 [some (.ref 12), some (.ref l1), some (.int l2), some (.ref t1), some (.int (0 : Int32)), some (.long r2), none, some (.int (0 : Int32))] [] σ2 Q)) ∧
        (¬ (gS σ t1 0) ≤ (2 : Int32) →
          (am_isT am_Lx σ t1) ∧
          am_K rj am_Lx IX7_empty d [.int (gS σ t1 0)] σ (fun r3 σ3 =>
            am_X ru am_Lx IX1_take (d + 1) 64 [some (.ref 12), some (.ref l1), some (.int l2), some (.ref t1), some (.int (1 : Int32)), some (.long r3), none, some (.int (0 : Int32))] [] σ3 Q))))) : am_X ru am_Lx IX1_take (d + 1) 13 [some (.ref 12), some (.ref l1), some (.int l2), none, none, none, none, none] [] σ Q := (X_if (fun _ _ => blX1_take_13) (fun z0 => (X_ret (fun _ _ => blX1_take_136) (H.1 z0))) (fun z0 => (X_opt (fun _ _ => blX1_take_21 (H.2 z0).1) (fun z1 => (False.elim ((H.2 z0).2.1 z1))) (fun t1 z1 => (X_if (fun _ _ => blX1_take_27_r ((H.2 z0).2.2 t1 z1).1) (fun z2 => (X_go (fun _ _ => blX1_take_40) (X_go (fun _ _ h => blX1_take_41 (fun _ => h) (fun z => absurd z (by decide))) (X_go (fun _ _ => blX1_take_55) (X_call (fun _ _ _ _ => blX1_take_56) (K_mono (((H.2 z0).2.2 t1 z1).2.1 z2) (fun r2 σ2 q6 => (X_go (fun _ _ => blX1_take_59) q6)))))))) (fun z2 => (X_go (fun _ _ => blX1_take_36) (X_go (fun _ _ h => blX1_take_41 (fun z => absurd z (by decide)) (fun _ => h)) (X_go (fun _ _ => blX1_take_48 (((H.2 z0).2.2 t1 z1).2.2 z2).1) (X_call (fun _ _ _ _ => blX1_take_56) (K_mono (((H.2 z0).2.2 t1 z1).2.2 z2).2 (fun r3 σ3 q6 => (X_go (fun _ _ => blX1_take_59) q6)))))))))))))
set_option maxRecDepth 20000 in
theorem vX1_take_64 {d : Nat} {σ : am_S} {Q : Unit → am_S → Prop} {l1 : Nat} {l2 : Int32} {l3 : Nat} {l4 : Int32} {l5 : Int64} {l7 : Int32} (H :
    (am_isT am_Lx σ l3) ∧
    (gQ σ l3 = none →
      False) ∧
    (∀ t1, gQ σ l3 = some t1 →
      (am_isA am_Lx σ t1) ∧
      ((Int32.ofNat (am_rl am_Lx σ t1)) ≤ l7 →
        (vp_in l2 64) ∧
        (l4 = 0 →
          am_K rj am_Lx IX7_empty d [.int (0 : Int32)] (wJ σ 14 (l2).toNatClampNeg l5) (fun r2 σ2 =>
            am_K rj am_Lx IX7_with d [.long r2, .int l2] σ2 (fun r3 σ3 =>
              (vp_in l2 64) ∧
              am_X ru am_Lx IX1_take (d + 1) 13 [some (.ref 12), some (.ref l1), some (.int (l2 + (1 : Int32))), none, none, none, none, none] [] (wJ σ3 15 (l2).toNatClampNeg r3) Q))) ∧
        (¬ l4 = 0 →
          (vp_in l2 64) ∧
          am_X ru am_Lx IX1_take (d + 1) 13 [some (.ref 12), some (.ref l1), some (.int (l2 + (1 : Int32))), none, none, none, none, none] [] (wJ (wJ σ 14 (l2).toNatClampNeg l5) 15 (l2).toNatClampNeg l5) Q)) ∧
      (¬ (Int32.ofNat (am_rl am_Lx σ t1)) ≤ l7 →
        (am_isT am_Lx σ l3) ∧
        (gQ σ l3 = none →
          False) ∧
        (∀ t4, gQ σ l3 = some t4 →
          (am_isR am_Lx σ t4) ∧
          (vp_in l7 (am_rl am_Lx σ t4)) ∧
          (gP σ t4 (l7).toNatClampNeg = none →
            am_K ri am_Lx IX1_idOf d [.ref 12, .null] σ (fun r6 σ6 =>
              am_K rj am_Lx IX7_with d [.long l5, .int r6] σ6 (fun r7 σ7 =>
                am_X ru am_Lx IX1_take (d + 1) 64 [some (.ref 12), some (.ref l1), some (.int l2), some (.ref l3), some (.int l4), some (.long r7), none, some (.int (l7 + (1 : Int32)))] [] σ7 Q))) ∧
          (∀ t5, gP σ t4 (l7).toNatClampNeg = some t5 →
            am_K ri am_Lx IX1_idOf d [.ref 12, .ref t5] σ (fun r8 σ8 =>
              am_K rj am_Lx IX7_with d [.long l5, .int r8] σ8 (fun r9 σ9 =>
                am_X ru am_Lx IX1_take (d + 1) 64 [some (.ref 12), some (.ref l1), some (.int l2), some (.ref l3), some (.int l4), some (.long r9), none, some (.int (l7 + (1 : Int32)))] [] σ9 Q))))))) : am_X ru am_Lx IX1_take (d + 1) 64 [some (.ref 12), some (.ref l1), some (.int l2), some (.ref l3), some (.int l4), some (.long l5), none, some (.int l7)] [] σ Q := (X_opt (fun _ _ => blX1_take_64 H.1) (fun z0 => (False.elim (H.2.1 z0))) (fun t1 z0 => (X_if (fun _ _ => blX1_take_70_r (H.2.2 t1 z0).1) (fun z1 => (X_if (fun _ _ => blX1_take_98 ((H.2.2 t1 z0).2.1 z1).1) (fun z2 => (X_call (fun _ _ _ _ => blX1_take_121) (K_mono (((H.2.2 t1 z0).2.1 z1).2.1 z2) (fun r2 σ2 q3 => (X_call (fun _ _ _ _ => blX1_take_125) (K_mono q3 (fun r3 σ3 q4 => (X_go (fun _ _ => blX1_take_129 q4.1) q4.2)))))))) (fun z2 => (X_go (fun _ _ => blX1_take_116) (X_go (fun _ _ => blX1_take_129 (((H.2.2 t1 z0).2.1 z1).2.2 z2).1) (((H.2.2 t1 z0).2.1 z1).2.2 z2).2))))) (fun z1 => (X_opt (fun _ _ => blX1_take_74 ((H.2.2 t1 z0).2.2 z1).1) (fun z2 => (False.elim (((H.2.2 t1 z0).2.2 z1).2.1 z2))) (fun t4 z2 => (X_opt (fun _ _ => blX1_take_81_r (((H.2.2 t1 z0).2.2 z1).2.2 t4 z2).1 (((H.2.2 t1 z0).2.2 z1).2.2 t4 z2).2.1) (fun z3 => (X_call (fun _ _ _ _ => blX1_take_84_n) (K_mono ((((H.2.2 t1 z0).2.2 z1).2.2 t4 z2).2.2.1 z3) (fun r6 σ6 q4 => (X_call (fun _ _ _ _ => blX1_take_87) (K_mono q4 (fun r7 σ7 q5 => (X_go (fun _ _ => blX1_take_90) q5)))))))) (fun t5 z3 => (X_call (fun _ _ _ _ => blX1_take_84_r) (K_mono ((((H.2.2 t1 z0).2.2 z1).2.2 t4 z2).2.2.2 t5 z3) (fun r8 σ8 q4 => (X_call (fun _ _ _ _ => blX1_take_87) (K_mono q4 (fun r9 σ9 q5 => (X_go (fun _ _ => blX1_take_90) q5)))))))))))))))
set_option maxRecDepth 20000 in
theorem vX1_gather {d : Nat} {σ : am_S} {Q : Unit → am_S → Prop} {l1 : Nat} {l2 : Int32} (H :
    ((40 : Int32) ≤ l2 →
      Q () σ) ∧
    (¬ (40 : Int32) ≤ l2 →
      ((40 : Int32) ≤ (gS σ 12 3) →
        Q () σ) ∧
      (¬ (40 : Int32) ≤ (gS σ 12 3) →
        am_K ri am_Lx IX1_idOf d [.ref 12, .ref l1] σ (fun r1 σ1 =>
          (r1 = 0 →
            am_K ri am_Lx IX1_placeOf d [.ref 12, .ref l1] σ1 (fun r2 σ2 =>
              am_X ru am_Lx IX1_gather (d + 1) 36 [some (.ref 12), some (.ref l1), some (.int l2), some (.int r2), some (.int (gS σ2 12 3))] [] σ2 Q)) ∧
          (¬ r1 = 0 →
            Q () σ1))))) : am_K ru am_Lx IX1_gather (d + 1) [.ref 12, .ref l1, .int l2] σ Q := K_of am_owX1_gather (Nat.le_of_ble_eq_true rfl) (X_if (fun _ _ => blX1_gather_0) (fun z0 => (X_ret (fun _ _ => blX1_gather_23) (H.1 z0))) (fun z0 => (X_if (fun _ _ => blX1_gather_6) (fun z1 => (X_ret (fun _ _ => blX1_gather_23) ((H.2 z0).1 z1))) (fun z1 => (X_call (fun _ _ _ _ => blX1_gather_15) (K_mono ((H.2 z0).2 z1) (fun r1 σ1 q2 => (X_if (fun _ _ => blX1_gather_20) (fun z3 => (X_call (fun _ _ _ _ => blX1_gather_24) (K_mono (q2.1 z3) (fun r2 σ2 q4 => (X_go (fun _ _ => blX1_gather_29) q4))))) (fun z3 => (X_ret (fun _ _ => blX1_gather_23) (q2.2 z3)))))))))))
set_option maxRecDepth 20000 in
theorem vX1_gather_36 {d : Nat} {σ : am_S} {Q : Unit → am_S → Prop} {l1 : Nat} {l2 : Int32} {l3 : Int32} {l4 : Int32} (H :
    (l4 < l3 →
      (vp_in l3 64) ∧
      (am_isT am_Lx σ l1) ∧
      am_X ru am_Lx IX1_gather (d + 1) 84 [some (.ref 12), some (.ref l1), some (.int l2), some (.int l3), some (.int (0 : Int32))] [] (wS (wP σ 13 (l3).toNatClampNeg (some l1)) 12 3 ((gS σ 12 3) + (1 : Int32))) Q) ∧
    (¬ l4 < l3 →
      (vp_in l4 64) ∧
      (gP σ 13 (l4).toNatClampNeg = none →
        (vp_in (l4 + (1 : Int32)) 64) ∧
        am_X ru am_Lx IX1_gather (d + 1) 36 [some (.ref 12), some (.ref l1), some (.int l2), some (.int l3), some (.int (l4 + (-1 : Int32)))] [] (wP σ 13 ((l4 + (1 : Int32))).toNatClampNeg none) Q) ∧
      (∀ t1, gP σ 13 (l4).toNatClampNeg = some t1 →
        (vp_in (l4 + (1 : Int32)) 64) ∧
        (am_isT am_Lx σ t1) ∧
        am_X ru am_Lx IX1_gather (d + 1) 36 [some (.ref 12), some (.ref l1), some (.int l2), some (.int l3), some (.int (l4 + (-1 : Int32)))] [] (wP σ 13 ((l4 + (1 : Int32))).toNatClampNeg (some t1)) Q))) : am_X ru am_Lx IX1_gather (d + 1) 36 [some (.ref 12), some (.ref l1), some (.int l2), some (.int l3), some (.int l4)] [] σ Q := (X_if (fun _ _ => blX1_gather_36) (fun z0 => (X_go (fun _ _ => blX1_gather_64 (H.1 z0).1 (H.1 z0).2.1) (H.1 z0).2.2)) (fun z0 => (X_opt (fun _ _ => blX1_gather_42 (H.2 z0).1) (fun z1 => (X_go (fun _ _ => blX1_gather_57_n ((H.2 z0).2.1 z1).1) ((H.2 z0).2.1 z1).2)) (fun t1 z1 => (X_go (fun _ _ => blX1_gather_57_r ((H.2 z0).2.2 t1 z1).1 ((H.2 z0).2.2 t1 z1).2.1) ((H.2 z0).2.2 t1 z1).2.2)))))
set_option maxRecDepth 20000 in
theorem vX1_gather_84 {d : Nat} {σ : am_S} {Q : Unit → am_S → Prop} {l1 : Nat} {l2 : Int32} {l3 : Int32} {l4 : Int32} (H :
    (am_isT am_Lx σ l1) ∧
    (gQ σ l1 = none →
      False) ∧
    (∀ t1, gQ σ l1 = some t1 →
      (am_isA am_Lx σ t1) ∧
      ((Int32.ofNat (am_rl am_Lx σ t1)) ≤ l4 →
        Q () σ) ∧
      (¬ (Int32.ofNat (am_rl am_Lx σ t1)) ≤ l4 →
        (am_isT am_Lx σ l1) ∧
        (gQ σ l1 = none →
          False) ∧
        (∀ t2, gQ σ l1 = some t2 →
          (am_isR am_Lx σ t2) ∧
          (vp_in l4 (am_rl am_Lx σ t2)) ∧
          (gP σ t2 (l4).toNatClampNeg = none →
            am_K ru am_Lx IX1_gather d [.ref 12, .null, .int (l2 + (1 : Int32))] σ (fun _ σ4 =>
              am_X ru am_Lx IX1_gather (d + 1) 84 [some (.ref 12), some (.ref l1), some (.int l2), some (.int l3), some (.int (l4 + (1 : Int32)))] [] σ4 Q)) ∧
          (∀ t3, gP σ t2 (l4).toNatClampNeg = some t3 →
            am_K ru am_Lx IX1_gather d [.ref 12, .ref t3, .int (l2 + (1 : Int32))] σ (fun _ σ5 =>
              am_X ru am_Lx IX1_gather (d + 1) 84 [some (.ref 12), some (.ref l1), some (.int l2), some (.int l3), some (.int (l4 + (1 : Int32)))] [] σ5 Q)))))) : am_X ru am_Lx IX1_gather (d + 1) 84 [some (.ref 12), some (.ref l1), some (.int l2), some (.int l3), some (.int l4)] [] σ Q := (X_opt (fun _ _ => blX1_gather_84 H.1) (fun z0 => (False.elim (H.2.1 z0))) (fun t1 z0 => (X_if (fun _ _ => blX1_gather_90_r (H.2.2 t1 z0).1) (fun z1 => (X_ret (fun _ _ => blX1_gather_114) ((H.2.2 t1 z0).2.1 z1))) (fun z1 => (X_opt (fun _ _ => blX1_gather_94 ((H.2.2 t1 z0).2.2 z1).1) (fun z2 => (False.elim (((H.2.2 t1 z0).2.2 z1).2.1 z2))) (fun t2 z2 => (X_opt (fun _ _ => blX1_gather_99_r (((H.2.2 t1 z0).2.2 z1).2.2 t2 z2).1 (((H.2.2 t1 z0).2.2 z1).2.2 t2 z2).2.1) (fun z3 => (X_call (fun _ _ _ _ => blX1_gather_102_n) (K_mono ((((H.2.2 t1 z0).2.2 z1).2.2 t2 z2).2.2.1 z3) (fun _ σ4 q4 => (X_go (fun _ _ => blX1_gather_108) q4))))) (fun t3 z3 => (X_call (fun _ _ _ _ => blX1_gather_102_r) (K_mono ((((H.2.2 t1 z0).2.2 z1).2.2 t2 z2).2.2.2 t3 z3) (fun _ σ5 q4 => (X_go (fun _ _ => blX1_gather_108) q4))))))))))))
set_option maxRecDepth 20000 in
theorem vX1_placeOf {d : Nat} {σ : am_S} {Q : Int32 → am_S → Prop} {l1 : Nat} (H :
    am_X ri am_Lx IX1_placeOf (d + 1) 9 [some (.ref 12), some (.ref l1), some (.int (1 : Int32)), some (.int ((gS σ 12 3) + (1 : Int32))), none] [] σ Q) : am_K ri am_Lx IX1_placeOf (d + 1) [.ref 12, .ref l1] σ Q := K_of am_owX1_placeOf (Nat.le_of_ble_eq_true rfl) (X_go (fun _ _ => blX1_placeOf_0) H)
set_option maxRecDepth 20000 in
theorem vX1_placeOf_9 {d : Nat} {σ : am_S} {Q : Int32 → am_S → Prop} {l1 : Nat} {l2 : Int32} {l3 : Int32} (H :
    (l3 ≤ l2 →
      Q l2 σ) ∧
    (¬ l3 ≤ l2 →
      (vp_in ((l2 + l3) >>> ((1 : Int32) &&& 31)) 64) ∧
      (gP σ 13 (((l2 + l3) >>> ((1 : Int32) &&& 31))).toNatClampNeg = none →
        am_K ri am_Lx IX8_compare d [.null, .ref l1, .int (0 : Int32)] σ (fun r2 σ2 =>
          (0 ≤ r2 →
            am_X ri am_Lx IX1_placeOf (d + 1) 9 [some (.ref 12), some (.ref l1), some (.int l2), some (.int ((l2 + l3) >>> ((1 : Int32) &&& 31))), none] [] σ2 Q) ∧
          (¬ 0 ≤ r2 →
            am_X ri am_Lx IX1_placeOf (d + 1) 9 [some (.ref 12), some (.ref l1), some (.int (((l2 + l3) >>> ((1 : Int32) &&& 31)) + (1 : Int32))), some (.int l3), none] [] σ2 Q))) ∧
      (∀ t1, gP σ 13 (((l2 + l3) >>> ((1 : Int32) &&& 31))).toNatClampNeg = some t1 →
        am_K ri am_Lx IX8_compare d [.ref t1, .ref l1, .int (0 : Int32)] σ (fun r3 σ3 =>
          (0 ≤ r3 →
            am_X ri am_Lx IX1_placeOf (d + 1) 9 [some (.ref 12), some (.ref l1), some (.int l2), some (.int ((l2 + l3) >>> ((1 : Int32) &&& 31))), none] [] σ3 Q) ∧
          (¬ 0 ≤ r3 →
            am_X ri am_Lx IX1_placeOf (d + 1) 9 [some (.ref 12), some (.ref l1), some (.int (((l2 + l3) >>> ((1 : Int32) &&& 31)) + (1 : Int32))), some (.int l3), none] [] σ3 Q))))) : am_X ri am_Lx IX1_placeOf (d + 1) 9 [some (.ref 12), some (.ref l1), some (.int l2), some (.int l3), none] [] σ Q := (X_if (fun _ _ => blX1_placeOf_9) (fun z0 => (X_ret (fun _ _ => blX1_placeOf_50) (H.1 z0))) (fun z0 => (X_opt (fun _ _ => blX1_placeOf_14 (H.2 z0).1) (fun z1 => (X_call (fun _ _ _ _ => blX1_placeOf_28_n) (K_mono ((H.2 z0).2.1 z1) (fun r2 σ2 q2 => (X_if (fun _ _ => blX1_placeOf_33) (fun z3 => (X_go (fun _ _ => blX1_placeOf_44) (X_go (fun _ _ => blX1_placeOf_47) (q2.1 z3)))) (fun z3 => (X_go (fun _ _ => blX1_placeOf_36) (X_go (fun _ _ => blX1_placeOf_47) (q2.2 z3))))))))) (fun t1 z1 => (X_call (fun _ _ _ _ => blX1_placeOf_28_r) (K_mono ((H.2 z0).2.2 t1 z1) (fun r3 σ3 q2 => (X_if (fun _ _ => blX1_placeOf_33) (fun z3 => (X_go (fun _ _ => blX1_placeOf_44) (X_go (fun _ _ => blX1_placeOf_47) (q2.1 z3)))) (fun z3 => (X_go (fun _ _ => blX1_placeOf_36) (X_go (fun _ _ => blX1_placeOf_47) (q2.2 z3))))))))))))
set_option maxRecDepth 20000 in
theorem vX1_idOf {d : Nat} {σ : am_S} {Q : Int32 → am_S → Prop} {l1 : Nat} (H :
    am_K ri am_Lx IX1_placeOf d [.ref 12, .ref l1] σ (fun r1 σ1 =>
      ((gS σ1 12 3) < r1 →
        Q (0 : Int32) σ1) ∧
      (¬ (gS σ1 12 3) < r1 →
        (vp_in r1 64) ∧
        (gP σ1 13 (r1).toNatClampNeg = none →
          am_K ri am_Lx IX8_compare d [.null, .ref l1, .int (0 : Int32)] σ1 (fun r3 σ3 =>
            (¬ r3 = 0 →
              Q (0 : Int32) σ3) ∧
            (r3 = 0 →
              Q r1 σ3))) ∧
        (∀ t2, gP σ1 13 (r1).toNatClampNeg = some t2 →
          am_K ri am_Lx IX8_compare d [.ref t2, .ref l1, .int (0 : Int32)] σ1 (fun r4 σ4 =>
            (¬ r4 = 0 →
              Q (0 : Int32) σ4) ∧
            (r4 = 0 →
              Q r1 σ4)))))) : am_K ri am_Lx IX1_idOf (d + 1) [.ref 12, .ref l1] σ Q := K_of am_owX1_idOf (Nat.le_of_ble_eq_true rfl) (X_call (fun _ _ _ _ => blX1_idOf_0) (K_mono H (fun r1 σ1 q0 => (X_if (fun _ _ => blX1_idOf_5) (fun z1 => (X_go (fun _ _ => blX1_idOf_32) (X_ret (fun _ _ => blX1_idOf_33) (q0.1 z1)))) (fun z1 => (X_opt (fun _ _ => blX1_idOf_14 (q0.2 z1).1) (fun z2 => (X_call (fun _ _ _ _ => blX1_idOf_20_n) (K_mono ((q0.2 z1).2.1 z2) (fun r3 σ3 q3 => (X_ifn (fun _ _ => blX1_idOf_25) (fun z4 => (X_go (fun _ _ => blX1_idOf_32) (X_ret (fun _ _ => blX1_idOf_33) (q3.1 z4)))) (fun z4 => (X_go (fun _ _ => blX1_idOf_28) (X_ret (fun _ _ => blX1_idOf_33) (q3.2 z4))))))))) (fun t2 z2 => (X_call (fun _ _ _ _ => blX1_idOf_20_r) (K_mono ((q0.2 z1).2.2 t2 z2) (fun r4 σ4 q3 => (X_ifn (fun _ _ => blX1_idOf_25) (fun z4 => (X_go (fun _ _ => blX1_idOf_32) (X_ret (fun _ _ => blX1_idOf_33) (q3.1 z4)))) (fun z4 => (X_go (fun _ _ => blX1_idOf_28) (X_ret (fun _ _ => blX1_idOf_33) (q3.2 z4)))))))))))))))
set_option maxRecDepth 20000 in
theorem vX1_valueOf {d : Nat} {σ : am_S} {Q : Int64 → am_S → Prop} {l1 : Int64} (H :
    am_K ri am_Lx IX7_size d [.long l1] σ (fun r1 σ1 =>
      (¬ r1 = (1 : Int32) →
        Q l1 σ1) ∧
      (r1 = (1 : Int32) →
        am_K ri am_Lx IX7_at d [.long l1, .int (0 : Int32)] σ1 (fun r2 σ2 =>
          (vp_in r2 64) ∧
          Q (gJ σ2 15 (r2).toNatClampNeg) σ2)))) : am_K rj am_Lx IX1_valueOf (d + 1) [.ref 12, .long l1] σ Q := K_of am_owX1_valueOf (Nat.le_of_ble_eq_true rfl) (X_call (fun _ _ _ _ => blX1_valueOf_0) (K_mono H (fun r1 σ1 q0 => (X_ifn (fun _ _ => blX1_valueOf_4) (fun z1 => (X_go (fun _ _ => blX1_valueOf_21) (X_ret (fun _ _ => blX1_valueOf_22) (q0.1 z1)))) (fun z1 => (X_call (fun _ _ _ _ => blX1_valueOf_8) (K_mono (q0.2 z1) (fun r2 σ2 q2 => (X_go (fun _ _ => blX1_valueOf_17 q2.1) (X_ret (fun _ _ => blX1_valueOf_22) q2.2))))))))))
set_option maxRecDepth 20000 in
theorem vX1_made {d : Nat} {σ : am_S} {Q : Option Nat → am_S → Prop} {l1 : Int64} (H :
    am_K ri am_Lx IX2_mark d [.ref 3] σ (fun r1 σ1 =>
      am_K ri am_Lx IX7_size d [.long l1] σ1 (fun r2 σ2 =>
        am_X rn am_Lx IX1_made (d + 1) 15 [some (.ref 12), some (.long l1), none, some (.ref 3), some (.int r1), some (.int r2), some (.int (0 : Int32))] [] σ2 Q))) : am_K rn am_Lx IX1_made (d + 1) [.ref 12, .long l1, .ref 3] σ Q := K_of am_owX1_made (Nat.le_of_ble_eq_true rfl) (X_call (fun _ _ _ _ => blX1_made_0) (K_mono H (fun r1 σ1 q0 => (X_call (fun _ _ _ _ => blX1_made_4) (K_mono q0 (fun r2 σ2 q1 => (X_go (fun _ _ => blX1_made_10) q1)))))))
set_option maxRecDepth 20000 in
theorem vX1_made_15 {d : Nat} {σ : am_S} {Q : Option Nat → am_S → Prop} {l1 : Int64} {l4 : Int32} {l5 : Int32} {l6 : Int32} (H :
    (l5 ≤ l6 →
      am_K ri am_Lx IX7_kind d [.long l1] σ (fun r1 σ1 =>
        am_K rn am_Lx IX2_together d [.ref 3, .int r1, .int l4] σ1 (fun r2 σ2 =>
          (r2 = none →
            Q none σ2) ∧
          (∀ t3, r2 = some t3 →
            Q (some t3) σ2)))) ∧
    (¬ l5 ≤ l6 →
      am_K ri am_Lx IX7_at d [.long l1, .int l6] σ (fun r4 σ4 =>
        (vp_in r4 64) ∧
        (gP σ4 13 (r4).toNatClampNeg = none →
          am_K ru am_Lx IX2_push d [.ref 3, .null] σ4 (fun _ σ6 =>
            am_X rn am_Lx IX1_made (d + 1) 15 [some (.ref 12), some (.long l1), none, some (.ref 3), some (.int l4), some (.int l5), some (.int (l6 + (1 : Int32)))] [] σ6 Q)) ∧
        (∀ t5, gP σ4 13 (r4).toNatClampNeg = some t5 →
          am_K ru am_Lx IX2_push d [.ref 3, .ref t5] σ4 (fun _ σ7 =>
            am_X rn am_Lx IX1_made (d + 1) 15 [some (.ref 12), some (.long l1), none, some (.ref 3), some (.int l4), some (.int l5), some (.int (l6 + (1 : Int32)))] [] σ7 Q))))) : am_X rn am_Lx IX1_made (d + 1) 15 [some (.ref 12), some (.long l1), none, some (.ref 3), some (.int l4), some (.int l5), some (.int l6)] [] σ Q := (X_if (fun _ _ => blX1_made_15) (fun z0 => (X_call (fun _ _ _ _ => blX1_made_43) (K_mono (H.1 z0) (fun r1 σ1 q1 => (X_calln (fun _ _ _ _ => blX1_made_48) (K_mono q1 (fun r2 σ2 q2 => And.intro (fun z2 => (X_ret (fun _ _ => blX1_made_53_n) (q2.1 z2))) (fun t3 z2 => (X_ret (fun _ _ => blX1_made_53_r) (q2.2 t3 z2)))))))))) (fun z0 => (X_call (fun _ _ _ _ => blX1_made_22) (K_mono (H.2 z0) (fun r4 σ4 q1 => (X_opt (fun _ _ => blX1_made_33 q1.1) (fun z2 => (X_call (fun _ _ _ _ => blX1_made_34_n) (K_mono (q1.2.1 z2) (fun _ σ6 q3 => (X_go (fun _ _ => blX1_made_37) q3))))) (fun t5 z2 => (X_call (fun _ _ _ _ => blX1_made_34_r) (K_mono (q1.2.2 t5 z2) (fun _ σ7 q3 => (X_go (fun _ _ => blX1_made_37) q3)))))))))))
set_option maxRecDepth 20000 in
theorem vX4_takes {d : Nat} {σ : am_S} {Q : Int32 → am_S → Prop} {l1 : Nat} (H :
    (am_isT am_Lx σ l1) ∧
    am_K ru am_Lx IX4_add d [.ref 16, .ref l1, .int (0 : Int32)] (wS (wS σ 16 8 (gS σ l1 4)) 16 7 (0 : Int32)) (fun _ σ1 =>
      am_X ri am_Lx IX4_takes (d + 1) 24 [some (.ref 16), some (.ref l1), some (.ref 12), some (.int (1 : Int32)), some (.int (0 : Int32))] [] σ1 Q)) : am_K ri am_Lx IX4_takes (d + 1) [.ref 16, .ref l1, .ref 12] σ Q := K_of am_owX4_takes (Nat.le_of_ble_eq_true rfl) (X_call (fun _ _ _ _ => blX4_takes_0 H.1) (K_mono H.2 (fun _ σ1 q0 => (X_go (fun _ _ => blX4_takes_19) q0))))
set_option maxRecDepth 20000 in
theorem vX4_takes_24 {d : Nat} {σ : am_S} {Q : Int32 → am_S → Prop} {l1 : Nat} {l3 : Int32} {l4 : Int32} (H :
    (l3 = 0 →
      (l3 = 0 ∨ l3 = 1) ∧ Q l3 σ) ∧
    (¬ l3 = 0 →
      ((gS σ 16 7) ≤ l4 →
        (l3 = 0 ∨ l3 = 1) ∧ Q l3 σ) ∧
      (¬ (gS σ 16 7) ≤ l4 →
        am_K ri am_Lx IX4_unfolds d [.ref 16, .int l4, .ref 12] σ (fun r1 σ1 =>
          am_X ri am_Lx IX4_takes (d + 1) 24 [some (.ref 16), some (.ref l1), some (.ref 12), some (.int r1), some (.int (l4 + (1 : Int32)))] [] σ1 Q)))) : am_X ri am_Lx IX4_takes (d + 1) 24 [some (.ref 16), some (.ref l1), some (.ref 12), some (.int l3), some (.int l4)] [] σ Q := (X_if (fun _ _ => blX4_takes_24) (fun z0 => (X_ret (fun _ _ => blX4_takes_51 (H.1 z0).1) (H.1 z0).2)) (fun z0 => (X_if (fun _ _ => blX4_takes_28) (fun z1 => (X_ret (fun _ _ => blX4_takes_51 ((H.2 z0).1 z1).1) ((H.2 z0).1 z1).2)) (fun z1 => (X_call (fun _ _ _ _ => blX4_takes_37) (K_mono ((H.2 z0).2 z1) (fun r1 σ1 q2 => (X_go (fun _ _ => blX4_takes_44) q2))))))))
set_option maxRecDepth 20000 in
theorem vX4_add {d : Nat} {σ : am_S} {Q : Unit → am_S → Prop} {l1 : Nat} {l2 : Int32} (H :
    ((40 : Int32) ≤ (gS σ 16 7) →
      Q () σ) ∧
    (¬ (40 : Int32) ≤ (gS σ 16 7) →
      (vp_in (gS σ 16 7) 40) ∧
      (am_isT am_Lx σ l1) ∧
      (vp_in (gS σ 16 7) 40) ∧
      (vp_in (gS σ 16 7) 40) ∧
      Q () (wS (wA (wA (wP σ 17 ((gS σ 16 7)).toNatClampNeg (some l1)) 19 ((gS σ 16 7)).toNatClampNeg (1 : Int32)) 20 ((gS σ 16 7)).toNatClampNeg l2) 16 7 ((gS σ 16 7) + (1 : Int32))))) : am_K ru am_Lx IX4_add (d + 1) [.ref 16, .ref l1, .int l2] σ Q := K_of am_owX4_add (Nat.le_of_ble_eq_true rfl) (X_if (fun _ _ => blX4_add_0) (fun z0 => (X_ret (fun _ _ => blX4_add_49) (H.1 z0))) (fun z0 => (X_go (fun _ _ => blX4_add_9 (H.2 z0).1 (H.2 z0).2.1 (H.2 z0).2.2.1 (H.2 z0).2.2.2.1) (X_ret (fun _ _ => blX4_add_49) (H.2 z0).2.2.2.2))))
set_option maxRecDepth 20000 in
theorem vX4_unfolds {d : Nat} {σ : am_S} {Q : Int32 → am_S → Prop} {l1 : Int32} (H :
    (vp_in l1 40) ∧
    (gP σ 17 (l1).toNatClampNeg = none →
      False) ∧
    (∀ t1, gP σ 17 (l1).toNatClampNeg = some t1 →
      (am_isT am_Lx σ t1) ∧
      ((gS σ t1 0) ≤ (2 : Int32) →
        (vp_in l1 40) ∧
        (vp_in l1 40) ∧
        (vp_in l1 40) ∧
        (am_isT am_Lx (wA (wA (wA σ 21 (l1).toNatClampNeg (gS σ 16 7)) 22 (l1).toNatClampNeg (0 : Int32)) 18 (l1).toNatClampNeg (0 : Int32)) t1) ∧
        am_K rj am_Lx IX7_empty d [.int (gS σ t1 0)] (wA (wA (wA σ 21 (l1).toNatClampNeg (gS σ 16 7)) 22 (l1).toNatClampNeg (0 : Int32)) 18 (l1).toNatClampNeg (0 : Int32)) (fun r2 σ2 =>
          (vp_in l1 40) ∧
          (am_isT am_Lx (wJ σ2 23 (l1).toNatClampNeg r2) t1) ∧
          (¬ (gS σ2 t1 4) = 0 →
            am_X ri am_Lx IX4_unfolds (d + 1) 95 [some (.ref 16), some (.int l1), some (.ref 12), some (.ref t1), some (.int (0 : Int32)), some (.int (0 : Int32)), none, none] [] (wJ σ2 23 (l1).toNatClampNeg r2) Q) ∧
          ((gS σ2 t1 4) = 0 →
            am_K ri am_Lx IX1_idOf d [.ref 12, .ref t1] (wJ σ2 23 (l1).toNatClampNeg r2) (fun r3 σ3 =>
              (vp_in l1 40) ∧
              (vp_in l1 40) ∧
              ((gA (wA σ3 18 (l1).toNatClampNeg r3) 18 (l1).toNatClampNeg) = 0 →
                Q (0 : Int32) (wA σ3 18 (l1).toNatClampNeg r3)) ∧
              (¬ (gA (wA σ3 18 (l1).toNatClampNeg r3) 18 (l1).toNatClampNeg) = 0 →
                Q (1 : Int32) (wA σ3 18 (l1).toNatClampNeg r3)))))) ∧
      (¬ (gS σ t1 0) ≤ (2 : Int32) →
        (vp_in l1 40) ∧
        (vp_in l1 40) ∧
        (vp_in l1 40) ∧
        (am_isT am_Lx (wA (wA (wA σ 21 (l1).toNatClampNeg (gS σ 16 7)) 22 (l1).toNatClampNeg (0 : Int32)) 18 (l1).toNatClampNeg (0 : Int32)) t1) ∧
        am_K rj am_Lx IX7_empty d [.int (gS σ t1 0)] (wA (wA (wA σ 21 (l1).toNatClampNeg (gS σ 16 7)) 22 (l1).toNatClampNeg (0 : Int32)) 18 (l1).toNatClampNeg (0 : Int32)) (fun r4 σ4 =>
          (vp_in l1 40) ∧
          (am_isT am_Lx (wJ σ4 23 (l1).toNatClampNeg r4) t1) ∧
          (¬ (gS σ4 t1 4) = 0 →
            am_X ri am_Lx IX4_unfolds (d + 1) 95 [some (.ref 16), some (.int l1), some (.ref 12), some (.ref t1), some (.int (1 : Int32)), some (.int (0 : Int32)), none, none] [] (wJ σ4 23 (l1).toNatClampNeg r4) Q) ∧
          ((gS σ4 t1 4) = 0 →
            am_K ri am_Lx IX1_idOf d [.ref 12, .ref t1] (wJ σ4 23 (l1).toNatClampNeg r4) (fun r5 σ5 =>
              (vp_in l1 40) ∧
              (vp_in l1 40) ∧
              ((gA (wA σ5 18 (l1).toNatClampNeg r5) 18 (l1).toNatClampNeg) = 0 →
                Q (0 : Int32) (wA σ5 18 (l1).toNatClampNeg r5)) ∧
              (¬ (gA (wA σ5 18 (l1).toNatClampNeg r5) 18 (l1).toNatClampNeg) = 0 →
                Q (1 : Int32) (wA σ5 18 (l1).toNatClampNeg r5)))))))) : am_K ri am_Lx IX4_unfolds (d + 1) [.ref 16, .int l1, .ref 12] σ Q := K_of am_owX4_unfolds (Nat.le_of_ble_eq_true rfl) (X_opt (fun _ _ => blX4_unfolds_0 H.1) (fun z0 => (False.elim (H.2.1 z0))) (fun t1 z0 => (X_if (fun _ _ => blX4_unfolds_6_r (H.2.2 t1 z0).1) (fun z1 => (X_go (fun _ _ => blX4_unfolds_19) (X_call (fun _ _ _ _ => blX4_unfolds_20 ((H.2.2 t1 z0).2.1 z1).1 ((H.2.2 t1 z0).2.1 z1).2.1 ((H.2.2 t1 z0).2.1 z1).2.2.1 ((H.2.2 t1 z0).2.1 z1).2.2.2.1) (K_mono ((H.2.2 t1 z0).2.1 z1).2.2.2.2 (fun r2 σ2 q3 => (X_ifn (fun _ _ => blX4_unfolds_58 q3.1 q3.2.1) (fun z4 => (X_go (fun _ _ => blX4_unfolds_92) (q3.2.2.1 z4))) (fun z4 => (X_call (fun _ _ _ _ => blX4_unfolds_66) (K_mono (q3.2.2.2 z4) (fun r3 σ3 q5 => (X_if (fun _ _ => blX4_unfolds_76 q5.1 q5.2.1) (fun z6 => (X_go (fun _ _ => blX4_unfolds_90) (X_ret (fun _ _ => blX4_unfolds_91 (Or.inl rfl)) (q5.2.2.1 z6)))) (fun z6 => (X_go (fun _ _ => blX4_unfolds_86) (X_ret (fun _ _ => blX4_unfolds_91 (Or.inr rfl)) (q5.2.2.2 z6))))))))))))))) (fun z1 => (X_go (fun _ _ => blX4_unfolds_15) (X_call (fun _ _ _ _ => blX4_unfolds_20 ((H.2.2 t1 z0).2.2 z1).1 ((H.2.2 t1 z0).2.2 z1).2.1 ((H.2.2 t1 z0).2.2 z1).2.2.1 ((H.2.2 t1 z0).2.2 z1).2.2.2.1) (K_mono ((H.2.2 t1 z0).2.2 z1).2.2.2.2 (fun r4 σ4 q3 => (X_ifn (fun _ _ => blX4_unfolds_58 q3.1 q3.2.1) (fun z4 => (X_go (fun _ _ => blX4_unfolds_92) (q3.2.2.1 z4))) (fun z4 => (X_call (fun _ _ _ _ => blX4_unfolds_66) (K_mono (q3.2.2.2 z4) (fun r5 σ5 q5 => (X_if (fun _ _ => blX4_unfolds_76 q5.1 q5.2.1) (fun z6 => (X_go (fun _ _ => blX4_unfolds_90) (X_ret (fun _ _ => blX4_unfolds_91 (Or.inl rfl)) (q5.2.2.1 z6)))) (fun z6 => (X_go (fun _ _ => blX4_unfolds_86) (X_ret (fun _ _ => blX4_unfolds_91 (Or.inr rfl)) (q5.2.2.2 z6))))))))))))))))))
set_option maxRecDepth 20000 in
theorem vX4_unfolds_95 {d : Nat} {σ : am_S} {Q : Int32 → am_S → Prop} {l1 : Int32} {l3 : Nat} {l4 : Int32} {l5 : Int32} (H :
    (am_isT am_Lx σ l3) ∧
    (gQ σ l3 = none →
      False) ∧
    (∀ t1, gQ σ l3 = some t1 →
      (am_isA am_Lx σ t1) ∧
      ((Int32.ofNat (am_rl am_Lx σ t1)) ≤ l5 →
        Q (1 : Int32) σ) ∧
      (¬ (Int32.ofNat (am_rl am_Lx σ t1)) ≤ l5 →
        (am_isT am_Lx σ l3) ∧
        (gQ σ l3 = none →
          False) ∧
        (∀ t2, gQ σ l3 = some t2 →
          (am_isR am_Lx σ t2) ∧
          (vp_in l5 (am_rl am_Lx σ t2)) ∧
          (gP σ t2 (l5).toNatClampNeg = none →
            (l4 = 0 →
              am_X ri am_Lx IX4_unfolds (d + 1) 162 [some (.ref 16), some (.int l1), some (.ref 12), some (.ref l3), some (.int l4), some (.int l5), some (.null), none] [] σ Q) ∧
            (¬ l4 = 0 →
              False)) ∧
          (∀ t3, gP σ t2 (l5).toNatClampNeg = some t3 →
            (l4 = 0 →
              am_X ri am_Lx IX4_unfolds (d + 1) 162 [some (.ref 16), some (.int l1), some (.ref 12), some (.ref l3), some (.int l4), some (.int l5), some (.ref t3), none] [] σ Q) ∧
            (¬ l4 = 0 →
              (am_isT am_Lx σ t3) ∧
              (¬ (gS σ t3 4) = 0 →
                am_X ri am_Lx IX4_unfolds (d + 1) 162 [some (.ref 16), some (.int l1), some (.ref 12), some (.ref l3), some (.int l4), some (.int l5), some (.ref t3), none] [] σ Q) ∧
              ((gS σ t3 4) = 0 →
                am_K ri am_Lx IX1_idOf d [.ref 12, .ref t3] σ (fun r4 σ4 =>
                  (¬ r4 = 0 →
                    (vp_in l1 40) ∧
                    am_K rj am_Lx IX7_with d [.long (gJ σ4 23 (l1).toNatClampNeg), .int r4] σ4 (fun r5 σ5 =>
                      (vp_in l1 40) ∧
                      am_X ri am_Lx IX4_unfolds (d + 1) 95 [some (.ref 16), some (.int l1), some (.ref 12), some (.ref l3), some (.int l4), some (.int (l5 + (1 : Int32))), none, none] [] (wJ σ5 23 (l1).toNatClampNeg r5) Q)) ∧
                  (r4 = 0 →
                    Q (0 : Int32) σ4))))))))) : am_X ri am_Lx IX4_unfolds (d + 1) 95 [some (.ref 16), some (.int l1), some (.ref 12), some (.ref l3), some (.int l4), some (.int l5), none, none] [] σ Q := (X_opt (fun _ _ => blX4_unfolds_95 H.1) (fun z0 => (False.elim (H.2.1 z0))) (fun t1 z0 => (X_if (fun _ _ => blX4_unfolds_101_r (H.2.2 t1 z0).1) (fun z1 => (X_ret (fun _ _ => blX4_unfolds_231 (Or.inr rfl)) ((H.2.2 t1 z0).2.1 z1))) (fun z1 => (X_opt (fun _ _ => blX4_unfolds_105 ((H.2.2 t1 z0).2.2 z1).1) (fun z2 => (False.elim (((H.2.2 t1 z0).2.2 z1).2.1 z2))) (fun t2 z2 => (X_opt (fun _ _ => blX4_unfolds_109_r (((H.2.2 t1 z0).2.2 z1).2.2 t2 z2).1 (((H.2.2 t1 z0).2.2 z1).2.2 t2 z2).2.1) (fun z3 => (X_if (fun _ _ => blX4_unfolds_112_n) (fun z4 => (((((H.2.2 t1 z0).2.2 z1).2.2 t2 z2).2.2.1 z3).1 z4)) (fun z4 => (False.elim (((((H.2.2 t1 z0).2.2 z1).2.2 t2 z2).2.2.1 z3).2 z4))))) (fun t3 z3 => (X_if (fun _ _ => blX4_unfolds_112_r) (fun z4 => (((((H.2.2 t1 z0).2.2 z1).2.2 t2 z2).2.2.2 t3 z3).1 z4)) (fun z4 => (X_ifn (fun _ _ => blX4_unfolds_119_r (((((H.2.2 t1 z0).2.2 z1).2.2 t2 z2).2.2.2 t3 z3).2 z4).1) (fun z5 => ((((((H.2.2 t1 z0).2.2 z1).2.2 t2 z2).2.2.2 t3 z3).2 z4).2.1 z5)) (fun z5 => (X_call (fun _ _ _ _ => blX4_unfolds_127) (K_mono ((((((H.2.2 t1 z0).2.2 z1).2.2 t2 z2).2.2.2 t3 z3).2 z4).2.2 z5) (fun r4 σ4 q6 => (X_ifn (fun _ _ => blX4_unfolds_133) (fun z7 => (X_call (fun _ _ _ _ => blX4_unfolds_142 (q6.1 z7).1) (K_mono (q6.1 z7).2 (fun r5 σ5 q8 => (X_go (fun _ _ => blX4_unfolds_158 q8.1) (X_go (fun _ _ => blX4_unfolds_225_r) q8.2)))))) (fun z7 => (X_ret (fun _ _ => blX4_unfolds_140 (Or.inl rfl)) (q6.2 z7)))))))))))))))))))
set_option maxRecDepth 20000 in
theorem vX4_unfolds_162_r {d : Nat} {σ : am_S} {Q : Int32 → am_S → Prop} {l1 : Int32} {l3 : Nat} {l4 : Int32} {l5 : Int32} {l6 : Nat} (H :
    (l4 = 0 →
      am_K ru am_Lx IX4_add d [.ref 16, .ref l6, .int l1] σ (fun _ σ1 =>
        (vp_in l1 40) ∧
        (vp_in l1 40) ∧
        am_X ri am_Lx IX4_unfolds (d + 1) 95 [some (.ref 16), some (.int l1), some (.ref 12), some (.ref l3), some (.int l4), some (.int (l5 + (1 : Int32))), none, none] [] (wA σ1 22 (l1).toNatClampNeg ((gA σ1 22 (l1).toNatClampNeg) + (1 : Int32))) Q)) ∧
    (¬ l4 = 0 →
      (l5 ≤ 0 →
        am_K ru am_Lx IX4_add d [.ref 16, .ref l6, .int l1] σ (fun _ σ2 =>
          (vp_in l1 40) ∧
          (vp_in l1 40) ∧
          am_X ri am_Lx IX4_unfolds (d + 1) 95 [some (.ref 16), some (.int l1), some (.ref 12), some (.ref l3), some (.int l4), some (.int (l5 + (1 : Int32))), none, none] [] (wA σ2 22 (l1).toNatClampNeg ((gA σ2 22 (l1).toNatClampNeg) + (1 : Int32))) Q)) ∧
      (¬ l5 ≤ 0 →
        (am_isT am_Lx σ l3) ∧
        (gQ σ l3 = none →
          False) ∧
        (∀ t3, gQ σ l3 = some t3 →
          (am_isR am_Lx σ t3) ∧
          (vp_in (l5 - (1 : Int32)) (am_rl am_Lx σ t3)) ∧
          (gP σ t3 ((l5 - (1 : Int32))).toNatClampNeg = none →
            am_K ri am_Lx IX8_compare d [.null, .ref l6, .int (0 : Int32)] σ (fun r5 σ5 =>
              (¬ r5 = 0 →
                am_K ru am_Lx IX4_add d [.ref 16, .ref l6, .int l1] σ5 (fun _ σ6 =>
                  (vp_in l1 40) ∧
                  (vp_in l1 40) ∧
                  am_X ri am_Lx IX4_unfolds (d + 1) 95 [some (.ref 16), some (.int l1), some (.ref 12), some (.ref l3), some (.int l4), some (.int (l5 + (1 : Int32))), none, none] [] (wA σ6 22 (l1).toNatClampNeg ((gA σ6 22 (l1).toNatClampNeg) + (1 : Int32))) Q)) ∧
              (r5 = 0 →
                (vp_in ((gS σ5 16 7) - (1 : Int32)) 40) ∧
                (vp_in ((gS σ5 16 7) - (1 : Int32)) 40) ∧
                am_X ri am_Lx IX4_unfolds (d + 1) 95 [some (.ref 16), some (.int l1), some (.ref 12), some (.ref l3), some (.int l4), some (.int (l5 + (1 : Int32))), none, none] [] (wA σ5 19 (((gS σ5 16 7) - (1 : Int32))).toNatClampNeg ((gA σ5 19 (((gS σ5 16 7) - (1 : Int32))).toNatClampNeg) + (1 : Int32))) Q))) ∧
          (∀ t4, gP σ t3 ((l5 - (1 : Int32))).toNatClampNeg = some t4 →
            am_K ri am_Lx IX8_compare d [.ref t4, .ref l6, .int (0 : Int32)] σ (fun r7 σ7 =>
              (¬ r7 = 0 →
                am_K ru am_Lx IX4_add d [.ref 16, .ref l6, .int l1] σ7 (fun _ σ8 =>
                  (vp_in l1 40) ∧
                  (vp_in l1 40) ∧
                  am_X ri am_Lx IX4_unfolds (d + 1) 95 [some (.ref 16), some (.int l1), some (.ref 12), some (.ref l3), some (.int l4), some (.int (l5 + (1 : Int32))), none, none] [] (wA σ8 22 (l1).toNatClampNeg ((gA σ8 22 (l1).toNatClampNeg) + (1 : Int32))) Q)) ∧
              (r7 = 0 →
                (vp_in ((gS σ7 16 7) - (1 : Int32)) 40) ∧
                (vp_in ((gS σ7 16 7) - (1 : Int32)) 40) ∧
                am_X ri am_Lx IX4_unfolds (d + 1) 95 [some (.ref 16), some (.int l1), some (.ref 12), some (.ref l3), some (.int l4), some (.int (l5 + (1 : Int32))), none, none] [] (wA σ7 19 (((gS σ7 16 7) - (1 : Int32))).toNatClampNeg ((gA σ7 19 (((gS σ7 16 7) - (1 : Int32))).toNatClampNeg) + (1 : Int32))) Q))))))) : am_X ri am_Lx IX4_unfolds (d + 1) 162 [some (.ref 16), some (.int l1), some (.ref 12), some (.ref l3), some (.int l4), some (.int l5), some (.ref l6), none] [] σ Q := (X_if (fun _ _ => blX4_unfolds_162_r) (fun z0 => (X_call (fun _ _ _ _ => blX4_unfolds_208_r) (K_mono (H.1 z0) (fun _ σ1 q1 => (X_go (fun _ _ => blX4_unfolds_215_r q1.1 q1.2.1) (X_go (fun _ _ => blX4_unfolds_225_r) q1.2.2)))))) (fun z0 => (X_if (fun _ _ => blX4_unfolds_167_r) (fun z1 => (X_call (fun _ _ _ _ => blX4_unfolds_208_r) (K_mono ((H.2 z0).1 z1) (fun _ σ2 q2 => (X_go (fun _ _ => blX4_unfolds_215_r q2.1 q2.2.1) (X_go (fun _ _ => blX4_unfolds_225_r) q2.2.2)))))) (fun z1 => (X_opt (fun _ _ => blX4_unfolds_172_r ((H.2 z0).2 z1).1) (fun z2 => (False.elim (((H.2 z0).2 z1).2.1 z2))) (fun t3 z2 => (X_opt (fun _ _ => blX4_unfolds_176_rr (((H.2 z0).2 z1).2.2 t3 z2).1 (((H.2 z0).2 z1).2.2 t3 z2).2.1) (fun z3 => (X_call (fun _ _ _ _ => blX4_unfolds_181_rn) (K_mono ((((H.2 z0).2 z1).2.2 t3 z2).2.2.1 z3) (fun r5 σ5 q4 => (X_ifn (fun _ _ => blX4_unfolds_187_r) (fun z5 => (X_call (fun _ _ _ _ => blX4_unfolds_208_r) (K_mono (q4.1 z5) (fun _ σ6 q6 => (X_go (fun _ _ => blX4_unfolds_215_r q6.1 q6.2.1) (X_go (fun _ _ => blX4_unfolds_225_r) q6.2.2)))))) (fun z5 => (X_go (fun _ _ => blX4_unfolds_190_r (q4.2 z5).1 (q4.2 z5).2.1) (X_go (fun _ _ => blX4_unfolds_225_r) (q4.2 z5).2.2)))))))) (fun t4 z3 => (X_call (fun _ _ _ _ => blX4_unfolds_181_rr) (K_mono ((((H.2 z0).2 z1).2.2 t3 z2).2.2.2 t4 z3) (fun r7 σ7 q4 => (X_ifn (fun _ _ => blX4_unfolds_187_r) (fun z5 => (X_call (fun _ _ _ _ => blX4_unfolds_208_r) (K_mono (q4.1 z5) (fun _ σ8 q6 => (X_go (fun _ _ => blX4_unfolds_215_r q6.1 q6.2.1) (X_go (fun _ _ => blX4_unfolds_225_r) q6.2.2)))))) (fun z5 => (X_go (fun _ _ => blX4_unfolds_190_r (q4.2 z5).1 (q4.2 z5).2.1) (X_go (fun _ _ => blX4_unfolds_225_r) (q4.2 z5).2.2)))))))))))))))
set_option maxRecDepth 20000 in
theorem vX4_unfolds_162_n {d : Nat} {σ : am_S} {Q : Int32 → am_S → Prop} {l1 : Int32} {l3 : Nat} {l4 : Int32} {l5 : Int32} (H :
    (l4 = 0 →
      am_K ru am_Lx IX4_add d [.ref 16, .null, .int l1] σ (fun _ σ1 =>
        (vp_in l1 40) ∧
        (vp_in l1 40) ∧
        am_X ri am_Lx IX4_unfolds (d + 1) 95 [some (.ref 16), some (.int l1), some (.ref 12), some (.ref l3), some (.int l4), some (.int (l5 + (1 : Int32))), none, none] [] (wA σ1 22 (l1).toNatClampNeg ((gA σ1 22 (l1).toNatClampNeg) + (1 : Int32))) Q)) ∧
    (¬ l4 = 0 →
      (l5 ≤ 0 →
        am_K ru am_Lx IX4_add d [.ref 16, .null, .int l1] σ (fun _ σ2 =>
          (vp_in l1 40) ∧
          (vp_in l1 40) ∧
          am_X ri am_Lx IX4_unfolds (d + 1) 95 [some (.ref 16), some (.int l1), some (.ref 12), some (.ref l3), some (.int l4), some (.int (l5 + (1 : Int32))), none, none] [] (wA σ2 22 (l1).toNatClampNeg ((gA σ2 22 (l1).toNatClampNeg) + (1 : Int32))) Q)) ∧
      (¬ l5 ≤ 0 →
        (am_isT am_Lx σ l3) ∧
        (gQ σ l3 = none →
          False) ∧
        (∀ t3, gQ σ l3 = some t3 →
          (am_isR am_Lx σ t3) ∧
          (vp_in (l5 - (1 : Int32)) (am_rl am_Lx σ t3)) ∧
          (gP σ t3 ((l5 - (1 : Int32))).toNatClampNeg = none →
            am_K ri am_Lx IX8_compare d [.null, .null, .int (0 : Int32)] σ (fun r5 σ5 =>
              (¬ r5 = 0 →
                am_K ru am_Lx IX4_add d [.ref 16, .null, .int l1] σ5 (fun _ σ6 =>
                  (vp_in l1 40) ∧
                  (vp_in l1 40) ∧
                  am_X ri am_Lx IX4_unfolds (d + 1) 95 [some (.ref 16), some (.int l1), some (.ref 12), some (.ref l3), some (.int l4), some (.int (l5 + (1 : Int32))), none, none] [] (wA σ6 22 (l1).toNatClampNeg ((gA σ6 22 (l1).toNatClampNeg) + (1 : Int32))) Q)) ∧
              (r5 = 0 →
                (vp_in ((gS σ5 16 7) - (1 : Int32)) 40) ∧
                (vp_in ((gS σ5 16 7) - (1 : Int32)) 40) ∧
                am_X ri am_Lx IX4_unfolds (d + 1) 95 [some (.ref 16), some (.int l1), some (.ref 12), some (.ref l3), some (.int l4), some (.int (l5 + (1 : Int32))), none, none] [] (wA σ5 19 (((gS σ5 16 7) - (1 : Int32))).toNatClampNeg ((gA σ5 19 (((gS σ5 16 7) - (1 : Int32))).toNatClampNeg) + (1 : Int32))) Q))) ∧
          (∀ t4, gP σ t3 ((l5 - (1 : Int32))).toNatClampNeg = some t4 →
            am_K ri am_Lx IX8_compare d [.ref t4, .null, .int (0 : Int32)] σ (fun r7 σ7 =>
              (¬ r7 = 0 →
                am_K ru am_Lx IX4_add d [.ref 16, .null, .int l1] σ7 (fun _ σ8 =>
                  (vp_in l1 40) ∧
                  (vp_in l1 40) ∧
                  am_X ri am_Lx IX4_unfolds (d + 1) 95 [some (.ref 16), some (.int l1), some (.ref 12), some (.ref l3), some (.int l4), some (.int (l5 + (1 : Int32))), none, none] [] (wA σ8 22 (l1).toNatClampNeg ((gA σ8 22 (l1).toNatClampNeg) + (1 : Int32))) Q)) ∧
              (r7 = 0 →
                (vp_in ((gS σ7 16 7) - (1 : Int32)) 40) ∧
                (vp_in ((gS σ7 16 7) - (1 : Int32)) 40) ∧
                am_X ri am_Lx IX4_unfolds (d + 1) 95 [some (.ref 16), some (.int l1), some (.ref 12), some (.ref l3), some (.int l4), some (.int (l5 + (1 : Int32))), none, none] [] (wA σ7 19 (((gS σ7 16 7) - (1 : Int32))).toNatClampNeg ((gA σ7 19 (((gS σ7 16 7) - (1 : Int32))).toNatClampNeg) + (1 : Int32))) Q))))))) : am_X ri am_Lx IX4_unfolds (d + 1) 162 [some (.ref 16), some (.int l1), some (.ref 12), some (.ref l3), some (.int l4), some (.int l5), some (.null), none] [] σ Q := (X_if (fun _ _ => blX4_unfolds_162_n) (fun z0 => (X_call (fun _ _ _ _ => blX4_unfolds_208_n) (K_mono (H.1 z0) (fun _ σ1 q1 => (X_go (fun _ _ => blX4_unfolds_215_n q1.1 q1.2.1) (X_go (fun _ _ => blX4_unfolds_225_n) q1.2.2)))))) (fun z0 => (X_if (fun _ _ => blX4_unfolds_167_n) (fun z1 => (X_call (fun _ _ _ _ => blX4_unfolds_208_n) (K_mono ((H.2 z0).1 z1) (fun _ σ2 q2 => (X_go (fun _ _ => blX4_unfolds_215_n q2.1 q2.2.1) (X_go (fun _ _ => blX4_unfolds_225_n) q2.2.2)))))) (fun z1 => (X_opt (fun _ _ => blX4_unfolds_172_n ((H.2 z0).2 z1).1) (fun z2 => (False.elim (((H.2 z0).2 z1).2.1 z2))) (fun t3 z2 => (X_opt (fun _ _ => blX4_unfolds_176_nr (((H.2 z0).2 z1).2.2 t3 z2).1 (((H.2 z0).2 z1).2.2 t3 z2).2.1) (fun z3 => (X_call (fun _ _ _ _ => blX4_unfolds_181_nn) (K_mono ((((H.2 z0).2 z1).2.2 t3 z2).2.2.1 z3) (fun r5 σ5 q4 => (X_ifn (fun _ _ => blX4_unfolds_187_n) (fun z5 => (X_call (fun _ _ _ _ => blX4_unfolds_208_n) (K_mono (q4.1 z5) (fun _ σ6 q6 => (X_go (fun _ _ => blX4_unfolds_215_n q6.1 q6.2.1) (X_go (fun _ _ => blX4_unfolds_225_n) q6.2.2)))))) (fun z5 => (X_go (fun _ _ => blX4_unfolds_190_n (q4.2 z5).1 (q4.2 z5).2.1) (X_go (fun _ _ => blX4_unfolds_225_n) (q4.2 z5).2.2)))))))) (fun t4 z3 => (X_call (fun _ _ _ _ => blX4_unfolds_181_nr) (K_mono ((((H.2 z0).2 z1).2.2 t3 z2).2.2.2 t4 z3) (fun r7 σ7 q4 => (X_ifn (fun _ _ => blX4_unfolds_187_n) (fun z5 => (X_call (fun _ _ _ _ => blX4_unfolds_208_n) (K_mono (q4.1 z5) (fun _ σ8 q6 => (X_go (fun _ _ => blX4_unfolds_215_n q6.1 q6.2.1) (X_go (fun _ _ => blX4_unfolds_225_n) q6.2.2)))))) (fun z5 => (X_go (fun _ _ => blX4_unfolds_190_n (q4.2 z5).1 (q4.2 z5).2.1) (X_go (fun _ _ => blX4_unfolds_225_n) (q4.2 z5).2.2)))))))))))))))
set_option maxRecDepth 20000 in
theorem vX4_rankOf {d : Nat} {σ : am_S} {Q : Int32 → am_S → Prop} {l1 : Int32} (H :
    am_K ri am_Lx IJ6_bitCount_0f7a4 d [.int ((gS σ 16 8) &&& (((1 : Int32) <<< (l1 &&& 31)) - (1 : Int32)))] σ (fun r1 σ1 =>
      Q (r1 &&& (3 : Int32)) σ1)) : am_K ri am_Lx IX4_rankOf (d + 1) [.ref 16, .int l1] σ Q := K_of am_owX4_rankOf (Nat.le_of_ble_eq_true rfl) (X_call (fun _ _ _ _ => blX4_rankOf_0) (K_mono H (fun r1 σ1 q0 => (X_ret (fun _ _ => blX4_rankOf_13) q0))))
