set_option maxRecDepth 20000 in
theorem vX2_variable {d : Nat} {σ : am_S} {Q : Option Nat → am_S → Prop} {l1 : Int32} (H :
    (l1 < 0 →
      Q none σ) ∧
    (¬ l1 < 0 →
      ((22 : Int32) ≤ l1 →
        Q none σ) ∧
      (¬ (22 : Int32) ≤ l1 →
        (vp_in l1 27) ∧
        (gP σ 4 (l1).toNatClampNeg = none →
          Q none σ) ∧
        (∀ t1, gP σ 4 (l1).toNatClampNeg = some t1 →
          Q (some t1) σ)))) : am_K rn am_Lx IX2_variable (d + 1) [.ref 3, .int l1] σ Q := K_of am_owX2_variable (Nat.le_of_ble_eq_true rfl) (X_if (fun _ _ => blX2_variable_0) (fun z0 => (X_go (fun _ _ => blX2_variable_19) (X_ret (fun _ _ => blX2_variable_20_n) (H.1 z0)))) (fun z0 => (X_if (fun _ _ => blX2_variable_4) (fun z1 => (X_go (fun _ _ => blX2_variable_19) (X_ret (fun _ _ => blX2_variable_20_n) ((H.2 z0).1 z1)))) (fun z1 => (X_opt (fun _ _ => blX2_variable_10 ((H.2 z0).2 z1).1) (fun z2 => (X_go (fun _ _ => blX2_variable_16_n) (X_ret (fun _ _ => blX2_variable_20_n) (((H.2 z0).2 z1).2.1 z2)))) (fun t1 z2 => (X_go (fun _ _ => blX2_variable_16_r) (X_ret (fun _ _ => blX2_variable_20_r) (((H.2 z0).2 z1).2.2 t1 z2)))))))))
set_option maxRecDepth 20000 in
theorem vX2_constant {d : Nat} {σ : am_S} {Q : Option Nat → am_S → Prop} {l1 : Int32} (H :
    (l1 < 0 →
      Q none σ) ∧
    (¬ l1 < 0 →
      ((5 : Int32) ≤ l1 →
        Q none σ) ∧
      (¬ (5 : Int32) ≤ l1 →
        (vp_in ((22 : Int32) + l1) 27) ∧
        (gP σ 4 (((22 : Int32) + l1)).toNatClampNeg = none →
          Q none σ) ∧
        (∀ t1, gP σ 4 (((22 : Int32) + l1)).toNatClampNeg = some t1 →
          Q (some t1) σ)))) : am_K rn am_Lx IX2_constant (d + 1) [.ref 3, .int l1] σ Q := K_of am_owX2_constant (Nat.le_of_ble_eq_true rfl) (X_if (fun _ _ => blX2_constant_0) (fun z0 => (X_go (fun _ _ => blX2_constant_21) (X_ret (fun _ _ => blX2_constant_22_n) (H.1 z0)))) (fun z0 => (X_if (fun _ _ => blX2_constant_4) (fun z1 => (X_go (fun _ _ => blX2_constant_21) (X_ret (fun _ _ => blX2_constant_22_n) ((H.2 z0).1 z1)))) (fun z1 => (X_opt (fun _ _ => blX2_constant_9 ((H.2 z0).2 z1).1) (fun z2 => (X_go (fun _ _ => blX2_constant_18_n) (X_ret (fun _ _ => blX2_constant_22_n) (((H.2 z0).2 z1).2.1 z2)))) (fun t1 z2 => (X_go (fun _ _ => blX2_constant_18_r) (X_ret (fun _ _ => blX2_constant_22_r) (((H.2 z0).2 z1).2.2 t1 z2)))))))))
set_option maxRecDepth 20000 in
theorem vX2_mark {d : Nat} {σ : am_S} {Q : Int32 → am_S → Prop}  (H :
    Q (gS σ 3 3) σ) : am_K ri am_Lx IX2_mark (d + 1) [.ref 3] σ Q := K_of am_owX2_mark (Nat.le_of_ble_eq_true rfl) (X_ret (fun _ _ => blX2_mark_0) H)
set_option maxRecDepth 20000 in
theorem vX2_push_r {d : Nat} {σ : am_S} {Q : Unit → am_S → Prop} {l1 : Nat} (H :
    ((128 : Int32) ≤ (gS σ 3 3) →
      Q () σ) ∧
    (¬ (128 : Int32) ≤ (gS σ 3 3) →
      (vp_in (gS σ 3 3) 128) ∧
      (am_isT am_Lx σ l1) ∧
      Q () (wS (wP σ 5 ((gS σ 3 3)).toNatClampNeg (some l1)) 3 3 ((gS σ 3 3) + (1 : Int32))))) : am_K ru am_Lx IX2_push (d + 1) [.ref 3, .ref l1] σ Q := K_of am_owX2_push (Nat.le_of_ble_eq_true rfl) (X_if (fun _ _ => blX2_push_0_r) (fun z0 => (X_ret (fun _ _ => blX2_push_30_r) (H.1 z0))) (fun z0 => (X_go (fun _ _ => blX2_push_10_r (H.2 z0).1 (H.2 z0).2.1) (X_ret (fun _ _ => blX2_push_30_r) (H.2 z0).2.2))))
set_option maxRecDepth 20000 in
theorem vX2_push_n {d : Nat} {σ : am_S} {Q : Unit → am_S → Prop}  (H :
    ((128 : Int32) ≤ (gS σ 3 3) →
      Q () σ) ∧
    (¬ (128 : Int32) ≤ (gS σ 3 3) →
      (vp_in (gS σ 3 3) 128) ∧
      Q () (wS (wP σ 5 ((gS σ 3 3)).toNatClampNeg none) 3 3 ((gS σ 3 3) + (1 : Int32))))) : am_K ru am_Lx IX2_push (d + 1) [.ref 3, .null] σ Q := K_of am_owX2_push (Nat.le_of_ble_eq_true rfl) (X_if (fun _ _ => blX2_push_0_n) (fun z0 => (X_ret (fun _ _ => blX2_push_30_n) (H.1 z0))) (fun z0 => (X_go (fun _ _ => blX2_push_10_n (H.2 z0).1) (X_ret (fun _ _ => blX2_push_30_n) (H.2 z0).2))))
set_option maxRecDepth 20000 in
theorem vX2_function {d : Nat} {σ : am_S} {Q : Option Nat → am_S → Prop} {l1 : Int32} {l2 : Int32} (H :
    (l2 < 0 →
      Q none σ) ∧
    (¬ l2 < 0 →
      ((1 : Int32) ≤ ((gS σ 3 3) - l2) →
        (¬ ((gS σ 3 3) - l2) < 0) ∧
        ((((gS σ 3 3) - l2)).toNatClampNeg ≤ 1000) ∧
        (1 ≤ gc (wS σ 3 3 l2)) ∧
        ((((gS σ 3 3) - l2)).toNatClampNeg ≤ gs (wS σ 3 3 l2)) ∧
        am_X rn am_Lx IX2_function (d + 1) 32 [some (.ref 3), some (.int l1), some (.int l2), some (.int ((gS σ 3 3) - l2)), some (.ref (gn (wS σ 3 3 l2))), some (.int (0 : Int32))] [] (am_nA (wS σ 3 3 l2) (((gS σ 3 3) - l2)).toNatClampNeg) Q) ∧
      (¬ (1 : Int32) ≤ ((gS σ 3 3) - l2) →
        Q none σ))) : am_K rn am_Lx IX2_function (d + 1) [.ref 3, .int l1, .int l2] σ Q := K_of am_owX2_function (Nat.le_of_ble_eq_true rfl) (X_if (fun _ _ => blX2_function_0) (fun z0 => (X_ret (fun _ _ => blX2_function_16) (H.1 z0))) (fun z0 => (X_if (fun _ _ => blX2_function_11) (fun z1 => (X_go (fun _ _ => blX2_function_18 ((H.2 z0).1 z1).1 ((H.2 z0).1 z1).2.1 ((H.2 z0).1 z1).2.2.1 ((H.2 z0).1 z1).2.2.2.1) ((H.2 z0).1 z1).2.2.2.2)) (fun z1 => (X_ret (fun _ _ => blX2_function_16) ((H.2 z0).2 z1))))))
set_option maxRecDepth 20000 in
theorem vX2_function_32 {d : Nat} {σ : am_S} {Q : Option Nat → am_S → Prop} {l1 : Int32} {l2 : Int32} {l3 : Int32} {l4 : Nat} {l5 : Int32} (H :
    (l3 ≤ l5 →
      (1 ≤ gc σ) ∧
      (5 ≤ gs σ) ∧
      am_K ru am_Lx IX8_init d [.ref (gn σ), .int (2 : Int32), .int l1, .ref l4] (am_nT σ) (fun _ σ1 =>
        am_K rn am_Lx IX2_bounded d [.ref (gn σ)] σ1 (fun r2 σ2 =>
          (r2 = none →
            Q none σ2) ∧
          (∀ t3, r2 = some t3 →
            Q (some t3) σ2)))) ∧
    (¬ l3 ≤ l5 →
      (vp_in (l2 + l5) 128) ∧
      (gP σ 5 ((l2 + l5)).toNatClampNeg = none →
        Q none σ) ∧
      (∀ t4, gP σ 5 ((l2 + l5)).toNatClampNeg = some t4 →
        (vp_in (l2 + l5) 128) ∧
        (gP σ 5 ((l2 + l5)).toNatClampNeg = none →
          (am_isR am_Lx σ l4) ∧
          (vp_in l5 (am_rl am_Lx σ l4)) ∧
          am_X rn am_Lx IX2_function (d + 1) 32 [some (.ref 3), some (.int l1), some (.int l2), some (.int l3), some (.ref l4), some (.int (l5 + (1 : Int32)))] [] (wP σ l4 (l5).toNatClampNeg none) Q) ∧
        (∀ t5, gP σ 5 ((l2 + l5)).toNatClampNeg = some t5 →
          (am_isR am_Lx σ l4) ∧
          (vp_in l5 (am_rl am_Lx σ l4)) ∧
          (am_isT am_Lx σ t5) ∧
          am_X rn am_Lx IX2_function (d + 1) 32 [some (.ref 3), some (.int l1), some (.int l2), some (.int l3), some (.ref l4), some (.int (l5 + (1 : Int32)))] [] (wP σ l4 (l5).toNatClampNeg (some t5)) Q)))) : am_X rn am_Lx IX2_function (d + 1) 32 [some (.ref 3), some (.int l1), some (.int l2), some (.int l3), some (.ref l4), some (.int l5)] [] σ Q := (X_if (fun _ _ => blX2_function_32) (fun z0 => (X_call (fun _ _ _ _ => blX2_function_72 (H.1 z0).1 (H.1 z0).2.1) (K_mono (H.1 z0).2.2 (fun _ σ1 q1 => (X_calln (fun _ _ _ _ => blX2_function_83) (K_mono q1 (fun r2 σ2 q2 => And.intro (fun z2 => (X_ret (fun _ _ => blX2_function_86_n) (q2.1 z2))) (fun t3 z2 => (X_ret (fun _ _ => blX2_function_86_r) (q2.2 t3 z2)))))))))) (fun z0 => (X_opt (fun _ _ => blX2_function_38 (H.2 z0).1) (fun z1 => (X_go (fun _ _ => blX2_function_47_n) (X_ret (fun _ _ => blX2_function_50) ((H.2 z0).2.1 z1)))) (fun t4 z1 => (X_go (fun _ _ => blX2_function_47_r) (X_opt (fun _ _ => blX2_function_52 ((H.2 z0).2.2 t4 z1).1) (fun z3 => (X_go (fun _ _ => blX2_function_65_n (((H.2 z0).2.2 t4 z1).2.1 z3).1 (((H.2 z0).2.2 t4 z1).2.1 z3).2.1) (((H.2 z0).2.2 t4 z1).2.1 z3).2.2)) (fun t5 z3 => (X_go (fun _ _ => blX2_function_65_r (((H.2 z0).2.2 t4 z1).2.2 t5 z3).1 (((H.2 z0).2.2 t4 z1).2.2 t5 z3).2.1 (((H.2 z0).2.2 t4 z1).2.2 t5 z3).2.2.1) (((H.2 z0).2.2 t4 z1).2.2 t5 z3).2.2.2))))))))
set_option maxRecDepth 20000 in
theorem vX2_together {d : Nat} {σ : am_S} {Q : Option Nat → am_S → Prop} {l1 : Int32} {l2 : Int32} (H :
    (l2 < 0 →
      Q none σ) ∧
    (¬ l2 < 0 →
      (l2 < (gS σ 3 3) →
        (¬ ((gS σ 3 3) - l2) = (1 : Int32) →
          am_X rn am_Lx IX2_together (d + 1) 41 [some (.ref 3), some (.int l1), some (.int l2), some (.int (gS σ 3 3)), some (.int (0 : Int32)), some (.int l2), none, none, none, none] [] (wS σ 3 3 l2) Q) ∧
        (((gS σ 3 3) - l2) = (1 : Int32) →
          (vp_in l2 128) ∧
          (gP σ 5 (l2).toNatClampNeg = none →
            Q none (wS σ 3 3 l2)) ∧
          (∀ t1, gP σ 5 (l2).toNatClampNeg = some t1 →
            Q (some t1) (wS σ 3 3 l2)))) ∧
      (¬ l2 < (gS σ 3 3) →
        Q none σ))) : am_K rn am_Lx IX2_together (d + 1) [.ref 3, .int l1, .int l2] σ Q := K_of am_owX2_together (Nat.le_of_ble_eq_true rfl) (X_if (fun _ _ => blX2_together_0) (fun z0 => (X_ret (fun _ _ => blX2_together_14) (H.1 z0))) (fun z0 => (X_if (fun _ _ => blX2_together_9) (fun z1 => (X_ifn (fun _ _ => blX2_together_16) (fun z2 => (X_go (fun _ _ => blX2_together_35) (((H.2 z0).1 z1).1 z2))) (fun z2 => (X_opt (fun _ _ => blX2_together_28 (((H.2 z0).1 z1).2 z2).1) (fun z3 => (X_ret (fun _ _ => blX2_together_34_n) ((((H.2 z0).1 z1).2 z2).2.1 z3))) (fun t1 z3 => (X_ret (fun _ _ => blX2_together_34_r) ((((H.2 z0).1 z1).2 z2).2.2 t1 z3))))))) (fun z1 => (X_ret (fun _ _ => blX2_together_14) ((H.2 z0).2 z1))))))
set_option maxRecDepth 20000 in
theorem vX2_together_41 {d : Nat} {σ : am_S} {Q : Option Nat → am_S → Prop} {l1 : Int32} {l2 : Int32} {l3 : Int32} {l4 : Int32} {l5 : Int32} (H :
    (l3 ≤ l5 →
      (l4 ≤ (8 : Int32) →
        (1 ≤ gc σ) ∧
        (5 ≤ gs σ) ∧
        am_K rr am_Lx IX2_rowOf d [.ref 3, .int l4] (am_nT σ) (fun r1 σ1 =>
          am_K ru am_Lx IX8_init d [.ref (gn σ), .int l1, .int (0 : Int32), .ref r1] σ1 (fun _ σ2 =>
            am_K rn am_Lx IX2_bounded d [.ref (gn σ)] σ2 (fun r3 σ3 =>
              (r3 = none →
                Q none σ3) ∧
              (∀ t4, r3 = some t4 →
                Q (some t4) σ3))))) ∧
      (¬ l4 ≤ (8 : Int32) →
        Q none σ)) ∧
    (¬ l3 ≤ l5 →
      (vp_in l5 128) ∧
      (gP σ 5 (l5).toNatClampNeg = none →
        Q none σ) ∧
      (∀ t5, gP σ 5 (l5).toNatClampNeg = some t5 →
        (am_isT am_Lx σ t5) ∧
        (¬ (gS σ t5 0) = l1 →
          am_X rn am_Lx IX2_together (d + 1) 99 [some (.ref 3), some (.int l1), some (.int l2), some (.int l3), some (.int l4), some (.int l5), some (.ref t5), some (.int (0 : Int32)), some (.int (1 : Int32)), some (.int (0 : Int32))] [] σ Q) ∧
        ((gS σ t5 0) = l1 →
          (am_isT am_Lx σ t5) ∧
          (gQ σ t5 = none →
            False) ∧
          (∀ t6, gQ σ t5 = some t6 →
            (am_isA am_Lx σ t6) ∧
            am_X rn am_Lx IX2_together (d + 1) 99 [some (.ref 3), some (.int l1), some (.int l2), some (.int l3), some (.int l4), some (.int l5), some (.ref t5), some (.int (1 : Int32)), some (.int (Int32.ofNat (am_rl am_Lx σ t6))), some (.int (0 : Int32))] [] σ Q))))) : am_X rn am_Lx IX2_together (d + 1) 41 [some (.ref 3), some (.int l1), some (.int l2), some (.int l3), some (.int l4), some (.int l5), none, none, none, none] [] σ Q := (X_if (fun _ _ => blX2_together_41) (fun z0 => (X_if (fun _ _ => blX2_together_144) (fun z1 => (X_call (fun _ _ _ _ => blX2_together_155 ((H.1 z0).1 z1).1 ((H.1 z0).1 z1).2.1) (K_mono ((H.1 z0).1 z1).2.2 (fun r1 σ1 q2 => (X_call (fun _ _ _ _ => blX2_together_167) (K_mono q2 (fun _ σ2 q3 => (X_calln (fun _ _ _ _ => blX2_together_170) (K_mono q3 (fun r3 σ3 q4 => And.intro (fun z4 => (X_ret (fun _ _ => blX2_together_173_n) (q4.1 z4))) (fun t4 z4 => (X_ret (fun _ _ => blX2_together_173_r) (q4.2 t4 z4))))))))))))) (fun z1 => (X_go (fun _ _ => blX2_together_151) (X_ret (fun _ _ => blX2_together_173_n) ((H.1 z0).2 z1)))))) (fun z0 => (X_opt (fun _ _ => blX2_together_47 (H.2 z0).1) (fun z1 => (X_go (fun _ _ => blX2_together_54_n) (X_ret (fun _ _ => blX2_together_61) ((H.2 z0).2.1 z1)))) (fun t5 z1 => (X_go (fun _ _ => blX2_together_54_r) (X_ifn (fun _ _ => blX2_together_63 ((H.2 z0).2.2 t5 z1).1) (fun z3 => (X_go (fun _ _ => blX2_together_76) (X_go (fun _ _ h => blX2_together_77 (fun _ => h) (fun z => absurd z (by decide))) (X_go (fun _ _ => blX2_together_93) (X_go (fun _ _ => blX2_together_94) (((H.2 z0).2.2 t5 z1).2.1 z3)))))) (fun z3 => (X_go (fun _ _ => blX2_together_72) (X_go (fun _ _ h => blX2_together_77 (fun z => absurd z (by decide)) (fun _ => h)) (X_opt (fun _ _ => blX2_together_84 (((H.2 z0).2.2 t5 z1).2.2 z3).1) (fun z6 => (False.elim ((((H.2 z0).2.2 t5 z1).2.2 z3).2.1 z6))) (fun t6 z6 => (X_go (fun _ _ => blX2_together_89_r ((((H.2 z0).2.2 t5 z1).2.2 z3).2.2 t6 z6).1) (X_go (fun _ _ => blX2_together_94) ((((H.2 z0).2.2 t5 z1).2.2 z3).2.2 t6 z6).2)))))))))))))
set_option maxRecDepth 20000 in
theorem vX2_together_99 {d : Nat} {σ : am_S} {Q : Option Nat → am_S → Prop} {l1 : Int32} {l2 : Int32} {l3 : Int32} {l4 : Int32} {l5 : Int32} {l6 : Nat} {l7 : Int32} {l8 : Int32} {l9 : Int32} (H :
    (l8 ≤ l9 →
      am_X rn am_Lx IX2_together (d + 1) 41 [some (.ref 3), some (.int l1), some (.int l2), some (.int l3), some (.int l4), some (.int (l5 + (1 : Int32))), none, none, none, none] [] σ Q) ∧
    (¬ l8 ≤ l9 →
      (l7 = 0 →
        am_K ri am_Lx IX2_placed d [.ref 3, .ref l6, .int l4] σ (fun r1 σ1 =>
          am_X rn am_Lx IX2_together (d + 1) 99 [some (.ref 3), some (.int l1), some (.int l2), some (.int l3), some (.int r1), some (.int l5), some (.ref l6), some (.int l7), some (.int l8), some (.int (l9 + (1 : Int32)))] [] σ1 Q)) ∧
      (¬ l7 = 0 →
        (am_isT am_Lx σ l6) ∧
        (gQ σ l6 = none →
          False) ∧
        (∀ t2, gQ σ l6 = some t2 →
          (am_isR am_Lx σ t2) ∧
          (vp_in l9 (am_rl am_Lx σ t2)) ∧
          (gP σ t2 (l9).toNatClampNeg = none →
            am_K ri am_Lx IX2_placed d [.ref 3, .null, .int l4] σ (fun r4 σ4 =>
              am_X rn am_Lx IX2_together (d + 1) 99 [some (.ref 3), some (.int l1), some (.int l2), some (.int l3), some (.int r4), some (.int l5), some (.ref l6), some (.int l7), some (.int l8), some (.int (l9 + (1 : Int32)))] [] σ4 Q)) ∧
          (∀ t3, gP σ t2 (l9).toNatClampNeg = some t3 →
            am_K ri am_Lx IX2_placed d [.ref 3, .ref t3, .int l4] σ (fun r5 σ5 =>
              am_X rn am_Lx IX2_together (d + 1) 99 [some (.ref 3), some (.int l1), some (.int l2), some (.int l3), some (.int r5), some (.int l5), some (.ref l6), some (.int l7), some (.int l8), some (.int (l9 + (1 : Int32)))] [] σ5 Q)))))) : am_X rn am_Lx IX2_together (d + 1) 99 [some (.ref 3), some (.int l1), some (.int l2), some (.int l3), some (.int l4), some (.int l5), some (.ref l6), some (.int l7), some (.int l8), some (.int l9)] [] σ Q := (X_if (fun _ _ => blX2_together_99) (fun z0 => (X_go (fun _ _ => blX2_together_138) (H.1 z0))) (fun z0 => (X_if (fun _ _ => blX2_together_106) (fun z1 => (X_go (fun _ _ => blX2_together_123) (X_call (fun _ _ _ _ => blX2_together_125_r) (K_mono ((H.2 z0).1 z1) (fun r1 σ1 q3 => (X_go (fun _ _ => blX2_together_130) q3)))))) (fun z1 => (X_opt (fun _ _ => blX2_together_112 ((H.2 z0).2 z1).1) (fun z2 => (False.elim (((H.2 z0).2 z1).2.1 z2))) (fun t2 z2 => (X_opt (fun _ _ => blX2_together_117_r (((H.2 z0).2 z1).2.2 t2 z2).1 (((H.2 z0).2 z1).2.2 t2 z2).2.1) (fun z3 => (X_go (fun _ _ => blX2_together_120_n) (X_call (fun _ _ _ _ => blX2_together_125_n) (K_mono ((((H.2 z0).2 z1).2.2 t2 z2).2.2.1 z3) (fun r4 σ4 q5 => (X_go (fun _ _ => blX2_together_130) q5)))))) (fun t3 z3 => (X_go (fun _ _ => blX2_together_120_r) (X_call (fun _ _ _ _ => blX2_together_125_r) (K_mono ((((H.2 z0).2 z1).2.2 t2 z2).2.2.2 t3 z3) (fun r5 σ5 q5 => (X_go (fun _ _ => blX2_together_130) q5)))))))))))))
set_option maxRecDepth 20000 in
theorem vX2_placed {d : Nat} {σ : am_S} {Q : Int32 → am_S → Prop} {l1 : Nat} {l2 : Int32} (H :
    (l2 < 0 →
      Q (9 : Int32) σ) ∧
    (¬ l2 < 0 →
      (l2 < (8 : Int32) →
        am_X ri am_Lx IX2_placed (d + 1) 15 [some (.ref 3), some (.ref l1), some (.int l2), some (.int l2)] [] σ Q) ∧
      (¬ l2 < (8 : Int32) →
        Q (9 : Int32) σ))) : am_K ri am_Lx IX2_placed (d + 1) [.ref 3, .ref l1, .int l2] σ Q := K_of am_owX2_placed (Nat.le_of_ble_eq_true rfl) (X_if (fun _ _ => blX2_placed_0) (fun z0 => (X_ret (fun _ _ => blX2_placed_10) (H.1 z0))) (fun z0 => (X_if (fun _ _ => blX2_placed_4) (fun z1 => (X_go (fun _ _ => blX2_placed_13) ((H.2 z0).1 z1))) (fun z1 => (X_ret (fun _ _ => blX2_placed_10) ((H.2 z0).2 z1))))))
set_option maxRecDepth 20000 in
theorem vX2_placed_15 {d : Nat} {σ : am_S} {Q : Int32 → am_S → Prop} {l1 : Nat} {l2 : Int32} {l3 : Int32} (H :
    (l3 ≤ 0 →
      (vp_in l3 8) ∧
      (am_isT am_Lx σ l1) ∧
      Q (l2 + (1 : Int32)) (wP σ 6 (l3).toNatClampNeg (some l1))) ∧
    (¬ l3 ≤ 0 →
      (vp_in (l3 - (1 : Int32)) 8) ∧
      (gP σ 6 ((l3 - (1 : Int32))).toNatClampNeg = none →
        am_K ri am_Lx IX8_compare d [.null, .ref l1, .int (0 : Int32)] σ (fun r2 σ2 =>
          (r2 ≤ 0 →
            (vp_in l3 8) ∧
            (am_isT am_Lx σ2 l1) ∧
            Q (l2 + (1 : Int32)) (wP σ2 6 (l3).toNatClampNeg (some l1))) ∧
          (¬ r2 ≤ 0 →
            (vp_in (l3 - (1 : Int32)) 8) ∧
            (gP σ2 6 ((l3 - (1 : Int32))).toNatClampNeg = none →
              (vp_in l3 8) ∧
              am_X ri am_Lx IX2_placed (d + 1) 15 [some (.ref 3), some (.ref l1), some (.int l2), some (.int (l3 + (-1 : Int32)))] [] (wP σ2 6 (l3).toNatClampNeg none) Q) ∧
            (∀ t3, gP σ2 6 ((l3 - (1 : Int32))).toNatClampNeg = some t3 →
              (vp_in l3 8) ∧
              (am_isT am_Lx σ2 t3) ∧
              am_X ri am_Lx IX2_placed (d + 1) 15 [some (.ref 3), some (.ref l1), some (.int l2), some (.int (l3 + (-1 : Int32)))] [] (wP σ2 6 (l3).toNatClampNeg (some t3)) Q)))) ∧
      (∀ t1, gP σ 6 ((l3 - (1 : Int32))).toNatClampNeg = some t1 →
        am_K ri am_Lx IX8_compare d [.ref t1, .ref l1, .int (0 : Int32)] σ (fun r4 σ4 =>
          (r4 ≤ 0 →
            (vp_in l3 8) ∧
            (am_isT am_Lx σ4 l1) ∧
            Q (l2 + (1 : Int32)) (wP σ4 6 (l3).toNatClampNeg (some l1))) ∧
          (¬ r4 ≤ 0 →
            (vp_in (l3 - (1 : Int32)) 8) ∧
            (gP σ4 6 ((l3 - (1 : Int32))).toNatClampNeg = none →
              (vp_in l3 8) ∧
              am_X ri am_Lx IX2_placed (d + 1) 15 [some (.ref 3), some (.ref l1), some (.int l2), some (.int (l3 + (-1 : Int32)))] [] (wP σ4 6 (l3).toNatClampNeg none) Q) ∧
            (∀ t5, gP σ4 6 ((l3 - (1 : Int32))).toNatClampNeg = some t5 →
              (vp_in l3 8) ∧
              (am_isT am_Lx σ4 t5) ∧
              am_X ri am_Lx IX2_placed (d + 1) 15 [some (.ref 3), some (.ref l1), some (.int l2), some (.int (l3 + (-1 : Int32)))] [] (wP σ4 6 (l3).toNatClampNeg (some t5)) Q)))))) : am_X ri am_Lx IX2_placed (d + 1) 15 [some (.ref 3), some (.ref l1), some (.int l2), some (.int l3)] [] σ Q := (X_if (fun _ _ => blX2_placed_15) (fun z0 => (X_ret (fun _ _ => blX2_placed_55 (H.1 z0).1 (H.1 z0).2.1) (H.1 z0).2.2)) (fun z0 => (X_opt (fun _ _ => blX2_placed_19 (H.2 z0).1) (fun z1 => (X_call (fun _ _ _ _ => blX2_placed_27_n) (K_mono ((H.2 z0).2.1 z1) (fun r2 σ2 q2 => (X_if (fun _ _ => blX2_placed_32) (fun z3 => (X_ret (fun _ _ => blX2_placed_55 (q2.1 z3).1 (q2.1 z3).2.1) (q2.1 z3).2.2)) (fun z3 => (X_opt (fun _ _ => blX2_placed_35 (q2.2 z3).1) (fun z4 => (X_go (fun _ _ => blX2_placed_48_n ((q2.2 z3).2.1 z4).1) ((q2.2 z3).2.1 z4).2)) (fun t3 z4 => (X_go (fun _ _ => blX2_placed_48_r ((q2.2 z3).2.2 t3 z4).1 ((q2.2 z3).2.2 t3 z4).2.1) ((q2.2 z3).2.2 t3 z4).2.2))))))))) (fun t1 z1 => (X_call (fun _ _ _ _ => blX2_placed_27_r) (K_mono ((H.2 z0).2.2 t1 z1) (fun r4 σ4 q2 => (X_if (fun _ _ => blX2_placed_32) (fun z3 => (X_ret (fun _ _ => blX2_placed_55 (q2.1 z3).1 (q2.1 z3).2.1) (q2.1 z3).2.2)) (fun z3 => (X_opt (fun _ _ => blX2_placed_35 (q2.2 z3).1) (fun z4 => (X_go (fun _ _ => blX2_placed_48_n ((q2.2 z3).2.1 z4).1) ((q2.2 z3).2.1 z4).2)) (fun t5 z4 => (X_go (fun _ _ => blX2_placed_48_r ((q2.2 z3).2.2 t5 z4).1 ((q2.2 z3).2.2 t5 z4).2.1) ((q2.2 z3).2.2 t5 z4).2.2))))))))))))
set_option maxRecDepth 20000 in
theorem vX2_rowOf {d : Nat} {σ : am_S} {Q : Nat → am_S → Prop} {l1 : Int32} (H :
    (¬ (if (0 : Int32) < (if (8 : Int32) < l1 then (8 : Int32) else l1) then (if (8 : Int32) < l1 then (8 : Int32) else l1) else (0 : Int32)) < 0) ∧
    (((if (0 : Int32) < (if (8 : Int32) < l1 then (8 : Int32) else l1) then (if (8 : Int32) < l1 then (8 : Int32) else l1) else (0 : Int32))).toNatClampNeg ≤ 1000) ∧
    (1 ≤ gc σ) ∧
    (((if (0 : Int32) < (if (8 : Int32) < l1 then (8 : Int32) else l1) then (if (8 : Int32) < l1 then (8 : Int32) else l1) else (0 : Int32))).toNatClampNeg ≤ gs σ) ∧
    am_X rr am_Lx IX2_rowOf (d + 1) 19 [some (.ref 3), some (.int l1), some (.int (if (0 : Int32) < (if (8 : Int32) < l1 then (8 : Int32) else l1) then (if (8 : Int32) < l1 then (8 : Int32) else l1) else (0 : Int32))), some (.ref (gn σ)), some (.int (0 : Int32))] [] (am_nA σ ((if (0 : Int32) < (if (8 : Int32) < l1 then (8 : Int32) else l1) then (if (8 : Int32) < l1 then (8 : Int32) else l1) else (0 : Int32))).toNatClampNeg) Q) : am_K rr am_Lx IX2_rowOf (d + 1) [.ref 3, .int l1] σ Q := K_of am_owX2_rowOf (Nat.le_of_ble_eq_true rfl) (X_go (fun _ _ => blX2_rowOf_0 H.1 H.2.1 H.2.2.1 H.2.2.2.1) H.2.2.2.2)
set_option maxRecDepth 20000 in
theorem vX2_rowOf_19 {d : Nat} {σ : am_S} {Q : Nat → am_S → Prop} {l1 : Int32} {l2 : Int32} {l3 : Nat} {l4 : Int32} (H :
    (l2 ≤ l4 →
      Q l3 σ) ∧
    (¬ l2 ≤ l4 →
      (vp_in l4 8) ∧
      (gP σ 6 (l4).toNatClampNeg = none →
        (am_isR am_Lx σ l3) ∧
        (vp_in l4 (am_rl am_Lx σ l3)) ∧
        am_X rr am_Lx IX2_rowOf (d + 1) 19 [some (.ref 3), some (.int l1), some (.int l2), some (.ref l3), some (.int (l4 + (1 : Int32)))] [] (wP σ l3 (l4).toNatClampNeg none) Q) ∧
      (∀ t1, gP σ 6 (l4).toNatClampNeg = some t1 →
        (am_isR am_Lx σ l3) ∧
        (vp_in l4 (am_rl am_Lx σ l3)) ∧
        (am_isT am_Lx σ t1) ∧
        am_X rr am_Lx IX2_rowOf (d + 1) 19 [some (.ref 3), some (.int l1), some (.int l2), some (.ref l3), some (.int (l4 + (1 : Int32)))] [] (wP σ l3 (l4).toNatClampNeg (some t1)) Q))) : am_X rr am_Lx IX2_rowOf (d + 1) 19 [some (.ref 3), some (.int l1), some (.int l2), some (.ref l3), some (.int l4)] [] σ Q := (X_if (fun _ _ => blX2_rowOf_19) (fun z0 => (X_ret (fun _ _ => blX2_rowOf_42) (H.1 z0))) (fun z0 => (X_opt (fun _ _ => blX2_rowOf_25 (H.2 z0).1) (fun z1 => (X_go (fun _ _ => blX2_rowOf_35_n ((H.2 z0).2.1 z1).1 ((H.2 z0).2.1 z1).2.1) ((H.2 z0).2.1 z1).2.2)) (fun t1 z1 => (X_go (fun _ _ => blX2_rowOf_35_r ((H.2 z0).2.2 t1 z1).1 ((H.2 z0).2.2 t1 z1).2.1 ((H.2 z0).2.2 t1 z1).2.2.1) ((H.2 z0).2.2 t1 z1).2.2.2)))))
set_option maxRecDepth 20000 in
theorem vX2_bounded {d : Nat} {σ : am_S} {Q : Option Nat → am_S → Prop} {l0 : Nat} (H :
    (am_isT am_Lx σ l0) ∧
    ((gS σ l0 3) ≤ (40 : Int32) →
      Q (some l0) σ) ∧
    (¬ (gS σ l0 3) ≤ (40 : Int32) →
      Q none σ)) : am_K rn am_Lx IX2_bounded (d + 1) [.ref l0] σ Q := K_of am_owX2_bounded (Nat.le_of_ble_eq_true rfl) (X_if (fun _ _ => blX2_bounded_0 H.1) (fun z0 => (X_go (fun _ _ => blX2_bounded_13) (X_ret (fun _ _ => blX2_bounded_14_r) (H.2.1 z0)))) (fun z0 => (X_go (fun _ _ => blX2_bounded_9) (X_ret (fun _ _ => blX2_bounded_14_n) (H.2.2 z0)))))
set_option maxRecDepth 20000 in
theorem vX2_replaced {d : Nat} {σ : am_S} {Q : Option Nat → am_S → Prop} {l1 : Nat} {l3 : Int32} (H :
    (am_isT am_Lx σ l1) ∧
    (¬ (gS σ l1 4) = 0 →
      (l3 < (40 : Int32) →
        (am_isT am_Lx σ l1) ∧
        (¬ (gS σ l1 0) = 0 →
          am_X rn am_Lx IX2_replaced (d + 1) 53 [some (.ref 3), some (.ref l1), some (.ref 2), some (.int l3), some (.int (gS σ 3 3)), some (.int (0 : Int32))] [] σ Q) ∧
        ((gS σ l1 0) = 0 →
          (am_isT am_Lx σ l1) ∧
          ((Int32.ofNat 22) ≤ (gS σ l1 1) →
            Q none σ) ∧
          (¬ (Int32.ofNat 22) ≤ (gS σ l1 1) →
            (am_isT am_Lx σ l1) ∧
            (vp_in (gS σ l1 1) 22) ∧
            (gP σ 2 ((gS σ l1 1)).toNatClampNeg = none →
              Q none σ) ∧
            (∀ t1, gP σ 2 ((gS σ l1 1)).toNatClampNeg = some t1 →
              Q (some t1) σ)))) ∧
      (¬ l3 < (40 : Int32) →
        Q none σ)) ∧
    ((gS σ l1 4) = 0 →
      Q (some l1) σ)) : am_K rn am_Lx IX2_replaced (d + 1) [.ref 3, .ref l1, .ref 2, .int l3] σ Q := K_of am_owX2_replaced (Nat.le_of_ble_eq_true rfl) (X_ifn (fun _ _ => blX2_replaced_0 H.1) (fun z0 => (X_if (fun _ _ => blX2_replaced_9) (fun z1 => (X_ifn (fun _ _ => blX2_replaced_17 ((H.2.1 z0).1 z1).1) (fun z2 => (X_go (fun _ _ => blX2_replaced_44) (((H.2.1 z0).1 z1).2.1 z2))) (fun z2 => (X_if (fun _ _ => blX2_replaced_24 (((H.2.1 z0).1 z1).2.2 z2).1) (fun z3 => (X_go (fun _ _ => blX2_replaced_42) (X_ret (fun _ _ => blX2_replaced_43_n) ((((H.2.1 z0).1 z1).2.2 z2).2.1 z3)))) (fun z3 => (X_opt (fun _ _ => blX2_replaced_33 ((((H.2.1 z0).1 z1).2.2 z2).2.2 z3).1 ((((H.2.1 z0).1 z1).2.2 z2).2.2 z3).2.1) (fun z4 => (X_go (fun _ _ => blX2_replaced_39_n) (X_ret (fun _ _ => blX2_replaced_43_n) (((((H.2.1 z0).1 z1).2.2 z2).2.2 z3).2.2.1 z4)))) (fun t1 z4 => (X_go (fun _ _ => blX2_replaced_39_r) (X_ret (fun _ _ => blX2_replaced_43_r) (((((H.2.1 z0).1 z1).2.2 z2).2.2 z3).2.2.2 t1 z4)))))))))) (fun z1 => (X_ret (fun _ _ => blX2_replaced_15) ((H.2.1 z0).2 z1))))) (fun z0 => (X_ret (fun _ _ => blX2_replaced_7) (H.2.2 z0))))
set_option maxRecDepth 20000 in
theorem vX2_replaced_53 {d : Nat} {σ : am_S} {Q : Option Nat → am_S → Prop} {l1 : Nat} {l3 : Int32} {l4 : Int32} {l5 : Int32} (H :
    (am_isT am_Lx σ l1) ∧
    (gQ σ l1 = none →
      False) ∧
    (∀ t1, gQ σ l1 = some t1 →
      (am_isA am_Lx σ t1) ∧
      ((Int32.ofNat (am_rl am_Lx σ t1)) ≤ l5 →
        (am_isT am_Lx σ l1) ∧
        (¬ (gS σ l1 0) = (2 : Int32) →
          (am_isT am_Lx σ l1) ∧
          am_K rn am_Lx IX2_together d [.ref 3, .int (gS σ l1 0), .int l4] σ (fun r2 σ2 =>
            (r2 = none →
              Q none σ2) ∧
            (∀ t3, r2 = some t3 →
              Q (some t3) σ2))) ∧
        ((gS σ l1 0) = (2 : Int32) →
          (am_isT am_Lx σ l1) ∧
          am_K rn am_Lx IX2_function d [.ref 3, .int (gS σ l1 1), .int l4] σ (fun r4 σ4 =>
            (r4 = none →
              Q none σ4) ∧
            (∀ t5, r4 = some t5 →
              Q (some t5) σ4)))) ∧
      (¬ (Int32.ofNat (am_rl am_Lx σ t1)) ≤ l5 →
        (am_isT am_Lx σ l1) ∧
        (gQ σ l1 = none →
          False) ∧
        (∀ t6, gQ σ l1 = some t6 →
          (am_isR am_Lx σ t6) ∧
          (vp_in l5 (am_rl am_Lx σ t6)) ∧
          (gP σ t6 (l5).toNatClampNeg = none →
            am_K rn am_Lx IX2_replaced d [.ref 3, .null, .ref 2, .int (l3 + (1 : Int32))] σ (fun r8 σ8 =>
              (r8 = none →
                am_K ru am_Lx IX2_push d [.ref 3, .null] σ8 (fun _ σ9 =>
                  am_X rn am_Lx IX2_replaced (d + 1) 53 [some (.ref 3), some (.ref l1), some (.ref 2), some (.int l3), some (.int l4), some (.int (l5 + (1 : Int32)))] [] σ9 Q)) ∧
              (∀ t10, r8 = some t10 →
                am_K ru am_Lx IX2_push d [.ref 3, .ref t10] σ8 (fun _ σ11 =>
                  am_X rn am_Lx IX2_replaced (d + 1) 53 [some (.ref 3), some (.ref l1), some (.ref 2), some (.int l3), some (.int l4), some (.int (l5 + (1 : Int32)))] [] σ11 Q)))) ∧
          (∀ t7, gP σ t6 (l5).toNatClampNeg = some t7 →
            am_K rn am_Lx IX2_replaced d [.ref 3, .ref t7, .ref 2, .int (l3 + (1 : Int32))] σ (fun r12 σ12 =>
              (r12 = none →
                am_K ru am_Lx IX2_push d [.ref 3, .null] σ12 (fun _ σ13 =>
                  am_X rn am_Lx IX2_replaced (d + 1) 53 [some (.ref 3), some (.ref l1), some (.ref 2), some (.int l3), some (.int l4), some (.int (l5 + (1 : Int32)))] [] σ13 Q)) ∧
              (∀ t14, r12 = some t14 →
                am_K ru am_Lx IX2_push d [.ref 3, .ref t14] σ12 (fun _ σ15 =>
                  am_X rn am_Lx IX2_replaced (d + 1) 53 [some (.ref 3), some (.ref l1), some (.ref 2), some (.int l3), some (.int l4), some (.int (l5 + (1 : Int32)))] [] σ15 Q)))))))) : am_X rn am_Lx IX2_replaced (d + 1) 53 [some (.ref 3), some (.ref l1), some (.ref 2), some (.int l3), some (.int l4), some (.int l5)] [] σ Q := (X_opt (fun _ _ => blX2_replaced_53 H.1) (fun z0 => (False.elim (H.2.1 z0))) (fun t1 z0 => (X_if (fun _ _ => blX2_replaced_59_r (H.2.2 t1 z0).1) (fun z1 => (X_ifn (fun _ _ => blX2_replaced_88 ((H.2.2 t1 z0).2.1 z1).1) (fun z2 => (X_calln (fun _ _ _ _ => blX2_replaced_109 (((H.2.2 t1 z0).2.1 z1).2.1 z2).1) (K_mono (((H.2.2 t1 z0).2.1 z1).2.1 z2).2 (fun r2 σ2 q3 => And.intro (fun z3 => (X_ret (fun _ _ => blX2_replaced_119_n) (q3.1 z3))) (fun t3 z3 => (X_ret (fun _ _ => blX2_replaced_119_r) (q3.2 t3 z3))))))) (fun z2 => (X_calln (fun _ _ _ _ => blX2_replaced_96 (((H.2.2 t1 z0).2.1 z1).2.2 z2).1) (K_mono (((H.2.2 t1 z0).2.1 z1).2.2 z2).2 (fun r4 σ4 q3 => And.intro (fun z3 => (X_go (fun _ _ => blX2_replaced_106_n) (X_ret (fun _ _ => blX2_replaced_119_n) (q3.1 z3)))) (fun t5 z3 => (X_go (fun _ _ => blX2_replaced_106_r) (X_ret (fun _ _ => blX2_replaced_119_r) (q3.2 t5 z3)))))))))) (fun z1 => (X_opt (fun _ _ => blX2_replaced_63 ((H.2.2 t1 z0).2.2 z1).1) (fun z2 => (False.elim (((H.2.2 t1 z0).2.2 z1).2.1 z2))) (fun t6 z2 => (X_opt (fun _ _ => blX2_replaced_69_r (((H.2.2 t1 z0).2.2 z1).2.2 t6 z2).1 (((H.2.2 t1 z0).2.2 z1).2.2 t6 z2).2.1) (fun z3 => (X_calln (fun _ _ _ _ => blX2_replaced_72_n) (K_mono ((((H.2.2 t1 z0).2.2 z1).2.2 t6 z2).2.2.1 z3) (fun r8 σ8 q4 => And.intro (fun z4 => (X_call (fun _ _ _ _ => blX2_replaced_79_n) (K_mono (q4.1 z4) (fun _ σ9 q5 => (X_go (fun _ _ => blX2_replaced_82) q5))))) (fun t10 z4 => (X_call (fun _ _ _ _ => blX2_replaced_79_r) (K_mono (q4.2 t10 z4) (fun _ σ11 q5 => (X_go (fun _ _ => blX2_replaced_82) q5))))))))) (fun t7 z3 => (X_calln (fun _ _ _ _ => blX2_replaced_72_r) (K_mono ((((H.2.2 t1 z0).2.2 z1).2.2 t6 z2).2.2.2 t7 z3) (fun r12 σ12 q4 => And.intro (fun z4 => (X_call (fun _ _ _ _ => blX2_replaced_79_n) (K_mono (q4.1 z4) (fun _ σ13 q5 => (X_go (fun _ _ => blX2_replaced_82) q5))))) (fun t14 z4 => (X_call (fun _ _ _ _ => blX2_replaced_79_r) (K_mono (q4.2 t14 z4) (fun _ σ15 q5 => (X_go (fun _ _ => blX2_replaced_82) q5))))))))))))))))
set_option maxRecDepth 20000 in
theorem vX6_typed {d : Nat} {σ : am_S} {Q : Int32 → am_S → Prop} {l1 : Int64} {l3 : Int32} (H :
    (l3 < (1 : Int32) →
      Q (-1 : Int32) σ) ∧
    (¬ l3 < (1 : Int32) →
      (l3 ≤ (8 : Int32) →
        am_X ri am_Lx IX6_typed (d + 1) 16 [some (.ref 7), some (.long l1), none, some (.int l3), some (.int (0 : Int32)), none] [] σ Q) ∧
      (¬ l3 ≤ (8 : Int32) →
        Q (-1 : Int32) σ))) : am_K ri am_Lx IX6_typed (d + 1) [.ref 7, .long l1, .int l3] σ Q := K_of am_owX6_typed (Nat.le_of_ble_eq_true rfl) (X_if (fun _ _ => blX6_typed_0) (fun z0 => (X_ret (fun _ _ => blX6_typed_11) (H.1 z0))) (fun z0 => (X_if (fun _ _ => blX6_typed_5) (fun z1 => (X_go (fun _ _ => blX6_typed_13) ((H.2 z0).1 z1))) (fun z1 => (X_ret (fun _ _ => blX6_typed_11) ((H.2 z0).2 z1))))))
set_option maxRecDepth 20000 in
theorem vX6_typed_16 {d : Nat} {σ : am_S} {Q : Int32 → am_S → Prop} {l1 : Int64} {l3 : Int32} {l4 : Int32} (H :
    (l3 ≤ l4 →
      (((gS σ 7 2) + l3) ≤ (64 : Int32) →
        am_X ri am_Lx IX6_typed (d + 1) 71 [some (.ref 7), some (.long l1), none, some (.int l3), some (.int (l3 - (1 : Int32))), none] [] σ Q) ∧
      (¬ ((gS σ 7 2) + l3) ≤ (64 : Int32) →
        Q (-4 : Int32) σ)) ∧
    (¬ l3 ≤ l4 →
      am_K ri am_Lx IX6_byteOf d [.long l1, .int l4] σ (fun r1 σ1 =>
        (r1 < (32 : Int32) →
          Q (-1 : Int32) σ1) ∧
        (¬ r1 < (32 : Int32) →
          (r1 ≤ (126 : Int32) →
            am_X ri am_Lx IX6_typed (d + 1) 16 [some (.ref 7), some (.long l1), none, some (.int l3), some (.int (l4 + (1 : Int32))), none] [] σ1 Q) ∧
          (¬ r1 ≤ (126 : Int32) →
            Q (-1 : Int32) σ1))))) : am_X ri am_Lx IX6_typed (d + 1) 16 [some (.ref 7), some (.long l1), none, some (.int l3), some (.int l4), none] [] σ Q := (X_if (fun _ _ => blX6_typed_16) (fun z0 => (X_if (fun _ _ => blX6_typed_52) (fun z1 => (X_go (fun _ _ => blX6_typed_66) ((H.1 z0).1 z1))) (fun z1 => (X_ret (fun _ _ => blX6_typed_63) ((H.1 z0).2 z1))))) (fun z0 => (X_call (fun _ _ _ _ => blX6_typed_22) (K_mono (H.2 z0) (fun r1 σ1 q1 => (X_if (fun _ _ => blX6_typed_28) (fun z2 => (X_ret (fun _ _ => blX6_typed_44) (q1.1 z2))) (fun z2 => (X_if (fun _ _ => blX6_typed_37) (fun z3 => (X_go (fun _ _ => blX6_typed_46) ((q1.2 z2).1 z3))) (fun z3 => (X_ret (fun _ _ => blX6_typed_44) ((q1.2 z2).2 z3)))))))))))
set_option maxRecDepth 20000 in
theorem vX6_typed_71 {d : Nat} {σ : am_S} {Q : Int32 → am_S → Prop} {l1 : Int64} {l3 : Int32} {l4 : Int32} (H :
    (l4 < 0 →
      Q (gS σ 7 2) σ) ∧
    (¬ l4 < 0 →
      am_K ri am_Lx IX6_byteOf d [.long l1, .int l4] σ (fun r1 σ1 =>
        (vp_in (gS σ 7 2) 64) ∧
        am_X ri am_Lx IX6_typed (d + 1) 71 [some (.ref 7), some (.long l1), none, some (.int l3), some (.int (l4 + (-1 : Int32))), none] [] (wS (wA σ1 8 ((gS σ 7 2)).toNatClampNeg (vp_nar .byte (r1).toInt8.toInt32)) 7 2 ((gS σ1 7 2) + (1 : Int32))) Q))) : am_X ri am_Lx IX6_typed (d + 1) 71 [some (.ref 7), some (.long l1), none, some (.int l3), some (.int l4), none] [] σ Q := (X_if (fun _ _ => blX6_typed_71) (fun z0 => (X_ret (fun _ _ => blX6_typed_108) (H.1 z0))) (fun z0 => (X_call (fun _ _ _ _ => blX6_typed_76) (K_mono (H.2 z0) (fun r1 σ1 q1 => (X_go (fun _ _ => blX6_typed_90 q1.1) q1.2))))))
set_option maxRecDepth 20000 in
theorem vX6_byteOf {d : Nat} {σ : am_S} {Q : Int32 → am_S → Prop} {l0 : Int64} {l2 : Int32} (H :
    Q ((((l0).toUInt64 >>> ((((8 : Int32) * l2)).toInt64.toUInt64 &&& Int64.toUInt64 63)).toInt64).toInt32 &&& (255 : Int32)) σ) : am_K ri am_Lx IX6_byteOf (d + 1) [.long l0, .int l2] σ Q := K_of am_owX6_byteOf (Nat.le_of_ble_eq_true rfl) (X_ret (fun _ _ => blX6_byteOf_0) H)
set_option maxRecDepth 20000 in
theorem vX6_parsed {d : Nat} {σ : am_S} {Q : Option Nat → am_S → Prop}  (H :
    am_K rn am_Lx IX6_sum d [.ref 7] (wS (wS (wS σ 7 3 (0 : Int32)) 7 4 (0 : Int32)) 7 5 (-1 : Int32)) (fun r1 σ1 =>
      (r1 = none →
        (0 ≤ (gS σ1 7 5) →
          Q none (wS σ1 7 2 (0 : Int32))) ∧
        (¬ 0 ≤ (gS σ1 7 5) →
          am_K ri am_Lx IX6_next d [.ref 7] σ1 (fun r2 σ2 =>
            (r2 = 0 →
              Q none (wS σ2 7 2 (0 : Int32))) ∧
            (¬ r2 = 0 →
              Q none (wS (wS σ2 7 5 (gS σ2 7 3)) 7 2 (0 : Int32)))))) ∧
      (∀ t3, r1 = some t3 →
        (0 ≤ (gS σ1 7 5) →
          Q (some t3) (wS σ1 7 2 (0 : Int32))) ∧
        (¬ 0 ≤ (gS σ1 7 5) →
          am_K ri am_Lx IX6_next d [.ref 7] σ1 (fun r4 σ4 =>
            (r4 = 0 →
              Q (some t3) (wS σ4 7 2 (0 : Int32))) ∧
            (¬ r4 = 0 →
              Q (some t3) (wS (wS σ4 7 5 (gS σ4 7 3)) 7 2 (0 : Int32)))))))) : am_K rn am_Lx IX6_parsed (d + 1) [.ref 7] σ Q := K_of am_owX6_parsed (Nat.le_of_ble_eq_true rfl) (X_calln (fun _ _ _ _ => blX6_parsed_0) (K_mono H (fun r1 σ1 q0 => And.intro (fun z0 => (X_if (fun _ _ => blX6_parsed_19_n) (fun z1 => (X_ret (fun _ _ => blX6_parsed_42_n) ((q0.1 z0).1 z1))) (fun z1 => (X_call (fun _ _ _ _ => blX6_parsed_27_n) (K_mono ((q0.1 z0).2 z1) (fun r2 σ2 q2 => (X_if (fun _ _ => blX6_parsed_31_n) (fun z3 => (X_ret (fun _ _ => blX6_parsed_42_n) (q2.1 z3))) (fun z3 => (X_go (fun _ _ => blX6_parsed_34_n) (X_ret (fun _ _ => blX6_parsed_42_n) (q2.2 z3))))))))))) (fun t3 z0 => (X_if (fun _ _ => blX6_parsed_19_r) (fun z1 => (X_ret (fun _ _ => blX6_parsed_42_r) ((q0.2 t3 z0).1 z1))) (fun z1 => (X_call (fun _ _ _ _ => blX6_parsed_27_r) (K_mono ((q0.2 t3 z0).2 z1) (fun r4 σ4 q2 => (X_if (fun _ _ => blX6_parsed_31_r) (fun z3 => (X_ret (fun _ _ => blX6_parsed_42_r) (q2.1 z3))) (fun z3 => (X_go (fun _ _ => blX6_parsed_34_r) (X_ret (fun _ _ => blX6_parsed_42_r) (q2.2 z3))))))))))))))
set_option maxRecDepth 20000 in
theorem vX6_next {d : Nat} {σ : am_S} {Q : Int32 → am_S → Prop}  (H :
    ((gS σ 7 2) ≤ (gS σ 7 3) →
      ((gS σ 7 2) ≤ (gS σ 7 3) →
        (narrow .char (.int (0 : Int32)) = .int (0 : Int32)) ∧ Q (0 : Int32) σ) ∧
      (¬ (gS σ 7 2) ≤ (gS σ 7 3) →
        (vp_in (gS σ 7 3) 64) ∧
        (narrow .char (.int (((gA σ 8 ((gS σ 7 3)).toNatClampNeg)).toUInt32 % 65536).toInt32) = .int (((gA σ 8 ((gS σ 7 3)).toNatClampNeg)).toUInt32 % 65536).toInt32) ∧ Q (((gA σ 8 ((gS σ 7 3)).toNatClampNeg)).toUInt32 % 65536).toInt32 σ)) ∧
    (¬ (gS σ 7 2) ≤ (gS σ 7 3) →
      (vp_in (gS σ 7 3) 64) ∧
      (¬ (gA σ 8 ((gS σ 7 3)).toNatClampNeg) = (32 : Int32) →
        ((gS σ 7 2) ≤ (gS σ 7 3) →
          (narrow .char (.int (0 : Int32)) = .int (0 : Int32)) ∧ Q (0 : Int32) σ) ∧
        (¬ (gS σ 7 2) ≤ (gS σ 7 3) →
          (vp_in (gS σ 7 3) 64) ∧
          (narrow .char (.int (((gA σ 8 ((gS σ 7 3)).toNatClampNeg)).toUInt32 % 65536).toInt32) = .int (((gA σ 8 ((gS σ 7 3)).toNatClampNeg)).toUInt32 % 65536).toInt32) ∧ Q (((gA σ 8 ((gS σ 7 3)).toNatClampNeg)).toUInt32 % 65536).toInt32 σ)) ∧
      ((gA σ 8 ((gS σ 7 3)).toNatClampNeg) = (32 : Int32) →
        am_X ri am_Lx IX6_next (d + 1) 0 [some (.ref 7)] [] (wS σ 7 3 ((gS σ 7 3) + (1 : Int32))) Q))) : am_K ri am_Lx IX6_next (d + 1) [.ref 7] σ Q := K_of am_owX6_next (Nat.le_of_ble_eq_true rfl) (X_if (fun _ _ => blX6_next_0) (fun z0 => (X_if (fun _ _ => blX6_next_38) (fun z1 => (X_go (fun _ _ => blX6_next_62) (X_ret (fun _ _ => blX6_next_63 ((H.1 z0).1 z1).1) ((H.1 z0).1 z1).2))) (fun z1 => (X_go (fun _ _ => blX6_next_49 ((H.1 z0).2 z1).1) (X_ret (fun _ _ => blX6_next_63 ((H.1 z0).2 z1).2.1) ((H.1 z0).2 z1).2.2))))) (fun z0 => (X_ifn (fun _ _ => blX6_next_11 (H.2 z0).1) (fun z1 => (X_if (fun _ _ => blX6_next_38) (fun z2 => (X_go (fun _ _ => blX6_next_62) (X_ret (fun _ _ => blX6_next_63 (((H.2 z0).2.1 z1).1 z2).1) (((H.2 z0).2.1 z1).1 z2).2))) (fun z2 => (X_go (fun _ _ => blX6_next_49 (((H.2 z0).2.1 z1).2 z2).1) (X_ret (fun _ _ => blX6_next_63 (((H.2 z0).2.1 z1).2 z2).2.1) (((H.2 z0).2.1 z1).2 z2).2.2))))) (fun z1 => (X_go (fun _ _ => blX6_next_25) ((H.2 z0).2.2 z1))))))
set_option maxRecDepth 20000 in
theorem vX6_took {d : Nat} {σ : am_S} {Q : Int32 → am_S → Prop} {l1 : Int32} (H :
    am_K ri am_Lx IX6_next d [.ref 7] σ (fun r1 σ1 =>
      (r1 = l1 →
        Q (1 : Int32) (wS σ1 7 3 ((gS σ1 7 3) + (1 : Int32)))) ∧
      (¬ r1 = l1 →
        Q (0 : Int32) σ1))) : am_K ri am_Lx IX6_took (d + 1) [.ref 7, .int l1] σ Q := K_of am_owX6_took (Nat.le_of_ble_eq_true rfl) (X_call (fun _ _ _ _ => blX6_took_0) (K_mono H (fun r1 σ1 q0 => (X_if (fun _ _ => blX6_took_4) (fun z1 => (X_ret (fun _ _ => blX6_took_10 (Or.inr rfl)) (q0.1 z1))) (fun z1 => (X_ret (fun _ _ => blX6_took_8 (Or.inl rfl)) (q0.2 z1)))))))
set_option maxRecDepth 20000 in
theorem vX6_failed {d : Nat} {σ : am_S} {Q : Option Nat → am_S → Prop}  (H :
    (0 ≤ (gS σ 7 5) →
      Q none σ) ∧
    (¬ 0 ≤ (gS σ 7 5) →
      Q none (wS σ 7 5 (gS σ 7 3)))) : am_K rn am_Lx IX6_failed (d + 1) [.ref 7] σ Q := K_of am_owX6_failed (Nat.le_of_ble_eq_true rfl) (X_if (fun _ _ => blX6_failed_0) (fun z0 => (X_ret (fun _ _ => blX6_failed_15) (H.1 z0))) (fun z0 => (X_go (fun _ _ => blX6_failed_7) (X_ret (fun _ _ => blX6_failed_15) (H.2 z0)))))
set_option maxRecDepth 20000 in
theorem vX6_sum {d : Nat} {σ : am_S} {Q : Option Nat → am_S → Prop}  (H :
    am_K ri am_Lx IX2_mark d [.ref 3] σ (fun r1 σ1 =>
      am_X rn am_Lx IX6_sum (d + 1) 12 [some (.ref 7), some (.int r1), some (.int (1 : Int32)), some (.int (0 : Int32))] [] σ1 Q)) : am_K rn am_Lx IX6_sum (d + 1) [.ref 7] σ Q := K_of am_owX6_sum (Nat.le_of_ble_eq_true rfl) (X_call (fun _ _ _ _ => blX6_sum_0) (K_mono H (fun r1 σ1 q0 => (X_go (fun _ _ => blX6_sum_7) q0))))
set_option maxRecDepth 20000 in
theorem vX6_sum_12 {d : Nat} {σ : am_S} {Q : Option Nat → am_S → Prop} {l1 : Int32} {l2 : Int32} {l3 : Int32} (H :
    (l2 = 0 →
      am_K rn am_Lx IX2_together d [.ref 3, .int (3 : Int32), .int l1] σ (fun r1 σ1 =>
        (r1 = none →
          Q none σ1) ∧
        (∀ t2, r1 = some t2 →
          Q (some t2) σ1))) ∧
    (¬ l2 = 0 →
      ((64 : Int32) ≤ l3 →
        am_K rn am_Lx IX2_together d [.ref 3, .int (3 : Int32), .int l1] σ (fun r3 σ3 =>
          (r3 = none →
            Q none σ3) ∧
          (∀ t4, r3 = some t4 →
            Q (some t4) σ3))) ∧
      (¬ (64 : Int32) ≤ l3 →
        am_K rn am_Lx IX6_product d [.ref 7] σ (fun r5 σ5 =>
          (r5 = none →
            am_K ru am_Lx IX2_push d [.ref 3, .null] σ5 (fun _ σ6 =>
              (0 ≤ (gS σ6 7 5) →
                am_X rn am_Lx IX6_sum (d + 1) 12 [some (.ref 7), some (.int l1), some (.int (0 : Int32)), some (.int (l3 + (1 : Int32)))] [] σ6 Q) ∧
              (¬ 0 ≤ (gS σ6 7 5) →
                am_K ri am_Lx IX6_took d [.ref 7, .int (43 : Int32)] σ6 (fun r7 σ7 =>
                  (r7 = 0 →
                    am_X rn am_Lx IX6_sum (d + 1) 12 [some (.ref 7), some (.int l1), some (.int (0 : Int32)), some (.int (l3 + (1 : Int32)))] [] σ7 Q) ∧
                  (¬ r7 = 0 →
                    am_X rn am_Lx IX6_sum (d + 1) 12 [some (.ref 7), some (.int l1), some (.int (1 : Int32)), some (.int (l3 + (1 : Int32)))] [] σ7 Q))))) ∧
          (∀ t8, r5 = some t8 →
            am_K ru am_Lx IX2_push d [.ref 3, .ref t8] σ5 (fun _ σ9 =>
              (0 ≤ (gS σ9 7 5) →
                am_X rn am_Lx IX6_sum (d + 1) 12 [some (.ref 7), some (.int l1), some (.int (0 : Int32)), some (.int (l3 + (1 : Int32)))] [] σ9 Q) ∧
              (¬ 0 ≤ (gS σ9 7 5) →
                am_K ri am_Lx IX6_took d [.ref 7, .int (43 : Int32)] σ9 (fun r10 σ10 =>
                  (r10 = 0 →
                    am_X rn am_Lx IX6_sum (d + 1) 12 [some (.ref 7), some (.int l1), some (.int (0 : Int32)), some (.int (l3 + (1 : Int32)))] [] σ10 Q) ∧
                  (¬ r10 = 0 →
                    am_X rn am_Lx IX6_sum (d + 1) 12 [some (.ref 7), some (.int l1), some (.int (1 : Int32)), some (.int (l3 + (1 : Int32)))] [] σ10 Q))))))))) : am_X rn am_Lx IX6_sum (d + 1) 12 [some (.ref 7), some (.int l1), some (.int l2), some (.int l3)] [] σ Q := (X_if (fun _ _ => blX6_sum_12) (fun z0 => (X_calln (fun _ _ _ _ => blX6_sum_61) (K_mono (H.1 z0) (fun r1 σ1 q1 => And.intro (fun z1 => (X_ret (fun _ _ => blX6_sum_70_n) (q1.1 z1))) (fun t2 z1 => (X_ret (fun _ _ => blX6_sum_70_r) (q1.2 t2 z1))))))) (fun z0 => (X_if (fun _ _ => blX6_sum_16) (fun z1 => (X_calln (fun _ _ _ _ => blX6_sum_61) (K_mono ((H.2 z0).1 z1) (fun r3 σ3 q2 => And.intro (fun z2 => (X_ret (fun _ _ => blX6_sum_70_n) (q2.1 z2))) (fun t4 z2 => (X_ret (fun _ _ => blX6_sum_70_r) (q2.2 t4 z2))))))) (fun z1 => (X_calln (fun _ _ _ _ => blX6_sum_22) (K_mono ((H.2 z0).2 z1) (fun r5 σ5 q2 => And.intro (fun z2 => (X_call (fun _ _ _ _ => blX6_sum_30_n) (K_mono (q2.1 z2) (fun _ σ6 q3 => (X_if (fun _ _ => blX6_sum_33) (fun z4 => (X_go (fun _ _ => blX6_sum_53) (X_go (fun _ _ => blX6_sum_54) (q3.1 z4)))) (fun z4 => (X_call (fun _ _ _ _ => blX6_sum_40) (K_mono (q3.2 z4) (fun r7 σ7 q5 => (X_if (fun _ _ => blX6_sum_46) (fun z6 => (X_go (fun _ _ => blX6_sum_53) (X_go (fun _ _ => blX6_sum_54) (q5.1 z6)))) (fun z6 => (X_go (fun _ _ => blX6_sum_49) (X_go (fun _ _ => blX6_sum_54) (q5.2 z6)))))))))))))) (fun t8 z2 => (X_call (fun _ _ _ _ => blX6_sum_30_r) (K_mono (q2.2 t8 z2) (fun _ σ9 q3 => (X_if (fun _ _ => blX6_sum_33) (fun z4 => (X_go (fun _ _ => blX6_sum_53) (X_go (fun _ _ => blX6_sum_54) (q3.1 z4)))) (fun z4 => (X_call (fun _ _ _ _ => blX6_sum_40) (K_mono (q3.2 z4) (fun r10 σ10 q5 => (X_if (fun _ _ => blX6_sum_46) (fun z6 => (X_go (fun _ _ => blX6_sum_53) (X_go (fun _ _ => blX6_sum_54) (q5.1 z6)))) (fun z6 => (X_go (fun _ _ => blX6_sum_49) (X_go (fun _ _ => blX6_sum_54) (q5.2 z6)))))))))))))))))))))
set_option maxRecDepth 20000 in
theorem vX6_product {d : Nat} {σ : am_S} {Q : Option Nat → am_S → Prop}  (H :
    am_K ri am_Lx IX2_mark d [.ref 3] σ (fun r1 σ1 =>
      am_X rn am_Lx IX6_product (d + 1) 12 [some (.ref 7), some (.int r1), some (.int (1 : Int32)), some (.int (0 : Int32))] [] σ1 Q)) : am_K rn am_Lx IX6_product (d + 1) [.ref 7] σ Q := K_of am_owX6_product (Nat.le_of_ble_eq_true rfl) (X_call (fun _ _ _ _ => blX6_product_0) (K_mono H (fun r1 σ1 q0 => (X_go (fun _ _ => blX6_product_7) q0))))
set_option maxRecDepth 20000 in
theorem vX6_product_12 {d : Nat} {σ : am_S} {Q : Option Nat → am_S → Prop} {l1 : Int32} {l2 : Int32} {l3 : Int32} (H :
    (l2 = 0 →
      am_K rn am_Lx IX2_together d [.ref 3, .int (4 : Int32), .int l1] σ (fun r1 σ1 =>
        (r1 = none →
          Q none σ1) ∧
        (∀ t2, r1 = some t2 →
          Q (some t2) σ1))) ∧
    (¬ l2 = 0 →
      ((64 : Int32) ≤ l3 →
        am_K rn am_Lx IX2_together d [.ref 3, .int (4 : Int32), .int l1] σ (fun r3 σ3 =>
          (r3 = none →
            Q none σ3) ∧
          (∀ t4, r3 = some t4 →
            Q (some t4) σ3))) ∧
      (¬ (64 : Int32) ≤ l3 →
        am_K rn am_Lx IX6_atom d [.ref 7] σ (fun r5 σ5 =>
          (r5 = none →
            am_K ru am_Lx IX2_push d [.ref 3, .null] σ5 (fun _ σ6 =>
              (0 ≤ (gS σ6 7 5) →
                am_X rn am_Lx IX6_product (d + 1) 12 [some (.ref 7), some (.int l1), some (.int (0 : Int32)), some (.int (l3 + (1 : Int32)))] [] σ6 Q) ∧
              (¬ 0 ≤ (gS σ6 7 5) →
                am_K ri am_Lx IX6_took d [.ref 7, .int (42 : Int32)] σ6 (fun r7 σ7 =>
                  (r7 = 0 →
                    am_X rn am_Lx IX6_product (d + 1) 12 [some (.ref 7), some (.int l1), some (.int (0 : Int32)), some (.int (l3 + (1 : Int32)))] [] σ7 Q) ∧
                  (¬ r7 = 0 →
                    am_X rn am_Lx IX6_product (d + 1) 12 [some (.ref 7), some (.int l1), some (.int (1 : Int32)), some (.int (l3 + (1 : Int32)))] [] σ7 Q))))) ∧
          (∀ t8, r5 = some t8 →
            am_K ru am_Lx IX2_push d [.ref 3, .ref t8] σ5 (fun _ σ9 =>
              (0 ≤ (gS σ9 7 5) →
                am_X rn am_Lx IX6_product (d + 1) 12 [some (.ref 7), some (.int l1), some (.int (0 : Int32)), some (.int (l3 + (1 : Int32)))] [] σ9 Q) ∧
              (¬ 0 ≤ (gS σ9 7 5) →
                am_K ri am_Lx IX6_took d [.ref 7, .int (42 : Int32)] σ9 (fun r10 σ10 =>
                  (r10 = 0 →
                    am_X rn am_Lx IX6_product (d + 1) 12 [some (.ref 7), some (.int l1), some (.int (0 : Int32)), some (.int (l3 + (1 : Int32)))] [] σ10 Q) ∧
                  (¬ r10 = 0 →
                    am_X rn am_Lx IX6_product (d + 1) 12 [some (.ref 7), some (.int l1), some (.int (1 : Int32)), some (.int (l3 + (1 : Int32)))] [] σ10 Q))))))))) : am_X rn am_Lx IX6_product (d + 1) 12 [some (.ref 7), some (.int l1), some (.int l2), some (.int l3)] [] σ Q := (X_if (fun _ _ => blX6_product_12) (fun z0 => (X_calln (fun _ _ _ _ => blX6_product_61) (K_mono (H.1 z0) (fun r1 σ1 q1 => And.intro (fun z1 => (X_ret (fun _ _ => blX6_product_70_n) (q1.1 z1))) (fun t2 z1 => (X_ret (fun _ _ => blX6_product_70_r) (q1.2 t2 z1))))))) (fun z0 => (X_if (fun _ _ => blX6_product_16) (fun z1 => (X_calln (fun _ _ _ _ => blX6_product_61) (K_mono ((H.2 z0).1 z1) (fun r3 σ3 q2 => And.intro (fun z2 => (X_ret (fun _ _ => blX6_product_70_n) (q2.1 z2))) (fun t4 z2 => (X_ret (fun _ _ => blX6_product_70_r) (q2.2 t4 z2))))))) (fun z1 => (X_calln (fun _ _ _ _ => blX6_product_22) (K_mono ((H.2 z0).2 z1) (fun r5 σ5 q2 => And.intro (fun z2 => (X_call (fun _ _ _ _ => blX6_product_30_n) (K_mono (q2.1 z2) (fun _ σ6 q3 => (X_if (fun _ _ => blX6_product_33) (fun z4 => (X_go (fun _ _ => blX6_product_53) (X_go (fun _ _ => blX6_product_54) (q3.1 z4)))) (fun z4 => (X_call (fun _ _ _ _ => blX6_product_40) (K_mono (q3.2 z4) (fun r7 σ7 q5 => (X_if (fun _ _ => blX6_product_46) (fun z6 => (X_go (fun _ _ => blX6_product_53) (X_go (fun _ _ => blX6_product_54) (q5.1 z6)))) (fun z6 => (X_go (fun _ _ => blX6_product_49) (X_go (fun _ _ => blX6_product_54) (q5.2 z6)))))))))))))) (fun t8 z2 => (X_call (fun _ _ _ _ => blX6_product_30_r) (K_mono (q2.2 t8 z2) (fun _ σ9 q3 => (X_if (fun _ _ => blX6_product_33) (fun z4 => (X_go (fun _ _ => blX6_product_53) (X_go (fun _ _ => blX6_product_54) (q3.1 z4)))) (fun z4 => (X_call (fun _ _ _ _ => blX6_product_40) (K_mono (q3.2 z4) (fun r10 σ10 q5 => (X_if (fun _ _ => blX6_product_46) (fun z6 => (X_go (fun _ _ => blX6_product_53) (X_go (fun _ _ => blX6_product_54) (q5.1 z6)))) (fun z6 => (X_go (fun _ _ => blX6_product_49) (X_go (fun _ _ => blX6_product_54) (q5.2 z6)))))))))))))))))))))
set_option maxRecDepth 20000 in
theorem vX6_atom {d : Nat} {σ : am_S} {Q : Option Nat → am_S → Prop}  (H :
    am_K ri am_Lx IX6_next d [.ref 7] σ (fun r1 σ1 =>
      am_K ri am_Lx IJ0_indexOf_0f7a4 d [.ref (am_sb + 0), .int r1] σ1 (fun r2 σ2 =>
        am_K ri am_Lx IJ0_indexOf_0f7a4 d [.ref (am_sb + 1), .int r1] σ2 (fun r3 σ3 =>
          am_K ri am_Lx IJ0_indexOf_0f7a4 d [.ref (am_sb + 2), .int r1] σ3 (fun r4 σ4 =>
            (0 ≤ r2 →
              am_X rn am_Lx IX6_atom (d + 1) 50 [some (.ref 7), some (.int r1), some (.int r2), some (.int r3), some (.int r4), none] [] (wS σ4 7 3 ((gS σ4 7 3) + (1 : Int32))) Q) ∧
            (¬ 0 ≤ r2 →
              (0 ≤ r3 →
                am_X rn am_Lx IX6_atom (d + 1) 50 [some (.ref 7), some (.int r1), some (.int r2), some (.int r3), some (.int r4), none] [] (wS σ4 7 3 ((gS σ4 7 3) + (1 : Int32))) Q) ∧
              (¬ 0 ≤ r3 →
                (r4 < 0 →
                  am_X rn am_Lx IX6_atom (d + 1) 50 [some (.ref 7), some (.int r1), some (.int r2), some (.int r3), some (.int r4), none] [] σ4 Q) ∧
                (¬ r4 < 0 →
                  am_X rn am_Lx IX6_atom (d + 1) 50 [some (.ref 7), some (.int r1), some (.int r2), some (.int r3), some (.int r4), none] [] (wS σ4 7 3 ((gS σ4 7 3) + (1 : Int32))) Q)))))))) : am_K rn am_Lx IX6_atom (d + 1) [.ref 7] σ Q := K_of am_owX6_atom (Nat.le_of_ble_eq_true rfl) (X_call (fun _ _ _ _ => blX6_atom_0) (K_mono H (fun r1 σ1 q0 => (X_call (fun _ _ _ _ => blX6_atom_4) (K_mono q0 (fun r2 σ2 q1 => (X_call (fun _ _ _ _ => blX6_atom_11) (K_mono q1 (fun r3 σ3 q2 => (X_call (fun _ _ _ _ => blX6_atom_18) (K_mono q2 (fun r4 σ4 q3 => (X_if (fun _ _ => blX6_atom_25) (fun z4 => (X_go (fun _ _ => blX6_atom_40) (q3.1 z4))) (fun z4 => (X_if (fun _ _ => blX6_atom_31) (fun z5 => (X_go (fun _ _ => blX6_atom_40) ((q3.2 z4).1 z5))) (fun z5 => (X_if (fun _ _ => blX6_atom_35) (fun z6 => (((q3.2 z4).2 z5).1 z6)) (fun z6 => (X_go (fun _ _ => blX6_atom_40) (((q3.2 z4).2 z5).2 z6))))))))))))))))))))
set_option maxRecDepth 20000 in
theorem vX6_atom_50 {d : Nat} {σ : am_S} {Q : Option Nat → am_S → Prop} {l1 : Int32} {l2 : Int32} {l3 : Int32} {l4 : Int32} (H :
    (l2 < 0 →
      (l3 < 0 →
        ((8 : Int32) ≤ (gS σ 7 4) →
          am_K ri am_Lx IX6_next d [.ref 7] σ (fun r1 σ1 =>
            am_K rn am_Lx IX6_failed d [.ref 7] σ1 (fun r2 σ2 =>
              (r2 = none →
                Q none σ2) ∧
              (∀ t3, r2 = some t3 →
                Q (some t3) σ2)))) ∧
        (¬ (8 : Int32) ≤ (gS σ 7 4) →
          am_K ri am_Lx IX6_took d [.ref 7, .int (40 : Int32)] σ (fun r4 σ4 =>
            (¬ r4 = 0 →
              (l4 < 0 →
                am_K rn am_Lx IX6_sum d [.ref 7] (wS σ4 7 4 ((gS σ4 7 4) + (1 : Int32))) (fun r5 σ5 =>
                  (r5 = none →
                    (0 ≤ (gS σ5 7 5) →
                      am_K rn am_Lx IX6_failed d [.ref 7] σ5 (fun r6 σ6 =>
                        (r6 = none →
                          Q none σ6) ∧
                        (∀ t7, r6 = some t7 →
                          Q (some t7) σ6))) ∧
                    (¬ 0 ≤ (gS σ5 7 5) →
                      am_K ri am_Lx IX6_took d [.ref 7, .int (41 : Int32)] σ5 (fun r8 σ8 =>
                        (¬ r8 = 0 →
                          Q none (wS σ8 7 4 ((gS σ8 7 4) - (1 : Int32)))) ∧
                        (r8 = 0 →
                          am_K rn am_Lx IX6_failed d [.ref 7] σ8 (fun r9 σ9 =>
                            (r9 = none →
                              Q none σ9) ∧
                            (∀ t10, r9 = some t10 →
                              Q (some t10) σ9)))))) ∧
                  (∀ t11, r5 = some t11 →
                    (0 ≤ (gS σ5 7 5) →
                      am_K rn am_Lx IX6_failed d [.ref 7] σ5 (fun r12 σ12 =>
                        (r12 = none →
                          Q none σ12) ∧
                        (∀ t13, r12 = some t13 →
                          Q (some t13) σ12))) ∧
                    (¬ 0 ≤ (gS σ5 7 5) →
                      am_K ri am_Lx IX6_took d [.ref 7, .int (41 : Int32)] σ5 (fun r14 σ14 =>
                        (¬ r14 = 0 →
                          Q (some t11) (wS σ14 7 4 ((gS σ14 7 4) - (1 : Int32)))) ∧
                        (r14 = 0 →
                          am_K rn am_Lx IX6_failed d [.ref 7] σ14 (fun r15 σ15 =>
                            (r15 = none →
                              Q none σ15) ∧
                            (∀ t16, r15 = some t16 →
                              Q (some t16) σ15)))))))) ∧
              (¬ l4 < 0 →
                am_K rn am_Lx IX6_called d [.ref 7, .int l4] (wS σ4 7 4 ((gS σ4 7 4) + (1 : Int32))) (fun r17 σ17 =>
                  (r17 = none →
                    (0 ≤ (gS σ17 7 5) →
                      am_K rn am_Lx IX6_failed d [.ref 7] σ17 (fun r18 σ18 =>
                        (r18 = none →
                          Q none σ18) ∧
                        (∀ t19, r18 = some t19 →
                          Q (some t19) σ18))) ∧
                    (¬ 0 ≤ (gS σ17 7 5) →
                      am_K ri am_Lx IX6_took d [.ref 7, .int (41 : Int32)] σ17 (fun r20 σ20 =>
                        (¬ r20 = 0 →
                          Q none (wS σ20 7 4 ((gS σ20 7 4) - (1 : Int32)))) ∧
                        (r20 = 0 →
                          am_K rn am_Lx IX6_failed d [.ref 7] σ20 (fun r21 σ21 =>
                            (r21 = none →
                              Q none σ21) ∧
                            (∀ t22, r21 = some t22 →
                              Q (some t22) σ21)))))) ∧
                  (∀ t23, r17 = some t23 →
                    (0 ≤ (gS σ17 7 5) →
                      am_K rn am_Lx IX6_failed d [.ref 7] σ17 (fun r24 σ24 =>
                        (r24 = none →
                          Q none σ24) ∧
                        (∀ t25, r24 = some t25 →
                          Q (some t25) σ24))) ∧
                    (¬ 0 ≤ (gS σ17 7 5) →
                      am_K ri am_Lx IX6_took d [.ref 7, .int (41 : Int32)] σ17 (fun r26 σ26 =>
                        (¬ r26 = 0 →
                          Q (some t23) (wS σ26 7 4 ((gS σ26 7 4) - (1 : Int32)))) ∧
                        (r26 = 0 →
                          am_K rn am_Lx IX6_failed d [.ref 7] σ26 (fun r27 σ27 =>
                            (r27 = none →
                              Q none σ27) ∧
                            (∀ t28, r27 = some t28 →
                              Q (some t28) σ27))))))))) ∧
            (r4 = 0 →
              am_K ri am_Lx IX6_next d [.ref 7] σ4 (fun r29 σ29 =>
                am_K rn am_Lx IX6_failed d [.ref 7] σ29 (fun r30 σ30 =>
                  (r30 = none →
                    Q none σ30) ∧
                  (∀ t31, r30 = some t31 →
                    Q (some t31) σ30))))))) ∧
      (¬ l3 < 0 →
        am_K rn am_Lx IX2_constant d [.ref 3, .int l3] σ (fun r32 σ32 =>
          (r32 = none →
            Q none σ32) ∧
          (∀ t33, r32 = some t33 →
            Q (some t33) σ32)))) ∧
    (¬ l2 < 0 →
      am_K rn am_Lx IX2_variable d [.ref 3, .int l2] σ (fun r34 σ34 =>
        (r34 = none →
          Q none σ34) ∧
        (∀ t35, r34 = some t35 →
          Q (some t35) σ34)))) : am_X rn am_Lx IX6_atom (d + 1) 50 [some (.ref 7), some (.int l1), some (.int l2), some (.int l3), some (.int l4), none] [] σ Q := (X_if (fun _ _ => blX6_atom_50) (fun z0 => (X_if (fun _ _ => blX6_atom_63) (fun z1 => (X_if (fun _ _ => blX6_atom_76) (fun z2 => (X_call (fun _ _ _ _ => blX6_atom_94) (K_mono (((H.1 z0).1 z1).1 z2) (fun r1 σ1 q3 => (X_calln (fun _ _ _ _ => blX6_atom_98) (K_mono q3 (fun r2 σ2 q4 => And.intro (fun z4 => (X_ret (fun _ _ => blX6_atom_103_n) (q4.1 z4))) (fun t3 z4 => (X_ret (fun _ _ => blX6_atom_103_r) (q4.2 t3 z4)))))))))) (fun z2 => (X_call (fun _ _ _ _ => blX6_atom_85) (K_mono (((H.1 z0).1 z1).2 z2) (fun r4 σ4 q3 => (X_ifn (fun _ _ => blX6_atom_91) (fun z4 => (X_if (fun _ _ => blX6_atom_104) (fun z5 => (X_calln (fun _ _ _ _ => blX6_atom_128) (K_mono ((q3.1 z4).1 z5) (fun r5 σ5 q6 => And.intro (fun z6 => (X_if (fun _ _ => blX6_atom_132_n) (fun z7 => (X_calln (fun _ _ _ _ => blX6_atom_150_n) (K_mono ((q6.1 z6).1 z7) (fun r6 σ6 q8 => And.intro (fun z8 => (X_ret (fun _ _ => blX6_atom_154_nn) (q8.1 z8))) (fun t7 z8 => (X_ret (fun _ _ => blX6_atom_154_nr) (q8.2 t7 z8))))))) (fun z7 => (X_call (fun _ _ _ _ => blX6_atom_141_n) (K_mono ((q6.1 z6).2 z7) (fun r8 σ8 q8 => (X_ifn (fun _ _ => blX6_atom_147_n) (fun z9 => (X_ret (fun _ _ => blX6_atom_155_n) (q8.1 z9))) (fun z9 => (X_calln (fun _ _ _ _ => blX6_atom_150_n) (K_mono (q8.2 z9) (fun r9 σ9 q10 => And.intro (fun z10 => (X_ret (fun _ _ => blX6_atom_154_nn) (q10.1 z10))) (fun t10 z10 => (X_ret (fun _ _ => blX6_atom_154_nr) (q10.2 t10 z10)))))))))))))) (fun t11 z6 => (X_if (fun _ _ => blX6_atom_132_r) (fun z7 => (X_calln (fun _ _ _ _ => blX6_atom_150_r) (K_mono ((q6.2 t11 z6).1 z7) (fun r12 σ12 q8 => And.intro (fun z8 => (X_ret (fun _ _ => blX6_atom_154_rn) (q8.1 z8))) (fun t13 z8 => (X_ret (fun _ _ => blX6_atom_154_rr) (q8.2 t13 z8))))))) (fun z7 => (X_call (fun _ _ _ _ => blX6_atom_141_r) (K_mono ((q6.2 t11 z6).2 z7) (fun r14 σ14 q8 => (X_ifn (fun _ _ => blX6_atom_147_r) (fun z9 => (X_ret (fun _ _ => blX6_atom_155_r) (q8.1 z9))) (fun z9 => (X_calln (fun _ _ _ _ => blX6_atom_150_r) (K_mono (q8.2 z9) (fun r15 σ15 q10 => And.intro (fun z10 => (X_ret (fun _ _ => blX6_atom_154_rn) (q10.1 z10))) (fun t16 z10 => (X_ret (fun _ _ => blX6_atom_154_rr) (q10.2 t16 z10)))))))))))))))))) (fun z5 => (X_calln (fun _ _ _ _ => blX6_atom_119) (K_mono ((q3.1 z4).2 z5) (fun r17 σ17 q6 => And.intro (fun z6 => (X_go (fun _ _ => blX6_atom_125_n) (X_if (fun _ _ => blX6_atom_132_n) (fun z8 => (X_calln (fun _ _ _ _ => blX6_atom_150_n) (K_mono ((q6.1 z6).1 z8) (fun r18 σ18 q9 => And.intro (fun z9 => (X_ret (fun _ _ => blX6_atom_154_nn) (q9.1 z9))) (fun t19 z9 => (X_ret (fun _ _ => blX6_atom_154_nr) (q9.2 t19 z9))))))) (fun z8 => (X_call (fun _ _ _ _ => blX6_atom_141_n) (K_mono ((q6.1 z6).2 z8) (fun r20 σ20 q9 => (X_ifn (fun _ _ => blX6_atom_147_n) (fun z10 => (X_ret (fun _ _ => blX6_atom_155_n) (q9.1 z10))) (fun z10 => (X_calln (fun _ _ _ _ => blX6_atom_150_n) (K_mono (q9.2 z10) (fun r21 σ21 q11 => And.intro (fun z11 => (X_ret (fun _ _ => blX6_atom_154_nn) (q11.1 z11))) (fun t22 z11 => (X_ret (fun _ _ => blX6_atom_154_nr) (q11.2 t22 z11))))))))))))))) (fun t23 z6 => (X_go (fun _ _ => blX6_atom_125_r) (X_if (fun _ _ => blX6_atom_132_r) (fun z8 => (X_calln (fun _ _ _ _ => blX6_atom_150_r) (K_mono ((q6.2 t23 z6).1 z8) (fun r24 σ24 q9 => And.intro (fun z9 => (X_ret (fun _ _ => blX6_atom_154_rn) (q9.1 z9))) (fun t25 z9 => (X_ret (fun _ _ => blX6_atom_154_rr) (q9.2 t25 z9))))))) (fun z8 => (X_call (fun _ _ _ _ => blX6_atom_141_r) (K_mono ((q6.2 t23 z6).2 z8) (fun r26 σ26 q9 => (X_ifn (fun _ _ => blX6_atom_147_r) (fun z10 => (X_ret (fun _ _ => blX6_atom_155_r) (q9.1 z10))) (fun z10 => (X_calln (fun _ _ _ _ => blX6_atom_150_r) (K_mono (q9.2 z10) (fun r27 σ27 q11 => And.intro (fun z11 => (X_ret (fun _ _ => blX6_atom_154_rn) (q11.1 z11))) (fun t28 z11 => (X_ret (fun _ _ => blX6_atom_154_rr) (q11.2 t28 z11))))))))))))))))))))) (fun z4 => (X_call (fun _ _ _ _ => blX6_atom_94) (K_mono (q3.2 z4) (fun r29 σ29 q5 => (X_calln (fun _ _ _ _ => blX6_atom_98) (K_mono q5 (fun r30 σ30 q6 => And.intro (fun z6 => (X_ret (fun _ _ => blX6_atom_103_n) (q6.1 z6))) (fun t31 z6 => (X_ret (fun _ _ => blX6_atom_103_r) (q6.2 t31 z6))))))))))))))))) (fun z1 => (X_calln (fun _ _ _ _ => blX6_atom_67) (K_mono ((H.1 z0).2 z1) (fun r32 σ32 q2 => And.intro (fun z2 => (X_ret (fun _ _ => blX6_atom_75_n) (q2.1 z2))) (fun t33 z2 => (X_ret (fun _ _ => blX6_atom_75_r) (q2.2 t33 z2))))))))) (fun z0 => (X_calln (fun _ _ _ _ => blX6_atom_54) (K_mono (H.2 z0) (fun r34 σ34 q1 => And.intro (fun z1 => (X_ret (fun _ _ => blX6_atom_62_n) (q1.1 z1))) (fun t35 z1 => (X_ret (fun _ _ => blX6_atom_62_r) (q1.2 t35 z1))))))))
set_option maxRecDepth 20000 in
theorem vX6_called {d : Nat} {σ : am_S} {Q : Option Nat → am_S → Prop} {l1 : Int32} (H :
    am_K ri am_Lx IX2_mark d [.ref 3] σ (fun r1 σ1 =>
      am_X rn am_Lx IX6_called (d + 1) 13 [some (.ref 7), some (.int l1), some (.int r1), some (.int (1 : Int32)), some (.int (1 : Int32))] [] σ1 Q)) : am_K rn am_Lx IX6_called (d + 1) [.ref 7, .int l1] σ Q := K_of am_owX6_called (Nat.le_of_ble_eq_true rfl) (X_call (fun _ _ _ _ => blX6_called_0) (K_mono H (fun r1 σ1 q0 => (X_go (fun _ _ => blX6_called_7) q0))))
set_option maxRecDepth 20000 in
theorem vX6_called_13 {d : Nat} {σ : am_S} {Q : Option Nat → am_S → Prop} {l1 : Int32} {l2 : Int32} {l3 : Int32} {l4 : Int32} (H :
    (l3 = 0 →
      am_K rn am_Lx IX2_function d [.ref 3, .int l1, .int l2] σ (fun r1 σ1 =>
        (r1 = none →
          Q none σ1) ∧
        (∀ t2, r1 = some t2 →
          Q (some t2) σ1))) ∧
    (¬ l3 = 0 →
      ((3 : Int32) < l4 →
        am_K rn am_Lx IX2_function d [.ref 3, .int l1, .int l2] σ (fun r3 σ3 =>
          (r3 = none →
            Q none σ3) ∧
          (∀ t4, r3 = some t4 →
            Q (some t4) σ3))) ∧
      (¬ (3 : Int32) < l4 →
        am_K rn am_Lx IX6_sum d [.ref 7] σ (fun r5 σ5 =>
          (r5 = none →
            am_K ru am_Lx IX2_push d [.ref 3, .null] σ5 (fun _ σ6 =>
              (0 ≤ (gS σ6 7 5) →
                am_X rn am_Lx IX6_called (d + 1) 13 [some (.ref 7), some (.int l1), some (.int l2), some (.int (0 : Int32)), some (.int (l4 + (1 : Int32)))] [] σ6 Q) ∧
              (¬ 0 ≤ (gS σ6 7 5) →
                ((3 : Int32) ≤ l4 →
                  am_X rn am_Lx IX6_called (d + 1) 13 [some (.ref 7), some (.int l1), some (.int l2), some (.int (0 : Int32)), some (.int (l4 + (1 : Int32)))] [] σ6 Q) ∧
                (¬ (3 : Int32) ≤ l4 →
                  am_K ri am_Lx IX6_took d [.ref 7, .int (44 : Int32)] σ6 (fun r7 σ7 =>
                    (r7 = 0 →
                      am_X rn am_Lx IX6_called (d + 1) 13 [some (.ref 7), some (.int l1), some (.int l2), some (.int (0 : Int32)), some (.int (l4 + (1 : Int32)))] [] σ7 Q) ∧
                    (¬ r7 = 0 →
                      am_X rn am_Lx IX6_called (d + 1) 13 [some (.ref 7), some (.int l1), some (.int l2), some (.int (1 : Int32)), some (.int (l4 + (1 : Int32)))] [] σ7 Q)))))) ∧
          (∀ t8, r5 = some t8 →
            am_K ru am_Lx IX2_push d [.ref 3, .ref t8] σ5 (fun _ σ9 =>
              (0 ≤ (gS σ9 7 5) →
                am_X rn am_Lx IX6_called (d + 1) 13 [some (.ref 7), some (.int l1), some (.int l2), some (.int (0 : Int32)), some (.int (l4 + (1 : Int32)))] [] σ9 Q) ∧
              (¬ 0 ≤ (gS σ9 7 5) →
                ((3 : Int32) ≤ l4 →
                  am_X rn am_Lx IX6_called (d + 1) 13 [some (.ref 7), some (.int l1), some (.int l2), some (.int (0 : Int32)), some (.int (l4 + (1 : Int32)))] [] σ9 Q) ∧
                (¬ (3 : Int32) ≤ l4 →
                  am_K ri am_Lx IX6_took d [.ref 7, .int (44 : Int32)] σ9 (fun r10 σ10 =>
                    (r10 = 0 →
                      am_X rn am_Lx IX6_called (d + 1) 13 [some (.ref 7), some (.int l1), some (.int l2), some (.int (0 : Int32)), some (.int (l4 + (1 : Int32)))] [] σ10 Q) ∧
                    (¬ r10 = 0 →
                      am_X rn am_Lx IX6_called (d + 1) 13 [some (.ref 7), some (.int l1), some (.int l2), some (.int (1 : Int32)), some (.int (l4 + (1 : Int32)))] [] σ10 Q)))))))))) : am_X rn am_Lx IX6_called (d + 1) 13 [some (.ref 7), some (.int l1), some (.int l2), some (.int l3), some (.int l4)] [] σ Q := (X_if (fun _ _ => blX6_called_13) (fun z0 => (X_calln (fun _ _ _ _ => blX6_called_68) (K_mono (H.1 z0) (fun r1 σ1 q1 => And.intro (fun z1 => (X_ret (fun _ _ => blX6_called_77_n) (q1.1 z1))) (fun t2 z1 => (X_ret (fun _ _ => blX6_called_77_r) (q1.2 t2 z1))))))) (fun z0 => (X_if (fun _ _ => blX6_called_17) (fun z1 => (X_calln (fun _ _ _ _ => blX6_called_68) (K_mono ((H.2 z0).1 z1) (fun r3 σ3 q2 => And.intro (fun z2 => (X_ret (fun _ _ => blX6_called_77_n) (q2.1 z2))) (fun t4 z2 => (X_ret (fun _ _ => blX6_called_77_r) (q2.2 t4 z2))))))) (fun z1 => (X_calln (fun _ _ _ _ => blX6_called_23) (K_mono ((H.2 z0).2 z1) (fun r5 σ5 q2 => And.intro (fun z2 => (X_call (fun _ _ _ _ => blX6_called_31_n) (K_mono (q2.1 z2) (fun _ σ6 q3 => (X_if (fun _ _ => blX6_called_34) (fun z4 => (X_go (fun _ _ => blX6_called_60) (X_go (fun _ _ => blX6_called_61) (q3.1 z4)))) (fun z4 => (X_if (fun _ _ => blX6_called_41) (fun z5 => (X_go (fun _ _ => blX6_called_60) (X_go (fun _ _ => blX6_called_61) ((q3.2 z4).1 z5)))) (fun z5 => (X_call (fun _ _ _ _ => blX6_called_47) (K_mono ((q3.2 z4).2 z5) (fun r7 σ7 q6 => (X_if (fun _ _ => blX6_called_53) (fun z7 => (X_go (fun _ _ => blX6_called_60) (X_go (fun _ _ => blX6_called_61) (q6.1 z7)))) (fun z7 => (X_go (fun _ _ => blX6_called_56) (X_go (fun _ _ => blX6_called_61) (q6.2 z7)))))))))))))))) (fun t8 z2 => (X_call (fun _ _ _ _ => blX6_called_31_r) (K_mono (q2.2 t8 z2) (fun _ σ9 q3 => (X_if (fun _ _ => blX6_called_34) (fun z4 => (X_go (fun _ _ => blX6_called_60) (X_go (fun _ _ => blX6_called_61) (q3.1 z4)))) (fun z4 => (X_if (fun _ _ => blX6_called_41) (fun z5 => (X_go (fun _ _ => blX6_called_60) (X_go (fun _ _ => blX6_called_61) ((q3.2 z4).1 z5)))) (fun z5 => (X_call (fun _ _ _ _ => blX6_called_47) (K_mono ((q3.2 z4).2 z5) (fun r10 σ10 q6 => (X_if (fun _ _ => blX6_called_53) (fun z7 => (X_go (fun _ _ => blX6_called_60) (X_go (fun _ _ => blX6_called_61) (q6.1 z7)))) (fun z7 => (X_go (fun _ _ => blX6_called_56) (X_go (fun _ _ => blX6_called_61) (q6.2 z7)))))))))))))))))))))))
