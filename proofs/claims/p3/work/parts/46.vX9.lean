set_option maxRecDepth 20000 in
theorem vX9_takes {d : Nat} {σ : am_S} {Q : Int32 → am_S → Prop} {l0 : Nat} {l1 : Int32} (H :
    (am_isT am_Lx σ l0) ∧
    (((gS σ l0 4) >>> ((6 : Int32) &&& 31)) = 0 →
      (am_isT am_Lx σ l0) ∧
      ((gS σ l0 0) = l1 →
        am_X ri am_Lx IX9_takes (d + 1) 29 [some (.ref l0), some (.int l1), some (.int (1 : Int32)), some (.int (0 : Int32))] [] σ Q) ∧
      (¬ (gS σ l0 0) = l1 →
        am_K ri am_Lx IX9_isUnknown d [.ref l0] σ (fun r1 σ1 =>
          (r1 = 0 ∨ r1 = 1) ∧ Q r1 σ1))) ∧
    (¬ ((gS σ l0 4) >>> ((6 : Int32) &&& 31)) = 0 →
      Q (0 : Int32) σ)) : am_K ri am_Lx IX9_takes (d + 1) [.ref l0, .int l1] σ Q := K_of am_owX9_takes (Nat.le_of_ble_eq_true rfl) (X_if (fun _ _ => blX9_takes_0 H.1) (fun z0 => (X_if (fun _ _ => blX9_takes_12 (H.2.1 z0).1) (fun z1 => (X_go (fun _ _ => blX9_takes_25) ((H.2.1 z0).2.1 z1))) (fun z1 => (X_call (fun _ _ _ _ => blX9_takes_20) (K_mono ((H.2.1 z0).2.2 z1) (fun r1 σ1 q2 => (X_ret (fun _ _ => blX9_takes_24 q2.1) q2.2))))))) (fun z0 => (X_ret (fun _ _ => blX9_takes_10 (Or.inl rfl)) (H.2.2 z0))))
set_option maxRecDepth 20000 in
theorem vX9_takes_29 {d : Nat} {σ : am_S} {Q : Int32 → am_S → Prop} {l0 : Nat} {l1 : Int32} {l2 : Int32} {l3 : Int32} (H :
    (l2 = 0 →
      (l2 = 0 ∨ l2 = 1) ∧ Q l2 σ) ∧
    (¬ l2 = 0 →
      (am_isT am_Lx σ l0) ∧
      (gQ σ l0 = none →
        False) ∧
      (∀ t1, gQ σ l0 = some t1 →
        (am_isA am_Lx σ t1) ∧
        ((Int32.ofNat (am_rl am_Lx σ t1)) ≤ l3 →
          (l2 = 0 ∨ l2 = 1) ∧ Q l2 σ) ∧
        (¬ (Int32.ofNat (am_rl am_Lx σ t1)) ≤ l3 →
          (am_isT am_Lx σ l0) ∧
          (gQ σ l0 = none →
            False) ∧
          (∀ t2, gQ σ l0 = some t2 →
            (am_isR am_Lx σ t2) ∧
            (vp_in l3 (am_rl am_Lx σ t2)) ∧
            (gP σ t2 (l3).toNatClampNeg = none →
              am_K ri am_Lx IX9_isUnknown d [.null] σ (fun r4 σ4 =>
                am_X ri am_Lx IX9_takes (d + 1) 29 [some (.ref l0), some (.int l1), some (.int r4), some (.int (l3 + (1 : Int32)))] [] σ4 Q)) ∧
            (∀ t3, gP σ t2 (l3).toNatClampNeg = some t3 →
              am_K ri am_Lx IX9_isUnknown d [.ref t3] σ (fun r5 σ5 =>
                am_X ri am_Lx IX9_takes (d + 1) 29 [some (.ref l0), some (.int l1), some (.int r5), some (.int (l3 + (1 : Int32)))] [] σ5 Q))))))) : am_X ri am_Lx IX9_takes (d + 1) 29 [some (.ref l0), some (.int l1), some (.int l2), some (.int l3)] [] σ Q := (X_if (fun _ _ => blX9_takes_29) (fun z0 => (X_ret (fun _ _ => blX9_takes_58 (H.1 z0).1) (H.1 z0).2)) (fun z0 => (X_opt (fun _ _ => blX9_takes_33 (H.2 z0).1) (fun z1 => (False.elim ((H.2 z0).2.1 z1))) (fun t1 z1 => (X_if (fun _ _ => blX9_takes_38_r ((H.2 z0).2.2 t1 z1).1) (fun z2 => (X_ret (fun _ _ => blX9_takes_58 (((H.2 z0).2.2 t1 z1).2.1 z2).1) (((H.2 z0).2.2 t1 z1).2.1 z2).2)) (fun z2 => (X_opt (fun _ _ => blX9_takes_42 (((H.2 z0).2.2 t1 z1).2.2 z2).1) (fun z3 => (False.elim ((((H.2 z0).2.2 t1 z1).2.2 z2).2.1 z3))) (fun t2 z3 => (X_opt (fun _ _ => blX9_takes_46_r ((((H.2 z0).2.2 t1 z1).2.2 z2).2.2 t2 z3).1 ((((H.2 z0).2.2 t1 z1).2.2 z2).2.2 t2 z3).2.1) (fun z4 => (X_call (fun _ _ _ _ => blX9_takes_48_n) (K_mono (((((H.2 z0).2.2 t1 z1).2.2 z2).2.2 t2 z3).2.2.1 z4) (fun r4 σ4 q5 => (X_go (fun _ _ => blX9_takes_51) q5))))) (fun t3 z4 => (X_call (fun _ _ _ _ => blX9_takes_48_r) (K_mono (((((H.2 z0).2.2 t1 z1).2.2 z2).2.2 t2 z3).2.2.2 t3 z4) (fun r5 σ5 q5 => (X_go (fun _ _ => blX9_takes_51) q5))))))))))))))
set_option maxRecDepth 20000 in
theorem vX9_isUnknown {d : Nat} {σ : am_S} {Q : Int32 → am_S → Prop} {l0 : Nat} (H :
    (am_isT am_Lx σ l0) ∧
    ((gS σ l0 0) = 0 →
      Q (1 : Int32) σ) ∧
    (¬ (gS σ l0 0) = 0 →
      (am_isT am_Lx σ l0) ∧
      (¬ (gS σ l0 4) = 0 →
        Q (0 : Int32) σ) ∧
      ((gS σ l0 4) = 0 →
        Q (1 : Int32) σ))) : am_K ri am_Lx IX9_isUnknown (d + 1) [.ref l0] σ Q := K_of am_owX9_isUnknown (Nat.le_of_ble_eq_true rfl) (X_if (fun _ _ => blX9_isUnknown_0 H.1) (fun z0 => (X_go (fun _ _ => blX9_isUnknown_14) (X_ret (fun _ _ => blX9_isUnknown_19 (Or.inr rfl)) (H.2.1 z0)))) (fun z0 => (X_ifn (fun _ _ => blX9_isUnknown_7 (H.2.2 z0).1) (fun z1 => (X_go (fun _ _ => blX9_isUnknown_18) (X_ret (fun _ _ => blX9_isUnknown_19 (Or.inl rfl)) ((H.2.2 z0).2.1 z1)))) (fun z1 => (X_go (fun _ _ => blX9_isUnknown_14) (X_ret (fun _ _ => blX9_isUnknown_19 (Or.inr rfl)) ((H.2.2 z0).2.2 z1)))))))
set_option maxRecDepth 20000 in
theorem vX9_found {d : Nat} {σ : am_S} {Q : Int32 → am_S → Prop} {l1 : Nat} {l2 : Nat} {l3 : Int32} (H :
    am_K ru am_Lx IX9_tally d [.ref 35, .ref l1, .int (1 : Int32)] (wS (wS (wS σ 35 6 l3) 35 10 (0 : Int32)) 35 7 (0 : Int32)) (fun _ σ1 =>
      am_K ru am_Lx IX9_tally d [.ref 35, .ref l2, .int (-1 : Int32)] σ1 (fun _ σ2 =>
        am_K ru am_Lx IX9_dropEqual d [.ref 35] σ2 (fun _ σ3 =>
          am_K ru am_Lx IX0_begin d [.ref 36, .int (1 : Int32), .int (gS σ3 35 7)] σ3 (fun _ σ4 =>
            am_X ri am_Lx IX9_found (d + 1) 52 [some (.ref 35), some (.ref l1), some (.ref l2), some (.int l3), some (.int (0 : Int32)), some (.int (0 : Int32)), some (.int (0 : Int32))] [] σ4 Q))))) : am_K ri am_Lx IX9_found (d + 1) [.ref 35, .ref l1, .ref l2, .int l3] σ Q := K_of am_owX9_found (Nat.le_of_ble_eq_true rfl) (X_call (fun _ _ _ _ => blX9_found_0) (K_mono H (fun _ σ1 q0 => (X_call (fun _ _ _ _ => blX9_found_21) (K_mono q0 (fun _ σ2 q1 => (X_call (fun _ _ _ _ => blX9_found_27) (K_mono q1 (fun _ σ3 q2 => (X_call (fun _ _ _ _ => blX9_found_31) (K_mono q2 (fun _ σ4 q3 => (X_go (fun _ _ => blX9_found_43) q3)))))))))))))
set_option maxRecDepth 20000 in
theorem vX9_found_52 {d : Nat} {σ : am_S} {Q : Int32 → am_S → Prop} {l1 : Nat} {l2 : Nat} {l3 : Int32} {l4 : Int32} {l5 : Int32} {l6 : Int32} (H :
    ((gS σ 35 7) ≤ l6 →
      am_K ri am_Lx IX0_found d [.ref 36, .int (l4 - l5)] σ (fun r1 σ1 =>
        (¬ r1 = (-4 : Int32) →
          am_K ru am_Lx IX9_sortBases d [.ref 35] σ1 (fun _ σ2 =>
            am_K ri am_Lx IX9_goodSets d [.ref 35, .int (gS σ2 36 11), .int (0 : Int32)] σ2 (fun r3 σ3 =>
              Q r3 (wS σ3 35 10 r3)))) ∧
        (r1 = (-4 : Int32) →
          Q (-4 : Int32) σ1))) ∧
    (¬ (gS σ 35 7) ≤ l6 →
      (vp_in l6 16) ∧
      am_K ri am_Lx IX0_changed d [.ref 36, .int (0 : Int32), .int l6, .int (gA σ 44 (l6).toNatClampNeg)] σ (fun r4 σ4 =>
        (vp_in l6 16) ∧
        (vp_in l6 16) ∧
        am_X ri am_Lx IX9_found (d + 1) 52 [some (.ref 35), some (.ref l1), some (.ref l2), some (.int l3), some (.int (if l4 < (gA σ4 44 (l6).toNatClampNeg) then (gA σ4 44 (l6).toNatClampNeg) else l4)), some (.int (if (gA σ4 44 (l6).toNatClampNeg) < l5 then (gA σ4 44 (l6).toNatClampNeg) else l5)), some (.int (l6 + (1 : Int32)))] [] σ4 Q))) : am_X ri am_Lx IX9_found (d + 1) 52 [some (.ref 35), some (.ref l1), some (.ref l2), some (.int l3), some (.int l4), some (.int l5), some (.int l6)] [] σ Q := (X_if (fun _ _ => blX9_found_52) (fun z0 => (X_call (fun _ _ _ _ => blX9_found_113) (K_mono (H.1 z0) (fun r1 σ1 q1 => (X_ifn (fun _ _ => blX9_found_125) (fun z2 => (X_call (fun _ _ _ _ => blX9_found_133) (K_mono (q1.1 z2) (fun _ σ2 q3 => (X_call (fun _ _ _ _ => blX9_found_137) (K_mono q3 (fun r3 σ3 q4 => (X_ret (fun _ _ => blX9_found_150) q4)))))))) (fun z2 => (X_ret (fun _ _ => blX9_found_130) (q1.2 z2)))))))) (fun z0 => (X_call (fun _ _ _ _ => blX9_found_61 (H.2 z0).1) (K_mono (H.2 z0).2 (fun r4 σ4 q1 => (X_go (fun _ _ => blX9_found_78 q1.1 q1.2.1) q1.2.2))))))
set_option maxRecDepth 20000 in
theorem vX9_tally {d : Nat} {σ : am_S} {Q : Unit → am_S → Prop} {l1 : Nat} {l2 : Int32} (H :
    (am_isT am_Lx σ l1) ∧
    ((gS σ l1 0) = (gS σ 35 6) →
      am_X ru am_Lx IX9_tally (d + 1) 20 [some (.ref 35), some (.ref l1), some (.int l2), some (.int (0 : Int32))] [] σ Q) ∧
    (¬ (gS σ l1 0) = (gS σ 35 6) →
      am_K ru am_Lx IX9_tallyPart d [.ref 35, .ref l1, .int l2] σ (fun _ σ1 =>
        Q () σ1))) : am_K ru am_Lx IX9_tally (d + 1) [.ref 35, .ref l1, .int l2] σ Q := K_of am_owX9_tally (Nat.le_of_ble_eq_true rfl) (X_if (fun _ _ => blX9_tally_0 H.1) (fun z0 => (X_go (fun _ _ => blX9_tally_18) (H.2.1 z0))) (fun z0 => (X_call (fun _ _ _ _ => blX9_tally_11) (K_mono (H.2.2 z0) (fun _ σ1 q1 => (X_ret (fun _ _ => blX9_tally_17) q1))))))
set_option maxRecDepth 20000 in
theorem vX9_tally_20 {d : Nat} {σ : am_S} {Q : Unit → am_S → Prop} {l1 : Nat} {l2 : Int32} {l3 : Int32} (H :
    (am_isT am_Lx σ l1) ∧
    (gQ σ l1 = none →
      False) ∧
    (∀ t1, gQ σ l1 = some t1 →
      (am_isA am_Lx σ t1) ∧
      ((Int32.ofNat (am_rl am_Lx σ t1)) ≤ l3 →
        Q () σ) ∧
      (¬ (Int32.ofNat (am_rl am_Lx σ t1)) ≤ l3 →
        (am_isT am_Lx σ l1) ∧
        (gQ σ l1 = none →
          False) ∧
        (∀ t2, gQ σ l1 = some t2 →
          (am_isR am_Lx σ t2) ∧
          (vp_in l3 (am_rl am_Lx σ t2)) ∧
          (gP σ t2 (l3).toNatClampNeg = none →
            am_K ru am_Lx IX9_tallyPart d [.ref 35, .null, .int l2] σ (fun _ σ4 =>
              am_X ru am_Lx IX9_tally (d + 1) 20 [some (.ref 35), some (.ref l1), some (.int l2), some (.int (l3 + (1 : Int32)))] [] σ4 Q)) ∧
          (∀ t3, gP σ t2 (l3).toNatClampNeg = some t3 →
            am_K ru am_Lx IX9_tallyPart d [.ref 35, .ref t3, .int l2] σ (fun _ σ5 =>
              am_X ru am_Lx IX9_tally (d + 1) 20 [some (.ref 35), some (.ref l1), some (.int l2), some (.int (l3 + (1 : Int32)))] [] σ5 Q)))))) : am_X ru am_Lx IX9_tally (d + 1) 20 [some (.ref 35), some (.ref l1), some (.int l2), some (.int l3)] [] σ Q := (X_opt (fun _ _ => blX9_tally_20 H.1) (fun z0 => (False.elim (H.2.1 z0))) (fun t1 z0 => (X_if (fun _ _ => blX9_tally_25_r (H.2.2 t1 z0).1) (fun z1 => (X_ret (fun _ _ => blX9_tally_46) ((H.2.2 t1 z0).2.1 z1))) (fun z1 => (X_opt (fun _ _ => blX9_tally_29 ((H.2.2 t1 z0).2.2 z1).1) (fun z2 => (False.elim (((H.2.2 t1 z0).2.2 z1).2.1 z2))) (fun t2 z2 => (X_opt (fun _ _ => blX9_tally_34_r (((H.2.2 t1 z0).2.2 z1).2.2 t2 z2).1 (((H.2.2 t1 z0).2.2 z1).2.2 t2 z2).2.1) (fun z3 => (X_call (fun _ _ _ _ => blX9_tally_36_n) (K_mono ((((H.2.2 t1 z0).2.2 z1).2.2 t2 z2).2.2.1 z3) (fun _ σ4 q4 => (X_go (fun _ _ => blX9_tally_40) q4))))) (fun t3 z3 => (X_call (fun _ _ _ _ => blX9_tally_36_r) (K_mono ((((H.2.2 t1 z0).2.2 z1).2.2 t2 z2).2.2.2 t3 z3) (fun _ σ5 q4 => (X_go (fun _ _ => blX9_tally_40) q4))))))))))))
set_option maxRecDepth 20000 in
theorem vX9_tallyPart {d : Nat} {σ : am_S} {Q : Unit → am_S → Prop} {l1 : Nat} {l2 : Int32} (H :
    am_X ru am_Lx IX9_tallyPart (d + 1) 2 [some (.ref 35), some (.ref l1), some (.int l2), some (.int (0 : Int32)), none] [] σ Q) : am_K ru am_Lx IX9_tallyPart (d + 1) [.ref 35, .ref l1, .int l2] σ Q := K_of am_owX9_tallyPart (Nat.le_of_ble_eq_true rfl) (X_go (fun _ _ => blX9_tallyPart_0) H)
set_option maxRecDepth 20000 in
theorem vX9_tallyPart_2 {d : Nat} {σ : am_S} {Q : Unit → am_S → Prop} {l1 : Nat} {l2 : Int32} {l3 : Int32} (H :
    ((gS σ 35 7) ≤ l3 →
      am_X ru am_Lx IX9_tallyPart (d + 1) 30 [some (.ref 35), some (.ref l1), some (.int l2), some (.int l3), none] [] σ Q) ∧
    (¬ (gS σ 35 7) ≤ l3 →
      (vp_in l3 16) ∧
      (gP σ 43 (l3).toNatClampNeg = none →
        am_K ri am_Lx IX8_compare d [.null, .ref l1, .int (0 : Int32)] σ (fun r2 σ2 =>
          (0 ≤ r2 →
            am_X ru am_Lx IX9_tallyPart (d + 1) 30 [some (.ref 35), some (.ref l1), some (.int l2), some (.int l3), none] [] σ2 Q) ∧
          (¬ 0 ≤ r2 →
            am_X ru am_Lx IX9_tallyPart (d + 1) 2 [some (.ref 35), some (.ref l1), some (.int l2), some (.int (l3 + (1 : Int32))), none] [] σ2 Q))) ∧
      (∀ t1, gP σ 43 (l3).toNatClampNeg = some t1 →
        am_K ri am_Lx IX8_compare d [.ref t1, .ref l1, .int (0 : Int32)] σ (fun r3 σ3 =>
          (0 ≤ r3 →
            am_X ru am_Lx IX9_tallyPart (d + 1) 30 [some (.ref 35), some (.ref l1), some (.int l2), some (.int l3), none] [] σ3 Q) ∧
          (¬ 0 ≤ r3 →
            am_X ru am_Lx IX9_tallyPart (d + 1) 2 [some (.ref 35), some (.ref l1), some (.int l2), some (.int (l3 + (1 : Int32))), none] [] σ3 Q))))) : am_X ru am_Lx IX9_tallyPart (d + 1) 2 [some (.ref 35), some (.ref l1), some (.int l2), some (.int l3), none] [] σ Q := (X_if (fun _ _ => blX9_tallyPart_2) (fun z0 => (H.1 z0)) (fun z0 => (X_opt (fun _ _ => blX9_tallyPart_10 (H.2 z0).1) (fun z1 => (X_call (fun _ _ _ _ => blX9_tallyPart_16_n) (K_mono ((H.2 z0).2.1 z1) (fun r2 σ2 q2 => (X_if (fun _ _ => blX9_tallyPart_21) (fun z3 => (q2.1 z3)) (fun z3 => (X_go (fun _ _ => blX9_tallyPart_24) (q2.2 z3)))))))) (fun t1 z1 => (X_call (fun _ _ _ _ => blX9_tallyPart_16_r) (K_mono ((H.2 z0).2.2 t1 z1) (fun r3 σ3 q2 => (X_if (fun _ _ => blX9_tallyPart_21) (fun z3 => (q2.1 z3)) (fun z3 => (X_go (fun _ _ => blX9_tallyPart_24) (q2.2 z3)))))))))))
set_option maxRecDepth 20000 in
theorem vX9_tallyPart_30 {d : Nat} {σ : am_S} {Q : Unit → am_S → Prop} {l1 : Nat} {l2 : Int32} {l3 : Int32} (H :
    ((gS σ 35 7) ≤ l3 →
      ((gS σ 35 7) < (16 : Int32) →
        am_X ru am_Lx IX9_tallyPart (d + 1) 79 [some (.ref 35), some (.ref l1), some (.int l2), some (.int l3), some (.int (gS σ 35 7))] [] σ Q) ∧
      (¬ (gS σ 35 7) < (16 : Int32) →
        Q () σ)) ∧
    (¬ (gS σ 35 7) ≤ l3 →
      (vp_in l3 16) ∧
      (gP σ 43 (l3).toNatClampNeg = none →
        am_K ri am_Lx IX8_compare d [.null, .ref l1, .int (0 : Int32)] σ (fun r2 σ2 =>
          (¬ r2 = 0 →
            ((gS σ2 35 7) < (16 : Int32) →
              am_X ru am_Lx IX9_tallyPart (d + 1) 79 [some (.ref 35), some (.ref l1), some (.int l2), some (.int l3), some (.int (gS σ2 35 7))] [] σ2 Q) ∧
            (¬ (gS σ2 35 7) < (16 : Int32) →
              Q () σ2)) ∧
          (r2 = 0 →
            (vp_in l3 16) ∧
            (vp_in l3 16) ∧
            Q () (wA σ2 44 (l3).toNatClampNeg ((gA σ2 44 (l3).toNatClampNeg) + l2))))) ∧
      (∀ t1, gP σ 43 (l3).toNatClampNeg = some t1 →
        am_K ri am_Lx IX8_compare d [.ref t1, .ref l1, .int (0 : Int32)] σ (fun r3 σ3 =>
          (¬ r3 = 0 →
            ((gS σ3 35 7) < (16 : Int32) →
              am_X ru am_Lx IX9_tallyPart (d + 1) 79 [some (.ref 35), some (.ref l1), some (.int l2), some (.int l3), some (.int (gS σ3 35 7))] [] σ3 Q) ∧
            (¬ (gS σ3 35 7) < (16 : Int32) →
              Q () σ3)) ∧
          (r3 = 0 →
            (vp_in l3 16) ∧
            (vp_in l3 16) ∧
            Q () (wA σ3 44 (l3).toNatClampNeg ((gA σ3 44 (l3).toNatClampNeg) + l2))))))) : am_X ru am_Lx IX9_tallyPart (d + 1) 30 [some (.ref 35), some (.ref l1), some (.int l2), some (.int l3), none] [] σ Q := (X_if (fun _ _ => blX9_tallyPart_30) (fun z0 => (X_if (fun _ _ => blX9_tallyPart_63) (fun z1 => (X_go (fun _ _ => blX9_tallyPart_73) ((H.1 z0).1 z1))) (fun z1 => (X_ret (fun _ _ => blX9_tallyPart_72) ((H.1 z0).2 z1))))) (fun z0 => (X_opt (fun _ _ => blX9_tallyPart_38 (H.2 z0).1) (fun z1 => (X_call (fun _ _ _ _ => blX9_tallyPart_44_n) (K_mono ((H.2 z0).2.1 z1) (fun r2 σ2 q2 => (X_ifn (fun _ _ => blX9_tallyPart_49) (fun z3 => (X_if (fun _ _ => blX9_tallyPart_63) (fun z4 => (X_go (fun _ _ => blX9_tallyPart_73) ((q2.1 z3).1 z4))) (fun z4 => (X_ret (fun _ _ => blX9_tallyPart_72) ((q2.1 z3).2 z4))))) (fun z3 => (X_ret (fun _ _ => blX9_tallyPart_52 (q2.2 z3).1 (q2.2 z3).2.1) (q2.2 z3).2.2))))))) (fun t1 z1 => (X_call (fun _ _ _ _ => blX9_tallyPart_44_r) (K_mono ((H.2 z0).2.2 t1 z1) (fun r3 σ3 q2 => (X_ifn (fun _ _ => blX9_tallyPart_49) (fun z3 => (X_if (fun _ _ => blX9_tallyPart_63) (fun z4 => (X_go (fun _ _ => blX9_tallyPart_73) ((q2.1 z3).1 z4))) (fun z4 => (X_ret (fun _ _ => blX9_tallyPart_72) ((q2.1 z3).2 z4))))) (fun z3 => (X_ret (fun _ _ => blX9_tallyPart_52 (q2.2 z3).1 (q2.2 z3).2.1) (q2.2 z3).2.2))))))))))
set_option maxRecDepth 20000 in
theorem vX9_tallyPart_79 {d : Nat} {σ : am_S} {Q : Unit → am_S → Prop} {l1 : Nat} {l2 : Int32} {l3 : Int32} {l4 : Int32} (H :
    (l4 ≤ l3 →
      (vp_in l3 16) ∧
      (am_isT am_Lx σ l1) ∧
      (vp_in l3 16) ∧
      Q () (wS (wA (wP σ 43 (l3).toNatClampNeg (some l1)) 44 (l3).toNatClampNeg l2) 35 7 ((gS σ 35 7) + (1 : Int32)))) ∧
    (¬ l4 ≤ l3 →
      (vp_in (l4 - (1 : Int32)) 16) ∧
      (gP σ 43 ((l4 - (1 : Int32))).toNatClampNeg = none →
        (vp_in l4 16) ∧
        (vp_in (l4 - (1 : Int32)) 16) ∧
        (vp_in l4 16) ∧
        am_X ru am_Lx IX9_tallyPart (d + 1) 79 [some (.ref 35), some (.ref l1), some (.int l2), some (.int l3), some (.int (l4 + (-1 : Int32)))] [] (wA (wP σ 43 (l4).toNatClampNeg none) 44 (l4).toNatClampNeg (gA σ 44 ((l4 - (1 : Int32))).toNatClampNeg)) Q) ∧
      (∀ t1, gP σ 43 ((l4 - (1 : Int32))).toNatClampNeg = some t1 →
        (vp_in l4 16) ∧
        (am_isT am_Lx σ t1) ∧
        (vp_in (l4 - (1 : Int32)) 16) ∧
        (vp_in l4 16) ∧
        am_X ru am_Lx IX9_tallyPart (d + 1) 79 [some (.ref 35), some (.ref l1), some (.int l2), some (.int l3), some (.int (l4 + (-1 : Int32)))] [] (wA (wP σ 43 (l4).toNatClampNeg (some t1)) 44 (l4).toNatClampNeg (gA σ 44 ((l4 - (1 : Int32))).toNatClampNeg)) Q))) : am_X ru am_Lx IX9_tallyPart (d + 1) 79 [some (.ref 35), some (.ref l1), some (.int l2), some (.int l3), some (.int l4)] [] σ Q := (X_if (fun _ _ => blX9_tallyPart_79) (fun z0 => (X_ret (fun _ _ => blX9_tallyPart_123 (H.1 z0).1 (H.1 z0).2.1 (H.1 z0).2.2.1) (H.1 z0).2.2.2)) (fun z0 => (X_opt (fun _ _ => blX9_tallyPart_85 (H.2 z0).1) (fun z1 => (X_go (fun _ _ => blX9_tallyPart_100_n ((H.2 z0).2.1 z1).1 ((H.2 z0).2.1 z1).2.1 ((H.2 z0).2.1 z1).2.2.1) ((H.2 z0).2.1 z1).2.2.2)) (fun t1 z1 => (X_go (fun _ _ => blX9_tallyPart_100_r ((H.2 z0).2.2 t1 z1).1 ((H.2 z0).2.2 t1 z1).2.1 ((H.2 z0).2.2 t1 z1).2.2.1 ((H.2 z0).2.2 t1 z1).2.2.2.1) ((H.2 z0).2.2 t1 z1).2.2.2.2)))))
set_option maxRecDepth 20000 in
theorem vX9_dropEqual {d : Nat} {σ : am_S} {Q : Unit → am_S → Prop}  (H :
    am_X ru am_Lx IX9_dropEqual (d + 1) 9 [some (.ref 35), some (.int (0 : Int32)), some (.int (0 : Int32))] [] (wS σ 35 8 (0 : Int32)) Q) : am_K ru am_Lx IX9_dropEqual (d + 1) [.ref 35] σ Q := K_of am_owX9_dropEqual (Nat.le_of_ble_eq_true rfl) (X_go (fun _ _ => blX9_dropEqual_0) H)
set_option maxRecDepth 20000 in
theorem vX9_dropEqual_9 {d : Nat} {σ : am_S} {Q : Unit → am_S → Prop} {l1 : Int32} {l2 : Int32} (H :
    ((gS σ 35 7) ≤ l2 →
      Q () (wS σ 35 7 l1)) ∧
    (¬ (gS σ 35 7) ≤ l2 →
      (vp_in l2 16) ∧
      ((gA σ 44 (l2).toNatClampNeg) = 0 →
        am_X ru am_Lx IX9_dropEqual (d + 1) 9 [some (.ref 35), some (.int l1), some (.int (l2 + (1 : Int32)))] [] σ Q) ∧
      (¬ (gA σ 44 (l2).toNatClampNeg) = 0 →
        (vp_in l2 16) ∧
        (gP σ 43 (l2).toNatClampNeg = none →
          (vp_in l1 16) ∧
          (vp_in l2 16) ∧
          (vp_in l1 16) ∧
          (vp_in l2 16) ∧
          (gP (wP σ 43 (l1).toNatClampNeg none) 43 (l2).toNatClampNeg = none →
            False) ∧
          (∀ t2, gP (wP σ 43 (l1).toNatClampNeg none) 43 (l2).toNatClampNeg = some t2 →
            (am_isT am_Lx (wA (wP σ 43 (l1).toNatClampNeg none) 44 (l1).toNatClampNeg (gA σ 44 (l2).toNatClampNeg)) t2) ∧
            (¬ (gS σ t2 0) = 0 →
              am_X ru am_Lx IX9_dropEqual (d + 1) 9 [some (.ref 35), some (.int (l1 + (1 : Int32))), some (.int (l2 + (1 : Int32)))] [] (wS (wA (wP σ 43 (l1).toNatClampNeg none) 44 (l1).toNatClampNeg (gA σ 44 (l2).toNatClampNeg)) 35 8 ((gS σ 35 8) + (0 : Int32))) Q) ∧
            ((gS σ t2 0) = 0 →
              am_X ru am_Lx IX9_dropEqual (d + 1) 9 [some (.ref 35), some (.int (l1 + (1 : Int32))), some (.int (l2 + (1 : Int32)))] [] (wS (wA (wP σ 43 (l1).toNatClampNeg none) 44 (l1).toNatClampNeg (gA σ 44 (l2).toNatClampNeg)) 35 8 ((gS σ 35 8) + (1 : Int32))) Q))) ∧
        (∀ t1, gP σ 43 (l2).toNatClampNeg = some t1 →
          (vp_in l1 16) ∧
          (am_isT am_Lx σ t1) ∧
          (vp_in l2 16) ∧
          (vp_in l1 16) ∧
          (vp_in l2 16) ∧
          (gP (wP σ 43 (l1).toNatClampNeg (some t1)) 43 (l2).toNatClampNeg = none →
            False) ∧
          (∀ t3, gP (wP σ 43 (l1).toNatClampNeg (some t1)) 43 (l2).toNatClampNeg = some t3 →
            (am_isT am_Lx (wA (wP σ 43 (l1).toNatClampNeg (some t1)) 44 (l1).toNatClampNeg (gA σ 44 (l2).toNatClampNeg)) t3) ∧
            (¬ (gS σ t3 0) = 0 →
              am_X ru am_Lx IX9_dropEqual (d + 1) 9 [some (.ref 35), some (.int (l1 + (1 : Int32))), some (.int (l2 + (1 : Int32)))] [] (wS (wA (wP σ 43 (l1).toNatClampNeg (some t1)) 44 (l1).toNatClampNeg (gA σ 44 (l2).toNatClampNeg)) 35 8 ((gS σ 35 8) + (0 : Int32))) Q) ∧
            ((gS σ t3 0) = 0 →
              am_X ru am_Lx IX9_dropEqual (d + 1) 9 [some (.ref 35), some (.int (l1 + (1 : Int32))), some (.int (l2 + (1 : Int32)))] [] (wS (wA (wP σ 43 (l1).toNatClampNeg (some t1)) 44 (l1).toNatClampNeg (gA σ 44 (l2).toNatClampNeg)) 35 8 ((gS σ 35 8) + (1 : Int32))) Q)))))) : am_X ru am_Lx IX9_dropEqual (d + 1) 9 [some (.ref 35), some (.int l1), some (.int l2)] [] σ Q := (X_if (fun _ _ => blX9_dropEqual_9) (fun z0 => (X_ret (fun _ _ => blX9_dropEqual_85) (H.1 z0))) (fun z0 => (X_if (fun _ _ => blX9_dropEqual_17 (H.2 z0).1) (fun z1 => (X_go (fun _ _ => blX9_dropEqual_79) ((H.2 z0).2.1 z1))) (fun z1 => (X_opt (fun _ _ => blX9_dropEqual_26 ((H.2 z0).2.2 z1).1) (fun z2 => (X_opt (fun _ _ => blX9_dropEqual_37_n (((H.2 z0).2.2 z1).2.1 z2).1 (((H.2 z0).2.2 z1).2.1 z2).2.1 (((H.2 z0).2.2 z1).2.1 z2).2.2.1 (((H.2 z0).2.2 z1).2.1 z2).2.2.2.1) (fun z3 => (False.elim ((((H.2 z0).2.2 z1).2.1 z2).2.2.2.2.1 z3))) (fun t2 z3 => (X_ifn (fun _ _ => blX9_dropEqual_64_r ((((H.2 z0).2.2 z1).2.1 z2).2.2.2.2.2 t2 z3).1) (fun z4 => (X_go (fun _ _ => blX9_dropEqual_74) (X_go (fun _ _ => blX9_dropEqual_75) (X_go (fun _ _ => blX9_dropEqual_79) (((((H.2 z0).2.2 z1).2.1 z2).2.2.2.2.2 t2 z3).2.1 z4))))) (fun z4 => (X_go (fun _ _ => blX9_dropEqual_70) (X_go (fun _ _ => blX9_dropEqual_75) (X_go (fun _ _ => blX9_dropEqual_79) (((((H.2 z0).2.2 z1).2.1 z2).2.2.2.2.2 t2 z3).2.2 z4))))))))) (fun t1 z2 => (X_opt (fun _ _ => blX9_dropEqual_37_r (((H.2 z0).2.2 z1).2.2 t1 z2).1 (((H.2 z0).2.2 z1).2.2 t1 z2).2.1 (((H.2 z0).2.2 z1).2.2 t1 z2).2.2.1 (((H.2 z0).2.2 z1).2.2 t1 z2).2.2.2.1 (((H.2 z0).2.2 z1).2.2 t1 z2).2.2.2.2.1) (fun z3 => (False.elim ((((H.2 z0).2.2 z1).2.2 t1 z2).2.2.2.2.2.1 z3))) (fun t3 z3 => (X_ifn (fun _ _ => blX9_dropEqual_64_r ((((H.2 z0).2.2 z1).2.2 t1 z2).2.2.2.2.2.2 t3 z3).1) (fun z4 => (X_go (fun _ _ => blX9_dropEqual_74) (X_go (fun _ _ => blX9_dropEqual_75) (X_go (fun _ _ => blX9_dropEqual_79) (((((H.2 z0).2.2 z1).2.2 t1 z2).2.2.2.2.2.2 t3 z3).2.1 z4))))) (fun z4 => (X_go (fun _ _ => blX9_dropEqual_70) (X_go (fun _ _ => blX9_dropEqual_75) (X_go (fun _ _ => blX9_dropEqual_79) (((((H.2 z0).2.2 z1).2.2 t1 z2).2.2.2.2.2.2 t3 z3).2.2 z4))))))))))))))
set_option maxRecDepth 20000 in
theorem vX9_sortBases {d : Nat} {σ : am_S} {Q : Unit → am_S → Prop}  (H :
    am_X ru am_Lx IX9_sortBases (d + 1) 7 [some (.ref 35), some (.int (0 : Int32)), none, none] [] (wS σ 35 9 (0 : Int32)) Q) : am_K ru am_Lx IX9_sortBases (d + 1) [.ref 35] σ Q := K_of am_owX9_sortBases (Nat.le_of_ble_eq_true rfl) (X_go (fun _ _ => blX9_sortBases_0) H)
set_option maxRecDepth 20000 in
theorem vX9_sortBases_7 {d : Nat} {σ : am_S} {Q : Unit → am_S → Prop} {l1 : Int32} (H :
    ((gS σ 36 11) ≤ l1 →
      Q () σ) ∧
    (¬ (gS σ 36 11) ≤ l1 →
      (vp_in l1 16) ∧
      (vp_in l1 16) ∧
      am_X ru am_Lx IX9_sortBases (d + 1) 34 [some (.ref 35), some (.int l1), some (.int (0 : Int32)), none] [] (wA (wA σ 45 (l1).toNatClampNeg (0 : Int32)) 46 (l1).toNatClampNeg (-1 : Int32)) Q)) : am_X ru am_Lx IX9_sortBases (d + 1) 7 [some (.ref 35), some (.int l1), none, none] [] σ Q := (X_if (fun _ _ => blX9_sortBases_7) (fun z0 => (X_ret (fun _ _ => blX9_sortBases_151) (H.1 z0))) (fun z0 => (X_go (fun _ _ => blX9_sortBases_18 (H.2 z0).1 (H.2 z0).2.1) (H.2 z0).2.2)))
set_option maxRecDepth 20000 in
theorem vX9_sortBases_34 {d : Nat} {σ : am_S} {Q : Unit → am_S → Prop} {l1 : Int32} {l2 : Int32} (H :
    ((gS σ 35 7) ≤ l2 →
      (vp_in l1 16) ∧
      (¬ (gA σ 46 (l1).toNatClampNeg) = (-2 : Int32) →
        am_X ru am_Lx IX9_sortBases (d + 1) 7 [some (.ref 35), some (.int (l1 + (1 : Int32))), none, none] [] (wS σ 35 9 ((gS σ 35 9) + (1 : Int32))) Q) ∧
      ((gA σ 46 (l1).toNatClampNeg) = (-2 : Int32) →
        am_X ru am_Lx IX9_sortBases (d + 1) 7 [some (.ref 35), some (.int (l1 + (1 : Int32))), none, none] [] (wS σ 35 9 ((gS σ 35 9) + (0 : Int32))) Q)) ∧
    (¬ (gS σ 35 7) ≤ l2 →
      am_K ri am_Lx IX0_given d [.ref 36, .int l1, .int l2] σ (fun r1 σ1 =>
        ((gS σ1 35 8) ≤ l2 →
          (r1 ≤ 0 →
            am_X ru am_Lx IX9_sortBases (d + 1) 34 [some (.ref 35), some (.int l1), some (.int (l2 + (1 : Int32))), none] [] σ1 Q) ∧
          (¬ r1 ≤ 0 →
            (¬ r1 = (1 : Int32) →
              (vp_in l1 16) ∧
              am_X ru am_Lx IX9_sortBases (d + 1) 34 [some (.ref 35), some (.int l1), some (.int (l2 + (1 : Int32))), none] [] (wA σ1 46 (l1).toNatClampNeg (-2 : Int32)) Q) ∧
            (r1 = (1 : Int32) →
              (vp_in l1 16) ∧
              (¬ (gA σ1 46 (l1).toNatClampNeg) = (-1 : Int32) →
                (vp_in l1 16) ∧
                am_X ru am_Lx IX9_sortBases (d + 1) 34 [some (.ref 35), some (.int l1), some (.int (l2 + (1 : Int32))), none] [] (wA σ1 46 (l1).toNatClampNeg (-2 : Int32)) Q) ∧
              ((gA σ1 46 (l1).toNatClampNeg) = (-1 : Int32) →
                (vp_in l1 16) ∧
                am_X ru am_Lx IX9_sortBases (d + 1) 34 [some (.ref 35), some (.int l1), some (.int (l2 + (1 : Int32))), none] [] (wA σ1 46 (l1).toNatClampNeg l2) Q)))) ∧
        (¬ (gS σ1 35 8) ≤ l2 →
          (vp_in l1 16) ∧
          (r1 ≤ 0 →
            (vp_in l1 16) ∧
            am_X ru am_Lx IX9_sortBases (d + 1) 34 [some (.ref 35), some (.int l1), some (.int (l2 + (1 : Int32))), none] [] (wA σ1 45 (l1).toNatClampNeg ((gA σ1 45 (l1).toNatClampNeg) ||| (0 : Int32))) Q) ∧
          (¬ r1 ≤ 0 →
            (vp_in l1 16) ∧
            am_X ru am_Lx IX9_sortBases (d + 1) 34 [some (.ref 35), some (.int l1), some (.int (l2 + (1 : Int32))), none] [] (wA σ1 45 (l1).toNatClampNeg ((gA σ1 45 (l1).toNatClampNeg) ||| ((1 : Int32) <<< (l2 &&& 31)))) Q))))) : am_X ru am_Lx IX9_sortBases (d + 1) 34 [some (.ref 35), some (.int l1), some (.int l2), none] [] σ Q := (X_if (fun _ _ => blX9_sortBases_34) (fun z0 => (X_ifn (fun _ _ => blX9_sortBases_120 (H.1 z0).1) (fun z1 => (X_go (fun _ _ => blX9_sortBases_140) (X_go (fun _ _ => blX9_sortBases_141) ((H.1 z0).2.1 z1)))) (fun z1 => (X_go (fun _ _ => blX9_sortBases_136) (X_go (fun _ _ => blX9_sortBases_141) ((H.1 z0).2.2 z1)))))) (fun z0 => (X_call (fun _ _ _ _ => blX9_sortBases_42) (K_mono (H.2 z0) (fun r1 σ1 q1 => (X_if (fun _ _ => blX9_sortBases_51) (fun z2 => (X_if (fun _ _ => blX9_sortBases_83) (fun z3 => (X_go (fun _ _ => blX9_sortBases_114) ((q1.1 z2).1 z3))) (fun z3 => (X_ifn (fun _ _ => blX9_sortBases_87) (fun z4 => (X_go (fun _ _ => blX9_sortBases_111) (X_go (fun _ _ => blX9_sortBases_113 (((q1.1 z2).2 z3).1 z4).1) (X_go (fun _ _ => blX9_sortBases_114) (((q1.1 z2).2 z3).1 z4).2)))) (fun z4 => (X_ifn (fun _ _ => blX9_sortBases_97 (((q1.1 z2).2 z3).2 z4).1) (fun z5 => (X_go (fun _ _ => blX9_sortBases_111) (X_go (fun _ _ => blX9_sortBases_113 ((((q1.1 z2).2 z3).2 z4).2.1 z5).1) (X_go (fun _ _ => blX9_sortBases_114) ((((q1.1 z2).2 z3).2 z4).2.1 z5).2)))) (fun z5 => (X_go (fun _ _ => blX9_sortBases_107) (X_go (fun _ _ => blX9_sortBases_113 ((((q1.1 z2).2 z3).2 z4).2.2 z5).1) (X_go (fun _ _ => blX9_sortBases_114) ((((q1.1 z2).2 z3).2 z4).2.2 z5).2)))))))))) (fun z2 => (X_if (fun _ _ => blX9_sortBases_60 (q1.2 z2).1) (fun z3 => (X_go (fun _ _ => blX9_sortBases_77) (X_go (fun _ _ => blX9_sortBases_78 ((q1.2 z2).2.1 z3).1) (X_go (fun _ _ => blX9_sortBases_114) ((q1.2 z2).2.1 z3).2)))) (fun z3 => (X_go (fun _ _ => blX9_sortBases_71) (X_go (fun _ _ => blX9_sortBases_78 ((q1.2 z2).2.2 z3).1) (X_go (fun _ _ => blX9_sortBases_114) ((q1.2 z2).2.2 z3).2))))))))))))
set_option maxRecDepth 20000 in
theorem vX9_goodSets {d : Nat} {σ : am_S} {Q : Int32 → am_S → Prop} {l1 : Int32} {l2 : Int32} (H :
    am_X ri am_Lx IX9_goodSets (d + 1) 26 [some (.ref 35), some (.int l1), some (.int l2), some (.int (((1 : Int32) <<< ((gS σ 35 8) &&& 31)) - (1 : Int32))), some (.int ((((1 : Int32) <<< ((gS σ 35 7) &&& 31)) - (1 : Int32)) &&& ((((1 : Int32) <<< ((gS σ 35 8) &&& 31)) - (1 : Int32)) ^^^ (-1 : Int32)))), some (.int l1), none, none] [] σ Q) : am_K ri am_Lx IX9_goodSets (d + 1) [.ref 35, .int l1, .int l2] σ Q := K_of am_owX9_goodSets (Nat.le_of_ble_eq_true rfl) (X_go (fun _ _ => blX9_goodSets_0) H)
set_option maxRecDepth 20000 in
theorem vX9_goodSets_26 {d : Nat} {σ : am_S} {Q : Int32 → am_S → Prop} {l1 : Int32} {l2 : Int32} {l3 : Int32} {l4 : Int32} {l5 : Int32} (H :
    ((gS σ 36 11) ≤ l5 →
      am_X ri am_Lx IX9_goodSets (d + 1) 124 [some (.ref 35), some (.int l1), some (.int l2), some (.int l3), some (.int l4), some (.int (0 : Int32)), some (.int (0 : Int32)), none] [] σ Q) ∧
    (¬ (gS σ 36 11) ≤ l5 →
      (((l2 >>> (l5 &&& 31)) &&& (1 : Int32)) = 0 →
        am_X ri am_Lx IX9_goodSets (d + 1) 26 [some (.ref 35), some (.int l1), some (.int l2), some (.int l3), some (.int l4), some (.int (l5 + (1 : Int32))), none, none] [] σ Q) ∧
      (¬ ((l2 >>> (l5 &&& 31)) &&& (1 : Int32)) = 0 →
        (vp_in l5 16) ∧
        ((gA σ 46 (l5).toNatClampNeg) = (-2 : Int32) →
          Q (0 : Int32) σ) ∧
        (¬ (gA σ 46 (l5).toNatClampNeg) = (-2 : Int32) →
          ((gA σ 46 (l5).toNatClampNeg) < 0 →
            (vp_in l5 16) ∧
            ((gA σ 46 (l5).toNatClampNeg) < 0 →
              am_X ri am_Lx IX9_goodSets (d + 1) 26 [some (.ref 35), some (.int l1), some (.int l2), some (.int (l3 &&& ((gA σ 45 (l5).toNatClampNeg) ^^^ (-1 : Int32)))), some (.int (l4 &&& (-1 : Int32))), some (.int (l5 + (1 : Int32))), none, none] [] σ Q) ∧
            (¬ (gA σ 46 (l5).toNatClampNeg) < 0 →
              am_X ri am_Lx IX9_goodSets (d + 1) 26 [some (.ref 35), some (.int l1), some (.int l2), some (.int (l3 &&& ((gA σ 45 (l5).toNatClampNeg) ^^^ (-1 : Int32)))), some (.int (l4 &&& (((1 : Int32) <<< ((gA σ 46 (l5).toNatClampNeg) &&& 31)) ^^^ (-1 : Int32)))), some (.int (l5 + (1 : Int32))), none, none] [] σ Q)) ∧
          (¬ (gA σ 46 (l5).toNatClampNeg) < 0 →
            (¬ ((l4 >>> ((gA σ 46 (l5).toNatClampNeg) &&& 31)) &&& (1 : Int32)) = 0 →
              (vp_in l5 16) ∧
              ((gA σ 46 (l5).toNatClampNeg) < 0 →
                am_X ri am_Lx IX9_goodSets (d + 1) 26 [some (.ref 35), some (.int l1), some (.int l2), some (.int (l3 &&& ((gA σ 45 (l5).toNatClampNeg) ^^^ (-1 : Int32)))), some (.int (l4 &&& (-1 : Int32))), some (.int (l5 + (1 : Int32))), none, none] [] σ Q) ∧
              (¬ (gA σ 46 (l5).toNatClampNeg) < 0 →
                am_X ri am_Lx IX9_goodSets (d + 1) 26 [some (.ref 35), some (.int l1), some (.int l2), some (.int (l3 &&& ((gA σ 45 (l5).toNatClampNeg) ^^^ (-1 : Int32)))), some (.int (l4 &&& (((1 : Int32) <<< ((gA σ 46 (l5).toNatClampNeg) &&& 31)) ^^^ (-1 : Int32)))), some (.int (l5 + (1 : Int32))), none, none] [] σ Q)) ∧
            (((l4 >>> ((gA σ 46 (l5).toNatClampNeg) &&& 31)) &&& (1 : Int32)) = 0 →
              Q (0 : Int32) σ)))))) : am_X ri am_Lx IX9_goodSets (d + 1) 26 [some (.ref 35), some (.int l1), some (.int l2), some (.int l3), some (.int l4), some (.int l5), none, none] [] σ Q := (X_if (fun _ _ => blX9_goodSets_26) (fun z0 => (X_go (fun _ _ => blX9_goodSets_118) (H.1 z0))) (fun z0 => (X_if (fun _ _ => blX9_goodSets_38) (fun z1 => (X_go (fun _ _ => blX9_goodSets_112) ((H.2 z0).1 z1))) (fun z1 => (X_if (fun _ _ => blX9_goodSets_47 ((H.2 z0).2 z1).1) (fun z2 => (X_ret (fun _ _ => blX9_goodSets_78) (((H.2 z0).2 z1).2.1 z2))) (fun z2 => (X_if (fun _ _ => blX9_goodSets_63) (fun z3 => (X_if (fun _ _ => blX9_goodSets_80 ((((H.2 z0).2 z1).2.2 z2).1 z3).1) (fun z4 => (X_go (fun _ _ => blX9_goodSets_108) (X_go (fun _ _ => blX9_goodSets_109) (X_go (fun _ _ => blX9_goodSets_112) (((((H.2 z0).2 z1).2.2 z2).1 z3).2.1 z4))))) (fun z4 => (X_go (fun _ _ => blX9_goodSets_99) (X_go (fun _ _ => blX9_goodSets_109) (X_go (fun _ _ => blX9_goodSets_112) (((((H.2 z0).2 z1).2.2 z2).1 z3).2.2 z4))))))) (fun z3 => (X_ifn (fun _ _ => blX9_goodSets_68) (fun z4 => (X_if (fun _ _ => blX9_goodSets_80 (((((H.2 z0).2 z1).2.2 z2).2 z3).1 z4).1) (fun z5 => (X_go (fun _ _ => blX9_goodSets_108) (X_go (fun _ _ => blX9_goodSets_109) (X_go (fun _ _ => blX9_goodSets_112) ((((((H.2 z0).2 z1).2.2 z2).2 z3).1 z4).2.1 z5))))) (fun z5 => (X_go (fun _ _ => blX9_goodSets_99) (X_go (fun _ _ => blX9_goodSets_109) (X_go (fun _ _ => blX9_goodSets_112) ((((((H.2 z0).2 z1).2.2 z2).2 z3).1 z4).2.2 z5))))))) (fun z4 => (X_ret (fun _ _ => blX9_goodSets_78) (((((H.2 z0).2 z1).2.2 z2).2 z3).2 z4))))))))))))
set_option maxRecDepth 20000 in
theorem vX9_goodSets_124 {d : Nat} {σ : am_S} {Q : Int32 → am_S → Prop} {l1 : Int32} {l2 : Int32} {l3 : Int32} {l4 : Int32} {l5 : Int32} {l6 : Int32} (H :
    (l3 < l6 →
      Q l5 σ) ∧
    (¬ l3 < l6 →
      (¬ (l6 &&& (l3 ^^^ (-1 : Int32))) = 0 →
        am_X ri am_Lx IX9_goodSets (d + 1) 124 [some (.ref 35), some (.int l1), some (.int l2), some (.int l3), some (.int l4), some (.int l5), some (.int (l6 + (1 : Int32))), none] [] σ Q) ∧
      ((l6 &&& (l3 ^^^ (-1 : Int32))) = 0 →
        am_K ri am_Lx IX9_waysWithout d [.ref 35, .int l1, .int l6, .int l4] σ (fun r1 σ1 =>
          am_K ri am_Lx IJ6_bitCount_0f7a4 d [.int l6] σ1 (fun r2 σ2 =>
            (¬ (r2 &&& (1 : Int32)) = 0 →
              am_X ri am_Lx IX9_goodSets (d + 1) 124 [some (.ref 35), some (.int l1), some (.int l2), some (.int l3), some (.int l4), some (.int (l5 + (-r1))), some (.int (l6 + (1 : Int32))), none] [] σ2 Q) ∧
            ((r2 &&& (1 : Int32)) = 0 →
              am_X ri am_Lx IX9_goodSets (d + 1) 124 [some (.ref 35), some (.int l1), some (.int l2), some (.int l3), some (.int l4), some (.int (l5 + r1)), some (.int (l6 + (1 : Int32))), none] [] σ2 Q)))))) : am_X ri am_Lx IX9_goodSets (d + 1) 124 [some (.ref 35), some (.int l1), some (.int l2), some (.int l3), some (.int l4), some (.int l5), some (.int l6), none] [] σ Q := (X_if (fun _ _ => blX9_goodSets_124) (fun z0 => (X_ret (fun _ _ => blX9_goodSets_179) (H.1 z0))) (fun z0 => (X_ifn (fun _ _ => blX9_goodSets_130) (fun z1 => (X_go (fun _ _ => blX9_goodSets_173) ((H.2 z0).1 z1))) (fun z1 => (X_call (fun _ _ _ _ => blX9_goodSets_139) (K_mono ((H.2 z0).2 z1) (fun r1 σ1 q2 => (X_call (fun _ _ _ _ => blX9_goodSets_148) (K_mono q2 (fun r2 σ2 q3 => (X_ifn (fun _ _ => blX9_goodSets_157) (fun z4 => (X_go (fun _ _ => blX9_goodSets_167) (X_go (fun _ _ => blX9_goodSets_170) (X_go (fun _ _ => blX9_goodSets_173) (q3.1 z4))))) (fun z4 => (X_go (fun _ _ => blX9_goodSets_162) (X_go (fun _ _ => blX9_goodSets_170) (X_go (fun _ _ => blX9_goodSets_173) (q3.2 z4))))))))))))))))
set_option maxRecDepth 20000 in
theorem vX9_waysWithout {d : Nat} {σ : am_S} {Q : Int32 → am_S → Prop} {l1 : Int32} {l2 : Int32} {l3 : Int32} (H :
    am_X ri am_Lx IX9_waysWithout (d + 1) 3 [some (.ref 35), some (.int l1), some (.int l2), some (.int l3), some (.int (0 : Int32)), none] [] σ Q) : am_K ri am_Lx IX9_waysWithout (d + 1) [.ref 35, .int l1, .int l2, .int l3] σ Q := K_of am_owX9_waysWithout (Nat.le_of_ble_eq_true rfl) (X_go (fun _ _ => blX9_waysWithout_0) H)
set_option maxRecDepth 20000 in
theorem vX9_waysWithout_3 {d : Nat} {σ : am_S} {Q : Int32 → am_S → Prop} {l1 : Int32} {l2 : Int32} {l3 : Int32} {l4 : Int32} (H :
    ((gS σ 35 7) ≤ l4 →
      am_X ri am_Lx IX9_waysWithout (d + 1) 32 [some (.ref 35), some (.int l1), some (.int l2), some (.int l3), some (.int (1 : Int32)), some (.int (0 : Int32))] [] σ Q) ∧
    (¬ (gS σ 35 7) ≤ l4 →
      (vp_in l4 16) ∧
      am_X ri am_Lx IX9_waysWithout (d + 1) 3 [some (.ref 35), some (.int l1), some (.int l2), some (.int l3), some (.int (l4 + (1 : Int32))), none] [] (wA σ 47 (l4).toNatClampNeg (0 : Int32)) Q)) : am_X ri am_Lx IX9_waysWithout (d + 1) 3 [some (.ref 35), some (.int l1), some (.int l2), some (.int l3), some (.int l4), none] [] σ Q := (X_if (fun _ _ => blX9_waysWithout_3) (fun z0 => (X_go (fun _ _ => blX9_waysWithout_26) (H.1 z0))) (fun z0 => (X_go (fun _ _ => blX9_waysWithout_12 (H.2 z0).1) (H.2 z0).2)))
set_option maxRecDepth 20000 in
theorem vX9_waysWithout_32 {d : Nat} {σ : am_S} {Q : Int32 → am_S → Prop} {l1 : Int32} {l2 : Int32} {l3 : Int32} {l4 : Int32} {l5 : Int32} (H :
    (l1 ≤ l5 →
      am_X ri am_Lx IX9_waysWithout (d + 1) 108 [some (.ref 35), some (.int l1), some (.int l2), some (.int l3), some (.int l4), some (.int (gS σ 35 8))] [] σ Q) ∧
    (¬ l1 ≤ l5 →
      (vp_in l5 16) ∧
      (¬ ((gA σ 45 (l5).toNatClampNeg) &&& l2) = 0 →
        am_X ri am_Lx IX9_waysWithout (d + 1) 32 [some (.ref 35), some (.int l1), some (.int l2), some (.int l3), some (.int l4), some (.int (l5 + (1 : Int32)))] [] σ Q) ∧
      (((gA σ 45 (l5).toNatClampNeg) &&& l2) = 0 →
        (vp_in l5 16) ∧
        (¬ (gA σ 46 (l5).toNatClampNeg) = (-1 : Int32) →
          (vp_in l5 16) ∧
          ((gA σ 46 (l5).toNatClampNeg) < 0 →
            am_X ri am_Lx IX9_waysWithout (d + 1) 32 [some (.ref 35), some (.int l1), some (.int l2), some (.int l3), some (.int l4), some (.int (l5 + (1 : Int32)))] [] σ Q) ∧
          (¬ (gA σ 46 (l5).toNatClampNeg) < 0 →
            (vp_in l5 16) ∧
            (vp_in (gA σ 46 (l5).toNatClampNeg) 16) ∧
            (vp_in (gA σ 46 (l5).toNatClampNeg) 16) ∧
            am_X ri am_Lx IX9_waysWithout (d + 1) 32 [some (.ref 35), some (.int l1), some (.int l2), some (.int l3), some (.int l4), some (.int (l5 + (1 : Int32)))] [] (wA σ 47 ((gA σ 46 (l5).toNatClampNeg)).toNatClampNeg ((gA σ 47 ((gA σ 46 (l5).toNatClampNeg)).toNatClampNeg) + (1 : Int32))) Q)) ∧
        ((gA σ 46 (l5).toNatClampNeg) = (-1 : Int32) →
          am_X ri am_Lx IX9_waysWithout (d + 1) 32 [some (.ref 35), some (.int l1), some (.int l2), some (.int l3), some (.int (l4 * (2 : Int32))), some (.int (l5 + (1 : Int32)))] [] σ Q)))) : am_X ri am_Lx IX9_waysWithout (d + 1) 32 [some (.ref 35), some (.int l1), some (.int l2), some (.int l3), some (.int l4), some (.int l5)] [] σ Q := (X_if (fun _ _ => blX9_waysWithout_32) (fun z0 => (X_go (fun _ _ => blX9_waysWithout_102) (H.1 z0))) (fun z0 => (X_ifn (fun _ _ => blX9_waysWithout_38 (H.2 z0).1) (fun z1 => (X_go (fun _ _ => blX9_waysWithout_96) ((H.2 z0).2.1 z1))) (fun z1 => (X_ifn (fun _ _ => blX9_waysWithout_50 ((H.2 z0).2.2 z1).1) (fun z2 => (X_if (fun _ _ => blX9_waysWithout_70 (((H.2 z0).2.2 z1).2.1 z2).1) (fun z3 => (X_go (fun _ _ => blX9_waysWithout_96) ((((H.2 z0).2.2 z1).2.1 z2).2.1 z3))) (fun z3 => (X_go (fun _ _ => blX9_waysWithout_80 ((((H.2 z0).2.2 z1).2.1 z2).2.2 z3).1 ((((H.2 z0).2.2 z1).2.1 z2).2.2 z3).2.1 ((((H.2 z0).2.2 z1).2.1 z2).2.2 z3).2.2.1) (X_go (fun _ _ => blX9_waysWithout_96) ((((H.2 z0).2.2 z1).2.1 z2).2.2 z3).2.2.2))))) (fun z2 => (X_go (fun _ _ => blX9_waysWithout_61) (X_go (fun _ _ => blX9_waysWithout_96) (((H.2 z0).2.2 z1).2.2 z2)))))))))
set_option maxRecDepth 20000 in
theorem vX9_waysWithout_108 {d : Nat} {σ : am_S} {Q : Int32 → am_S → Prop} {l1 : Int32} {l2 : Int32} {l3 : Int32} {l4 : Int32} {l5 : Int32} (H :
    ((gS σ 35 7) ≤ l5 →
      Q l4 σ) ∧
    (¬ (gS σ 35 7) ≤ l5 →
      (((l3 >>> (l5 &&& 31)) &&& (1 : Int32)) = 0 →
        am_X ri am_Lx IX9_waysWithout (d + 1) 108 [some (.ref 35), some (.int l1), some (.int l2), some (.int l3), some (.int (l4 * (1 : Int32))), some (.int (l5 + (1 : Int32)))] [] σ Q) ∧
      (¬ ((l3 >>> (l5 &&& 31)) &&& (1 : Int32)) = 0 →
        (vp_in l5 16) ∧
        am_X ri am_Lx IX9_waysWithout (d + 1) 108 [some (.ref 35), some (.int l1), some (.int l2), some (.int l3), some (.int (l4 * (gA σ 47 (l5).toNatClampNeg))), some (.int (l5 + (1 : Int32)))] [] σ Q))) : am_X ri am_Lx IX9_waysWithout (d + 1) 108 [some (.ref 35), some (.int l1), some (.int l2), some (.int l3), some (.int l4), some (.int l5)] [] σ Q := (X_if (fun _ _ => blX9_waysWithout_108) (fun z0 => (X_ret (fun _ _ => blX9_waysWithout_148) (H.1 z0))) (fun z0 => (X_if (fun _ _ => blX9_waysWithout_117) (fun z1 => (X_go (fun _ _ => blX9_waysWithout_138) (X_go (fun _ _ => blX9_waysWithout_139) ((H.2 z0).1 z1)))) (fun z1 => (X_go (fun _ _ => blX9_waysWithout_128 ((H.2 z0).2 z1).1) (X_go (fun _ _ => blX9_waysWithout_139) ((H.2 z0).2 z1).2))))))
set_option maxRecDepth 20000 in
theorem vX9_bitsOf {d : Nat} {σ : am_S} {Q : Int32 → am_S → Prop} {l1 : Int32} (H :
    am_X ri am_Lx IX9_bitsOf (d + 1) 15 [some (.ref 35), some (.int l1), some (.int (0 : Int32)), some (.int l1), some (.int ((gS σ 36 11) - (1 : Int32))), none] [] σ Q) : am_K ri am_Lx IX9_bitsOf (d + 1) [.ref 35, .int l1] σ Q := K_of am_owX9_bitsOf (Nat.le_of_ble_eq_true rfl) (X_go (fun _ _ => blX9_bitsOf_0) H)
set_option maxRecDepth 20000 in
theorem vX9_bitsOf_15 {d : Nat} {σ : am_S} {Q : Int32 → am_S → Prop} {l1 : Int32} {l2 : Int32} {l3 : Int32} {l4 : Int32} (H :
    (l4 < 0 →
      Q l2 σ) ∧
    (¬ l4 < 0 →
      am_K ri am_Lx IX9_goodSets d [.ref 35, .int l4, .int l2] σ (fun r1 σ1 =>
        (l3 < r1 →
          am_X ri am_Lx IX9_bitsOf (d + 1) 15 [some (.ref 35), some (.int l1), some (.int l2), some (.int l3), some (.int (l4 + (-1 : Int32))), none] [] σ1 Q) ∧
        (¬ l3 < r1 →
          am_X ri am_Lx IX9_bitsOf (d + 1) 15 [some (.ref 35), some (.int l1), some (.int (l2 ||| ((1 : Int32) <<< (l4 &&& 31)))), some (.int (l3 - r1)), some (.int (l4 + (-1 : Int32))), none] [] σ1 Q)))) : am_X ri am_Lx IX9_bitsOf (d + 1) 15 [some (.ref 35), some (.int l1), some (.int l2), some (.int l3), some (.int l4), none] [] σ Q := (X_if (fun _ _ => blX9_bitsOf_15) (fun z0 => (X_ret (fun _ _ => blX9_bitsOf_53) (H.1 z0))) (fun z0 => (X_call (fun _ _ _ _ => blX9_bitsOf_20) (K_mono (H.2 z0) (fun r1 σ1 q1 => (X_if (fun _ _ => blX9_bitsOf_27) (fun z2 => (X_go (fun _ _ => blX9_bitsOf_47) (q1.1 z2))) (fun z2 => (X_go (fun _ _ => blX9_bitsOf_35) (X_go (fun _ _ => blX9_bitsOf_47) (q1.2 z2))))))))))
set_option maxRecDepth 20000 in
theorem vX9_fill {d : Nat} {σ : am_S} {Q : Unit → am_S → Prop} {l2 : Int32} (H :
    am_X ru am_Lx IX9_fill (d + 1) 3 [some (.ref 35), some (.ref 2), some (.int l2), some (.ref 3), some (.int (0 : Int32)), none, none] [] σ Q) : am_K ru am_Lx IX9_fill (d + 1) [.ref 35, .ref 2, .int l2, .ref 3] σ Q := K_of am_owX9_fill (Nat.le_of_ble_eq_true rfl) (X_go (fun _ _ => blX9_fill_0) H)
set_option maxRecDepth 20000 in
theorem vX9_fill_3 {d : Nat} {σ : am_S} {Q : Unit → am_S → Prop} {l2 : Int32} {l4 : Int32} (H :
    ((Int32.ofNat 22) ≤ l4 →
      am_K ri am_Lx IX9_bitsOf d [.ref 35, .int l2] σ (fun r1 σ1 =>
        am_X ru am_Lx IX9_fill (d + 1) 36 [some (.ref 35), some (.ref 2), some (.int l2), some (.ref 3), some (.int r1), some (.int (0 : Int32)), none] [] σ1 Q)) ∧
    (¬ (Int32.ofNat 22) ≤ l4 →
      am_K rn am_Lx IX2_variable d [.ref 3, .int l4] σ (fun r2 σ2 =>
        (r2 = none →
          (vp_in l4 22) ∧
          am_X ru am_Lx IX9_fill (d + 1) 3 [some (.ref 35), some (.ref 2), some (.int l2), some (.ref 3), some (.int (l4 + (1 : Int32))), none, none] [] (wP σ2 2 (l4).toNatClampNeg none) Q) ∧
        (∀ t3, r2 = some t3 →
          (vp_in l4 22) ∧
          (am_isT am_Lx σ2 t3) ∧
          am_X ru am_Lx IX9_fill (d + 1) 3 [some (.ref 35), some (.ref 2), some (.int l2), some (.ref 3), some (.int (l4 + (1 : Int32))), none, none] [] (wP σ2 2 (l4).toNatClampNeg (some t3)) Q)))) : am_X ru am_Lx IX9_fill (d + 1) 3 [some (.ref 35), some (.ref 2), some (.int l2), some (.ref 3), some (.int l4), none, none] [] σ Q := (X_if (fun _ _ => blX9_fill_3) (fun z0 => (X_call (fun _ _ _ _ => blX9_fill_26) (K_mono (H.1 z0) (fun r1 σ1 q1 => (X_go (fun _ _ => blX9_fill_31) q1))))) (fun z0 => (X_calln (fun _ _ _ _ => blX9_fill_10) (K_mono (H.2 z0) (fun r2 σ2 q1 => And.intro (fun z1 => (X_go (fun _ _ => blX9_fill_19_n (q1.1 z1).1) (q1.1 z1).2)) (fun t3 z1 => (X_go (fun _ _ => blX9_fill_19_r (q1.2 t3 z1).1 (q1.2 t3 z1).2.1) (q1.2 t3 z1).2.2)))))))
set_option maxRecDepth 20000 in
theorem vX9_fill_36 {d : Nat} {σ : am_S} {Q : Unit → am_S → Prop} {l2 : Int32} {l4 : Int32} {l5 : Int32} (H :
    ((gS σ 35 8) ≤ l5 →
      Q () σ) ∧
    (¬ (gS σ 35 8) ≤ l5 →
      (vp_in l5 16) ∧
      (gP σ 43 (l5).toNatClampNeg = none →
        False) ∧
      (∀ t1, gP σ 43 (l5).toNatClampNeg = some t1 →
        (am_isT am_Lx σ t1) ∧
        ((Int32.ofNat 22) ≤ (gS σ t1 1) →
          am_X ru am_Lx IX9_fill (d + 1) 36 [some (.ref 35), some (.ref 2), some (.int l2), some (.ref 3), some (.int l4), some (.int (l5 + (1 : Int32))), none] [] σ Q) ∧
        (¬ (Int32.ofNat 22) ≤ (gS σ t1 1) →
          am_K rn am_Lx IX9_put d [.ref 35, .int l5, .int l4, .ref 3] σ (fun r2 σ2 =>
            (r2 = none →
              (vp_in (gS σ t1 1) 22) ∧
              am_X ru am_Lx IX9_fill (d + 1) 36 [some (.ref 35), some (.ref 2), some (.int l2), some (.ref 3), some (.int l4), some (.int (l5 + (1 : Int32))), none] [] (wP σ2 2 ((gS σ t1 1)).toNatClampNeg none) Q) ∧
            (∀ t3, r2 = some t3 →
              (vp_in (gS σ t1 1) 22) ∧
              (am_isT am_Lx σ2 t3) ∧
              am_X ru am_Lx IX9_fill (d + 1) 36 [some (.ref 35), some (.ref 2), some (.int l2), some (.ref 3), some (.int l4), some (.int (l5 + (1 : Int32))), none] [] (wP σ2 2 ((gS σ t1 1)).toNatClampNeg (some t3)) Q)))))) : am_X ru am_Lx IX9_fill (d + 1) 36 [some (.ref 35), some (.ref 2), some (.int l2), some (.ref 3), some (.int l4), some (.int l5), none] [] σ Q := (X_if (fun _ _ => blX9_fill_36) (fun z0 => (X_ret (fun _ _ => blX9_fill_83) (H.1 z0))) (fun z0 => (X_opt (fun _ _ => blX9_fill_45 (H.2 z0).1) (fun z1 => (False.elim ((H.2 z0).2.1 z1))) (fun t1 z1 => (X_if (fun _ _ => blX9_fill_52_r ((H.2 z0).2.2 t1 z1).1) (fun z2 => (X_go (fun _ _ => blX9_fill_77) (((H.2 z0).2.2 t1 z1).2.1 z2))) (fun z2 => (X_calln (fun _ _ _ _ => blX9_fill_64) (K_mono (((H.2 z0).2.2 t1 z1).2.2 z2) (fun r2 σ2 q3 => And.intro (fun z3 => (X_go (fun _ _ => blX9_fill_76_n (q3.1 z3).1) (X_go (fun _ _ => blX9_fill_77) (q3.1 z3).2))) (fun t3 z3 => (X_go (fun _ _ => blX9_fill_76_r (q3.2 t3 z3).1 (q3.2 t3 z3).2.1) (X_go (fun _ _ => blX9_fill_77) (q3.2 t3 z3).2.2))))))))))))
set_option maxRecDepth 20000 in
theorem vX9_put {d : Nat} {σ : am_S} {Q : Option Nat → am_S → Prop} {l1 : Int32} {l2 : Int32} (H :
    am_K ri am_Lx IX2_mark d [.ref 3] σ (fun r1 σ1 =>
      am_X rn am_Lx IX9_put (d + 1) 13 [some (.ref 35), some (.int l1), some (.int l2), some (.ref 3), some (.int r1), some (.int (9 : Int32)), some (.int (0 : Int32)), none, none] [] σ1 Q)) : am_K rn am_Lx IX9_put (d + 1) [.ref 35, .int l1, .int l2, .ref 3] σ Q := K_of am_owX9_put (Nat.le_of_ble_eq_true rfl) (X_call (fun _ _ _ _ => blX9_put_0) (K_mono H (fun r1 σ1 q0 => (X_go (fun _ _ => blX9_put_4) q0))))
set_option maxRecDepth 20000 in
theorem vX9_put_13 {d : Nat} {σ : am_S} {Q : Option Nat → am_S → Prop} {l1 : Int32} {l2 : Int32} {l4 : Int32} {l5 : Int32} {l6 : Int32} (H :
    ((gS σ 36 11) ≤ l6 →
      am_K rn am_Lx IX2_together d [.ref 3, .int (gS σ 35 6), .int l4] σ (fun r1 σ1 =>
        (r1 = none →
          Q none σ1) ∧
        (∀ t2, r1 = some t2 →
          Q (some t2) σ1))) ∧
    (¬ (gS σ 36 11) ≤ l6 →
      (((l2 >>> (l6 &&& 31)) &&& (1 : Int32)) = 0 →
        am_X rn am_Lx IX9_put (d + 1) 53 [some (.ref 35), some (.int l1), some (.int l2), some (.ref 3), some (.int l4), some (.int l5), some (.int l6), some (.int (0 : Int32)), some (.int (0 : Int32))] [] σ Q) ∧
      (¬ ((l2 >>> (l6 &&& 31)) &&& (1 : Int32)) = 0 →
        am_K ri am_Lx IX0_given d [.ref 36, .int l6, .int l1] σ (fun r3 σ3 =>
          am_X rn am_Lx IX9_put (d + 1) 53 [some (.ref 35), some (.int l1), some (.int l2), some (.ref 3), some (.int l4), some (.int l5), some (.int l6), some (.int r3), some (.int (0 : Int32))] [] σ3 Q)))) : am_X rn am_Lx IX9_put (d + 1) 13 [some (.ref 35), some (.int l1), some (.int l2), some (.ref 3), some (.int l4), some (.int l5), some (.int l6), none, none] [] σ Q := (X_if (fun _ _ => blX9_put_13) (fun z0 => (X_calln (fun _ _ _ _ => blX9_put_118) (K_mono (H.1 z0) (fun r1 σ1 q1 => And.intro (fun z1 => (X_ret (fun _ _ => blX9_put_128_n) (q1.1 z1))) (fun t2 z1 => (X_ret (fun _ _ => blX9_put_128_r) (q1.2 t2 z1))))))) (fun z0 => (X_if (fun _ _ => blX9_put_25) (fun z1 => (X_go (fun _ _ => blX9_put_47) (X_go (fun _ _ => blX9_put_48) ((H.2 z0).1 z1)))) (fun z1 => (X_call (fun _ _ _ _ => blX9_put_34) (K_mono ((H.2 z0).2 z1) (fun r3 σ3 q2 => (X_go (fun _ _ => blX9_put_44) (X_go (fun _ _ => blX9_put_48) q2)))))))))
set_option maxRecDepth 20000 in
theorem vX9_put_53 {d : Nat} {σ : am_S} {Q : Option Nat → am_S → Prop} {l1 : Int32} {l2 : Int32} {l4 : Int32} {l5 : Int32} {l6 : Int32} {l7 : Int32} {l8 : Int32} (H :
    (l7 ≤ l8 →
      am_X rn am_Lx IX9_put (d + 1) 13 [some (.ref 35), some (.int l1), some (.int l2), some (.ref 3), some (.int l4), some (.int l5), some (.int (l6 + (1 : Int32))), none, none] [] σ Q) ∧
    (¬ l7 ≤ l8 →
      (l5 ≤ 0 →
        am_X rn am_Lx IX9_put (d + 1) 13 [some (.ref 35), some (.int l1), some (.int l2), some (.ref 3), some (.int l4), some (.int l5), some (.int (l6 + (1 : Int32))), none, none] [] σ Q) ∧
      (¬ l5 ≤ 0 →
        (vp_in l6 16) ∧
        ((gA σ 46 (l6).toNatClampNeg) < 0 →
          am_K rn am_Lx IX2_variable d [.ref 3, .int ((6 : Int32) + l6)] σ (fun r1 σ1 =>
            (r1 = none →
              am_K ru am_Lx IX2_push d [.ref 3, .null] σ1 (fun _ σ2 =>
                am_X rn am_Lx IX9_put (d + 1) 53 [some (.ref 35), some (.int l1), some (.int l2), some (.ref 3), some (.int l4), some (.int (l5 + (-1 : Int32))), some (.int l6), some (.int l7), some (.int (l8 + (1 : Int32)))] [] σ2 Q)) ∧
            (∀ t3, r1 = some t3 →
              am_K ru am_Lx IX2_push d [.ref 3, .ref t3] σ1 (fun _ σ4 =>
                am_X rn am_Lx IX9_put (d + 1) 53 [some (.ref 35), some (.int l1), some (.int l2), some (.ref 3), some (.int l4), some (.int (l5 + (-1 : Int32))), some (.int l6), some (.int l7), some (.int (l8 + (1 : Int32)))] [] σ4 Q)))) ∧
        (¬ (gA σ 46 (l6).toNatClampNeg) < 0 →
          (vp_in l6 16) ∧
          (vp_in (gA σ 46 (l6).toNatClampNeg) 16) ∧
          (gP σ 43 ((gA σ 46 (l6).toNatClampNeg)).toNatClampNeg = none →
            am_K ru am_Lx IX2_push d [.ref 3, .null] σ (fun _ σ6 =>
              am_X rn am_Lx IX9_put (d + 1) 53 [some (.ref 35), some (.int l1), some (.int l2), some (.ref 3), some (.int l4), some (.int (l5 + (-1 : Int32))), some (.int l6), some (.int l7), some (.int (l8 + (1 : Int32)))] [] σ6 Q)) ∧
          (∀ t5, gP σ 43 ((gA σ 46 (l6).toNatClampNeg)).toNatClampNeg = some t5 →
            am_K ru am_Lx IX2_push d [.ref 3, .ref t5] σ (fun _ σ7 =>
              am_X rn am_Lx IX9_put (d + 1) 53 [some (.ref 35), some (.int l1), some (.int l2), some (.ref 3), some (.int l4), some (.int (l5 + (-1 : Int32))), some (.int l6), some (.int l7), some (.int (l8 + (1 : Int32)))] [] σ7 Q)))))) : am_X rn am_Lx IX9_put (d + 1) 53 [some (.ref 35), some (.int l1), some (.int l2), some (.ref 3), some (.int l4), some (.int l5), some (.int l6), some (.int l7), some (.int l8)] [] σ Q := (X_if (fun _ _ => blX9_put_53) (fun z0 => (X_go (fun _ _ => blX9_put_112) (H.1 z0))) (fun z0 => (X_if (fun _ _ => blX9_put_60) (fun z1 => (X_go (fun _ _ => blX9_put_112) ((H.2 z0).1 z1))) (fun z1 => (X_if (fun _ _ => blX9_put_65 ((H.2 z0).2 z1).1) (fun z2 => (X_calln (fun _ _ _ _ => blX9_put_91) (K_mono (((H.2 z0).2 z1).2.1 z2) (fun r1 σ1 q3 => And.intro (fun z3 => (X_call (fun _ _ _ _ => blX9_put_100_n) (K_mono (q3.1 z3) (fun _ σ2 q4 => (X_go (fun _ _ => blX9_put_103) q4))))) (fun t3 z3 => (X_call (fun _ _ _ _ => blX9_put_100_r) (K_mono (q3.2 t3 z3) (fun _ σ4 q4 => (X_go (fun _ _ => blX9_put_103) q4))))))))) (fun z2 => (X_opt (fun _ _ => blX9_put_76 (((H.2 z0).2 z1).2.2 z2).1 (((H.2 z0).2 z1).2.2 z2).2.1) (fun z3 => (X_go (fun _ _ => blX9_put_88_n) (X_call (fun _ _ _ _ => blX9_put_100_n) (K_mono ((((H.2 z0).2 z1).2.2 z2).2.2.1 z3) (fun _ σ6 q5 => (X_go (fun _ _ => blX9_put_103) q5)))))) (fun t5 z3 => (X_go (fun _ _ => blX9_put_88_r) (X_call (fun _ _ _ _ => blX9_put_100_r) (K_mono ((((H.2 z0).2 z1).2.2 z2).2.2.2 t5 z3) (fun _ σ7 q5 => (X_go (fun _ _ => blX9_put_103) q5)))))))))))))
