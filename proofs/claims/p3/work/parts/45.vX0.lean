set_option maxRecDepth 20000 in
theorem vX0_begin_28 {d : Nat} {σ : am_S} {Q : Unit → am_S → Prop} {l1 : Int32} {l2 : Int32} (H :
    am_X ru am_Lx IX0_begin (d + 1) 40 [some (.ref 28), some (.int l1), some (.int l2), some (.int (0 : Int32))] [] (wS (wS (wS σ 28 8 (if (0 : Int32) < (if (Int32.ofNat 3) < l1 then (Int32.ofNat 3) else l1) then (if (Int32.ofNat 3) < l1 then (Int32.ofNat 3) else l1) else (0 : Int32))) 28 9 (if (0 : Int32) < (if (gS σ 28 0) < l2 then (gS σ 28 0) else l2) then (if (gS σ 28 0) < l2 then (gS σ 28 0) else l2) else (0 : Int32))) 28 11 (0 : Int32)) Q) : am_K ru am_Lx IX0_begin (d + 1) [.ref 28, .int l1, .int l2] σ Q := K_of am_owX0_begin (Nat.le_of_ble_eq_true rfl) (X_go (fun _ _ => blX0_begin_28_0) H)
set_option maxRecDepth 20000 in
theorem vX0_begin_28_40 {d : Nat} {σ : am_S} {Q : Unit → am_S → Prop} {l1 : Int32} {l2 : Int32} {l3 : Int32} (H :
    ((Int32.ofNat 18) ≤ l3 →
      Q () σ) ∧
    (¬ (Int32.ofNat 18) ≤ l3 →
      (vp_in l3 18) ∧
      am_X ru am_Lx IX0_begin (d + 1) 40 [some (.ref 28), some (.int l1), some (.int l2), some (.int (l3 + (1 : Int32)))] [] (wA σ 29 (l3).toNatClampNeg (0 : Int32)) Q)) : am_X ru am_Lx IX0_begin (d + 1) 40 [some (.ref 28), some (.int l1), some (.int l2), some (.int l3)] [] σ Q := (X_if (fun _ _ => blX0_begin_28_40) (fun z0 => (X_ret (fun _ _ => blX0_begin_28_62) (H.1 z0))) (fun z0 => (X_go (fun _ _ => blX0_begin_28_49 (H.2 z0).1) (H.2 z0).2)))
set_option maxRecDepth 20000 in
theorem vX0_begin_36 {d : Nat} {σ : am_S} {Q : Unit → am_S → Prop} {l1 : Int32} {l2 : Int32} (H :
    am_X ru am_Lx IX0_begin (d + 1) 40 [some (.ref 36), some (.int l1), some (.int l2), some (.int (0 : Int32))] [] (wS (wS (wS σ 36 8 (if (0 : Int32) < (if (Int32.ofNat 1) < l1 then (Int32.ofNat 1) else l1) then (if (Int32.ofNat 1) < l1 then (Int32.ofNat 1) else l1) else (0 : Int32))) 36 9 (if (0 : Int32) < (if (gS σ 36 0) < l2 then (gS σ 36 0) else l2) then (if (gS σ 36 0) < l2 then (gS σ 36 0) else l2) else (0 : Int32))) 36 11 (0 : Int32)) Q) : am_K ru am_Lx IX0_begin (d + 1) [.ref 36, .int l1, .int l2] σ Q := K_of am_owX0_begin (Nat.le_of_ble_eq_true rfl) (X_go (fun _ _ => blX0_begin_36_0) H)
set_option maxRecDepth 20000 in
theorem vX0_begin_36_40 {d : Nat} {σ : am_S} {Q : Unit → am_S → Prop} {l1 : Int32} {l2 : Int32} {l3 : Int32} (H :
    ((Int32.ofNat 16) ≤ l3 →
      Q () σ) ∧
    (¬ (Int32.ofNat 16) ≤ l3 →
      (vp_in l3 16) ∧
      am_X ru am_Lx IX0_begin (d + 1) 40 [some (.ref 36), some (.int l1), some (.int l2), some (.int (l3 + (1 : Int32)))] [] (wA σ 37 (l3).toNatClampNeg (0 : Int32)) Q)) : am_X ru am_Lx IX0_begin (d + 1) 40 [some (.ref 36), some (.int l1), some (.int l2), some (.int l3)] [] σ Q := (X_if (fun _ _ => blX0_begin_36_40) (fun z0 => (X_ret (fun _ _ => blX0_begin_36_62) (H.1 z0))) (fun z0 => (X_go (fun _ _ => blX0_begin_36_49 (H.2 z0).1) (H.2 z0).2)))
set_option maxRecDepth 20000 in
theorem vX0_hasNumber_28 {d : Nat} {σ : am_S} {Q : Int32 → am_S → Prop} {l1 : Int32} {l2 : Int32} (H :
    (l1 < 0 →
      Q (0 : Int32) σ) ∧
    (¬ l1 < 0 →
      ((gS σ 28 8) ≤ l1 →
        Q (0 : Int32) σ) ∧
      (¬ (gS σ 28 8) ≤ l1 →
        (l2 < 0 →
          Q (0 : Int32) σ) ∧
        (¬ l2 < 0 →
          ((gS σ 28 9) ≤ l2 →
            Q (0 : Int32) σ) ∧
          (¬ (gS σ 28 9) ≤ l2 →
            Q (1 : Int32) σ))))) : am_K ri am_Lx IX0_hasNumber (d + 1) [.ref 28, .int l1, .int l2] σ Q := K_of am_owX0_hasNumber (Nat.le_of_ble_eq_true rfl) (X_if (fun _ _ => blX0_hasNumber_28_0) (fun z0 => (X_go (fun _ _ => blX0_hasNumber_28_28) (X_ret (fun _ _ => blX0_hasNumber_28_29 (Or.inl rfl)) (H.1 z0)))) (fun z0 => (X_if (fun _ _ => blX0_hasNumber_28_4) (fun z1 => (X_go (fun _ _ => blX0_hasNumber_28_28) (X_ret (fun _ _ => blX0_hasNumber_28_29 (Or.inl rfl)) ((H.2 z0).1 z1)))) (fun z1 => (X_if (fun _ _ => blX0_hasNumber_28_12) (fun z2 => (X_go (fun _ _ => blX0_hasNumber_28_28) (X_ret (fun _ _ => blX0_hasNumber_28_29 (Or.inl rfl)) (((H.2 z0).2 z1).1 z2)))) (fun z2 => (X_if (fun _ _ => blX0_hasNumber_28_16) (fun z3 => (X_go (fun _ _ => blX0_hasNumber_28_28) (X_ret (fun _ _ => blX0_hasNumber_28_29 (Or.inl rfl)) ((((H.2 z0).2 z1).2 z2).1 z3)))) (fun z3 => (X_go (fun _ _ => blX0_hasNumber_28_24) (X_ret (fun _ _ => blX0_hasNumber_28_29 (Or.inr rfl)) ((((H.2 z0).2 z1).2 z2).2 z3)))))))))))
set_option maxRecDepth 20000 in
theorem vX0_hasNumber_36 {d : Nat} {σ : am_S} {Q : Int32 → am_S → Prop} {l1 : Int32} {l2 : Int32} (H :
    (l1 < 0 →
      Q (0 : Int32) σ) ∧
    (¬ l1 < 0 →
      ((gS σ 36 8) ≤ l1 →
        Q (0 : Int32) σ) ∧
      (¬ (gS σ 36 8) ≤ l1 →
        (l2 < 0 →
          Q (0 : Int32) σ) ∧
        (¬ l2 < 0 →
          ((gS σ 36 9) ≤ l2 →
            Q (0 : Int32) σ) ∧
          (¬ (gS σ 36 9) ≤ l2 →
            Q (1 : Int32) σ))))) : am_K ri am_Lx IX0_hasNumber (d + 1) [.ref 36, .int l1, .int l2] σ Q := K_of am_owX0_hasNumber (Nat.le_of_ble_eq_true rfl) (X_if (fun _ _ => blX0_hasNumber_36_0) (fun z0 => (X_go (fun _ _ => blX0_hasNumber_36_28) (X_ret (fun _ _ => blX0_hasNumber_36_29 (Or.inl rfl)) (H.1 z0)))) (fun z0 => (X_if (fun _ _ => blX0_hasNumber_36_4) (fun z1 => (X_go (fun _ _ => blX0_hasNumber_36_28) (X_ret (fun _ _ => blX0_hasNumber_36_29 (Or.inl rfl)) ((H.2 z0).1 z1)))) (fun z1 => (X_if (fun _ _ => blX0_hasNumber_36_12) (fun z2 => (X_go (fun _ _ => blX0_hasNumber_36_28) (X_ret (fun _ _ => blX0_hasNumber_36_29 (Or.inl rfl)) (((H.2 z0).2 z1).1 z2)))) (fun z2 => (X_if (fun _ _ => blX0_hasNumber_36_16) (fun z3 => (X_go (fun _ _ => blX0_hasNumber_36_28) (X_ret (fun _ _ => blX0_hasNumber_36_29 (Or.inl rfl)) ((((H.2 z0).2 z1).2 z2).1 z3)))) (fun z3 => (X_go (fun _ _ => blX0_hasNumber_36_24) (X_ret (fun _ _ => blX0_hasNumber_36_29 (Or.inr rfl)) ((((H.2 z0).2 z1).2 z2).2 z3)))))))))))
set_option maxRecDepth 20000 in
theorem vX0_changed_28 {d : Nat} {σ : am_S} {Q : Int32 → am_S → Prop} {l1 : Int32} {l2 : Int32} {l3 : Int32} (H :
    (vp_in ((l1 * (gS σ 28 0)) + l2) 18) ∧
    (vp_in ((l1 * (gS σ 28 0)) + l2) 18) ∧
    Q (gA σ 29 (((l1 * (gS σ 28 0)) + l2)).toNatClampNeg) (wS (wA σ 29 (((l1 * (gS σ 28 0)) + l2)).toNatClampNeg l3) 28 11 (0 : Int32))) : am_K ri am_Lx IX0_changed (d + 1) [.ref 28, .int l1, .int l2, .int l3] σ Q := K_of am_owX0_changed (Nat.le_of_ble_eq_true rfl) (X_ret (fun _ _ => blX0_changed_28_0 H.1 H.2.1) H.2.2)
set_option maxRecDepth 20000 in
theorem vX0_changed_36 {d : Nat} {σ : am_S} {Q : Int32 → am_S → Prop} {l1 : Int32} {l2 : Int32} {l3 : Int32} (H :
    (vp_in ((l1 * (gS σ 36 0)) + l2) 16) ∧
    (vp_in ((l1 * (gS σ 36 0)) + l2) 16) ∧
    Q (gA σ 37 (((l1 * (gS σ 36 0)) + l2)).toNatClampNeg) (wS (wA σ 37 (((l1 * (gS σ 36 0)) + l2)).toNatClampNeg l3) 36 11 (0 : Int32))) : am_K ri am_Lx IX0_changed (d + 1) [.ref 36, .int l1, .int l2, .int l3] σ Q := K_of am_owX0_changed (Nat.le_of_ble_eq_true rfl) (X_ret (fun _ _ => blX0_changed_36_0 H.1 H.2.1) H.2.2)
set_option maxRecDepth 20000 in
theorem vX0_has_28 {d : Nat} {σ : am_S} {Q : Int32 → am_S → Prop} {l1 : Int32} {l2 : Int32} (H :
    (l1 < 0 →
      Q (0 : Int32) σ) ∧
    (¬ l1 < 0 →
      ((gS σ 28 11) ≤ l1 →
        Q (0 : Int32) σ) ∧
      (¬ (gS σ 28 11) ≤ l1 →
        (l2 < 0 →
          Q (0 : Int32) σ) ∧
        (¬ l2 < 0 →
          ((gS σ 28 9) ≤ l2 →
            Q (0 : Int32) σ) ∧
          (¬ (gS σ 28 9) ≤ l2 →
            Q (1 : Int32) σ))))) : am_K ri am_Lx IX0_has (d + 1) [.ref 28, .int l1, .int l2] σ Q := K_of am_owX0_has (Nat.le_of_ble_eq_true rfl) (X_if (fun _ _ => blX0_has_28_0) (fun z0 => (X_go (fun _ _ => blX0_has_28_28) (X_ret (fun _ _ => blX0_has_28_29 (Or.inl rfl)) (H.1 z0)))) (fun z0 => (X_if (fun _ _ => blX0_has_28_4) (fun z1 => (X_go (fun _ _ => blX0_has_28_28) (X_ret (fun _ _ => blX0_has_28_29 (Or.inl rfl)) ((H.2 z0).1 z1)))) (fun z1 => (X_if (fun _ _ => blX0_has_28_12) (fun z2 => (X_go (fun _ _ => blX0_has_28_28) (X_ret (fun _ _ => blX0_has_28_29 (Or.inl rfl)) (((H.2 z0).2 z1).1 z2)))) (fun z2 => (X_if (fun _ _ => blX0_has_28_16) (fun z3 => (X_go (fun _ _ => blX0_has_28_28) (X_ret (fun _ _ => blX0_has_28_29 (Or.inl rfl)) ((((H.2 z0).2 z1).2 z2).1 z3)))) (fun z3 => (X_go (fun _ _ => blX0_has_28_24) (X_ret (fun _ _ => blX0_has_28_29 (Or.inr rfl)) ((((H.2 z0).2 z1).2 z2).2 z3)))))))))))
set_option maxRecDepth 20000 in
theorem vX0_has_36 {d : Nat} {σ : am_S} {Q : Int32 → am_S → Prop} {l1 : Int32} {l2 : Int32} (H :
    (l1 < 0 →
      Q (0 : Int32) σ) ∧
    (¬ l1 < 0 →
      ((gS σ 36 11) ≤ l1 →
        Q (0 : Int32) σ) ∧
      (¬ (gS σ 36 11) ≤ l1 →
        (l2 < 0 →
          Q (0 : Int32) σ) ∧
        (¬ l2 < 0 →
          ((gS σ 36 9) ≤ l2 →
            Q (0 : Int32) σ) ∧
          (¬ (gS σ 36 9) ≤ l2 →
            Q (1 : Int32) σ))))) : am_K ri am_Lx IX0_has (d + 1) [.ref 36, .int l1, .int l2] σ Q := K_of am_owX0_has (Nat.le_of_ble_eq_true rfl) (X_if (fun _ _ => blX0_has_36_0) (fun z0 => (X_go (fun _ _ => blX0_has_36_28) (X_ret (fun _ _ => blX0_has_36_29 (Or.inl rfl)) (H.1 z0)))) (fun z0 => (X_if (fun _ _ => blX0_has_36_4) (fun z1 => (X_go (fun _ _ => blX0_has_36_28) (X_ret (fun _ _ => blX0_has_36_29 (Or.inl rfl)) ((H.2 z0).1 z1)))) (fun z1 => (X_if (fun _ _ => blX0_has_36_12) (fun z2 => (X_go (fun _ _ => blX0_has_36_28) (X_ret (fun _ _ => blX0_has_36_29 (Or.inl rfl)) (((H.2 z0).2 z1).1 z2)))) (fun z2 => (X_if (fun _ _ => blX0_has_36_16) (fun z3 => (X_go (fun _ _ => blX0_has_36_28) (X_ret (fun _ _ => blX0_has_36_29 (Or.inl rfl)) ((((H.2 z0).2 z1).2 z2).1 z3)))) (fun z3 => (X_go (fun _ _ => blX0_has_36_24) (X_ret (fun _ _ => blX0_has_36_29 (Or.inr rfl)) ((((H.2 z0).2 z1).2 z2).2 z3)))))))))))
set_option maxRecDepth 20000 in
theorem vX0_given_28 {d : Nat} {σ : am_S} {Q : Int32 → am_S → Prop} {l1 : Int32} {l2 : Int32} (H :
    (vp_in ((l1 * (gS σ 28 0)) + l2) 600) ∧
    Q (gA σ 34 (((l1 * (gS σ 28 0)) + l2)).toNatClampNeg) σ) : am_K ri am_Lx IX0_given (d + 1) [.ref 28, .int l1, .int l2] σ Q := K_of am_owX0_given (Nat.le_of_ble_eq_true rfl) (X_ret (fun _ _ => blX0_given_28_0 H.1) H.2)
set_option maxRecDepth 20000 in
theorem vX0_given_36 {d : Nat} {σ : am_S} {Q : Int32 → am_S → Prop} {l1 : Int32} {l2 : Int32} (H :
    (vp_in ((l1 * (gS σ 36 0)) + l2) 256) ∧
    Q (gA σ 42 (((l1 * (gS σ 36 0)) + l2)).toNatClampNeg) σ) : am_K ri am_Lx IX0_given (d + 1) [.ref 36, .int l1, .int l2] σ Q := K_of am_owX0_given (Nat.le_of_ble_eq_true rfl) (X_ret (fun _ _ => blX0_given_36_0 H.1) H.2)
set_option maxRecDepth 20000 in
theorem vX0_found_28 {d : Nat} {σ : am_S} {Q : Int32 → am_S → Prop} {l1 : Int32} (H :
    am_X ri am_Lx IX0_found (d + 1) 12 [some (.ref 28), some (.int l1), some (.int (0 : Int32))] [] (wS (wS σ 28 11 (0 : Int32)) 28 10 l1) Q) : am_K ri am_Lx IX0_found (d + 1) [.ref 28, .int l1] σ Q := K_of am_owX0_found (Nat.le_of_ble_eq_true rfl) (X_go (fun _ _ => blX0_found_28_0) H)
set_option maxRecDepth 20000 in
theorem vX0_found_28_12 {d : Nat} {σ : am_S} {Q : Int32 → am_S → Prop} {l1 : Int32} {l2 : Int32} (H :
    ((gS σ 28 8) ≤ l2 →
      am_X ri am_Lx IX0_found (d + 1) 40 [some (.ref 28), some (.int l1), some (.int (0 : Int32))] [] σ Q) ∧
    (¬ (gS σ 28 8) ≤ l2 →
      (vp_in l2 3) ∧
      am_K ru am_Lx IX0_findBounds d [.ref 28, .int l2] (wA σ 32 (l2).toNatClampNeg (0 : Int32)) (fun _ σ1 =>
        am_X ri am_Lx IX0_found (d + 1) 12 [some (.ref 28), some (.int l1), some (.int (l2 + (1 : Int32)))] [] σ1 Q))) : am_X ri am_Lx IX0_found (d + 1) 12 [some (.ref 28), some (.int l1), some (.int l2)] [] σ Q := (X_if (fun _ _ => blX0_found_28_12) (fun z0 => (X_go (fun _ _ => blX0_found_28_38) (H.1 z0))) (fun z0 => (X_call (fun _ _ _ _ => blX0_found_28_20 (H.2 z0).1) (K_mono (H.2 z0).2 (fun _ σ1 q1 => (X_go (fun _ _ => blX0_found_28_32) q1))))))
set_option maxRecDepth 20000 in
theorem vX0_found_28_40 {d : Nat} {σ : am_S} {Q : Int32 → am_S → Prop} {l1 : Int32} {l2 : Int32} (H :
    ((gS σ 28 0) ≤ l2 →
      am_K ru am_Lx IX0_search d [.ref 28, .int (0 : Int32), .int (gS σ 28 10)] σ (fun _ σ1 =>
        ((gS σ1 28 11) ≤ (gS σ1 28 1) →
          Q (gS σ1 28 11) σ1) ∧
        (¬ (gS σ1 28 11) ≤ (gS σ1 28 1) →
          Q (-4 : Int32) (wS σ1 28 11 (0 : Int32))))) ∧
    (¬ (gS σ 28 0) ≤ l2 →
      (vp_in l2 6) ∧
      am_X ri am_Lx IX0_found (d + 1) 40 [some (.ref 28), some (.int l1), some (.int (l2 + (1 : Int32)))] [] (wA σ 33 (l2).toNatClampNeg (0 : Int32)) Q)) : am_X ri am_Lx IX0_found (d + 1) 40 [some (.ref 28), some (.int l1), some (.int l2)] [] σ Q := (X_if (fun _ _ => blX0_found_28_40) (fun z0 => (X_call (fun _ _ _ _ => blX0_found_28_61) (K_mono (H.1 z0) (fun _ σ1 q1 => (X_if (fun _ _ => blX0_found_28_70) (fun z2 => (X_ret (fun _ _ => blX0_found_28_89) (q1.1 z2))) (fun z2 => (X_ret (fun _ _ => blX0_found_28_81) (q1.2 z2)))))))) (fun z0 => (X_go (fun _ _ => blX0_found_28_48 (H.2 z0).1) (H.2 z0).2)))
set_option maxRecDepth 20000 in
theorem vX0_found_36 {d : Nat} {σ : am_S} {Q : Int32 → am_S → Prop} {l1 : Int32} (H :
    am_X ri am_Lx IX0_found (d + 1) 12 [some (.ref 36), some (.int l1), some (.int (0 : Int32))] [] (wS (wS σ 36 11 (0 : Int32)) 36 10 l1) Q) : am_K ri am_Lx IX0_found (d + 1) [.ref 36, .int l1] σ Q := K_of am_owX0_found (Nat.le_of_ble_eq_true rfl) (X_go (fun _ _ => blX0_found_36_0) H)
set_option maxRecDepth 20000 in
theorem vX0_found_36_12 {d : Nat} {σ : am_S} {Q : Int32 → am_S → Prop} {l1 : Int32} {l2 : Int32} (H :
    ((gS σ 36 8) ≤ l2 →
      am_X ri am_Lx IX0_found (d + 1) 40 [some (.ref 36), some (.int l1), some (.int (0 : Int32))] [] σ Q) ∧
    (¬ (gS σ 36 8) ≤ l2 →
      (vp_in l2 1) ∧
      am_K ru am_Lx IX0_findBounds d [.ref 36, .int l2] (wA σ 40 (l2).toNatClampNeg (0 : Int32)) (fun _ σ1 =>
        am_X ri am_Lx IX0_found (d + 1) 12 [some (.ref 36), some (.int l1), some (.int (l2 + (1 : Int32)))] [] σ1 Q))) : am_X ri am_Lx IX0_found (d + 1) 12 [some (.ref 36), some (.int l1), some (.int l2)] [] σ Q := (X_if (fun _ _ => blX0_found_36_12) (fun z0 => (X_go (fun _ _ => blX0_found_36_38) (H.1 z0))) (fun z0 => (X_call (fun _ _ _ _ => blX0_found_36_20 (H.2 z0).1) (K_mono (H.2 z0).2 (fun _ σ1 q1 => (X_go (fun _ _ => blX0_found_36_32) q1))))))
set_option maxRecDepth 20000 in
theorem vX0_found_36_40 {d : Nat} {σ : am_S} {Q : Int32 → am_S → Prop} {l1 : Int32} {l2 : Int32} (H :
    ((gS σ 36 0) ≤ l2 →
      am_K ru am_Lx IX0_search d [.ref 36, .int (0 : Int32), .int (gS σ 36 10)] σ (fun _ σ1 =>
        ((gS σ1 36 11) ≤ (gS σ1 36 1) →
          Q (gS σ1 36 11) σ1) ∧
        (¬ (gS σ1 36 11) ≤ (gS σ1 36 1) →
          Q (-4 : Int32) (wS σ1 36 11 (0 : Int32))))) ∧
    (¬ (gS σ 36 0) ≤ l2 →
      (vp_in l2 16) ∧
      am_X ri am_Lx IX0_found (d + 1) 40 [some (.ref 36), some (.int l1), some (.int (l2 + (1 : Int32)))] [] (wA σ 41 (l2).toNatClampNeg (0 : Int32)) Q)) : am_X ri am_Lx IX0_found (d + 1) 40 [some (.ref 36), some (.int l1), some (.int l2)] [] σ Q := (X_if (fun _ _ => blX0_found_36_40) (fun z0 => (X_call (fun _ _ _ _ => blX0_found_36_61) (K_mono (H.1 z0) (fun _ σ1 q1 => (X_if (fun _ _ => blX0_found_36_70) (fun z2 => (X_ret (fun _ _ => blX0_found_36_89) (q1.1 z2))) (fun z2 => (X_ret (fun _ _ => blX0_found_36_81) (q1.2 z2)))))))) (fun z0 => (X_go (fun _ _ => blX0_found_36_48 (H.2 z0).1) (H.2 z0).2)))
set_option maxRecDepth 20000 in
theorem vX0_findBounds_28 {d : Nat} {σ : am_S} {Q : Unit → am_S → Prop} {l1 : Int32} (H :
    (vp_in ((l1 * ((gS σ 28 0) + (1 : Int32))) + (gS σ 28 9)) 21) ∧
    (vp_in ((l1 * ((gS σ 28 0) + (1 : Int32))) + (gS σ 28 9)) 21) ∧
    am_X ru am_Lx IX0_findBounds (d + 1) 35 [some (.ref 28), some (.int l1), some (.int ((l1 * ((gS σ 28 0) + (1 : Int32))) + (gS σ 28 9))), some (.int ((gS σ 28 9) - (1 : Int32))), none] [] (wA (wA σ 30 (((l1 * ((gS σ 28 0) + (1 : Int32))) + (gS σ 28 9))).toNatClampNeg (0 : Int32)) 31 (((l1 * ((gS σ 28 0) + (1 : Int32))) + (gS σ 28 9))).toNatClampNeg (0 : Int32)) Q) : am_K ru am_Lx IX0_findBounds (d + 1) [.ref 28, .int l1] σ Q := K_of am_owX0_findBounds (Nat.le_of_ble_eq_true rfl) (X_go (fun _ _ => blX0_findBounds_28_0 H.1 H.2.1) H.2.2)
set_option maxRecDepth 20000 in
theorem vX0_findBounds_28_35 {d : Nat} {σ : am_S} {Q : Unit → am_S → Prop} {l1 : Int32} {l2 : Int32} {l3 : Int32} (H :
    (l3 < 0 →
      Q () σ) ∧
    (¬ l3 < 0 →
      (vp_in ((l1 * (gS σ 28 0)) + l3) 18) ∧
      (vp_in ((l2 + (-1 : Int32)) + (1 : Int32)) 21) ∧
      (vp_in (l2 + (-1 : Int32)) 21) ∧
      (vp_in ((l2 + (-1 : Int32)) + (1 : Int32)) 21) ∧
      (vp_in (l2 + (-1 : Int32)) 21) ∧
      am_X ru am_Lx IX0_findBounds (d + 1) 35 [some (.ref 28), some (.int l1), some (.int (l2 + (-1 : Int32))), some (.int (l3 + (-1 : Int32))), none] [] (wA (wA σ 30 ((l2 + (-1 : Int32))).toNatClampNeg (if (gA σ 30 (((l2 + (-1 : Int32)) + (1 : Int32))).toNatClampNeg) < (gA σ 29 (((l1 * (gS σ 28 0)) + l3)).toNatClampNeg) then (gA σ 30 (((l2 + (-1 : Int32)) + (1 : Int32))).toNatClampNeg) else (gA σ 29 (((l1 * (gS σ 28 0)) + l3)).toNatClampNeg))) 31 ((l2 + (-1 : Int32))).toNatClampNeg (if (gA σ 29 (((l1 * (gS σ 28 0)) + l3)).toNatClampNeg) < (gA σ 31 (((l2 + (-1 : Int32)) + (1 : Int32))).toNatClampNeg) then (gA σ 31 (((l2 + (-1 : Int32)) + (1 : Int32))).toNatClampNeg) else (gA σ 29 (((l1 * (gS σ 28 0)) + l3)).toNatClampNeg))) Q)) : am_X ru am_Lx IX0_findBounds (d + 1) 35 [some (.ref 28), some (.int l1), some (.int l2), some (.int l3), none] [] σ Q := (X_if (fun _ _ => blX0_findBounds_28_35) (fun z0 => (X_ret (fun _ _ => blX0_findBounds_28_101) (H.1 z0))) (fun z0 => (X_go (fun _ _ => blX0_findBounds_28_39 (H.2 z0).1 (H.2 z0).2.1 (H.2 z0).2.2.1 (H.2 z0).2.2.2.1 (H.2 z0).2.2.2.2.1) (H.2 z0).2.2.2.2.2)))
set_option maxRecDepth 20000 in
theorem vX0_findBounds_36 {d : Nat} {σ : am_S} {Q : Unit → am_S → Prop} {l1 : Int32} (H :
    (vp_in ((l1 * ((gS σ 36 0) + (1 : Int32))) + (gS σ 36 9)) 17) ∧
    (vp_in ((l1 * ((gS σ 36 0) + (1 : Int32))) + (gS σ 36 9)) 17) ∧
    am_X ru am_Lx IX0_findBounds (d + 1) 35 [some (.ref 36), some (.int l1), some (.int ((l1 * ((gS σ 36 0) + (1 : Int32))) + (gS σ 36 9))), some (.int ((gS σ 36 9) - (1 : Int32))), none] [] (wA (wA σ 38 (((l1 * ((gS σ 36 0) + (1 : Int32))) + (gS σ 36 9))).toNatClampNeg (0 : Int32)) 39 (((l1 * ((gS σ 36 0) + (1 : Int32))) + (gS σ 36 9))).toNatClampNeg (0 : Int32)) Q) : am_K ru am_Lx IX0_findBounds (d + 1) [.ref 36, .int l1] σ Q := K_of am_owX0_findBounds (Nat.le_of_ble_eq_true rfl) (X_go (fun _ _ => blX0_findBounds_36_0 H.1 H.2.1) H.2.2)
set_option maxRecDepth 20000 in
theorem vX0_findBounds_36_35 {d : Nat} {σ : am_S} {Q : Unit → am_S → Prop} {l1 : Int32} {l2 : Int32} {l3 : Int32} (H :
    (l3 < 0 →
      Q () σ) ∧
    (¬ l3 < 0 →
      (vp_in ((l1 * (gS σ 36 0)) + l3) 16) ∧
      (vp_in ((l2 + (-1 : Int32)) + (1 : Int32)) 17) ∧
      (vp_in (l2 + (-1 : Int32)) 17) ∧
      (vp_in ((l2 + (-1 : Int32)) + (1 : Int32)) 17) ∧
      (vp_in (l2 + (-1 : Int32)) 17) ∧
      am_X ru am_Lx IX0_findBounds (d + 1) 35 [some (.ref 36), some (.int l1), some (.int (l2 + (-1 : Int32))), some (.int (l3 + (-1 : Int32))), none] [] (wA (wA σ 38 ((l2 + (-1 : Int32))).toNatClampNeg (if (gA σ 38 (((l2 + (-1 : Int32)) + (1 : Int32))).toNatClampNeg) < (gA σ 37 (((l1 * (gS σ 36 0)) + l3)).toNatClampNeg) then (gA σ 38 (((l2 + (-1 : Int32)) + (1 : Int32))).toNatClampNeg) else (gA σ 37 (((l1 * (gS σ 36 0)) + l3)).toNatClampNeg))) 39 ((l2 + (-1 : Int32))).toNatClampNeg (if (gA σ 37 (((l1 * (gS σ 36 0)) + l3)).toNatClampNeg) < (gA σ 39 (((l2 + (-1 : Int32)) + (1 : Int32))).toNatClampNeg) then (gA σ 39 (((l2 + (-1 : Int32)) + (1 : Int32))).toNatClampNeg) else (gA σ 37 (((l1 * (gS σ 36 0)) + l3)).toNatClampNeg))) Q)) : am_X ru am_Lx IX0_findBounds (d + 1) 35 [some (.ref 36), some (.int l1), some (.int l2), some (.int l3), none] [] σ Q := (X_if (fun _ _ => blX0_findBounds_36_35) (fun z0 => (X_ret (fun _ _ => blX0_findBounds_36_101) (H.1 z0))) (fun z0 => (X_go (fun _ _ => blX0_findBounds_36_39 (H.2 z0).1 (H.2 z0).2.1 (H.2 z0).2.2.1 (H.2 z0).2.2.2.1 (H.2 z0).2.2.2.2.1) (H.2 z0).2.2.2.2.2)))
set_option maxRecDepth 20000 in
theorem vX0_search_28 {d : Nat} {σ : am_S} {Q : Unit → am_S → Prop} {l1 : Int32} {l2 : Int32} (H :
    (l1 < (gS σ 28 9) →
      am_X ru am_Lx IX0_search (d + 1) 26 [some (.ref 28), some (.int l1), some (.int l2), some (.int (0 : Int32)), some (.int (0 : Int32))] [] σ Q) ∧
    (¬ l1 < (gS σ 28 9) →
      ((gS σ 28 10) ≤ l2 →
        Q () σ) ∧
      (¬ (gS σ 28 10) ≤ l2 →
        am_K ru am_Lx IX0_keep d [.ref 28] σ (fun _ σ1 =>
          Q () σ1)))) : am_K ru am_Lx IX0_search (d + 1) [.ref 28, .int l1, .int l2] σ Q := K_of am_owX0_search (Nat.le_of_ble_eq_true rfl) (X_if (fun _ _ => blX0_search_28_0) (fun z0 => (X_go (fun _ _ => blX0_search_28_21) (H.1 z0))) (fun z0 => (X_if (fun _ _ => blX0_search_28_8) (fun z1 => (X_ret (fun _ _ => blX0_search_28_20) ((H.2 z0).1 z1))) (fun z1 => (X_call (fun _ _ _ _ => blX0_search_28_16) (K_mono ((H.2 z0).2 z1) (fun _ σ1 q2 => (X_ret (fun _ _ => blX0_search_28_20) q2))))))))
set_option maxRecDepth 20000 in
theorem vX0_search_28_26 {d : Nat} {σ : am_S} {Q : Unit → am_S → Prop} {l1 : Int32} {l2 : Int32} {l3 : Int32} {l4 : Int32} (H :
    (¬ l3 = 0 →
      (vp_in l1 6) ∧
      am_K ru am_Lx IX0_change d [.ref 28, .int l1, .int (-(gA σ 33 (l1).toNatClampNeg))] σ (fun _ σ1 =>
        Q () σ1)) ∧
    (l3 = 0 →
      (l2 < l4 →
        (vp_in l1 6) ∧
        am_K ru am_Lx IX0_change d [.ref 28, .int l1, .int (-(gA σ 33 (l1).toNatClampNeg))] σ (fun _ σ2 =>
          Q () σ2)) ∧
      (¬ l2 < l4 →
        ((gS σ 28 1) < (gS σ 28 11) →
          (vp_in l1 6) ∧
          am_K ru am_Lx IX0_change d [.ref 28, .int l1, .int (-(gA σ 33 (l1).toNatClampNeg))] σ (fun _ σ3 =>
            Q () σ3)) ∧
        (¬ (gS σ 28 1) < (gS σ 28 11) →
          (l4 ≤ 0 →
            am_X ru am_Lx IX0_search (d + 1) 58 [some (.ref 28), some (.int l1), some (.int l2), some (.int l3), some (.int l4)] [] σ Q) ∧
          (¬ l4 ≤ 0 →
            am_K ru am_Lx IX0_change d [.ref 28, .int l1, .int (1 : Int32)] σ (fun _ σ4 =>
              am_X ru am_Lx IX0_search (d + 1) 58 [some (.ref 28), some (.int l1), some (.int l2), some (.int l3), some (.int l4)] [] σ4 Q)))))) : am_X ru am_Lx IX0_search (d + 1) 26 [some (.ref 28), some (.int l1), some (.int l2), some (.int l3), some (.int l4)] [] σ Q := (X_ifn (fun _ _ => blX0_search_28_26) (fun z0 => (X_call (fun _ _ _ _ => blX0_search_28_111 (H.1 z0).1) (K_mono (H.1 z0).2 (fun _ σ1 q1 => (X_ret (fun _ _ => blX0_search_28_123) q1))))) (fun z0 => (X_if (fun _ _ => blX0_search_28_30) (fun z1 => (X_call (fun _ _ _ _ => blX0_search_28_111 ((H.2 z0).1 z1).1) (K_mono ((H.2 z0).1 z1).2 (fun _ σ2 q2 => (X_ret (fun _ _ => blX0_search_28_123) q2))))) (fun z1 => (X_if (fun _ _ => blX0_search_28_36) (fun z2 => (X_call (fun _ _ _ _ => blX0_search_28_111 (((H.2 z0).2 z1).1 z2).1) (K_mono (((H.2 z0).2 z1).1 z2).2 (fun _ σ3 q3 => (X_ret (fun _ _ => blX0_search_28_123) q3))))) (fun z2 => (X_if (fun _ _ => blX0_search_28_47) (fun z3 => ((((H.2 z0).2 z1).2 z2).1 z3)) (fun z3 => (X_call (fun _ _ _ _ => blX0_search_28_52) (K_mono ((((H.2 z0).2 z1).2 z2).2 z3) (fun _ σ4 q4 => q4)))))))))))
set_option maxRecDepth 20000 in
theorem vX0_search_28_58 {d : Nat} {σ : am_S} {Q : Unit → am_S → Prop} {l1 : Int32} {l2 : Int32} {l3 : Int32} {l4 : Int32} (H :
    am_K ri am_Lx IX0_canEnd d [.ref 28, .int (l1 + (1 : Int32)), .int (l2 - l4)] σ (fun r1 σ1 =>
      (r1 = 0 →
        am_X ru am_Lx IX0_search (d + 1) 26 [some (.ref 28), some (.int l1), some (.int l2), some (.int l3), some (.int (l4 + (1 : Int32)))] [] σ1 Q) ∧
      (¬ r1 = 0 →
        (l4 ≤ 0 →
          am_K ru am_Lx IX0_search d [.ref 28, .int (l1 + (1 : Int32)), .int (l2 - l4)] σ1 (fun _ σ2 =>
            am_X ru am_Lx IX0_search (d + 1) 26 [some (.ref 28), some (.int l1), some (.int l2), some (.int (0 : Int32)), some (.int (l4 + (1 : Int32)))] [] σ2 Q)) ∧
        (¬ l4 ≤ 0 →
          am_K ri am_Lx IX0_isAboveOne d [.ref 28] σ1 (fun r3 σ3 =>
            (r3 = 0 →
              am_K ru am_Lx IX0_search d [.ref 28, .int (l1 + (1 : Int32)), .int (l2 - l4)] σ3 (fun _ σ4 =>
                am_X ru am_Lx IX0_search (d + 1) 26 [some (.ref 28), some (.int l1), some (.int l2), some (.int (0 : Int32)), some (.int (l4 + (1 : Int32)))] [] σ4 Q)) ∧
            (¬ r3 = 0 →
              am_X ru am_Lx IX0_search (d + 1) 26 [some (.ref 28), some (.int l1), some (.int l2), some (.int (1 : Int32)), some (.int (l4 + (1 : Int32)))] [] σ3 Q)))))) : am_X ru am_Lx IX0_search (d + 1) 58 [some (.ref 28), some (.int l1), some (.int l2), some (.int l3), some (.int l4)] [] σ Q := (X_call (fun _ _ _ _ => blX0_search_28_58) (K_mono H (fun r1 σ1 q0 => (X_if (fun _ _ => blX0_search_28_69) (fun z1 => (X_go (fun _ _ => blX0_search_28_105) (q0.1 z1))) (fun z1 => (X_if (fun _ _ => blX0_search_28_72) (fun z2 => (X_go (fun _ _ => blX0_search_28_88) (X_go (fun _ _ h => blX0_search_28_89 (fun z => absurd z (by decide)) (fun _ => h)) (X_call (fun _ _ _ _ => blX0_search_28_94) (K_mono ((q0.2 z1).1 z2) (fun _ σ2 q5 => (X_go (fun _ _ => blX0_search_28_105) q5))))))) (fun z2 => (X_call (fun _ _ _ _ => blX0_search_28_77) (K_mono ((q0.2 z1).2 z2) (fun r3 σ3 q3 => (X_if (fun _ _ => blX0_search_28_81) (fun z4 => (X_go (fun _ _ => blX0_search_28_88) (X_go (fun _ _ h => blX0_search_28_89 (fun z => absurd z (by decide)) (fun _ => h)) (X_call (fun _ _ _ _ => blX0_search_28_94) (K_mono (q3.1 z4) (fun _ σ4 q7 => (X_go (fun _ _ => blX0_search_28_105) q7))))))) (fun z4 => (X_go (fun _ _ => blX0_search_28_84) (X_go (fun _ _ h => blX0_search_28_89 (fun _ => h) (fun z => absurd z (by decide))) (X_go (fun _ _ => blX0_search_28_105) (q3.2 z4))))))))))))))))
set_option maxRecDepth 20000 in
theorem vX0_search_36 {d : Nat} {σ : am_S} {Q : Unit → am_S → Prop} {l1 : Int32} {l2 : Int32} (H :
    (l1 < (gS σ 36 9) →
      am_X ru am_Lx IX0_search (d + 1) 26 [some (.ref 36), some (.int l1), some (.int l2), some (.int (0 : Int32)), some (.int (0 : Int32))] [] σ Q) ∧
    (¬ l1 < (gS σ 36 9) →
      ((gS σ 36 10) ≤ l2 →
        Q () σ) ∧
      (¬ (gS σ 36 10) ≤ l2 →
        am_K ru am_Lx IX0_keep d [.ref 36] σ (fun _ σ1 =>
          Q () σ1)))) : am_K ru am_Lx IX0_search (d + 1) [.ref 36, .int l1, .int l2] σ Q := K_of am_owX0_search (Nat.le_of_ble_eq_true rfl) (X_if (fun _ _ => blX0_search_36_0) (fun z0 => (X_go (fun _ _ => blX0_search_36_21) (H.1 z0))) (fun z0 => (X_if (fun _ _ => blX0_search_36_8) (fun z1 => (X_ret (fun _ _ => blX0_search_36_20) ((H.2 z0).1 z1))) (fun z1 => (X_call (fun _ _ _ _ => blX0_search_36_16) (K_mono ((H.2 z0).2 z1) (fun _ σ1 q2 => (X_ret (fun _ _ => blX0_search_36_20) q2))))))))
set_option maxRecDepth 20000 in
theorem vX0_search_36_26 {d : Nat} {σ : am_S} {Q : Unit → am_S → Prop} {l1 : Int32} {l2 : Int32} {l3 : Int32} {l4 : Int32} (H :
    (¬ l3 = 0 →
      (vp_in l1 16) ∧
      am_K ru am_Lx IX0_change d [.ref 36, .int l1, .int (-(gA σ 41 (l1).toNatClampNeg))] σ (fun _ σ1 =>
        Q () σ1)) ∧
    (l3 = 0 →
      (l2 < l4 →
        (vp_in l1 16) ∧
        am_K ru am_Lx IX0_change d [.ref 36, .int l1, .int (-(gA σ 41 (l1).toNatClampNeg))] σ (fun _ σ2 =>
          Q () σ2)) ∧
      (¬ l2 < l4 →
        ((gS σ 36 1) < (gS σ 36 11) →
          (vp_in l1 16) ∧
          am_K ru am_Lx IX0_change d [.ref 36, .int l1, .int (-(gA σ 41 (l1).toNatClampNeg))] σ (fun _ σ3 =>
            Q () σ3)) ∧
        (¬ (gS σ 36 1) < (gS σ 36 11) →
          (l4 ≤ 0 →
            am_X ru am_Lx IX0_search (d + 1) 58 [some (.ref 36), some (.int l1), some (.int l2), some (.int l3), some (.int l4)] [] σ Q) ∧
          (¬ l4 ≤ 0 →
            am_K ru am_Lx IX0_change d [.ref 36, .int l1, .int (1 : Int32)] σ (fun _ σ4 =>
              am_X ru am_Lx IX0_search (d + 1) 58 [some (.ref 36), some (.int l1), some (.int l2), some (.int l3), some (.int l4)] [] σ4 Q)))))) : am_X ru am_Lx IX0_search (d + 1) 26 [some (.ref 36), some (.int l1), some (.int l2), some (.int l3), some (.int l4)] [] σ Q := (X_ifn (fun _ _ => blX0_search_36_26) (fun z0 => (X_call (fun _ _ _ _ => blX0_search_36_111 (H.1 z0).1) (K_mono (H.1 z0).2 (fun _ σ1 q1 => (X_ret (fun _ _ => blX0_search_36_123) q1))))) (fun z0 => (X_if (fun _ _ => blX0_search_36_30) (fun z1 => (X_call (fun _ _ _ _ => blX0_search_36_111 ((H.2 z0).1 z1).1) (K_mono ((H.2 z0).1 z1).2 (fun _ σ2 q2 => (X_ret (fun _ _ => blX0_search_36_123) q2))))) (fun z1 => (X_if (fun _ _ => blX0_search_36_36) (fun z2 => (X_call (fun _ _ _ _ => blX0_search_36_111 (((H.2 z0).2 z1).1 z2).1) (K_mono (((H.2 z0).2 z1).1 z2).2 (fun _ σ3 q3 => (X_ret (fun _ _ => blX0_search_36_123) q3))))) (fun z2 => (X_if (fun _ _ => blX0_search_36_47) (fun z3 => ((((H.2 z0).2 z1).2 z2).1 z3)) (fun z3 => (X_call (fun _ _ _ _ => blX0_search_36_52) (K_mono ((((H.2 z0).2 z1).2 z2).2 z3) (fun _ σ4 q4 => q4)))))))))))
set_option maxRecDepth 20000 in
theorem vX0_search_36_58 {d : Nat} {σ : am_S} {Q : Unit → am_S → Prop} {l1 : Int32} {l2 : Int32} {l3 : Int32} {l4 : Int32} (H :
    am_K ri am_Lx IX0_canEnd d [.ref 36, .int (l1 + (1 : Int32)), .int (l2 - l4)] σ (fun r1 σ1 =>
      (r1 = 0 →
        am_X ru am_Lx IX0_search (d + 1) 26 [some (.ref 36), some (.int l1), some (.int l2), some (.int l3), some (.int (l4 + (1 : Int32)))] [] σ1 Q) ∧
      (¬ r1 = 0 →
        (l4 ≤ 0 →
          am_K ru am_Lx IX0_search d [.ref 36, .int (l1 + (1 : Int32)), .int (l2 - l4)] σ1 (fun _ σ2 =>
            am_X ru am_Lx IX0_search (d + 1) 26 [some (.ref 36), some (.int l1), some (.int l2), some (.int (0 : Int32)), some (.int (l4 + (1 : Int32)))] [] σ2 Q)) ∧
        (¬ l4 ≤ 0 →
          am_K ri am_Lx IX0_isAboveOne d [.ref 36] σ1 (fun r3 σ3 =>
            (r3 = 0 →
              am_K ru am_Lx IX0_search d [.ref 36, .int (l1 + (1 : Int32)), .int (l2 - l4)] σ3 (fun _ σ4 =>
                am_X ru am_Lx IX0_search (d + 1) 26 [some (.ref 36), some (.int l1), some (.int l2), some (.int (0 : Int32)), some (.int (l4 + (1 : Int32)))] [] σ4 Q)) ∧
            (¬ r3 = 0 →
              am_X ru am_Lx IX0_search (d + 1) 26 [some (.ref 36), some (.int l1), some (.int l2), some (.int (1 : Int32)), some (.int (l4 + (1 : Int32)))] [] σ3 Q)))))) : am_X ru am_Lx IX0_search (d + 1) 58 [some (.ref 36), some (.int l1), some (.int l2), some (.int l3), some (.int l4)] [] σ Q := (X_call (fun _ _ _ _ => blX0_search_36_58) (K_mono H (fun r1 σ1 q0 => (X_if (fun _ _ => blX0_search_36_69) (fun z1 => (X_go (fun _ _ => blX0_search_36_105) (q0.1 z1))) (fun z1 => (X_if (fun _ _ => blX0_search_36_72) (fun z2 => (X_go (fun _ _ => blX0_search_36_88) (X_go (fun _ _ h => blX0_search_36_89 (fun z => absurd z (by decide)) (fun _ => h)) (X_call (fun _ _ _ _ => blX0_search_36_94) (K_mono ((q0.2 z1).1 z2) (fun _ σ2 q5 => (X_go (fun _ _ => blX0_search_36_105) q5))))))) (fun z2 => (X_call (fun _ _ _ _ => blX0_search_36_77) (K_mono ((q0.2 z1).2 z2) (fun r3 σ3 q3 => (X_if (fun _ _ => blX0_search_36_81) (fun z4 => (X_go (fun _ _ => blX0_search_36_88) (X_go (fun _ _ h => blX0_search_36_89 (fun z => absurd z (by decide)) (fun _ => h)) (X_call (fun _ _ _ _ => blX0_search_36_94) (K_mono (q3.1 z4) (fun _ σ4 q7 => (X_go (fun _ _ => blX0_search_36_105) q7))))))) (fun z4 => (X_go (fun _ _ => blX0_search_36_84) (X_go (fun _ _ h => blX0_search_36_89 (fun _ => h) (fun z => absurd z (by decide))) (X_go (fun _ _ => blX0_search_36_105) (q3.2 z4))))))))))))))))
set_option maxRecDepth 20000 in
theorem vX0_change_28 {d : Nat} {σ : am_S} {Q : Unit → am_S → Prop} {l1 : Int32} {l2 : Int32} (H :
    (vp_in l1 6) ∧
    (vp_in l1 6) ∧
    am_X ru am_Lx IX0_change (d + 1) 12 [some (.ref 28), some (.int l1), some (.int l2), some (.int (0 : Int32))] [] (wA σ 33 (l1).toNatClampNeg ((gA σ 33 (l1).toNatClampNeg) + l2)) Q) : am_K ru am_Lx IX0_change (d + 1) [.ref 28, .int l1, .int l2] σ Q := K_of am_owX0_change (Nat.le_of_ble_eq_true rfl) (X_go (fun _ _ => blX0_change_28_0 H.1 H.2.1) H.2.2)
set_option maxRecDepth 20000 in
theorem vX0_change_28_12 {d : Nat} {σ : am_S} {Q : Unit → am_S → Prop} {l1 : Int32} {l2 : Int32} {l3 : Int32} (H :
    ((gS σ 28 8) ≤ l3 →
      Q () σ) ∧
    (¬ (gS σ 28 8) ≤ l3 →
      (vp_in l3 3) ∧
      (vp_in ((l3 * (gS σ 28 0)) + l1) 18) ∧
      (vp_in l3 3) ∧
      am_X ru am_Lx IX0_change (d + 1) 12 [some (.ref 28), some (.int l1), some (.int l2), some (.int (l3 + (1 : Int32)))] [] (wA σ 32 (l3).toNatClampNeg ((gA σ 32 (l3).toNatClampNeg) + (l2 * (gA σ 29 (((l3 * (gS σ 28 0)) + l1)).toNatClampNeg)))) Q)) : am_X ru am_Lx IX0_change (d + 1) 12 [some (.ref 28), some (.int l1), some (.int l2), some (.int l3)] [] σ Q := (X_if (fun _ _ => blX0_change_28_12) (fun z0 => (X_ret (fun _ _ => blX0_change_28_50) (H.1 z0))) (fun z0 => (X_go (fun _ _ => blX0_change_28_20 (H.2 z0).1 (H.2 z0).2.1 (H.2 z0).2.2.1) (H.2 z0).2.2.2)))
set_option maxRecDepth 20000 in
theorem vX0_change_36 {d : Nat} {σ : am_S} {Q : Unit → am_S → Prop} {l1 : Int32} {l2 : Int32} (H :
    (vp_in l1 16) ∧
    (vp_in l1 16) ∧
    am_X ru am_Lx IX0_change (d + 1) 12 [some (.ref 36), some (.int l1), some (.int l2), some (.int (0 : Int32))] [] (wA σ 41 (l1).toNatClampNeg ((gA σ 41 (l1).toNatClampNeg) + l2)) Q) : am_K ru am_Lx IX0_change (d + 1) [.ref 36, .int l1, .int l2] σ Q := K_of am_owX0_change (Nat.le_of_ble_eq_true rfl) (X_go (fun _ _ => blX0_change_36_0 H.1 H.2.1) H.2.2)
set_option maxRecDepth 20000 in
theorem vX0_change_36_12 {d : Nat} {σ : am_S} {Q : Unit → am_S → Prop} {l1 : Int32} {l2 : Int32} {l3 : Int32} (H :
    ((gS σ 36 8) ≤ l3 →
      Q () σ) ∧
    (¬ (gS σ 36 8) ≤ l3 →
      (vp_in l3 1) ∧
      (vp_in ((l3 * (gS σ 36 0)) + l1) 16) ∧
      (vp_in l3 1) ∧
      am_X ru am_Lx IX0_change (d + 1) 12 [some (.ref 36), some (.int l1), some (.int l2), some (.int (l3 + (1 : Int32)))] [] (wA σ 40 (l3).toNatClampNeg ((gA σ 40 (l3).toNatClampNeg) + (l2 * (gA σ 37 (((l3 * (gS σ 36 0)) + l1)).toNatClampNeg)))) Q)) : am_X ru am_Lx IX0_change (d + 1) 12 [some (.ref 36), some (.int l1), some (.int l2), some (.int l3)] [] σ Q := (X_if (fun _ _ => blX0_change_36_12) (fun z0 => (X_ret (fun _ _ => blX0_change_36_50) (H.1 z0))) (fun z0 => (X_go (fun _ _ => blX0_change_36_20 (H.2 z0).1 (H.2 z0).2.1 (H.2 z0).2.2.1) (H.2 z0).2.2.2)))
set_option maxRecDepth 20000 in
theorem vX0_canEnd_28 {d : Nat} {σ : am_S} {Q : Int32 → am_S → Prop} {l1 : Int32} {l2 : Int32} (H :
    am_X ri am_Lx IX0_canEnd (d + 1) 5 [some (.ref 28), some (.int l1), some (.int l2), some (.int (1 : Int32)), some (.int (0 : Int32)), none] [] σ Q) : am_K ri am_Lx IX0_canEnd (d + 1) [.ref 28, .int l1, .int l2] σ Q := K_of am_owX0_canEnd (Nat.le_of_ble_eq_true rfl) (X_go (fun _ _ => blX0_canEnd_28_0) H)
set_option maxRecDepth 20000 in
theorem vX0_canEnd_28_5 {d : Nat} {σ : am_S} {Q : Int32 → am_S → Prop} {l1 : Int32} {l2 : Int32} {l3 : Int32} {l4 : Int32} (H :
    (l3 = 0 →
      (l3 = 0 ∨ l3 = 1) ∧ Q l3 σ) ∧
    (¬ l3 = 0 →
      ((gS σ 28 8) ≤ l4 →
        (l3 = 0 ∨ l3 = 1) ∧ Q l3 σ) ∧
      (¬ (gS σ 28 8) ≤ l4 →
        (vp_in l4 3) ∧
        (vp_in ((l4 * ((gS σ 28 0) + (1 : Int32))) + l1) 21) ∧
        (0 < ((gA σ 32 (l4).toNatClampNeg) + (l2 * (gA σ 30 (((l4 * ((gS σ 28 0) + (1 : Int32))) + l1)).toNatClampNeg))) →
          am_X ri am_Lx IX0_canEnd (d + 1) 5 [some (.ref 28), some (.int l1), some (.int l2), some (.int (0 : Int32)), some (.int (l4 + (1 : Int32))), none] [] σ Q) ∧
        (¬ 0 < ((gA σ 32 (l4).toNatClampNeg) + (l2 * (gA σ 30 (((l4 * ((gS σ 28 0) + (1 : Int32))) + l1)).toNatClampNeg))) →
          (vp_in l4 3) ∧
          (vp_in ((l4 * ((gS σ 28 0) + (1 : Int32))) + l1) 21) ∧
          (((gA σ 32 (l4).toNatClampNeg) + (l2 * (gA σ 31 (((l4 * ((gS σ 28 0) + (1 : Int32))) + l1)).toNatClampNeg))) < 0 →
            am_X ri am_Lx IX0_canEnd (d + 1) 5 [some (.ref 28), some (.int l1), some (.int l2), some (.int (0 : Int32)), some (.int (l4 + (1 : Int32))), none] [] σ Q) ∧
          (¬ ((gA σ 32 (l4).toNatClampNeg) + (l2 * (gA σ 31 (((l4 * ((gS σ 28 0) + (1 : Int32))) + l1)).toNatClampNeg))) < 0 →
            am_X ri am_Lx IX0_canEnd (d + 1) 5 [some (.ref 28), some (.int l1), some (.int l2), some (.int (1 : Int32)), some (.int (l4 + (1 : Int32))), none] [] σ Q))))) : am_X ri am_Lx IX0_canEnd (d + 1) 5 [some (.ref 28), some (.int l1), some (.int l2), some (.int l3), some (.int l4), none] [] σ Q := (X_if (fun _ _ => blX0_canEnd_28_5) (fun z0 => (X_ret (fun _ _ => blX0_canEnd_28_83 (H.1 z0).1) (H.1 z0).2)) (fun z0 => (X_if (fun _ _ => blX0_canEnd_28_9) (fun z1 => (X_ret (fun _ _ => blX0_canEnd_28_83 ((H.2 z0).1 z1).1) ((H.2 z0).1 z1).2)) (fun z1 => (X_if (fun _ _ => blX0_canEnd_28_18 ((H.2 z0).2 z1).1 ((H.2 z0).2 z1).2.1) (fun z2 => (X_go (fun _ _ => blX0_canEnd_28_75) (X_go (fun _ _ => blX0_canEnd_28_76) (((H.2 z0).2 z1).2.2.1 z2)))) (fun z2 => (X_if (fun _ _ => blX0_canEnd_28_51 (((H.2 z0).2 z1).2.2.2 z2).1 (((H.2 z0).2 z1).2.2.2 z2).2.1) (fun z3 => (X_go (fun _ _ => blX0_canEnd_28_75) (X_go (fun _ _ => blX0_canEnd_28_76) ((((H.2 z0).2 z1).2.2.2 z2).2.2.1 z3)))) (fun z3 => (X_go (fun _ _ => blX0_canEnd_28_71) (X_go (fun _ _ => blX0_canEnd_28_76) ((((H.2 z0).2 z1).2.2.2 z2).2.2.2 z3)))))))))))
set_option maxRecDepth 20000 in
theorem vX0_canEnd_36 {d : Nat} {σ : am_S} {Q : Int32 → am_S → Prop} {l1 : Int32} {l2 : Int32} (H :
    am_X ri am_Lx IX0_canEnd (d + 1) 5 [some (.ref 36), some (.int l1), some (.int l2), some (.int (1 : Int32)), some (.int (0 : Int32)), none] [] σ Q) : am_K ri am_Lx IX0_canEnd (d + 1) [.ref 36, .int l1, .int l2] σ Q := K_of am_owX0_canEnd (Nat.le_of_ble_eq_true rfl) (X_go (fun _ _ => blX0_canEnd_36_0) H)
set_option maxRecDepth 20000 in
theorem vX0_canEnd_36_5 {d : Nat} {σ : am_S} {Q : Int32 → am_S → Prop} {l1 : Int32} {l2 : Int32} {l3 : Int32} {l4 : Int32} (H :
    (l3 = 0 →
      (l3 = 0 ∨ l3 = 1) ∧ Q l3 σ) ∧
    (¬ l3 = 0 →
      ((gS σ 36 8) ≤ l4 →
        (l3 = 0 ∨ l3 = 1) ∧ Q l3 σ) ∧
      (¬ (gS σ 36 8) ≤ l4 →
        (vp_in l4 1) ∧
        (vp_in ((l4 * ((gS σ 36 0) + (1 : Int32))) + l1) 17) ∧
        (0 < ((gA σ 40 (l4).toNatClampNeg) + (l2 * (gA σ 38 (((l4 * ((gS σ 36 0) + (1 : Int32))) + l1)).toNatClampNeg))) →
          am_X ri am_Lx IX0_canEnd (d + 1) 5 [some (.ref 36), some (.int l1), some (.int l2), some (.int (0 : Int32)), some (.int (l4 + (1 : Int32))), none] [] σ Q) ∧
        (¬ 0 < ((gA σ 40 (l4).toNatClampNeg) + (l2 * (gA σ 38 (((l4 * ((gS σ 36 0) + (1 : Int32))) + l1)).toNatClampNeg))) →
          (vp_in l4 1) ∧
          (vp_in ((l4 * ((gS σ 36 0) + (1 : Int32))) + l1) 17) ∧
          (((gA σ 40 (l4).toNatClampNeg) + (l2 * (gA σ 39 (((l4 * ((gS σ 36 0) + (1 : Int32))) + l1)).toNatClampNeg))) < 0 →
            am_X ri am_Lx IX0_canEnd (d + 1) 5 [some (.ref 36), some (.int l1), some (.int l2), some (.int (0 : Int32)), some (.int (l4 + (1 : Int32))), none] [] σ Q) ∧
          (¬ ((gA σ 40 (l4).toNatClampNeg) + (l2 * (gA σ 39 (((l4 * ((gS σ 36 0) + (1 : Int32))) + l1)).toNatClampNeg))) < 0 →
            am_X ri am_Lx IX0_canEnd (d + 1) 5 [some (.ref 36), some (.int l1), some (.int l2), some (.int (1 : Int32)), some (.int (l4 + (1 : Int32))), none] [] σ Q))))) : am_X ri am_Lx IX0_canEnd (d + 1) 5 [some (.ref 36), some (.int l1), some (.int l2), some (.int l3), some (.int l4), none] [] σ Q := (X_if (fun _ _ => blX0_canEnd_36_5) (fun z0 => (X_ret (fun _ _ => blX0_canEnd_36_83 (H.1 z0).1) (H.1 z0).2)) (fun z0 => (X_if (fun _ _ => blX0_canEnd_36_9) (fun z1 => (X_ret (fun _ _ => blX0_canEnd_36_83 ((H.2 z0).1 z1).1) ((H.2 z0).1 z1).2)) (fun z1 => (X_if (fun _ _ => blX0_canEnd_36_18 ((H.2 z0).2 z1).1 ((H.2 z0).2 z1).2.1) (fun z2 => (X_go (fun _ _ => blX0_canEnd_36_75) (X_go (fun _ _ => blX0_canEnd_36_76) (((H.2 z0).2 z1).2.2.1 z2)))) (fun z2 => (X_if (fun _ _ => blX0_canEnd_36_51 (((H.2 z0).2 z1).2.2.2 z2).1 (((H.2 z0).2 z1).2.2.2 z2).2.1) (fun z3 => (X_go (fun _ _ => blX0_canEnd_36_75) (X_go (fun _ _ => blX0_canEnd_36_76) ((((H.2 z0).2 z1).2.2.2 z2).2.2.1 z3)))) (fun z3 => (X_go (fun _ _ => blX0_canEnd_36_71) (X_go (fun _ _ => blX0_canEnd_36_76) ((((H.2 z0).2 z1).2.2.2 z2).2.2.2 z3)))))))))))
set_option maxRecDepth 20000 in
theorem vX0_isAboveOne_28 {d : Nat} {σ : am_S} {Q : Int32 → am_S → Prop}  (H :
    am_X ri am_Lx IX0_isAboveOne (d + 1) 4 [some (.ref 28), some (.int (0 : Int32)), some (.int (0 : Int32)), none] [] σ Q) : am_K ri am_Lx IX0_isAboveOne (d + 1) [.ref 28] σ Q := K_of am_owX0_isAboveOne (Nat.le_of_ble_eq_true rfl) (X_go (fun _ _ => blX0_isAboveOne_28_0) H)
set_option maxRecDepth 20000 in
theorem vX0_isAboveOne_28_4 {d : Nat} {σ : am_S} {Q : Int32 → am_S → Prop} {l1 : Int32} {l2 : Int32} (H :
    (¬ l1 = 0 →
      (l1 = 0 ∨ l1 = 1) ∧ Q l1 σ) ∧
    (l1 = 0 →
      ((gS σ 28 11) ≤ l2 →
        (l1 = 0 ∨ l1 = 1) ∧ Q l1 σ) ∧
      (¬ (gS σ 28 11) ≤ l2 →
        ((gS σ 28 1) ≤ l2 →
          (l1 = 0 ∨ l1 = 1) ∧ Q l1 σ) ∧
        (¬ (gS σ 28 1) ≤ l2 →
          am_X ri am_Lx IX0_isAboveOne (d + 1) 28 [some (.ref 28), some (.int (1 : Int32)), some (.int l2), some (.int (0 : Int32))] [] σ Q)))) : am_X ri am_Lx IX0_isAboveOne (d + 1) 4 [some (.ref 28), some (.int l1), some (.int l2), none] [] σ Q := (X_ifn (fun _ _ => blX0_isAboveOne_28_4) (fun z0 => (X_ret (fun _ _ => blX0_isAboveOne_28_80 (H.1 z0).1) (H.1 z0).2)) (fun z0 => (X_if (fun _ _ => blX0_isAboveOne_28_8) (fun z1 => (X_ret (fun _ _ => blX0_isAboveOne_28_80 ((H.2 z0).1 z1).1) ((H.2 z0).1 z1).2)) (fun z1 => (X_if (fun _ _ => blX0_isAboveOne_28_16) (fun z2 => (X_ret (fun _ _ => blX0_isAboveOne_28_80 (((H.2 z0).2 z1).1 z2).1) (((H.2 z0).2 z1).1 z2).2)) (fun z2 => (X_go (fun _ _ => blX0_isAboveOne_28_24) (((H.2 z0).2 z1).2 z2))))))))
set_option maxRecDepth 20000 in
theorem vX0_isAboveOne_28_28 {d : Nat} {σ : am_S} {Q : Int32 → am_S → Prop} {l1 : Int32} {l2 : Int32} {l3 : Int32} (H :
    (l1 = 0 →
      am_X ri am_Lx IX0_isAboveOne (d + 1) 4 [some (.ref 28), some (.int l1), some (.int (l2 + (1 : Int32))), none] [] σ Q) ∧
    (¬ l1 = 0 →
      ((gS σ 28 9) ≤ l3 →
        am_X ri am_Lx IX0_isAboveOne (d + 1) 4 [some (.ref 28), some (.int l1), some (.int (l2 + (1 : Int32))), none] [] σ Q) ∧
      (¬ (gS σ 28 9) ≤ l3 →
        (vp_in ((l2 * (gS σ 28 0)) + l3) 600) ∧
        (vp_in l3 6) ∧
        ((gA σ 33 (l3).toNatClampNeg) < (gA σ 34 (((l2 * (gS σ 28 0)) + l3)).toNatClampNeg) →
          am_X ri am_Lx IX0_isAboveOne (d + 1) 28 [some (.ref 28), some (.int (0 : Int32)), some (.int l2), some (.int (l3 + (1 : Int32)))] [] σ Q) ∧
        (¬ (gA σ 33 (l3).toNatClampNeg) < (gA σ 34 (((l2 * (gS σ 28 0)) + l3)).toNatClampNeg) →
          am_X ri am_Lx IX0_isAboveOne (d + 1) 28 [some (.ref 28), some (.int (1 : Int32)), some (.int l2), some (.int (l3 + (1 : Int32)))] [] σ Q)))) : am_X ri am_Lx IX0_isAboveOne (d + 1) 28 [some (.ref 28), some (.int l1), some (.int l2), some (.int l3)] [] σ Q := (X_if (fun _ _ => blX0_isAboveOne_28_28) (fun z0 => (X_go (fun _ _ => blX0_isAboveOne_28_74) (H.1 z0))) (fun z0 => (X_if (fun _ _ => blX0_isAboveOne_28_32) (fun z1 => (X_go (fun _ _ => blX0_isAboveOne_28_74) ((H.2 z0).1 z1))) (fun z1 => (X_if (fun _ _ => blX0_isAboveOne_28_40 ((H.2 z0).2 z1).1 ((H.2 z0).2 z1).2.1) (fun z2 => (X_go (fun _ _ => blX0_isAboveOne_28_66) (X_go (fun _ _ => blX0_isAboveOne_28_67) (((H.2 z0).2 z1).2.2.1 z2)))) (fun z2 => (X_go (fun _ _ => blX0_isAboveOne_28_62) (X_go (fun _ _ => blX0_isAboveOne_28_67) (((H.2 z0).2 z1).2.2.2 z2)))))))))
set_option maxRecDepth 20000 in
theorem vX0_isAboveOne_36 {d : Nat} {σ : am_S} {Q : Int32 → am_S → Prop}  (H :
    am_X ri am_Lx IX0_isAboveOne (d + 1) 4 [some (.ref 36), some (.int (0 : Int32)), some (.int (0 : Int32)), none] [] σ Q) : am_K ri am_Lx IX0_isAboveOne (d + 1) [.ref 36] σ Q := K_of am_owX0_isAboveOne (Nat.le_of_ble_eq_true rfl) (X_go (fun _ _ => blX0_isAboveOne_36_0) H)
set_option maxRecDepth 20000 in
theorem vX0_isAboveOne_36_4 {d : Nat} {σ : am_S} {Q : Int32 → am_S → Prop} {l1 : Int32} {l2 : Int32} (H :
    (¬ l1 = 0 →
      (l1 = 0 ∨ l1 = 1) ∧ Q l1 σ) ∧
    (l1 = 0 →
      ((gS σ 36 11) ≤ l2 →
        (l1 = 0 ∨ l1 = 1) ∧ Q l1 σ) ∧
      (¬ (gS σ 36 11) ≤ l2 →
        ((gS σ 36 1) ≤ l2 →
          (l1 = 0 ∨ l1 = 1) ∧ Q l1 σ) ∧
        (¬ (gS σ 36 1) ≤ l2 →
          am_X ri am_Lx IX0_isAboveOne (d + 1) 28 [some (.ref 36), some (.int (1 : Int32)), some (.int l2), some (.int (0 : Int32))] [] σ Q)))) : am_X ri am_Lx IX0_isAboveOne (d + 1) 4 [some (.ref 36), some (.int l1), some (.int l2), none] [] σ Q := (X_ifn (fun _ _ => blX0_isAboveOne_36_4) (fun z0 => (X_ret (fun _ _ => blX0_isAboveOne_36_80 (H.1 z0).1) (H.1 z0).2)) (fun z0 => (X_if (fun _ _ => blX0_isAboveOne_36_8) (fun z1 => (X_ret (fun _ _ => blX0_isAboveOne_36_80 ((H.2 z0).1 z1).1) ((H.2 z0).1 z1).2)) (fun z1 => (X_if (fun _ _ => blX0_isAboveOne_36_16) (fun z2 => (X_ret (fun _ _ => blX0_isAboveOne_36_80 (((H.2 z0).2 z1).1 z2).1) (((H.2 z0).2 z1).1 z2).2)) (fun z2 => (X_go (fun _ _ => blX0_isAboveOne_36_24) (((H.2 z0).2 z1).2 z2))))))))
set_option maxRecDepth 20000 in
theorem vX0_isAboveOne_36_28 {d : Nat} {σ : am_S} {Q : Int32 → am_S → Prop} {l1 : Int32} {l2 : Int32} {l3 : Int32} (H :
    (l1 = 0 →
      am_X ri am_Lx IX0_isAboveOne (d + 1) 4 [some (.ref 36), some (.int l1), some (.int (l2 + (1 : Int32))), none] [] σ Q) ∧
    (¬ l1 = 0 →
      ((gS σ 36 9) ≤ l3 →
        am_X ri am_Lx IX0_isAboveOne (d + 1) 4 [some (.ref 36), some (.int l1), some (.int (l2 + (1 : Int32))), none] [] σ Q) ∧
      (¬ (gS σ 36 9) ≤ l3 →
        (vp_in ((l2 * (gS σ 36 0)) + l3) 256) ∧
        (vp_in l3 16) ∧
        ((gA σ 41 (l3).toNatClampNeg) < (gA σ 42 (((l2 * (gS σ 36 0)) + l3)).toNatClampNeg) →
          am_X ri am_Lx IX0_isAboveOne (d + 1) 28 [some (.ref 36), some (.int (0 : Int32)), some (.int l2), some (.int (l3 + (1 : Int32)))] [] σ Q) ∧
        (¬ (gA σ 41 (l3).toNatClampNeg) < (gA σ 42 (((l2 * (gS σ 36 0)) + l3)).toNatClampNeg) →
          am_X ri am_Lx IX0_isAboveOne (d + 1) 28 [some (.ref 36), some (.int (1 : Int32)), some (.int l2), some (.int (l3 + (1 : Int32)))] [] σ Q)))) : am_X ri am_Lx IX0_isAboveOne (d + 1) 28 [some (.ref 36), some (.int l1), some (.int l2), some (.int l3)] [] σ Q := (X_if (fun _ _ => blX0_isAboveOne_36_28) (fun z0 => (X_go (fun _ _ => blX0_isAboveOne_36_74) (H.1 z0))) (fun z0 => (X_if (fun _ _ => blX0_isAboveOne_36_32) (fun z1 => (X_go (fun _ _ => blX0_isAboveOne_36_74) ((H.2 z0).1 z1))) (fun z1 => (X_if (fun _ _ => blX0_isAboveOne_36_40 ((H.2 z0).2 z1).1 ((H.2 z0).2 z1).2.1) (fun z2 => (X_go (fun _ _ => blX0_isAboveOne_36_66) (X_go (fun _ _ => blX0_isAboveOne_36_67) (((H.2 z0).2 z1).2.2.1 z2)))) (fun z2 => (X_go (fun _ _ => blX0_isAboveOne_36_62) (X_go (fun _ _ => blX0_isAboveOne_36_67) (((H.2 z0).2 z1).2.2.2 z2)))))))))
set_option maxRecDepth 20000 in
theorem vX0_keep_28 {d : Nat} {σ : am_S} {Q : Unit → am_S → Prop}  (H :
    ((gS σ 28 1) ≤ (gS σ 28 11) →
      Q () (wS σ 28 11 ((gS σ 28 11) + (1 : Int32)))) ∧
    (¬ (gS σ 28 1) ≤ (gS σ 28 11) →
      (¬ (0 : Int32) < 0) ∧
      (¬ ((gS σ 28 11) * (gS σ 28 0)) < 0) ∧
      (¬ (gS σ 28 9) < 0) ∧
      (((0 : Int32)).toNatClampNeg + ((gS σ 28 9)).toNatClampNeg ≤ 6) ∧
      ((((gS σ 28 11) * (gS σ 28 0))).toNatClampNeg + ((gS σ 28 9)).toNatClampNeg ≤ 600) ∧
      Q () (wS (wAf σ 34 (va_cpy (gA σ 33) (gA σ 34) ((0 : Int32)).toNatClampNeg (((gS σ 28 11) * (gS σ 28 0))).toNatClampNeg ((gS σ 28 9)).toNatClampNeg)) 28 11 ((gS σ 28 11) + (1 : Int32))))) : am_K ru am_Lx IX0_keep (d + 1) [.ref 28] σ Q := K_of am_owX0_keep (Nat.le_of_ble_eq_true rfl) (X_if (fun _ _ => blX0_keep_28_0) (fun z0 => (X_ret (fun _ _ => blX0_keep_28_36) (H.1 z0))) (fun z0 => (X_go (fun _ _ => blX0_keep_28_11 (H.2 z0).1 (H.2 z0).2.1 (H.2 z0).2.2.1 (H.2 z0).2.2.2.1 (H.2 z0).2.2.2.2.1) (X_ret (fun _ _ => blX0_keep_28_36) (H.2 z0).2.2.2.2.2))))
set_option maxRecDepth 20000 in
theorem vX0_keep_36 {d : Nat} {σ : am_S} {Q : Unit → am_S → Prop}  (H :
    ((gS σ 36 1) ≤ (gS σ 36 11) →
      Q () (wS σ 36 11 ((gS σ 36 11) + (1 : Int32)))) ∧
    (¬ (gS σ 36 1) ≤ (gS σ 36 11) →
      (¬ (0 : Int32) < 0) ∧
      (¬ ((gS σ 36 11) * (gS σ 36 0)) < 0) ∧
      (¬ (gS σ 36 9) < 0) ∧
      (((0 : Int32)).toNatClampNeg + ((gS σ 36 9)).toNatClampNeg ≤ 16) ∧
      ((((gS σ 36 11) * (gS σ 36 0))).toNatClampNeg + ((gS σ 36 9)).toNatClampNeg ≤ 256) ∧
      Q () (wS (wAf σ 42 (va_cpy (gA σ 41) (gA σ 42) ((0 : Int32)).toNatClampNeg (((gS σ 36 11) * (gS σ 36 0))).toNatClampNeg ((gS σ 36 9)).toNatClampNeg)) 36 11 ((gS σ 36 11) + (1 : Int32))))) : am_K ru am_Lx IX0_keep (d + 1) [.ref 36] σ Q := K_of am_owX0_keep (Nat.le_of_ble_eq_true rfl) (X_if (fun _ _ => blX0_keep_36_0) (fun z0 => (X_ret (fun _ _ => blX0_keep_36_36) (H.1 z0))) (fun z0 => (X_go (fun _ _ => blX0_keep_36_11 (H.2 z0).1 (H.2 z0).2.1 (H.2 z0).2.2.1 (H.2 z0).2.2.2.1 (H.2 z0).2.2.2.2.1) (X_ret (fun _ _ => blX0_keep_36_36) (H.2 z0).2.2.2.2.2))))
