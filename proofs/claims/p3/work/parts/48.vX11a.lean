set_option maxRecDepth 20000 in
theorem vX11_in {d : Nat} {σ : am_S} {Q : Int32 → am_S → Prop} {l0 : Int64} {l2 : Int64} {l4 : Int64} (H :
    ((lg_cmp l0 l2) < 0 →
      Q (0 : Int32) σ) ∧
    (¬ (lg_cmp l0 l2) < 0 →
      (0 < (lg_cmp l0 l4) →
        Q (0 : Int32) σ) ∧
      (¬ 0 < (lg_cmp l0 l4) →
        Q (1 : Int32) σ))) : am_K ri am_Lm IX11_in (d + 1) [.long l0, .long l2, .long l4] σ Q := K_of am_owX11_in (Nat.le_of_ble_eq_true rfl) (X_if (fun _ _ => blX11_in_0) (fun z0 => (X_go (fun _ _ => blX11_in_17) (X_ret (fun _ _ => blX11_in_18 (Or.inl rfl)) (H.1 z0)))) (fun z0 => (X_if (fun _ _ => blX11_in_6) (fun z1 => (X_go (fun _ _ => blX11_in_17) (X_ret (fun _ _ => blX11_in_18 (Or.inl rfl)) ((H.2 z0).1 z1)))) (fun z1 => (X_go (fun _ _ => blX11_in_13) (X_ret (fun _ _ => blX11_in_18 (Or.inr rfl)) ((H.2 z0).2 z1)))))))
set_option maxRecDepth 20000 in
theorem vX11_begin {d : Nat} {σ : am_S} {Q : Unit → am_S → Prop}  (H :
    (((0 : Int32) = 0 ∨ (0 : Int32) = 1)) ∧
    Q () (wS (wS (wS σ 0 4 (17280 : Int32)) 0 5 (0 : Int32)) 0 7 (0 : Int32))) : am_K ru am_Lm IX11_begin (d + 1) [.ref 0] σ Q := K_of am_owX11_begin (Nat.le_of_ble_eq_true rfl) (X_ret (fun _ _ => blX11_begin_0 H.1) H.2)
set_option maxRecDepth 20000 in
theorem vX11_copy {d : Nat} {σ : am_S} {Q : Unit → am_S → Prop} {l1 : Int32} {l2 : Int32} (H :
    (vp_in l1 70000) ∧
    am_X ru am_Lm IX11_copy (d + 1) 10 [some (.ref 0), some (.int l1), some (.int l2), some (.int (gA σ 4 (l1).toNatClampNeg)), some (.int (0 : Int32))] [] σ Q) : am_K ru am_Lm IX11_copy (d + 1) [.ref 0, .int l1, .int l2] σ Q := K_of am_owX11_copy (Nat.le_of_ble_eq_true rfl) (X_go (fun _ _ => blX11_copy_0 H.1) H.2)
set_option maxRecDepth 20000 in
theorem vX11_copy_10 {d : Nat} {σ : am_S} {Q : Unit → am_S → Prop} {l1 : Int32} {l2 : Int32} {l3 : Int32} {l4 : Int32} (H :
    (l3 ≤ l4 →
      Q () σ) ∧
    (¬ l3 ≤ l4 →
      (vp_in (l1 + l4) 70000) ∧
      (vp_in (l2 + l4) 70000) ∧
      (vp_in (l1 + l4) 70000) ∧
      (vp_in (l2 + l4) 70000) ∧
      (vp_in (l1 + l4) 70000) ∧
      (vp_in (l2 + l4) 70000) ∧
      (vp_in (l1 + l4) 70000) ∧
      (vp_in (l2 + l4) 70000) ∧
      am_X ru am_Lm IX11_copy (d + 1) 10 [some (.ref 0), some (.int l1), some (.int l2), some (.int l3), some (.int (l4 + (1 : Int32)))] [] (wA (wA (wA (wA σ 1 ((l2 + l4)).toNatClampNeg (gA σ 1 ((l1 + l4)).toNatClampNeg)) 2 ((l2 + l4)).toNatClampNeg (gA σ 2 ((l1 + l4)).toNatClampNeg)) 3 ((l2 + l4)).toNatClampNeg (gA σ 3 ((l1 + l4)).toNatClampNeg)) 4 ((l2 + l4)).toNatClampNeg (gA σ 4 ((l1 + l4)).toNatClampNeg)) Q)) : am_X ru am_Lm IX11_copy (d + 1) 10 [some (.ref 0), some (.int l1), some (.int l2), some (.int l3), some (.int l4)] [] σ Q := (X_if (fun _ _ => blX11_copy_10) (fun z0 => (X_ret (fun _ _ => blX11_copy_94) (H.1 z0))) (fun z0 => (X_go (fun _ _ => blX11_copy_16 (H.2 z0).1 (H.2 z0).2.1 (H.2 z0).2.2.1 (H.2 z0).2.2.2.1 (H.2 z0).2.2.2.2.1 (H.2 z0).2.2.2.2.2.1 (H.2 z0).2.2.2.2.2.2.1 (H.2 z0).2.2.2.2.2.2.2.1) (H.2 z0).2.2.2.2.2.2.2.2)))
set_option maxRecDepth 20000 in
theorem vX11_head {d : Nat} {σ : am_S} {Q : Int32 → am_S → Prop} {l1 : Int32} {l2 : Int32} {l3 : Int32} (H :
    (vp_in (gS σ 0 4) 70000) ∧
    (vp_in (gS σ 0 4) 70000) ∧
    (vp_in (gS σ 0 4) 70000) ∧
    (vp_in (gS σ 0 4) 70000) ∧
    Q (((gS σ 0 4) + (1 : Int32)) - (1 : Int32)) (wS (wA (wA (wA (wA σ 1 ((gS σ 0 4)).toNatClampNeg l1) 2 ((gS σ 0 4)).toNatClampNeg l2) 3 ((gS σ 0 4)).toNatClampNeg l3) 4 ((gS σ 0 4)).toNatClampNeg (1 : Int32)) 0 4 ((gS σ 0 4) + (1 : Int32)))) : am_K ri am_Lm IX11_head (d + 1) [.ref 0, .int l1, .int l2, .int l3] σ Q := K_of am_owX11_head (Nat.le_of_ble_eq_true rfl) (X_ret (fun _ _ => blX11_head_0 H.1 H.2.1 H.2.2.1 H.2.2.2.1) H.2.2.2.2)
set_option maxRecDepth 20000 in
theorem vX11_partAt {d : Nat} {σ : am_S} {Q : Int32 → am_S → Prop} {l1 : Int32} {l2 : Int32} (H :
    am_X ri am_Lm IX11_partAt (d + 1) 7 [some (.ref 0), some (.int l1), some (.int l2), some (.int (l1 + (1 : Int32))), some (.int (0 : Int32))] [] σ Q) : am_K ri am_Lm IX11_partAt (d + 1) [.ref 0, .int l1, .int l2] σ Q := K_of am_owX11_partAt (Nat.le_of_ble_eq_true rfl) (X_go (fun _ _ => blX11_partAt_0) H)
set_option maxRecDepth 20000 in
theorem vX11_partAt_7 {d : Nat} {σ : am_S} {Q : Int32 → am_S → Prop} {l1 : Int32} {l2 : Int32} {l3 : Int32} {l4 : Int32} (H :
    (l2 ≤ l4 →
      Q l3 σ) ∧
    (¬ l2 ≤ l4 →
      (vp_in l3 70000) ∧
      am_X ri am_Lm IX11_partAt (d + 1) 7 [some (.ref 0), some (.int l1), some (.int l2), some (.int (l3 + (gA σ 4 (l3).toNatClampNeg))), some (.int (l4 + (1 : Int32)))] [] σ Q)) : am_X ri am_Lm IX11_partAt (d + 1) 7 [some (.ref 0), some (.int l1), some (.int l2), some (.int l3), some (.int l4)] [] σ Q := (X_if (fun _ _ => blX11_partAt_7) (fun z0 => (X_ret (fun _ _ => blX11_partAt_28) (H.1 z0))) (fun z0 => (X_go (fun _ _ => blX11_partAt_13 (H.2 z0).1) (H.2 z0).2)))
set_option maxRecDepth 20000 in
theorem vX11_ordered {d : Nat} {σ : am_S} {Q : Int32 → am_S → Prop} {l1 : Int32} {l2 : Int32} (H :
    (vp_in l1 70000) ∧
    (vp_in l2 70000) ∧
    ((gA σ 1 (l1).toNatClampNeg) = (gA σ 1 (l2).toNatClampNeg) →
      (vp_in l1 70000) ∧
      (vp_in l2 70000) ∧
      ((gA σ 2 (l1).toNatClampNeg) = (gA σ 2 (l2).toNatClampNeg) →
        (vp_in l1 70000) ∧
        (vp_in l2 70000) ∧
        ((gA σ 3 (l1).toNatClampNeg) = (gA σ 3 (l2).toNatClampNeg) →
          am_X ri am_Lm IX11_ordered (d + 1) 99 [some (.ref 0), some (.int l1), some (.int l2), some (.int (l1 + (1 : Int32))), some (.int (l2 + (1 : Int32))), some (.int (0 : Int32)), none] [] σ Q) ∧
        (¬ (gA σ 3 (l1).toNatClampNeg) = (gA σ 3 (l2).toNatClampNeg) →
          (vp_in l1 70000) ∧
          (vp_in l2 70000) ∧
          Q ((gA σ 3 (l1).toNatClampNeg) - (gA σ 3 (l2).toNatClampNeg)) σ)) ∧
      (¬ (gA σ 2 (l1).toNatClampNeg) = (gA σ 2 (l2).toNatClampNeg) →
        (vp_in l1 70000) ∧
        (vp_in l2 70000) ∧
        Q ((gA σ 2 (l1).toNatClampNeg) - (gA σ 2 (l2).toNatClampNeg)) σ)) ∧
    (¬ (gA σ 1 (l1).toNatClampNeg) = (gA σ 1 (l2).toNatClampNeg) →
      (vp_in l1 70000) ∧
      (vp_in l2 70000) ∧
      Q ((gA σ 1 (l1).toNatClampNeg) - (gA σ 1 (l2).toNatClampNeg)) σ)) : am_K ri am_Lm IX11_ordered (d + 1) [.ref 0, .int l1, .int l2] σ Q := K_of am_owX11_ordered (Nat.le_of_ble_eq_true rfl) (X_if (fun _ _ => blX11_ordered_0 H.1 H.2.1) (fun z0 => (X_if (fun _ _ => blX11_ordered_29 (H.2.2.1 z0).1 (H.2.2.1 z0).2.1) (fun z1 => (X_if (fun _ _ => blX11_ordered_58 ((H.2.2.1 z0).2.2.1 z1).1 ((H.2.2.1 z0).2.2.1 z1).2.1) (fun z2 => (X_go (fun _ _ => blX11_ordered_87) (((H.2.2.1 z0).2.2.1 z1).2.2.1 z2))) (fun z2 => (X_ret (fun _ _ => blX11_ordered_73 (((H.2.2.1 z0).2.2.1 z1).2.2.2 z2).1 (((H.2.2.1 z0).2.2.1 z1).2.2.2 z2).2.1) (((H.2.2.1 z0).2.2.1 z1).2.2.2 z2).2.2)))) (fun z1 => (X_ret (fun _ _ => blX11_ordered_44 ((H.2.2.1 z0).2.2.2 z1).1 ((H.2.2.1 z0).2.2.2 z1).2.1) ((H.2.2.1 z0).2.2.2 z1).2.2)))) (fun z0 => (X_ret (fun _ _ => blX11_ordered_15 (H.2.2.2 z0).1 (H.2.2.2 z0).2.1) (H.2.2.2 z0).2.2)))
set_option maxRecDepth 20000 in
theorem vX11_ordered_99 {d : Nat} {σ : am_S} {Q : Int32 → am_S → Prop} {l1 : Int32} {l2 : Int32} {l3 : Int32} {l4 : Int32} {l5 : Int32} (H :
    (vp_in l1 70000) ∧
    ((gA σ 3 (l1).toNatClampNeg) ≤ l5 →
      Q (0 : Int32) σ) ∧
    (¬ (gA σ 3 (l1).toNatClampNeg) ≤ l5 →
      am_K ri am_Lm IX11_ordered d [.ref 0, .int l3, .int l4] σ (fun r1 σ1 =>
        (r1 = 0 →
          (vp_in l3 70000) ∧
          (vp_in l4 70000) ∧
          am_X ri am_Lm IX11_ordered (d + 1) 99 [some (.ref 0), some (.int l1), some (.int l2), some (.int (l3 + (gA σ1 4 (l3).toNatClampNeg))), some (.int (l4 + (gA σ1 4 (l4).toNatClampNeg))), some (.int (l5 + (1 : Int32))), none] [] σ1 Q) ∧
        (¬ r1 = 0 →
          Q r1 σ1)))) : am_X ri am_Lm IX11_ordered (d + 1) 99 [some (.ref 0), some (.int l1), some (.int l2), some (.int l3), some (.int l4), some (.int l5), none] [] σ Q := (X_if (fun _ _ => blX11_ordered_99 H.1) (fun z0 => (X_ret (fun _ _ => blX11_ordered_154) (H.2.1 z0))) (fun z0 => (X_call (fun _ _ _ _ => blX11_ordered_110) (K_mono (H.2.2 z0) (fun r1 σ1 q1 => (X_if (fun _ _ => blX11_ordered_117) (fun z2 => (X_go (fun _ _ => blX11_ordered_127 (q1.1 z2).1 (q1.1 z2).2.1) (q1.1 z2).2.2)) (fun z2 => (X_ret (fun _ _ => blX11_ordered_124) (q1.2 z2)))))))))
set_option maxRecDepth 20000 in
theorem vX11_put {d : Nat} {σ : am_S} {Q : Unit → am_S → Prop} {l1 : Int32} (H :
    ((20000 : Int32) ≤ (gS σ 0 7) →
      (((1 : Int32) = 0 ∨ (1 : Int32) = 1)) ∧
      Q () (wS σ 0 5 (1 : Int32))) ∧
    (¬ (20000 : Int32) ≤ (gS σ 0 7) →
      (vp_in (gS σ 0 7) 20000) ∧
      Q () (wS (wA σ 5 ((gS σ 0 7)).toNatClampNeg l1) 0 7 ((gS σ 0 7) + (1 : Int32))))) : am_K ru am_Lm IX11_put (d + 1) [.ref 0, .int l1] σ Q := K_of am_owX11_put (Nat.le_of_ble_eq_true rfl) (X_if (fun _ _ => blX11_put_0) (fun z0 => (X_go (fun _ _ => blX11_put_33 (H.1 z0).1) (X_ret (fun _ _ => blX11_put_38) (H.1 z0).2))) (fun z0 => (X_go (fun _ _ => blX11_put_10 (H.2 z0).1) (X_ret (fun _ _ => blX11_put_38) (H.2 z0).2))))
set_option maxRecDepth 20000 in
theorem vX11_made {d : Nat} {σ : am_S} {Q : Int32 → am_S → Prop} {l1 : Int32} {l2 : Int32} {l3 : Int32} (H :
    am_X ri am_Lm IX11_made (d + 1) 6 [some (.ref 0), some (.int l1), some (.int l2), some (.int l3), some (.int (1 : Int32)), some (.int l3), none] [] σ Q) : am_K ri am_Lm IX11_made (d + 1) [.ref 0, .int l1, .int l2, .int l3] σ Q := K_of am_owX11_made (Nat.le_of_ble_eq_true rfl) (X_go (fun _ _ => blX11_made_0) H)
set_option maxRecDepth 20000 in
theorem vX11_made_6 {d : Nat} {σ : am_S} {Q : Int32 → am_S → Prop} {l1 : Int32} {l2 : Int32} {l3 : Int32} {l4 : Int32} {l5 : Int32} (H :
    ((gS σ 0 7) ≤ l5 →
      (¬ (gS σ 0 5) = 0 →
        (((1 : Int32) = 0 ∨ (1 : Int32) = 1)) ∧
        Q (17280 : Int32) (wS (wS σ 0 5 (1 : Int32)) 0 7 l3)) ∧
      ((gS σ 0 5) = 0 →
        (((gS σ 0 4) + l4) ≤ (60000 : Int32) →
          (((0 : Int32) = 0 ∨ (0 : Int32) = 1)) ∧
          am_K ri am_Lm IX11_head d [.ref 0, .int l1, .int l2, .int ((gS σ 0 7) - l3)] (wS σ 0 5 (0 : Int32)) (fun r1 σ1 =>
            am_X ri am_Lm IX11_made (d + 1) 99 [some (.ref 0), some (.int l1), some (.int l2), some (.int l3), some (.int l4), some (.int r1), some (.int l3)] [] σ1 Q)) ∧
        (¬ ((gS σ 0 4) + l4) ≤ (60000 : Int32) →
          (((1 : Int32) = 0 ∨ (1 : Int32) = 1)) ∧
          Q (17280 : Int32) (wS (wS σ 0 5 (1 : Int32)) 0 7 l3)))) ∧
    (¬ (gS σ 0 7) ≤ l5 →
      (vp_in l5 20000) ∧
      (vp_in (gA σ 5 (l5).toNatClampNeg) 70000) ∧
      am_X ri am_Lm IX11_made (d + 1) 6 [some (.ref 0), some (.int l1), some (.int l2), some (.int l3), some (.int (l4 + (gA σ 4 ((gA σ 5 (l5).toNatClampNeg)).toNatClampNeg))), some (.int (l5 + (1 : Int32))), none] [] σ Q)) : am_X ri am_Lm IX11_made (d + 1) 6 [some (.ref 0), some (.int l1), some (.int l2), some (.int l3), some (.int l4), some (.int l5), none] [] σ Q := (X_if (fun _ _ => blX11_made_6) (fun z0 => (X_ifn (fun _ _ => blX11_made_38) (fun z1 => (X_go (fun _ _ => blX11_made_58) (X_go (fun _ _ h => blX11_made_63 ((H.1 z0).1 z1).1 (fun z => absurd z (by decide)) (fun _ => h)) (X_ret (fun _ _ => blX11_made_73) ((H.1 z0).1 z1).2)))) (fun z1 => (X_if (fun _ _ => blX11_made_46) (fun z2 => (X_go (fun _ _ => blX11_made_62) (X_go (fun _ _ h => blX11_made_63 (((H.1 z0).2 z1).1 z2).1 (fun _ => h) (fun z => absurd z (by decide))) (X_call (fun _ _ _ _ => blX11_made_82) (K_mono (((H.1 z0).2 z1).1 z2).2 (fun r1 σ1 q5 => (X_go (fun _ _ => blX11_made_94) q5))))))) (fun z2 => (X_go (fun _ _ => blX11_made_58) (X_go (fun _ _ h => blX11_made_63 (((H.1 z0).2 z1).2 z2).1 (fun z => absurd z (by decide)) (fun _ => h)) (X_ret (fun _ _ => blX11_made_73) (((H.1 z0).2 z1).2 z2).2)))))))) (fun z0 => (X_go (fun _ _ => blX11_made_15 (H.2 z0).1 (H.2 z0).2.1) (H.2 z0).2.2)))
set_option maxRecDepth 20000 in
theorem vX11_made_99 {d : Nat} {σ : am_S} {Q : Int32 → am_S → Prop} {l1 : Int32} {l2 : Int32} {l3 : Int32} {l4 : Int32} {l5 : Int32} {l6 : Int32} (H :
    ((gS σ 0 7) ≤ l6 →
      (vp_in l5 70000) ∧
      Q l5 (wS (wA σ 4 (l5).toNatClampNeg ((gS σ 0 4) - l5)) 0 7 l3)) ∧
    (¬ (gS σ 0 7) ≤ l6 →
      (vp_in l6 20000) ∧
      am_K ru am_Lm IX11_copy d [.ref 0, .int (gA σ 5 (l6).toNatClampNeg), .int (gS σ 0 4)] σ (fun _ σ1 =>
        (vp_in l6 20000) ∧
        (vp_in (gA σ1 5 (l6).toNatClampNeg) 70000) ∧
        am_X ri am_Lm IX11_made (d + 1) 99 [some (.ref 0), some (.int l1), some (.int l2), some (.int l3), some (.int l4), some (.int l5), some (.int (l6 + (1 : Int32)))] [] (wS σ1 0 4 ((gS σ1 0 4) + (gA σ1 4 ((gA σ1 5 (l6).toNatClampNeg)).toNatClampNeg))) Q))) : am_X ri am_Lm IX11_made (d + 1) 99 [some (.ref 0), some (.int l1), some (.int l2), some (.int l3), some (.int l4), some (.int l5), some (.int l6)] [] σ Q := (X_if (fun _ _ => blX11_made_99) (fun z0 => (X_ret (fun _ _ => blX11_made_150 (H.1 z0).1) (H.1 z0).2)) (fun z0 => (X_call (fun _ _ _ _ => blX11_made_108 (H.2 z0).1) (K_mono (H.2 z0).2 (fun _ σ1 q1 => (X_go (fun _ _ => blX11_made_123 q1.1 q1.2.1) q1.2.2))))))
set_option maxRecDepth 20000 in
theorem vX11_joined {d : Nat} {σ : am_S} {Q : Int32 → am_S → Prop} {l1 : Int32} {l2 : Int32} (H :
    am_X ri am_Lm IX11_joined (d + 1) 8 [some (.ref 0), some (.int l1), some (.int l2), some (.int (gS σ 0 7)), some (.int l2), none, none, none] [] σ Q) : am_K ri am_Lm IX11_joined (d + 1) [.ref 0, .int l1, .int l2] σ Q := K_of am_owX11_joined (Nat.le_of_ble_eq_true rfl) (X_go (fun _ _ => blX11_joined_0) H)
set_option maxRecDepth 20000 in
theorem vX11_joined_8 {d : Nat} {σ : am_S} {Q : Int32 → am_S → Prop} {l1 : Int32} {l2 : Int32} {l3 : Int32} {l4 : Int32} (H :
    (l3 ≤ l4 →
      am_X ri am_Lm IX11_joined (d + 1) 93 [some (.ref 0), some (.int l1), some (.int l2), some (.int l3), some (.int ((gS σ 0 7) - l3)), some (.int (0 : Int32)), none, none] [] σ Q) ∧
    (¬ l3 ≤ l4 →
      (vp_in l4 20000) ∧
      (vp_in (gA σ 5 (l4).toNatClampNeg) 70000) ∧
      ((gA σ 1 ((gA σ 5 (l4).toNatClampNeg)).toNatClampNeg) = l1 →
        am_X ri am_Lm IX11_joined (d + 1) 46 [some (.ref 0), some (.int l1), some (.int l2), some (.int l3), some (.int l4), some (.int (gA σ 5 (l4).toNatClampNeg)), some (.int (0 : Int32)), none] [] σ Q) ∧
      (¬ (gA σ 1 ((gA σ 5 (l4).toNatClampNeg)).toNatClampNeg) = l1 →
        am_K ru am_Lm IX11_put d [.ref 0, .int (gA σ 5 (l4).toNatClampNeg)] σ (fun _ σ1 =>
          am_X ri am_Lm IX11_joined (d + 1) 8 [some (.ref 0), some (.int l1), some (.int l2), some (.int l3), some (.int (l4 + (1 : Int32))), none, none, none] [] σ1 Q)))) : am_X ri am_Lm IX11_joined (d + 1) 8 [some (.ref 0), some (.int l1), some (.int l2), some (.int l3), some (.int l4), none, none, none] [] σ Q := (X_if (fun _ _ => blX11_joined_8) (fun z0 => (X_go (fun _ _ => blX11_joined_82) (H.1 z0))) (fun z0 => (X_if (fun _ _ => blX11_joined_14 (H.2 z0).1 (H.2 z0).2.1) (fun z1 => (X_go (fun _ _ => blX11_joined_43) ((H.2 z0).2.2.1 z1))) (fun z1 => (X_call (fun _ _ _ _ => blX11_joined_34) (K_mono ((H.2 z0).2.2.2 z1) (fun _ σ1 q2 => (X_go (fun _ _ => blX11_joined_40) (X_go (fun _ _ => blX11_joined_76) q2)))))))))
set_option maxRecDepth 20000 in
theorem vX11_joined_46 {d : Nat} {σ : am_S} {Q : Int32 → am_S → Prop} {l1 : Int32} {l2 : Int32} {l3 : Int32} {l4 : Int32} {l5 : Int32} {l6 : Int32} (H :
    (vp_in l5 70000) ∧
    ((gA σ 3 (l5).toNatClampNeg) ≤ l6 →
      am_X ri am_Lm IX11_joined (d + 1) 8 [some (.ref 0), some (.int l1), some (.int l2), some (.int l3), some (.int (l4 + (1 : Int32))), none, none, none] [] σ Q) ∧
    (¬ (gA σ 3 (l5).toNatClampNeg) ≤ l6 →
      am_K ri am_Lm IX11_partAt d [.ref 0, .int l5, .int l6] σ (fun r1 σ1 =>
        am_K ru am_Lm IX11_put d [.ref 0, .int r1] σ1 (fun _ σ2 =>
          am_X ri am_Lm IX11_joined (d + 1) 46 [some (.ref 0), some (.int l1), some (.int l2), some (.int l3), some (.int l4), some (.int l5), some (.int (l6 + (1 : Int32))), none] [] σ2 Q)))) : am_X ri am_Lm IX11_joined (d + 1) 46 [some (.ref 0), some (.int l1), some (.int l2), some (.int l3), some (.int l4), some (.int l5), some (.int l6), none] [] σ Q := (X_if (fun _ _ => blX11_joined_46 H.1) (fun z0 => (X_go (fun _ _ => blX11_joined_76) (H.2.1 z0))) (fun z0 => (X_call (fun _ _ _ _ => blX11_joined_58) (K_mono (H.2.2 z0) (fun r1 σ1 q1 => (X_call (fun _ _ _ _ => blX11_joined_67) (K_mono q1 (fun _ σ2 q2 => (X_go (fun _ _ => blX11_joined_70) q2)))))))))
set_option maxRecDepth 20000 in
theorem vX11_joined_93 {d : Nat} {σ : am_S} {Q : Int32 → am_S → Prop} {l1 : Int32} {l2 : Int32} {l3 : Int32} {l4 : Int32} {l5 : Int32} (H :
    (l4 ≤ l5 →
      (¬ l4 = (1 : Int32) →
        am_K ri am_Lm IX11_made d [.ref 0, .int l1, .int (0 : Int32), .int l2] (wS σ 0 7 (l2 + l4)) (fun r1 σ1 =>
          Q r1 σ1)) ∧
      (l4 = (1 : Int32) →
        (vp_in l2 20000) ∧
        Q (gA σ 5 (l2).toNatClampNeg) (wS (wS σ 0 7 (l2 + l4)) 0 7 l2))) ∧
    (¬ l4 ≤ l5 →
      (vp_in (l3 + l5) 20000) ∧
      am_X ri am_Lm IX11_joined (d + 1) 117 [some (.ref 0), some (.int l1), some (.int l2), some (.int l3), some (.int l4), some (.int l5), some (.int (gA σ 5 ((l3 + l5)).toNatClampNeg)), some (.int (l2 + l5))] [] σ Q)) : am_X ri am_Lm IX11_joined (d + 1) 93 [some (.ref 0), some (.int l1), some (.int l2), some (.int l3), some (.int l4), some (.int l5), none, none] [] σ Q := (X_if (fun _ _ => blX11_joined_93) (fun z0 => (X_ifn (fun _ _ => blX11_joined_178) (fun z1 => (X_call (fun _ _ _ _ => blX11_joined_204) (K_mono ((H.1 z0).1 z1) (fun r1 σ1 q2 => (X_ret (fun _ _ => blX11_joined_211) q2))))) (fun z1 => (X_ret (fun _ _ => blX11_joined_192 ((H.1 z0).2 z1).1) ((H.1 z0).2 z1).2)))) (fun z0 => (X_go (fun _ _ => blX11_joined_100 (H.2 z0).1) (H.2 z0).2)))
set_option maxRecDepth 20000 in
theorem vX11_joined_117 {d : Nat} {σ : am_S} {Q : Int32 → am_S → Prop} {l1 : Int32} {l2 : Int32} {l3 : Int32} {l4 : Int32} {l5 : Int32} {l6 : Int32} {l7 : Int32} (H :
    (l7 ≤ l2 →
      (vp_in l7 20000) ∧
      am_X ri am_Lm IX11_joined (d + 1) 93 [some (.ref 0), some (.int l1), some (.int l2), some (.int l3), some (.int l4), some (.int (l5 + (1 : Int32))), none, none] [] (wA σ 5 (l7).toNatClampNeg l6) Q) ∧
    (¬ l7 ≤ l2 →
      (vp_in (l7 - (1 : Int32)) 20000) ∧
      am_K ri am_Lm IX11_ordered d [.ref 0, .int (gA σ 5 ((l7 - (1 : Int32))).toNatClampNeg), .int l6] σ (fun r1 σ1 =>
        (r1 ≤ 0 →
          (vp_in l7 20000) ∧
          am_X ri am_Lm IX11_joined (d + 1) 93 [some (.ref 0), some (.int l1), some (.int l2), some (.int l3), some (.int l4), some (.int (l5 + (1 : Int32))), none, none] [] (wA σ1 5 (l7).toNatClampNeg l6) Q) ∧
        (¬ r1 ≤ 0 →
          (vp_in (l7 - (1 : Int32)) 20000) ∧
          (vp_in l7 20000) ∧
          am_X ri am_Lm IX11_joined (d + 1) 117 [some (.ref 0), some (.int l1), some (.int l2), some (.int l3), some (.int l4), some (.int l5), some (.int l6), some (.int (l7 + (-1 : Int32)))] [] (wA σ1 5 (l7).toNatClampNeg (gA σ1 5 ((l7 - (1 : Int32))).toNatClampNeg)) Q)))) : am_X ri am_Lm IX11_joined (d + 1) 117 [some (.ref 0), some (.int l1), some (.int l2), some (.int l3), some (.int l4), some (.int l5), some (.int l6), some (.int l7)] [] σ Q := (X_if (fun _ _ => blX11_joined_117) (fun z0 => (X_go (fun _ _ => blX11_joined_163 (H.1 z0).1) (H.1 z0).2)) (fun z0 => (X_call (fun _ _ _ _ => blX11_joined_123 (H.2 z0).1) (K_mono (H.2 z0).2 (fun r1 σ1 q1 => (X_if (fun _ _ => blX11_joined_138) (fun z2 => (X_go (fun _ _ => blX11_joined_163 (q1.1 z2).1) (q1.1 z2).2)) (fun z2 => (X_go (fun _ _ => blX11_joined_141 (q1.2 z2).1 (q1.2 z2).2.1) (q1.2 z2).2.2))))))))
set_option maxRecDepth 20000 in
theorem vX11_fits {d : Nat} {σ : am_S} {Q : Int32 → am_S → Prop} {l1 : Int32} (H :
    (¬ (gS σ 0 5) = 0 →
      am_X ri am_Lm IX11_fits (d + 1) 26 [some (.ref 0), some (.int l1), some (.int (0 : Int32)), some (.int l1)] [] σ Q) ∧
    ((gS σ 0 5) = 0 →
      (vp_in l1 70000) ∧
      ((40 : Int32) < (gA σ 4 (l1).toNatClampNeg) →
        am_X ri am_Lm IX11_fits (d + 1) 26 [some (.ref 0), some (.int l1), some (.int (0 : Int32)), some (.int l1)] [] σ Q) ∧
      (¬ (40 : Int32) < (gA σ 4 (l1).toNatClampNeg) →
        am_X ri am_Lm IX11_fits (d + 1) 26 [some (.ref 0), some (.int l1), some (.int (1 : Int32)), some (.int l1)] [] σ Q))) : am_K ri am_Lm IX11_fits (d + 1) [.ref 0, .int l1] σ Q := K_of am_owX11_fits (Nat.le_of_ble_eq_true rfl) (X_ifn (fun _ _ => blX11_fits_0) (fun z0 => (X_go (fun _ _ => blX11_fits_22) (X_go (fun _ _ => blX11_fits_23) (H.1 z0)))) (fun z0 => (X_if (fun _ _ => blX11_fits_7 (H.2 z0).1) (fun z1 => (X_go (fun _ _ => blX11_fits_22) (X_go (fun _ _ => blX11_fits_23) ((H.2 z0).2.1 z1)))) (fun z1 => (X_go (fun _ _ => blX11_fits_18) (X_go (fun _ _ => blX11_fits_23) ((H.2 z0).2.2 z1)))))))
set_option maxRecDepth 20000 in
theorem vX11_fits_26 {d : Nat} {σ : am_S} {Q : Int32 → am_S → Prop} {l1 : Int32} {l2 : Int32} {l3 : Int32} (H :
    (l2 = 0 →
      (l2 = 0 ∨ l2 = 1) ∧ Q l2 σ) ∧
    (¬ l2 = 0 →
      (vp_in l1 70000) ∧
      ((l1 + (gA σ 4 (l1).toNatClampNeg)) ≤ l3 →
        (l2 = 0 ∨ l2 = 1) ∧ Q l2 σ) ∧
      (¬ (l1 + (gA σ 4 (l1).toNatClampNeg)) ≤ l3 →
        (vp_in l3 70000) ∧
        ((8 : Int32) < (gA σ 3 (l3).toNatClampNeg) →
          am_X ri am_Lm IX11_fits (d + 1) 26 [some (.ref 0), some (.int l1), some (.int (0 : Int32)), some (.int (l3 + (1 : Int32)))] [] σ Q) ∧
        (¬ (8 : Int32) < (gA σ 3 (l3).toNatClampNeg) →
          am_X ri am_Lm IX11_fits (d + 1) 26 [some (.ref 0), some (.int l1), some (.int (1 : Int32)), some (.int (l3 + (1 : Int32)))] [] σ Q)))) : am_X ri am_Lm IX11_fits (d + 1) 26 [some (.ref 0), some (.int l1), some (.int l2), some (.int l3)] [] σ Q := (X_if (fun _ _ => blX11_fits_26) (fun z0 => (X_ret (fun _ _ => blX11_fits_65 (H.1 z0).1) (H.1 z0).2)) (fun z0 => (X_if (fun _ _ => blX11_fits_30 (H.2 z0).1) (fun z1 => (X_ret (fun _ _ => blX11_fits_65 ((H.2 z0).2.1 z1).1) ((H.2 z0).2.1 z1).2)) (fun z1 => (X_if (fun _ _ => blX11_fits_42 ((H.2 z0).2.2 z1).1) (fun z2 => (X_go (fun _ _ => blX11_fits_57) (X_go (fun _ _ => blX11_fits_58) (((H.2 z0).2.2 z1).2.1 z2)))) (fun z2 => (X_go (fun _ _ => blX11_fits_53) (X_go (fun _ _ => blX11_fits_58) (((H.2 z0).2.2 z1).2.2 z2)))))))))
set_option maxRecDepth 20000 in
theorem vX11_store {d : Nat} {σ : am_S} {Q : Int32 → am_S → Prop} {l1 : Int32} {l2 : Int32} (H :
    am_K ri am_Lm IX11_fits d [.ref 0, .int l1] σ (fun r1 σ1 =>
      (¬ r1 = 0 →
        am_K ru am_Lm IX11_copy d [.ref 0, .int l1, .int ((40 : Int32) * l2)] σ1 (fun _ σ2 =>
          (vp_in l2 16) ∧
          (vp_in l1 70000) ∧
          Q (gA σ2 4 (l1).toNatClampNeg) (wA σ2 7 (l2).toNatClampNeg (vp_nar .boolean (1 : Int32))))) ∧
      (r1 = 0 →
        Q (-4 : Int32) σ1))) : am_K ri am_Lm IX11_store (d + 1) [.ref 0, .int l1, .int l2] σ Q := K_of am_owX11_store (Nat.le_of_ble_eq_true rfl) (X_call (fun _ _ _ _ => blX11_store_0) (K_mono H (fun r1 σ1 q0 => (X_ifn (fun _ _ => blX11_store_5) (fun z1 => (X_call (fun _ _ _ _ => blX11_store_11) (K_mono (q0.1 z1) (fun _ σ2 q2 => (X_ret (fun _ _ => blX11_store_20 q2.1 q2.2.1) q2.2.2))))) (fun z1 => (X_ret (fun _ _ => blX11_store_8) (q0.2 z1)))))))
set_option maxRecDepth 20000 in
theorem vX11_type {d : Nat} {σ : am_S} {Q : Int32 → am_S → Prop} {l1 : Int64} {l3 : Int32} (H :
    am_K ri am_Lm IX11_in d [.long (l3).toInt64, .long (1 : Int64), .long (8 : Int64)] σ (fun r1 σ1 =>
      (¬ r1 = 0 →
        am_X ri am_Lm IX11_type (d + 1) 19 [some (.ref 0), some (.long l1), none, some (.int l3), some (.int (l3 - (1 : Int32)))] [] σ1 Q) ∧
      (r1 = 0 →
        Q (-1 : Int32) σ1))) : am_K ri am_Lm IX11_type (d + 1) [.ref 0, .long l1, .int l3] σ Q := K_of am_owX11_type (Nat.le_of_ble_eq_true rfl) (X_call (fun _ _ _ _ => blX11_type_0) (K_mono H (fun r1 σ1 q0 => (X_ifn (fun _ _ => blX11_type_9) (fun z1 => (X_go (fun _ _ => blX11_type_14) (q0.1 z1))) (fun z1 => (X_ret (fun _ _ => blX11_type_12) (q0.2 z1)))))))
set_option maxRecDepth 20000 in
theorem vX11_type_19 {d : Nat} {σ : am_S} {Q : Int32 → am_S → Prop} {l1 : Int64} {l3 : Int32} {l4 : Int32} (H :
    (l4 < 0 →
      (((gS σ 0 9) + l3) ≤ (64 : Int32) →
        am_X ri am_Lm IX11_type (d + 1) 74 [some (.ref 0), some (.long l1), none, some (.int l3), some (.int (l3 - (1 : Int32)))] [] σ Q) ∧
      (¬ ((gS σ 0 9) + l3) ≤ (64 : Int32) →
        Q (-4 : Int32) σ)) ∧
    (¬ l4 < 0 →
      am_K ri am_Lm IX11_in d [.long ((l1 >>> ((((8 : Int32) * l4)).toInt64 &&& 63)) &&& (255 : Int64)), .long (32 : Int64), .long (126 : Int64)] σ (fun r1 σ1 =>
        (¬ r1 = 0 →
          am_X ri am_Lm IX11_type (d + 1) 19 [some (.ref 0), some (.long l1), none, some (.int l3), some (.int (l4 + (-1 : Int32)))] [] σ1 Q) ∧
        (r1 = 0 →
          Q (-1 : Int32) σ1)))) : am_X ri am_Lm IX11_type (d + 1) 19 [some (.ref 0), some (.long l1), none, some (.int l3), some (.int l4)] [] σ Q := (X_if (fun _ _ => blX11_type_19) (fun z0 => (X_if (fun _ _ => blX11_type_55) (fun z1 => (X_go (fun _ _ => blX11_type_69) ((H.1 z0).1 z1))) (fun z1 => (X_ret (fun _ _ => blX11_type_66) ((H.1 z0).2 z1))))) (fun z0 => (X_call (fun _ _ _ _ => blX11_type_24) (K_mono (H.2 z0) (fun r1 σ1 q1 => (X_ifn (fun _ _ => blX11_type_44) (fun z2 => (X_go (fun _ _ => blX11_type_49) (q1.1 z2))) (fun z2 => (X_ret (fun _ _ => blX11_type_47) (q1.2 z2)))))))))
set_option maxRecDepth 20000 in
theorem vX11_type_74 {d : Nat} {σ : am_S} {Q : Int32 → am_S → Prop} {l1 : Int64} {l3 : Int32} {l4 : Int32} (H :
    (l4 < 0 →
      Q (gS σ 0 9) σ) ∧
    (¬ l4 < 0 →
      (vp_in (gS σ 0 9) 64) ∧
      am_X ri am_Lm IX11_type (d + 1) 74 [some (.ref 0), some (.long l1), none, some (.int l3), some (.int (l4 + (-1 : Int32)))] [] (wS (wA σ 6 ((gS σ 0 9)).toNatClampNeg (((l1 >>> ((((8 : Int32) * l4)).toInt64 &&& 63)) &&& (255 : Int64))).toInt32) 0 9 ((gS σ 0 9) + (1 : Int32))) Q)) : am_X ri am_Lm IX11_type (d + 1) 74 [some (.ref 0), some (.long l1), none, some (.int l3), some (.int l4)] [] σ Q := (X_if (fun _ _ => blX11_type_74) (fun z0 => (X_ret (fun _ _ => blX11_type_116) (H.1 z0))) (fun z0 => (X_go (fun _ _ => blX11_type_79 (H.2 z0).1) (H.2 z0).2)))
set_option maxRecDepth 20000 in
theorem vX11_next {d : Nat} {σ : am_S} {Q : Int32 → am_S → Prop}  (H :
    ((gS σ 0 9) ≤ (gS σ 0 10) →
      ((gS σ 0 9) ≤ (gS σ 0 10) →
        Q (-1 : Int32) σ) ∧
      (¬ (gS σ 0 9) ≤ (gS σ 0 10) →
        (vp_in (gS σ 0 10) 64) ∧
        Q (gA σ 6 ((gS σ 0 10)).toNatClampNeg) σ)) ∧
    (¬ (gS σ 0 9) ≤ (gS σ 0 10) →
      (vp_in (gS σ 0 10) 64) ∧
      (¬ (gA σ 6 ((gS σ 0 10)).toNatClampNeg) = (32 : Int32) →
        ((gS σ 0 9) ≤ (gS σ 0 10) →
          Q (-1 : Int32) σ) ∧
        (¬ (gS σ 0 9) ≤ (gS σ 0 10) →
          (vp_in (gS σ 0 10) 64) ∧
          Q (gA σ 6 ((gS σ 0 10)).toNatClampNeg) σ)) ∧
      ((gA σ 6 ((gS σ 0 10)).toNatClampNeg) = (32 : Int32) →
        am_X ri am_Lm IX11_next (d + 1) 0 [some (.ref 0)] [] (wS σ 0 10 ((gS σ 0 10) + (1 : Int32))) Q))) : am_K ri am_Lm IX11_next (d + 1) [.ref 0] σ Q := K_of am_owX11_next (Nat.le_of_ble_eq_true rfl) (X_if (fun _ _ => blX11_next_0) (fun z0 => (X_if (fun _ _ => blX11_next_38) (fun z1 => (X_go (fun _ _ => blX11_next_61) (X_ret (fun _ _ => blX11_next_62) ((H.1 z0).1 z1)))) (fun z1 => (X_go (fun _ _ => blX11_next_49 ((H.1 z0).2 z1).1) (X_ret (fun _ _ => blX11_next_62) ((H.1 z0).2 z1).2))))) (fun z0 => (X_ifn (fun _ _ => blX11_next_11 (H.2 z0).1) (fun z1 => (X_if (fun _ _ => blX11_next_38) (fun z2 => (X_go (fun _ _ => blX11_next_61) (X_ret (fun _ _ => blX11_next_62) (((H.2 z0).2.1 z1).1 z2)))) (fun z2 => (X_go (fun _ _ => blX11_next_49 (((H.2 z0).2.1 z1).2 z2).1) (X_ret (fun _ _ => blX11_next_62) (((H.2 z0).2.1 z1).2 z2).2))))) (fun z1 => (X_go (fun _ _ => blX11_next_25) ((H.2 z0).2.2 z1))))))
set_option maxRecDepth 20000 in
theorem vX11_fail {d : Nat} {σ : am_S} {Q : Int32 → am_S → Prop}  (H :
    (((1 : Int32) = 0 ∨ (1 : Int32) = 1)) ∧
    Q (17280 : Int32) (wS σ 0 12 (1 : Int32))) : am_K ri am_Lm IX11_fail (d + 1) [.ref 0] σ Q := K_of am_owX11_fail (Nat.le_of_ble_eq_true rfl) (X_ret (fun _ _ => blX11_fail_0 H.1) H.2)
set_option maxRecDepth 20000 in
theorem vX11_readTerm {d : Nat} {σ : am_S} {Q : Int32 → am_S → Prop}  (H :
    am_K ri am_Lm IX11_readProduct d [.ref 0] σ (fun r1 σ1 =>
      am_K ru am_Lm IX11_put d [.ref 0, .int r1] σ1 (fun _ σ2 =>
        am_X ri am_Lm IX11_readTerm (d + 1) 13 [some (.ref 0), some (.int (gS σ 0 7))] [] σ2 Q))) : am_K ri am_Lm IX11_readTerm (d + 1) [.ref 0] σ Q := K_of am_owX11_readTerm (Nat.le_of_ble_eq_true rfl) (X_call (fun _ _ _ _ => blX11_readTerm_0) (K_mono H (fun r1 σ1 q0 => (X_call (fun _ _ _ _ => blX11_readTerm_10) (K_mono q0 (fun _ σ2 q1 => q1))))))
set_option maxRecDepth 20000 in
theorem vX11_readTerm_13 {d : Nat} {σ : am_S} {Q : Int32 → am_S → Prop} {l1 : Int32} (H :
    (¬ (gS σ 0 12) = 0 →
      ((gS σ 0 12) = 0 →
        am_K ri am_Lm IX11_joined d [.ref 0, .int (3 : Int32), .int l1] σ (fun r1 σ1 =>
          Q r1 σ1)) ∧
      (¬ (gS σ 0 12) = 0 →
        Q (17280 : Int32) σ)) ∧
    ((gS σ 0 12) = 0 →
      am_K ri am_Lm IX11_next d [.ref 0] σ (fun r2 σ2 =>
        (¬ r2 = (43 : Int32) →
          ((gS σ2 0 12) = 0 →
            am_K ri am_Lm IX11_joined d [.ref 0, .int (3 : Int32), .int l1] σ2 (fun r3 σ3 =>
              Q r3 σ3)) ∧
          (¬ (gS σ2 0 12) = 0 →
            Q (17280 : Int32) σ2)) ∧
        (r2 = (43 : Int32) →
          am_K ri am_Lm IX11_readProduct d [.ref 0] (wS σ2 0 10 ((gS σ2 0 10) + (1 : Int32))) (fun r4 σ4 =>
            am_K ru am_Lm IX11_put d [.ref 0, .int r4] σ4 (fun _ σ5 =>
              am_X ri am_Lm IX11_readTerm (d + 1) 13 [some (.ref 0), some (.int l1)] [] σ5 Q)))))) : am_X ri am_Lm IX11_readTerm (d + 1) 13 [some (.ref 0), some (.int l1)] [] σ Q := (X_ifn (fun _ _ => blX11_readTerm_13) (fun z0 => (X_if (fun _ _ => blX11_readTerm_50) (fun z1 => (X_call (fun _ _ _ _ => blX11_readTerm_63) (K_mono ((H.1 z0).1 z1) (fun r1 σ1 q2 => (X_ret (fun _ _ => blX11_readTerm_69) q2))))) (fun z1 => (X_go (fun _ _ => blX11_readTerm_57) (X_ret (fun _ _ => blX11_readTerm_69) ((H.1 z0).2 z1)))))) (fun z0 => (X_call (fun _ _ _ _ => blX11_readTerm_20) (K_mono (H.2 z0) (fun r2 σ2 q1 => (X_ifn (fun _ _ => blX11_readTerm_24) (fun z2 => (X_if (fun _ _ => blX11_readTerm_50) (fun z3 => (X_call (fun _ _ _ _ => blX11_readTerm_63) (K_mono ((q1.1 z2).1 z3) (fun r3 σ3 q4 => (X_ret (fun _ _ => blX11_readTerm_69) q4))))) (fun z3 => (X_go (fun _ _ => blX11_readTerm_57) (X_ret (fun _ _ => blX11_readTerm_69) ((q1.1 z2).2 z3)))))) (fun z2 => (X_call (fun _ _ _ _ => blX11_readTerm_29) (K_mono (q1.2 z2) (fun r4 σ4 q3 => (X_call (fun _ _ _ _ => blX11_readTerm_44) (K_mono q3 (fun _ σ5 q4 => (X_go (fun _ _ => blX11_readTerm_47) q4))))))))))))))
set_option maxRecDepth 20000 in
theorem vX11_readProduct {d : Nat} {σ : am_S} {Q : Int32 → am_S → Prop}  (H :
    am_K ri am_Lm IX11_readAtom d [.ref 0] σ (fun r1 σ1 =>
      am_K ru am_Lm IX11_put d [.ref 0, .int r1] σ1 (fun _ σ2 =>
        am_X ri am_Lm IX11_readProduct (d + 1) 13 [some (.ref 0), some (.int (gS σ 0 7))] [] σ2 Q))) : am_K ri am_Lm IX11_readProduct (d + 1) [.ref 0] σ Q := K_of am_owX11_readProduct (Nat.le_of_ble_eq_true rfl) (X_call (fun _ _ _ _ => blX11_readProduct_0) (K_mono H (fun r1 σ1 q0 => (X_call (fun _ _ _ _ => blX11_readProduct_10) (K_mono q0 (fun _ σ2 q1 => q1))))))
set_option maxRecDepth 20000 in
theorem vX11_readProduct_13 {d : Nat} {σ : am_S} {Q : Int32 → am_S → Prop} {l1 : Int32} (H :
    (¬ (gS σ 0 12) = 0 →
      ((gS σ 0 12) = 0 →
        am_K ri am_Lm IX11_joined d [.ref 0, .int (4 : Int32), .int l1] σ (fun r1 σ1 =>
          Q r1 σ1)) ∧
      (¬ (gS σ 0 12) = 0 →
        Q (17280 : Int32) σ)) ∧
    ((gS σ 0 12) = 0 →
      am_K ri am_Lm IX11_next d [.ref 0] σ (fun r2 σ2 =>
        (¬ r2 = (42 : Int32) →
          ((gS σ2 0 12) = 0 →
            am_K ri am_Lm IX11_joined d [.ref 0, .int (4 : Int32), .int l1] σ2 (fun r3 σ3 =>
              Q r3 σ3)) ∧
          (¬ (gS σ2 0 12) = 0 →
            Q (17280 : Int32) σ2)) ∧
        (r2 = (42 : Int32) →
          am_K ri am_Lm IX11_readAtom d [.ref 0] (wS σ2 0 10 ((gS σ2 0 10) + (1 : Int32))) (fun r4 σ4 =>
            am_K ru am_Lm IX11_put d [.ref 0, .int r4] σ4 (fun _ σ5 =>
              am_X ri am_Lm IX11_readProduct (d + 1) 13 [some (.ref 0), some (.int l1)] [] σ5 Q)))))) : am_X ri am_Lm IX11_readProduct (d + 1) 13 [some (.ref 0), some (.int l1)] [] σ Q := (X_ifn (fun _ _ => blX11_readProduct_13) (fun z0 => (X_if (fun _ _ => blX11_readProduct_50) (fun z1 => (X_call (fun _ _ _ _ => blX11_readProduct_63) (K_mono ((H.1 z0).1 z1) (fun r1 σ1 q2 => (X_ret (fun _ _ => blX11_readProduct_69) q2))))) (fun z1 => (X_go (fun _ _ => blX11_readProduct_57) (X_ret (fun _ _ => blX11_readProduct_69) ((H.1 z0).2 z1)))))) (fun z0 => (X_call (fun _ _ _ _ => blX11_readProduct_20) (K_mono (H.2 z0) (fun r2 σ2 q1 => (X_ifn (fun _ _ => blX11_readProduct_24) (fun z2 => (X_if (fun _ _ => blX11_readProduct_50) (fun z3 => (X_call (fun _ _ _ _ => blX11_readProduct_63) (K_mono ((q1.1 z2).1 z3) (fun r3 σ3 q4 => (X_ret (fun _ _ => blX11_readProduct_69) q4))))) (fun z3 => (X_go (fun _ _ => blX11_readProduct_57) (X_ret (fun _ _ => blX11_readProduct_69) ((q1.1 z2).2 z3)))))) (fun z2 => (X_call (fun _ _ _ _ => blX11_readProduct_29) (K_mono (q1.2 z2) (fun r4 σ4 q3 => (X_call (fun _ _ _ _ => blX11_readProduct_44) (K_mono q3 (fun _ σ5 q4 => (X_go (fun _ _ => blX11_readProduct_47) q4))))))))))))))
set_option maxRecDepth 20000 in
theorem vX11_readAtom {d : Nat} {σ : am_S} {Q : Int32 → am_S → Prop}  (H :
    ((gS σ 0 12) = 0 →
      am_K ri am_Lm IX11_next d [.ref 0] σ (fun r1 σ1 =>
        am_K ri am_Lm IX11_in d [.long (r1).toInt64, .long (117 : Int64), .long (122 : Int64)] σ1 (fun r2 σ2 =>
          (¬ r2 = 0 →
            (r1 < (97 : Int32) →
              am_K ri am_Lm IX11_head d [.ref 0, .int (0 : Int32), .int (r1 - (59 : Int32)), .int (0 : Int32)] (wS σ2 0 10 ((gS σ2 0 10) + (1 : Int32))) (fun r3 σ3 =>
                Q r3 σ3)) ∧
            (¬ r1 < (97 : Int32) →
              am_K ri am_Lm IX11_head d [.ref 0, .int (0 : Int32), .int (r1 - (117 : Int32)), .int (0 : Int32)] (wS σ2 0 10 ((gS σ2 0 10) + (1 : Int32))) (fun r4 σ4 =>
                Q r4 σ4))) ∧
          (r2 = 0 →
            am_K ri am_Lm IX11_in d [.long (r1).toInt64, .long (65 : Int64), .long (80 : Int64)] σ2 (fun r5 σ5 =>
              (r5 = 0 →
                am_K ri am_Lm IX11_in d [.long (r1).toInt64, .long (97 : Int64), .long (101 : Int64)] σ5 (fun r6 σ6 =>
                  (r6 = 0 →
                    am_K ri am_Lm IX11_in d [.long (r1).toInt64, .long (102 : Int64), .long (104 : Int64)] σ6 (fun r7 σ7 =>
                      (r7 = 0 →
                        (¬ r1 = (40 : Int32) →
                          am_K ri am_Lm IX11_fail d [.ref 0] σ7 (fun r8 σ8 =>
                            Q r8 σ8)) ∧
                        (r1 = (40 : Int32) →
                          (¬ (gS σ7 0 11) = (8 : Int32) →
                            am_K ri am_Lm IX11_readTerm d [.ref 0] (wS (wS σ7 0 10 ((gS σ7 0 10) + (1 : Int32))) 0 11 ((gS σ7 0 11) + (1 : Int32))) (fun r9 σ9 =>
                              (¬ (gS σ9 0 12) = 0 →
                                am_K ri am_Lm IX11_fail d [.ref 0] σ9 (fun r10 σ10 =>
                                  Q r10 σ10)) ∧
                              ((gS σ9 0 12) = 0 →
                                am_K ri am_Lm IX11_next d [.ref 0] σ9 (fun r11 σ11 =>
                                  (r11 = (41 : Int32) →
                                    Q r9 (wS (wS σ11 0 10 ((gS σ11 0 10) + (1 : Int32))) 0 11 ((gS σ11 0 11) - (1 : Int32)))) ∧
                                  (¬ r11 = (41 : Int32) →
                                    am_K ri am_Lm IX11_fail d [.ref 0] σ11 (fun r12 σ12 =>
                                      Q r12 σ12)))))) ∧
                          ((gS σ7 0 11) = (8 : Int32) →
                            am_K ri am_Lm IX11_fail d [.ref 0] σ7 (fun r13 σ13 =>
                              Q r13 σ13)))) ∧
                      (¬ r7 = 0 →
                        am_K ri am_Lm IX11_readFunction d [.ref 0, .int (r1 - (102 : Int32))] (wS σ7 0 10 ((gS σ7 0 10) + (1 : Int32))) (fun r14 σ14 =>
                          Q r14 σ14)))) ∧
                  (¬ r6 = 0 →
                    am_K ri am_Lm IX11_head d [.ref 0, .int (1 : Int32), .int (r1 - (97 : Int32)), .int (0 : Int32)] (wS σ6 0 10 ((gS σ6 0 10) + (1 : Int32))) (fun r15 σ15 =>
                      Q r15 σ15)))) ∧
              (¬ r5 = 0 →
                (r1 < (97 : Int32) →
                  am_K ri am_Lm IX11_head d [.ref 0, .int (0 : Int32), .int (r1 - (59 : Int32)), .int (0 : Int32)] (wS σ5 0 10 ((gS σ5 0 10) + (1 : Int32))) (fun r16 σ16 =>
                    Q r16 σ16)) ∧
                (¬ r1 < (97 : Int32) →
                  am_K ri am_Lm IX11_head d [.ref 0, .int (0 : Int32), .int (r1 - (117 : Int32)), .int (0 : Int32)] (wS σ5 0 10 ((gS σ5 0 10) + (1 : Int32))) (fun r17 σ17 =>
                    Q r17 σ17)))))))) ∧
    (¬ (gS σ 0 12) = 0 →
      Q (17280 : Int32) σ)) : am_K ri am_Lm IX11_readAtom (d + 1) [.ref 0] σ Q := K_of am_owX11_readAtom (Nat.le_of_ble_eq_true rfl) (X_if (fun _ _ => blX11_readAtom_0) (fun z0 => (X_call (fun _ _ _ _ => blX11_readAtom_11) (K_mono (H.1 z0) (fun r1 σ1 q1 => (X_call (fun _ _ _ _ => blX11_readAtom_15) (K_mono q1 (fun r2 σ2 q2 => (X_ifn (fun _ _ => blX11_readAtom_27) (fun z3 => (X_if (fun _ _ => blX11_readAtom_44) (fun z4 => (X_go (fun _ _ => blX11_readAtom_69) (X_call (fun _ _ _ _ => blX11_readAtom_73) (K_mono ((q2.1 z3).1 z4) (fun r3 σ3 q6 => (X_ret (fun _ _ => blX11_readAtom_77) q6)))))) (fun z4 => (X_go (fun _ _ => blX11_readAtom_62) (X_call (fun _ _ _ _ => blX11_readAtom_73) (K_mono ((q2.1 z3).2 z4) (fun r4 σ4 q6 => (X_ret (fun _ _ => blX11_readAtom_77) q6)))))))) (fun z3 => (X_call (fun _ _ _ _ => blX11_readAtom_30) (K_mono (q2.2 z3) (fun r5 σ5 q4 => (X_if (fun _ _ => blX11_readAtom_41) (fun z5 => (X_call (fun _ _ _ _ => blX11_readAtom_78) (K_mono (q4.1 z5) (fun r6 σ6 q6 => (X_if (fun _ _ => blX11_readAtom_89) (fun z7 => (X_call (fun _ _ _ _ => blX11_readAtom_113) (K_mono (q6.1 z7) (fun r7 σ7 q8 => (X_if (fun _ _ => blX11_readAtom_124) (fun z9 => (X_ifn (fun _ _ => blX11_readAtom_146) (fun z10 => (X_call (fun _ _ _ _ => blX11_readAtom_161) (K_mono ((q8.1 z9).1 z10) (fun r8 σ8 q11 => (X_ret (fun _ _ => blX11_readAtom_165) q11))))) (fun z10 => (X_ifn (fun _ _ => blX11_readAtom_152) (fun z11 => (X_call (fun _ _ _ _ => blX11_readAtom_166) (K_mono (((q8.1 z9).2 z10).1 z11) (fun r9 σ9 q12 => (X_ifn (fun _ _ => blX11_readAtom_190) (fun z13 => (X_call (fun _ _ _ _ => blX11_readAtom_207) (K_mono (q12.1 z13) (fun r10 σ10 q14 => (X_ret (fun _ _ => blX11_readAtom_211) q14))))) (fun z13 => (X_call (fun _ _ _ _ => blX11_readAtom_198) (K_mono (q12.2 z13) (fun r11 σ11 q14 => (X_if (fun _ _ => blX11_readAtom_202) (fun z15 => (X_ret (fun _ _ => blX11_readAtom_212) (q14.1 z15))) (fun z15 => (X_call (fun _ _ _ _ => blX11_readAtom_207) (K_mono (q14.2 z15) (fun r12 σ12 q16 => (X_ret (fun _ _ => blX11_readAtom_211) q16))))))))))))))) (fun z11 => (X_call (fun _ _ _ _ => blX11_readAtom_161) (K_mono (((q8.1 z9).2 z10).2 z11) (fun r13 σ13 q12 => (X_ret (fun _ _ => blX11_readAtom_165) q12))))))))) (fun z9 => (X_call (fun _ _ _ _ => blX11_readAtom_127) (K_mono (q8.2 z9) (fun r14 σ14 q10 => (X_ret (fun _ _ => blX11_readAtom_145) q10)))))))))) (fun z7 => (X_call (fun _ _ _ _ => blX11_readAtom_92) (K_mono (q6.2 z7) (fun r15 σ15 q8 => (X_ret (fun _ _ => blX11_readAtom_112) q8)))))))))) (fun z5 => (X_if (fun _ _ => blX11_readAtom_44) (fun z6 => (X_go (fun _ _ => blX11_readAtom_69) (X_call (fun _ _ _ _ => blX11_readAtom_73) (K_mono ((q4.2 z5).1 z6) (fun r16 σ16 q8 => (X_ret (fun _ _ => blX11_readAtom_77) q8)))))) (fun z6 => (X_go (fun _ _ => blX11_readAtom_62) (X_call (fun _ _ _ _ => blX11_readAtom_73) (K_mono ((q4.2 z5).2 z6) (fun r17 σ17 q8 => (X_ret (fun _ _ => blX11_readAtom_77) q8))))))))))))))))))))) (fun z0 => (X_ret (fun _ _ => blX11_readAtom_7) (H.2 z0))))
set_option maxRecDepth 20000 in
theorem vX11_readFunction {d : Nat} {σ : am_S} {Q : Int32 → am_S → Prop} {l1 : Int32} (H :
    am_K ri am_Lm IX11_next d [.ref 0] σ (fun r1 σ1 =>
      (¬ r1 = (40 : Int32) →
        am_K ri am_Lm IX11_fail d [.ref 0] σ1 (fun r2 σ2 =>
          Q r2 σ2)) ∧
      (r1 = (40 : Int32) →
        (¬ (gS σ1 0 11) = (8 : Int32) →
          am_X ri am_Lm IX11_readFunction (d + 1) 53 [some (.ref 0), some (.int l1), some (.int (gS σ1 0 7)), some (.int (0 : Int32)), some (.int (1 : Int32)), none] [] (wS (wS σ1 0 10 ((gS σ1 0 10) + (1 : Int32))) 0 11 ((gS σ1 0 11) + (1 : Int32))) Q) ∧
        ((gS σ1 0 11) = (8 : Int32) →
          am_K ri am_Lm IX11_fail d [.ref 0] σ1 (fun r3 σ3 =>
            Q r3 σ3))))) : am_K ri am_Lm IX11_readFunction (d + 1) [.ref 0, .int l1] σ Q := K_of am_owX11_readFunction (Nat.le_of_ble_eq_true rfl) (X_call (fun _ _ _ _ => blX11_readFunction_0) (K_mono H (fun r1 σ1 q0 => (X_ifn (fun _ _ => blX11_readFunction_4) (fun z1 => (X_call (fun _ _ _ _ => blX11_readFunction_18) (K_mono (q0.1 z1) (fun r2 σ2 q2 => (X_ret (fun _ _ => blX11_readFunction_22) q2))))) (fun z1 => (X_ifn (fun _ _ => blX11_readFunction_9) (fun z2 => (X_go (fun _ _ => blX11_readFunction_23) ((q0.2 z1).1 z2))) (fun z2 => (X_call (fun _ _ _ _ => blX11_readFunction_18) (K_mono ((q0.2 z1).2 z2) (fun r3 σ3 q3 => (X_ret (fun _ _ => blX11_readFunction_22) q3)))))))))))
set_option maxRecDepth 20000 in
theorem vX11_readFunction_53 {d : Nat} {σ : am_S} {Q : Int32 → am_S → Prop} {l1 : Int32} {l2 : Int32} {l3 : Int32} {l4 : Int32} (H :
    (l4 = 0 →
      am_K ri am_Lm IX11_made d [.ref 0, .int (2 : Int32), .int l1, .int l2] (wS (wS σ 0 10 ((gS σ 0 10) + (1 : Int32))) 0 11 ((gS σ 0 11) - (1 : Int32))) (fun r1 σ1 =>
        Q r1 σ1)) ∧
    (¬ l4 = 0 →
      am_K ri am_Lm IX11_readTerm d [.ref 0] σ (fun r2 σ2 =>
        am_K ru am_Lm IX11_put d [.ref 0, .int r2] σ2 (fun _ σ3 =>
          ((gS σ3 0 12) = 0 →
            am_K ri am_Lm IX11_next d [.ref 0] σ3 (fun r4 σ4 =>
              (¬ r4 = (44 : Int32) →
                (¬ r4 = (41 : Int32) →
                  am_K ri am_Lm IX11_fail d [.ref 0] σ4 (fun r5 σ5 =>
                    Q r5 σ5)) ∧
                (r4 = (41 : Int32) →
                  am_X ri am_Lm IX11_readFunction (d + 1) 53 [some (.ref 0), some (.int l1), some (.int l2), some (.int (l3 + (1 : Int32))), some (.int (0 : Int32)), none] [] σ4 Q)) ∧
              (r4 = (44 : Int32) →
                ((3 : Int32) ≤ (l3 + (1 : Int32)) →
                  (¬ r4 = (41 : Int32) →
                    am_K ri am_Lm IX11_fail d [.ref 0] σ4 (fun r6 σ6 =>
                      Q r6 σ6)) ∧
                  (r4 = (41 : Int32) →
                    am_X ri am_Lm IX11_readFunction (d + 1) 53 [some (.ref 0), some (.int l1), some (.int l2), some (.int (l3 + (1 : Int32))), some (.int (0 : Int32)), none] [] σ4 Q)) ∧
                (¬ (3 : Int32) ≤ (l3 + (1 : Int32)) →
                  am_X ri am_Lm IX11_readFunction (d + 1) 53 [some (.ref 0), some (.int l1), some (.int l2), some (.int (l3 + (1 : Int32))), some (.int l4), none] [] (wS σ4 0 10 ((gS σ4 0 10) + (1 : Int32))) Q)))) ∧
          (¬ (gS σ3 0 12) = 0 →
            Q (17280 : Int32) σ3))))) : am_X ri am_Lm IX11_readFunction (d + 1) 53 [some (.ref 0), some (.int l1), some (.int l2), some (.int l3), some (.int l4), none] [] σ Q := (X_if (fun _ _ => blX11_readFunction_53) (fun z0 => (X_call (fun _ _ _ _ => blX11_readFunction_132) (K_mono (H.1 z0) (fun r1 σ1 q1 => (X_ret (fun _ _ => blX11_readFunction_159) q1))))) (fun z0 => (X_call (fun _ _ _ _ => blX11_readFunction_58) (K_mono (H.2 z0) (fun r2 σ2 q1 => (X_call (fun _ _ _ _ => blX11_readFunction_63) (K_mono q1 (fun _ σ3 q2 => (X_if (fun _ _ => blX11_readFunction_66) (fun z3 => (X_call (fun _ _ _ _ => blX11_readFunction_77) (K_mono (q2.1 z3) (fun r4 σ4 q4 => (X_ifn (fun _ _ => blX11_readFunction_84) (fun z5 => (X_ifn (fun _ _ => blX11_readFunction_111) (fun z6 => (X_call (fun _ _ _ _ => blX11_readFunction_124) (K_mono ((q4.1 z5).1 z6) (fun r5 σ5 q7 => (X_ret (fun _ _ => blX11_readFunction_128) q7))))) (fun z6 => (X_go (fun _ _ => blX11_readFunction_118) (X_go (fun _ _ => blX11_readFunction_129) ((q4.1 z5).2 z6)))))) (fun z5 => (X_if (fun _ _ => blX11_readFunction_93) (fun z6 => (X_ifn (fun _ _ => blX11_readFunction_111) (fun z7 => (X_call (fun _ _ _ _ => blX11_readFunction_124) (K_mono (((q4.2 z5).1 z6).1 z7) (fun r6 σ6 q8 => (X_ret (fun _ _ => blX11_readFunction_128) q8))))) (fun z7 => (X_go (fun _ _ => blX11_readFunction_118) (X_go (fun _ _ => blX11_readFunction_129) (((q4.2 z5).1 z6).2 z7)))))) (fun z6 => (X_go (fun _ _ => blX11_readFunction_98) (X_go (fun _ _ => blX11_readFunction_129) ((q4.2 z5).2 z6))))))))))) (fun z3 => (X_ret (fun _ _ => blX11_readFunction_73) (q2.2 z3))))))))))))
set_option maxRecDepth 20000 in
theorem vX11_isSlot {d : Nat} {σ : am_S} {Q : Int32 → am_S → Prop} {l0 : Int32} (H :
    am_K ri am_Lm IX11_in d [.long (l0).toInt64, .long (0 : Int64), .long (15 : Int64)] σ (fun r1 σ1 =>
      (r1 = 0 ∨ r1 = 1) ∧ Q r1 σ1)) : am_K ri am_Lm IX11_isSlot (d + 1) [.int l0] σ Q := K_of am_owX11_isSlot (Nat.le_of_ble_eq_true rfl) (X_call (fun _ _ _ _ => blX11_isSlot_0) (K_mono H (fun r1 σ1 q0 => (X_ret (fun _ _ => blX11_isSlot_9 q0.1) q0.2))))
set_option maxRecDepth 20000 in
theorem vX11_read {d : Nat} {σ : am_S} {Q : Int32 → am_S → Prop} {l1 : Int32} (H :
    am_K ri am_Lm IX11_isSlot d [.int l1] σ (fun r1 σ1 =>
      (¬ r1 = 0 →
        am_K ru am_Lm IX11_begin d [.ref 0] σ1 (fun _ σ2 =>
          (((0 : Int32) = 0 ∨ (0 : Int32) = 1)) ∧
          am_K ri am_Lm IX11_readTerm d [.ref 0] (wS (wS (wS σ2 0 10 (0 : Int32)) 0 11 (0 : Int32)) 0 12 (0 : Int32)) (fun r3 σ3 =>
            (¬ (gS σ3 0 12) = 0 →
              am_X ri am_Lm IX11_read (d + 1) 53 [some (.ref 0), some (.int l1), some (.int r3), none] [] σ3 Q) ∧
            ((gS σ3 0 12) = 0 →
              am_K ri am_Lm IX11_next d [.ref 0] σ3 (fun r4 σ4 =>
                (r4 = (-1 : Int32) →
                  am_X ri am_Lm IX11_read (d + 1) 53 [some (.ref 0), some (.int l1), some (.int r3), none] [] σ4 Q) ∧
                (¬ r4 = (-1 : Int32) →
                  (((1 : Int32) = 0 ∨ (1 : Int32) = 1)) ∧
                  am_X ri am_Lm IX11_read (d + 1) 53 [some (.ref 0), some (.int l1), some (.int r3), none] [] (wS σ4 0 12 (1 : Int32)) Q)))))) ∧
      (r1 = 0 →
        Q (-1 : Int32) σ1))) : am_K ri am_Lm IX11_read (d + 1) [.ref 0, .int l1] σ Q := K_of am_owX11_read (Nat.le_of_ble_eq_true rfl) (X_call (fun _ _ _ _ => blX11_read_0) (K_mono H (fun r1 σ1 q0 => (X_ifn (fun _ _ => blX11_read_4) (fun z1 => (X_call (fun _ _ _ _ => blX11_read_9) (K_mono (q0.1 z1) (fun _ σ2 q2 => (X_call (fun _ _ _ _ => blX11_read_13 q2.1) (K_mono q2.2 (fun r3 σ3 q3 => (X_ifn (fun _ _ => blX11_read_32) (fun z4 => (q3.1 z4)) (fun z4 => (X_call (fun _ _ _ _ => blX11_read_40) (K_mono (q3.2 z4) (fun r4 σ4 q5 => (X_if (fun _ _ => blX11_read_44) (fun z6 => (q5.1 z6)) (fun z6 => (X_go (fun _ _ => blX11_read_48 (q5.2 z6).1) (q5.2 z6).2))))))))))))))) (fun z1 => (X_ret (fun _ _ => blX11_read_7) (q0.2 z1)))))))
set_option maxRecDepth 20000 in
theorem vX11_read_53 {d : Nat} {σ : am_S} {Q : Int32 → am_S → Prop} {l1 : Int32} {l2 : Int32} (H :
    ((gS σ 0 12) = 0 →
      ((gS σ 0 12) = 0 →
        am_K ri am_Lm IX11_store d [.ref 0, .int l2, .int l1] (wS σ 0 9 (0 : Int32)) (fun r1 σ1 =>
          Q r1 σ1)) ∧
      (¬ (gS σ 0 12) = 0 →
        Q ((-10 : Int32) - (0 : Int32)) (wS σ 0 9 (0 : Int32)))) ∧
    (¬ (gS σ 0 12) = 0 →
      am_K ri am_Lm IX11_next d [.ref 0] σ (fun r2 σ2 =>
        (¬ r2 = (-1 : Int32) →
          ((gS σ2 0 12) = 0 →
            am_K ri am_Lm IX11_store d [.ref 0, .int l2, .int l1] (wS σ2 0 9 (0 : Int32)) (fun r3 σ3 =>
              Q r3 σ3)) ∧
          (¬ (gS σ2 0 12) = 0 →
            Q ((-10 : Int32) - (gS σ2 0 10)) (wS σ2 0 9 (0 : Int32)))) ∧
        (r2 = (-1 : Int32) →
          ((gS σ2 0 12) = 0 →
            am_K ri am_Lm IX11_store d [.ref 0, .int l2, .int l1] (wS σ2 0 9 (0 : Int32)) (fun r4 σ4 =>
              Q r4 σ4)) ∧
          (¬ (gS σ2 0 12) = 0 →
            Q ((-10 : Int32) - (gS σ2 0 9)) (wS σ2 0 9 (0 : Int32))))))) : am_X ri am_Lm IX11_read (d + 1) 53 [some (.ref 0), some (.int l1), some (.int l2), none] [] σ Q := (X_if (fun _ _ => blX11_read_53) (fun z0 => (X_go (fun _ _ => blX11_read_82) (X_if (fun _ _ => blX11_read_83) (fun z2 => (X_call (fun _ _ _ _ => blX11_read_103) (K_mono ((H.1 z0).1 z2) (fun r1 σ1 q3 => (X_ret (fun _ _ => blX11_read_109) q3))))) (fun z2 => (X_go (fun _ _ => blX11_read_96) (X_ret (fun _ _ => blX11_read_109) ((H.1 z0).2 z2))))))) (fun z0 => (X_call (fun _ _ _ _ => blX11_read_60) (K_mono (H.2 z0) (fun r2 σ2 q1 => (X_ifn (fun _ _ => blX11_read_64) (fun z2 => (X_go (fun _ _ => blX11_read_75) (X_if (fun _ _ => blX11_read_83) (fun z4 => (X_call (fun _ _ _ _ => blX11_read_103) (K_mono ((q1.1 z2).1 z4) (fun r3 σ3 q5 => (X_ret (fun _ _ => blX11_read_109) q5))))) (fun z4 => (X_go (fun _ _ => blX11_read_96) (X_ret (fun _ _ => blX11_read_109) ((q1.1 z2).2 z4))))))) (fun z2 => (X_go (fun _ _ => blX11_read_68) (X_if (fun _ _ => blX11_read_83) (fun z4 => (X_call (fun _ _ _ _ => blX11_read_103) (K_mono ((q1.2 z2).1 z4) (fun r4 σ4 q5 => (X_ret (fun _ _ => blX11_read_109) q5))))) (fun z4 => (X_go (fun _ _ => blX11_read_96) (X_ret (fun _ _ => blX11_read_109) ((q1.2 z2).2 z4)))))))))))))
set_option maxRecDepth 20000 in
theorem vX11_variablesIn {d : Nat} {σ : am_S} {Q : Int32 → am_S → Prop} {l1 : Int32} (H :
    am_X ri am_Lm IX11_variablesIn (d + 1) 4 [some (.ref 0), some (.int l1), some (.int (0 : Int32)), some (.int l1)] [] σ Q) : am_K ri am_Lm IX11_variablesIn (d + 1) [.ref 0, .int l1] σ Q := K_of am_owX11_variablesIn (Nat.le_of_ble_eq_true rfl) (X_go (fun _ _ => blX11_variablesIn_0) H)
set_option maxRecDepth 20000 in
theorem vX11_variablesIn_4 {d : Nat} {σ : am_S} {Q : Int32 → am_S → Prop} {l1 : Int32} {l2 : Int32} {l3 : Int32} (H :
    (vp_in l1 70000) ∧
    ((l1 + (gA σ 4 (l1).toNatClampNeg)) ≤ l3 →
      Q l2 σ) ∧
    (¬ (l1 + (gA σ 4 (l1).toNatClampNeg)) ≤ l3 →
      (vp_in l3 70000) ∧
      (¬ (gA σ 1 (l3).toNatClampNeg) = 0 →
        am_X ri am_Lm IX11_variablesIn (d + 1) 4 [some (.ref 0), some (.int l1), some (.int (l2 ||| (0 : Int32))), some (.int (l3 + (1 : Int32)))] [] σ Q) ∧
      ((gA σ 1 (l3).toNatClampNeg) = 0 →
        (vp_in l3 70000) ∧
        am_X ri am_Lm IX11_variablesIn (d + 1) 4 [some (.ref 0), some (.int l1), some (.int (l2 ||| ((1 : Int32) <<< ((gA σ 2 (l3).toNatClampNeg) &&& 31)))), some (.int (l3 + (1 : Int32)))] [] σ Q))) : am_X ri am_Lm IX11_variablesIn (d + 1) 4 [some (.ref 0), some (.int l1), some (.int l2), some (.int l3)] [] σ Q := (X_if (fun _ _ => blX11_variablesIn_4 H.1) (fun z0 => (X_ret (fun _ _ => blX11_variablesIn_46) (H.2.1 z0))) (fun z0 => (X_ifn (fun _ _ => blX11_variablesIn_16 (H.2.2 z0).1) (fun z1 => (X_go (fun _ _ => blX11_variablesIn_37) (X_go (fun _ _ => blX11_variablesIn_38) ((H.2.2 z0).2.1 z1)))) (fun z1 => (X_go (fun _ _ => blX11_variablesIn_26 ((H.2.2 z0).2.2 z1).1) (X_go (fun _ _ => blX11_variablesIn_38) ((H.2.2 z0).2.2 z1).2))))))
set_option maxRecDepth 20000 in
theorem vX11_bitsOf {d : Nat} {σ : am_S} {Q : Int32 → am_S → Prop} {l0 : Int32} (H :
    am_X ri am_Lm IX11_bitsOf (d + 1) 4 [some (.int l0), some (.int (0 : Int32)), some (.int (0 : Int32))] [] σ Q) : am_K ri am_Lm IX11_bitsOf (d + 1) [.int l0] σ Q := K_of am_owX11_bitsOf (Nat.le_of_ble_eq_true rfl) (X_go (fun _ _ => blX11_bitsOf_0) H)
set_option maxRecDepth 20000 in
theorem vX11_bitsOf_4 {d : Nat} {σ : am_S} {Q : Int32 → am_S → Prop} {l0 : Int32} {l1 : Int32} {l2 : Int32} (H :
    ((22 : Int32) ≤ l2 →
      Q l1 σ) ∧
    (¬ (22 : Int32) ≤ l2 →
      am_X ri am_Lm IX11_bitsOf (d + 1) 4 [some (.int l0), some (.int (l1 + ((l0 >>> (l2 &&& 31)) &&& (1 : Int32)))), some (.int (l2 + (1 : Int32)))] [] σ Q)) : am_X ri am_Lm IX11_bitsOf (d + 1) 4 [some (.int l0), some (.int l1), some (.int l2)] [] σ Q := (X_if (fun _ _ => blX11_bitsOf_4) (fun z0 => (X_ret (fun _ _ => blX11_bitsOf_24) (H.1 z0))) (fun z0 => (X_go (fun _ _ => blX11_bitsOf_10) (H.2 z0))))
set_option maxRecDepth 20000 in
theorem vX11_told {d : Nat} {σ : am_S} {Q : Int32 → am_S → Prop} {l1 : Int32} {l2 : Int32} (H :
    am_K ri am_Lm IX11_isSlot d [.int l1] σ (fun r1 σ1 =>
      (r1 = 0 →
        Q (-1 : Int32) σ1) ∧
      (¬ r1 = 0 →
        am_K ri am_Lm IX11_in d [.long (l2).toInt64, .long (0 : Int64), .long (4 : Int64)] σ1 (fun r2 σ2 =>
          (¬ r2 = 0 →
            (vp_in l1 16) ∧
            (¬ (gA σ2 7 (l1).toNatClampNeg) = 0 →
              (¬ l2 = 0 →
                (¬ l2 = (1 : Int32) →
                  (¬ l2 = (2 : Int32) →
                    (¬ l2 = (3 : Int32) →
                      am_K ri am_Lm IX11_variablesIn d [.ref 0, .int ((40 : Int32) * l1)] σ2 (fun r3 σ3 =>
                        am_K ri am_Lm IX11_bitsOf d [.int r3] σ3 (fun r4 σ4 =>
                          Q r4 σ4))) ∧
                    (l2 = (3 : Int32) →
                      (vp_in ((40 : Int32) * l1) 70000) ∧
                      Q (gA σ2 4 (((40 : Int32) * l1)).toNatClampNeg) σ2)) ∧
                  (l2 = (2 : Int32) →
                    (vp_in ((40 : Int32) * l1) 70000) ∧
                    Q (gA σ2 3 (((40 : Int32) * l1)).toNatClampNeg) σ2)) ∧
                (l2 = (1 : Int32) →
                  (vp_in ((40 : Int32) * l1) 70000) ∧
                  Q (gA σ2 2 (((40 : Int32) * l1)).toNatClampNeg) σ2)) ∧
              (l2 = 0 →
                (vp_in ((40 : Int32) * l1) 70000) ∧
                Q (gA σ2 1 (((40 : Int32) * l1)).toNatClampNeg) σ2)) ∧
            ((gA σ2 7 (l1).toNatClampNeg) = 0 →
              Q (-2 : Int32) σ2)) ∧
          (r2 = 0 →
            Q (-1 : Int32) σ2))))) : am_K ri am_Lm IX11_told (d + 1) [.ref 0, .int l1, .int l2] σ Q := K_of am_owX11_told (Nat.le_of_ble_eq_true rfl) (X_call (fun _ _ _ _ => blX11_told_0) (K_mono H (fun r1 σ1 q0 => (X_if (fun _ _ => blX11_told_4) (fun z1 => (X_ret (fun _ _ => blX11_told_19) (q0.1 z1))) (fun z1 => (X_call (fun _ _ _ _ => blX11_told_7) (K_mono (q0.2 z1) (fun r2 σ2 q2 => (X_ifn (fun _ _ => blX11_told_16) (fun z3 => (X_ifn (fun _ _ => blX11_told_21 (q2.1 z3).1) (fun z4 => (X_ifn (fun _ _ => blX11_told_33) (fun z5 => (X_ifn (fun _ _ => blX11_told_51) (fun z6 => (X_ifn (fun _ _ => blX11_told_65) (fun z7 => (X_ifn (fun _ _ => blX11_told_79) (fun z8 => (X_call (fun _ _ _ _ => blX11_told_93) (K_mono ((((((q2.1 z3).2.1 z4).1 z5).1 z6).1 z7).1 z8) (fun r3 σ3 q9 => (X_call (fun _ _ _ _ => blX11_told_98) (K_mono q9 (fun r4 σ4 q10 => (X_ret (fun _ _ => blX11_told_101) q10)))))))) (fun z8 => (X_go (fun _ _ => blX11_told_84 ((((((q2.1 z3).2.1 z4).1 z5).1 z6).1 z7).2 z8).1) (X_ret (fun _ _ => blX11_told_101) ((((((q2.1 z3).2.1 z4).1 z5).1 z6).1 z7).2 z8).2))))) (fun z7 => (X_go (fun _ _ => blX11_told_70 (((((q2.1 z3).2.1 z4).1 z5).1 z6).2 z7).1) (X_ret (fun _ _ => blX11_told_101) (((((q2.1 z3).2.1 z4).1 z5).1 z6).2 z7).2))))) (fun z6 => (X_go (fun _ _ => blX11_told_56 ((((q2.1 z3).2.1 z4).1 z5).2 z6).1) (X_ret (fun _ _ => blX11_told_101) ((((q2.1 z3).2.1 z4).1 z5).2 z6).2))))) (fun z5 => (X_go (fun _ _ => blX11_told_42 (((q2.1 z3).2.1 z4).2 z5).1) (X_ret (fun _ _ => blX11_told_101) (((q2.1 z3).2.1 z4).2 z5).2))))) (fun z4 => (X_ret (fun _ _ => blX11_told_30) ((q2.1 z3).2.2 z4))))) (fun z3 => (X_ret (fun _ _ => blX11_told_19) (q2.2 z3))))))))))))
set_option maxRecDepth 20000 in
theorem vX11_part {d : Nat} {σ : am_S} {Q : Int32 → am_S → Prop} {l1 : Int32} {l2 : Int32} {l3 : Int32} (H :
    am_K ri am_Lm IX11_isSlot d [.int l1] σ (fun r1 σ1 =>
      (r1 = 0 →
        Q (-1 : Int32) σ1) ∧
      (¬ r1 = 0 →
        am_K ri am_Lm IX11_isSlot d [.int l3] σ1 (fun r2 σ2 =>
          (¬ r2 = 0 →
            (vp_in l1 16) ∧
            (¬ (gA σ2 7 (l1).toNatClampNeg) = 0 →
              (vp_in ((40 : Int32) * l1) 70000) ∧
              am_K ri am_Lm IX11_in d [.long (l2).toInt64, .long (0 : Int64), .long (((gA σ2 3 (((40 : Int32) * l1)).toNatClampNeg) - (1 : Int32))).toInt64] σ2 (fun r3 σ3 =>
                (¬ r3 = 0 →
                  am_K ru am_Lm IX11_begin d [.ref 0] σ3 (fun _ σ4 =>
                    am_K ri am_Lm IX11_partAt d [.ref 0, .int ((40 : Int32) * l1), .int l2] σ4 (fun r5 σ5 =>
                      am_K ru am_Lm IX11_copy d [.ref 0, .int r5, .int (gS σ4 0 4)] σ5 (fun _ σ6 =>
                        am_K ri am_Lm IX11_store d [.ref 0, .int (gS σ4 0 4), .int l3] σ6 (fun r7 σ7 =>
                          Q r7 σ7))))) ∧
                (r3 = 0 →
                  Q (-1 : Int32) σ3))) ∧
            ((gA σ2 7 (l1).toNatClampNeg) = 0 →
              Q (-2 : Int32) σ2)) ∧
          (r2 = 0 →
            Q (-1 : Int32) σ2))))) : am_K ri am_Lm IX11_part (d + 1) [.ref 0, .int l1, .int l2, .int l3] σ Q := K_of am_owX11_part (Nat.le_of_ble_eq_true rfl) (X_call (fun _ _ _ _ => blX11_part_0) (K_mono H (fun r1 σ1 q0 => (X_if (fun _ _ => blX11_part_4) (fun z1 => (X_ret (fun _ _ => blX11_part_14) (q0.1 z1))) (fun z1 => (X_call (fun _ _ _ _ => blX11_part_7) (K_mono (q0.2 z1) (fun r2 σ2 q2 => (X_ifn (fun _ _ => blX11_part_11) (fun z3 => (X_ifn (fun _ _ => blX11_part_16 (q2.1 z3).1) (fun z4 => (X_call (fun _ _ _ _ => blX11_part_28 ((q2.1 z3).2.1 z4).1) (K_mono ((q2.1 z3).2.1 z4).2 (fun r3 σ3 q5 => (X_ifn (fun _ _ => blX11_part_46) (fun z6 => (X_call (fun _ _ _ _ => blX11_part_51) (K_mono (q5.1 z6) (fun _ σ4 q7 => (X_call (fun _ _ _ _ => blX11_part_55) (K_mono q7 (fun r5 σ5 q8 => (X_call (fun _ _ _ _ => blX11_part_71) (K_mono q8 (fun _ σ6 q9 => (X_call (fun _ _ _ _ => blX11_part_76) (K_mono q9 (fun r7 σ7 q10 => (X_ret (fun _ _ => blX11_part_83) q10)))))))))))))) (fun z6 => (X_ret (fun _ _ => blX11_part_49) (q5.2 z6)))))))) (fun z4 => (X_ret (fun _ _ => blX11_part_25) ((q2.1 z3).2.2 z4))))) (fun z3 => (X_ret (fun _ _ => blX11_part_14) (q2.2 z3))))))))))))
set_option maxRecDepth 20000 in
theorem vX11_order {d : Nat} {σ : am_S} {Q : Int32 → am_S → Prop} {l1 : Int32} {l2 : Int32} (H :
    am_K ri am_Lm IX11_isSlot d [.int l1] σ (fun r1 σ1 =>
      (r1 = 0 →
        Q (-1 : Int32) σ1) ∧
      (¬ r1 = 0 →
        am_K ri am_Lm IX11_isSlot d [.int l2] σ1 (fun r2 σ2 =>
          (¬ r2 = 0 →
            (vp_in l1 16) ∧
            ((gA σ2 7 (l1).toNatClampNeg) = 0 →
              Q (-2 : Int32) σ2) ∧
            (¬ (gA σ2 7 (l1).toNatClampNeg) = 0 →
              (vp_in l2 16) ∧
              (¬ (gA σ2 7 (l2).toNatClampNeg) = 0 →
                am_K ri am_Lm IX11_ordered d [.ref 0, .int ((40 : Int32) * l1), .int ((40 : Int32) * l2)] σ2 (fun r3 σ3 =>
                  (¬ r3 = 0 →
                    (0 ≤ r3 →
                      Q (2 : Int32) σ3) ∧
                    (¬ 0 ≤ r3 →
                      Q (1 : Int32) σ3)) ∧
                  (r3 = 0 →
                    Q (0 : Int32) σ3))) ∧
              ((gA σ2 7 (l2).toNatClampNeg) = 0 →
                Q (-2 : Int32) σ2))) ∧
          (r2 = 0 →
            Q (-1 : Int32) σ2))))) : am_K ri am_Lm IX11_order (d + 1) [.ref 0, .int l1, .int l2] σ Q := K_of am_owX11_order (Nat.le_of_ble_eq_true rfl) (X_call (fun _ _ _ _ => blX11_order_0) (K_mono H (fun r1 σ1 q0 => (X_if (fun _ _ => blX11_order_4) (fun z1 => (X_ret (fun _ _ => blX11_order_14) (q0.1 z1))) (fun z1 => (X_call (fun _ _ _ _ => blX11_order_7) (K_mono (q0.2 z1) (fun r2 σ2 q2 => (X_ifn (fun _ _ => blX11_order_11) (fun z3 => (X_if (fun _ _ => blX11_order_16 (q2.1 z3).1) (fun z4 => (X_ret (fun _ _ => blX11_order_34) ((q2.1 z3).2.1 z4))) (fun z4 => (X_ifn (fun _ _ => blX11_order_25 ((q2.1 z3).2.2 z4).1) (fun z5 => (X_call (fun _ _ _ _ => blX11_order_37) (K_mono (((q2.1 z3).2.2 z4).2.1 z5) (fun r3 σ3 q6 => (X_ifn (fun _ _ => blX11_order_49) (fun z7 => (X_if (fun _ _ => blX11_order_58) (fun z8 => (X_go (fun _ _ => blX11_order_66) (X_ret (fun _ _ => blX11_order_67) ((q6.1 z7).1 z8)))) (fun z8 => (X_go (fun _ _ => blX11_order_62) (X_ret (fun _ _ => blX11_order_67) ((q6.1 z7).2 z8)))))) (fun z7 => (X_go (fun _ _ => blX11_order_54) (X_ret (fun _ _ => blX11_order_67) (q6.2 z7))))))))) (fun z5 => (X_ret (fun _ _ => blX11_order_34) (((q2.1 z3).2.2 z4).2.2 z5))))))) (fun z3 => (X_ret (fun _ _ => blX11_order_14) (q2.2 z3))))))))))))
set_option maxRecDepth 20000 in
theorem vX11_join {d : Nat} {σ : am_S} {Q : Int32 → am_S → Prop} {l1 : Int32} {l2 : Int32} {l3 : Int32} {l4 : Int32} (H :
    am_K ri am_Lm IX11_isSlot d [.int l1] σ (fun r1 σ1 =>
      (r1 = 0 →
        Q (-1 : Int32) σ1) ∧
      (¬ r1 = 0 →
        am_K ri am_Lm IX11_isSlot d [.int l2] σ1 (fun r2 σ2 =>
          (r2 = 0 →
            Q (-1 : Int32) σ2) ∧
          (¬ r2 = 0 →
            am_K ri am_Lm IX11_in d [.long (l3).toInt64, .long (0 : Int64), .long (1 : Int64)] σ2 (fun r3 σ3 =>
              (r3 = 0 →
                Q (-1 : Int32) σ3) ∧
              (¬ r3 = 0 →
                am_K ri am_Lm IX11_isSlot d [.int l4] σ3 (fun r4 σ4 =>
                  (¬ r4 = 0 →
                    (vp_in l1 16) ∧
                    ((gA σ4 7 (l1).toNatClampNeg) = 0 →
                      Q (-2 : Int32) σ4) ∧
                    (¬ (gA σ4 7 (l1).toNatClampNeg) = 0 →
                      (vp_in l2 16) ∧
                      (¬ (gA σ4 7 (l2).toNatClampNeg) = 0 →
                        am_K ru am_Lm IX11_begin d [.ref 0] σ4 (fun _ σ5 =>
                          am_K ru am_Lm IX11_put d [.ref 0, .int ((40 : Int32) * l1)] σ5 (fun _ σ6 =>
                            am_K ru am_Lm IX11_put d [.ref 0, .int ((40 : Int32) * l2)] σ6 (fun _ σ7 =>
                              am_K ri am_Lm IX11_joined d [.ref 0, .int ((3 : Int32) + l3), .int (0 : Int32)] σ7 (fun r8 σ8 =>
                                am_K ri am_Lm IX11_store d [.ref 0, .int r8, .int l4] σ8 (fun r9 σ9 =>
                                  Q r9 σ9)))))) ∧
                      ((gA σ4 7 (l2).toNatClampNeg) = 0 →
                        Q (-2 : Int32) σ4))) ∧
                  (r4 = 0 →
                    Q (-1 : Int32) σ4))))))))) : am_K ri am_Lm IX11_join (d + 1) [.ref 0, .int l1, .int l2, .int l3, .int l4] σ Q := K_of am_owX11_join (Nat.le_of_ble_eq_true rfl) (X_call (fun _ _ _ _ => blX11_join_0) (K_mono H (fun r1 σ1 q0 => (X_if (fun _ _ => blX11_join_4) (fun z1 => (X_ret (fun _ _ => blX11_join_32) (q0.1 z1))) (fun z1 => (X_call (fun _ _ _ _ => blX11_join_7) (K_mono (q0.2 z1) (fun r2 σ2 q2 => (X_if (fun _ _ => blX11_join_11) (fun z3 => (X_ret (fun _ _ => blX11_join_32) (q2.1 z3))) (fun z3 => (X_call (fun _ _ _ _ => blX11_join_14) (K_mono (q2.2 z3) (fun r3 σ3 q4 => (X_if (fun _ _ => blX11_join_21) (fun z5 => (X_ret (fun _ _ => blX11_join_32) (q4.1 z5))) (fun z5 => (X_call (fun _ _ _ _ => blX11_join_24) (K_mono (q4.2 z5) (fun r4 σ4 q6 => (X_ifn (fun _ _ => blX11_join_29) (fun z7 => (X_if (fun _ _ => blX11_join_34 (q6.1 z7).1) (fun z8 => (X_ret (fun _ _ => blX11_join_52) ((q6.1 z7).2.1 z8))) (fun z8 => (X_ifn (fun _ _ => blX11_join_43 ((q6.1 z7).2.2 z8).1) (fun z9 => (X_call (fun _ _ _ _ => blX11_join_55) (K_mono (((q6.1 z7).2.2 z8).2.1 z9) (fun _ σ5 q10 => (X_call (fun _ _ _ _ => blX11_join_59) (K_mono q10 (fun _ σ6 q11 => (X_call (fun _ _ _ _ => blX11_join_67) (K_mono q11 (fun _ σ7 q12 => (X_call (fun _ _ _ _ => blX11_join_75) (K_mono q12 (fun r8 σ8 q13 => (X_call (fun _ _ _ _ => blX11_join_84) (K_mono q13 (fun r9 σ9 q14 => (X_ret (fun _ _ => blX11_join_89) q14))))))))))))))))) (fun z9 => (X_ret (fun _ _ => blX11_join_52) (((q6.1 z7).2.2 z8).2.2 z9))))))) (fun z7 => (X_ret (fun _ _ => blX11_join_32) (q6.2 z7))))))))))))))))))))))
set_option maxRecDepth 20000 in
theorem vX11_write {d : Nat} {σ : am_S} {Q : Unit → am_S → Prop} {l1 : Int32} (H :
    (vp_in (gS σ 0 15) 400) ∧
    Q () (wS (wA σ 8 ((gS σ 0 15)).toNatClampNeg l1) 0 15 ((gS σ 0 15) + (1 : Int32)))) : am_K ru am_Lm IX11_write (d + 1) [.ref 0, .int l1] σ Q := K_of am_owX11_write (Nat.le_of_ble_eq_true rfl) (X_ret (fun _ _ => blX11_write_0 H.1) H.2)
set_option maxRecDepth 20000 in
theorem vX11_writeTerm {d : Nat} {σ : am_S} {Q : Unit → am_S → Prop} {l1 : Int32} {l2 : Int32} (H :
    (l2 = 0 →
      am_X ru am_Lm IX11_writeTerm (d + 1) 30 [some (.ref 0), some (.int l1), some (.int l2), some (.int (0 : Int32)), none, none] [] σ Q) ∧
    (¬ l2 = 0 →
      (vp_in l1 70000) ∧
      (¬ (gA σ 1 (l1).toNatClampNeg) = (3 : Int32) →
        am_X ru am_Lm IX11_writeTerm (d + 1) 30 [some (.ref 0), some (.int l1), some (.int l2), some (.int (0 : Int32)), none, none] [] σ Q) ∧
      ((gA σ 1 (l1).toNatClampNeg) = (3 : Int32) →
        am_K ru am_Lm IX11_write d [.ref 0, .int (40 : Int32)] σ (fun _ σ1 =>
          am_X ru am_Lm IX11_writeTerm (d + 1) 30 [some (.ref 0), some (.int l1), some (.int l2), some (.int (1 : Int32)), none, none] [] σ1 Q)))) : am_K ru am_Lm IX11_writeTerm (d + 1) [.ref 0, .int l1, .int l2] σ Q := K_of am_owX11_writeTerm (Nat.le_of_ble_eq_true rfl) (X_if (fun _ _ => blX11_writeTerm_0) (fun z0 => (X_go (fun _ _ => blX11_writeTerm_18) (X_go (fun _ _ h => blX11_writeTerm_19 (fun _ => h) (fun z => absurd z (by decide))) (H.1 z0)))) (fun z0 => (X_ifn (fun _ _ => blX11_writeTerm_4 (H.2 z0).1) (fun z1 => (X_go (fun _ _ => blX11_writeTerm_18) (X_go (fun _ _ h => blX11_writeTerm_19 (fun _ => h) (fun z => absurd z (by decide))) ((H.2 z0).2.1 z1)))) (fun z1 => (X_go (fun _ _ => blX11_writeTerm_14) (X_go (fun _ _ h => blX11_writeTerm_19 (fun z => absurd z (by decide)) (fun _ => h)) (X_call (fun _ _ _ _ => blX11_writeTerm_24) (K_mono ((H.2 z0).2.2 z1) (fun _ σ1 q4 => q4)))))))))
set_option maxRecDepth 20000 in
theorem vX11_writeTerm_30 {d : Nat} {σ : am_S} {Q : Unit → am_S → Prop} {l1 : Int32} {l2 : Int32} {l3 : Int32} (H :
    (vp_in l1 70000) ∧
    (¬ (gA σ 1 (l1).toNatClampNeg) = 0 →
      (vp_in l1 70000) ∧
      (¬ (gA σ 1 (l1).toNatClampNeg) = (1 : Int32) →
        (vp_in l1 70000) ∧
        (¬ (gA σ 1 (l1).toNatClampNeg) = (2 : Int32) →
          am_X ru am_Lm IX11_writeTerm (d + 1) 141 [some (.ref 0), some (.int l1), some (.int l2), some (.int l3), some (.int (l1 + (1 : Int32))), some (.int (0 : Int32))] [] σ Q) ∧
        ((gA σ 1 (l1).toNatClampNeg) = (2 : Int32) →
          (vp_in l1 70000) ∧
          am_K ru am_Lm IX11_write d [.ref 0, .int ((102 : Int32) + (gA σ 2 (l1).toNatClampNeg))] σ (fun _ σ1 =>
            am_K ru am_Lm IX11_write d [.ref 0, .int (40 : Int32)] σ1 (fun _ σ2 =>
              am_X ru am_Lm IX11_writeTerm (d + 1) 141 [some (.ref 0), some (.int l1), some (.int l2), some (.int l3), some (.int (l1 + (1 : Int32))), some (.int (0 : Int32))] [] σ2 Q)))) ∧
      ((gA σ 1 (l1).toNatClampNeg) = (1 : Int32) →
        (vp_in l1 70000) ∧
        am_K ru am_Lm IX11_write d [.ref 0, .int ((97 : Int32) + (gA σ 2 (l1).toNatClampNeg))] σ (fun _ σ3 =>
          am_X ru am_Lm IX11_writeTerm (d + 1) 141 [some (.ref 0), some (.int l1), some (.int l2), some (.int l3), some (.int (l1 + (1 : Int32))), some (.int (0 : Int32))] [] σ3 Q))) ∧
    ((gA σ 1 (l1).toNatClampNeg) = 0 →
      (vp_in l1 70000) ∧
      ((6 : Int32) ≤ (gA σ 2 (l1).toNatClampNeg) →
        (vp_in l1 70000) ∧
        am_K ru am_Lm IX11_write d [.ref 0, .int ((59 : Int32) + (gA σ 2 (l1).toNatClampNeg))] σ (fun _ σ4 =>
          am_X ru am_Lm IX11_writeTerm (d + 1) 141 [some (.ref 0), some (.int l1), some (.int l2), some (.int l3), some (.int (l1 + (1 : Int32))), some (.int (0 : Int32))] [] σ4 Q)) ∧
      (¬ (6 : Int32) ≤ (gA σ 2 (l1).toNatClampNeg) →
        (vp_in l1 70000) ∧
        am_K ru am_Lm IX11_write d [.ref 0, .int ((117 : Int32) + (gA σ 2 (l1).toNatClampNeg))] σ (fun _ σ5 =>
          am_X ru am_Lm IX11_writeTerm (d + 1) 141 [some (.ref 0), some (.int l1), some (.int l2), some (.int l3), some (.int (l1 + (1 : Int32))), some (.int (0 : Int32))] [] σ5 Q)))) : am_X ru am_Lm IX11_writeTerm (d + 1) 30 [some (.ref 0), some (.int l1), some (.int l2), some (.int l3), none, none] [] σ Q := (X_ifn (fun _ _ => blX11_writeTerm_30 H.1) (fun z0 => (X_ifn (fun _ _ => blX11_writeTerm_78 (H.2.1 z0).1) (fun z1 => (X_ifn (fun _ _ => blX11_writeTerm_104 ((H.2.1 z0).2.1 z1).1) (fun z2 => (X_go (fun _ _ => blX11_writeTerm_133) (((H.2.1 z0).2.1 z1).2.1 z2))) (fun z2 => (X_call (fun _ _ _ _ => blX11_writeTerm_114 (((H.2.1 z0).2.1 z1).2.2 z2).1) (K_mono (((H.2.1 z0).2.1 z1).2.2 z2).2 (fun _ σ1 q3 => (X_call (fun _ _ _ _ => blX11_writeTerm_127) (K_mono q3 (fun _ σ2 q4 => (X_go (fun _ _ => blX11_writeTerm_133) q4)))))))))) (fun z1 => (X_call (fun _ _ _ _ => blX11_writeTerm_88 ((H.2.1 z0).2.2 z1).1) (K_mono ((H.2.1 z0).2.2 z1).2 (fun _ σ3 q2 => (X_go (fun _ _ => blX11_writeTerm_101) (X_go (fun _ _ => blX11_writeTerm_133) q2)))))))) (fun z0 => (X_if (fun _ _ => blX11_writeTerm_39 (H.2.2 z0).1) (fun z1 => (X_go (fun _ _ => blX11_writeTerm_63 ((H.2.2 z0).2.1 z1).1) (X_call (fun _ _ _ _ => blX11_writeTerm_72) (K_mono ((H.2.2 z0).2.1 z1).2 (fun _ σ4 q3 => (X_go (fun _ _ => blX11_writeTerm_75) (X_go (fun _ _ => blX11_writeTerm_133) q3))))))) (fun z1 => (X_go (fun _ _ => blX11_writeTerm_51 ((H.2.2 z0).2.2 z1).1) (X_call (fun _ _ _ _ => blX11_writeTerm_72) (K_mono ((H.2.2 z0).2.2 z1).2 (fun _ σ5 q3 => (X_go (fun _ _ => blX11_writeTerm_75) (X_go (fun _ _ => blX11_writeTerm_133) q3))))))))))
set_option maxRecDepth 20000 in
theorem vX11_writeTerm_141 {d : Nat} {σ : am_S} {Q : Unit → am_S → Prop} {l1 : Int32} {l2 : Int32} {l3 : Int32} {l4 : Int32} {l5 : Int32} (H :
    (vp_in l1 70000) ∧
    ((gA σ 3 (l1).toNatClampNeg) ≤ l5 →
      (¬ l3 = 0 →
        am_K ru am_Lm IX11_write d [.ref 0, .int (41 : Int32)] σ (fun _ σ1 =>
          Q () σ1)) ∧
      (l3 = 0 →
        (vp_in l1 70000) ∧
        (¬ (gA σ 1 (l1).toNatClampNeg) = (2 : Int32) →
          Q () σ) ∧
        ((gA σ 1 (l1).toNatClampNeg) = (2 : Int32) →
          am_K ru am_Lm IX11_write d [.ref 0, .int (41 : Int32)] σ (fun _ σ2 =>
            Q () σ2)))) ∧
    (¬ (gA σ 3 (l1).toNatClampNeg) ≤ l5 →
      (l5 ≤ 0 →
        (vp_in l1 70000) ∧
        (¬ (gA σ 1 (l1).toNatClampNeg) = (4 : Int32) →
          am_K ru am_Lm IX11_writeTerm d [.ref 0, .int l4, .int (0 : Int32)] σ (fun _ σ3 =>
            (vp_in l4 70000) ∧
            am_X ru am_Lm IX11_writeTerm (d + 1) 141 [some (.ref 0), some (.int l1), some (.int l2), some (.int l3), some (.int (l4 + (gA σ3 4 (l4).toNatClampNeg))), some (.int (l5 + (1 : Int32)))] [] σ3 Q)) ∧
        ((gA σ 1 (l1).toNatClampNeg) = (4 : Int32) →
          am_K ru am_Lm IX11_writeTerm d [.ref 0, .int l4, .int (1 : Int32)] σ (fun _ σ4 =>
            (vp_in l4 70000) ∧
            am_X ru am_Lm IX11_writeTerm (d + 1) 141 [some (.ref 0), some (.int l1), some (.int l2), some (.int l3), some (.int (l4 + (gA σ4 4 (l4).toNatClampNeg))), some (.int (l5 + (1 : Int32)))] [] σ4 Q))) ∧
      (¬ l5 ≤ 0 →
        (vp_in l1 70000) ∧
        (¬ (gA σ 1 (l1).toNatClampNeg) = (2 : Int32) →
          (vp_in l1 70000) ∧
          (¬ (gA σ 1 (l1).toNatClampNeg) = (3 : Int32) →
            am_K ru am_Lm IX11_write d [.ref 0, .int (42 : Int32)] σ (fun _ σ5 =>
              (vp_in l1 70000) ∧
              (¬ (gA σ5 1 (l1).toNatClampNeg) = (4 : Int32) →
                am_K ru am_Lm IX11_writeTerm d [.ref 0, .int l4, .int (0 : Int32)] σ5 (fun _ σ6 =>
                  (vp_in l4 70000) ∧
                  am_X ru am_Lm IX11_writeTerm (d + 1) 141 [some (.ref 0), some (.int l1), some (.int l2), some (.int l3), some (.int (l4 + (gA σ6 4 (l4).toNatClampNeg))), some (.int (l5 + (1 : Int32)))] [] σ6 Q)) ∧
              ((gA σ5 1 (l1).toNatClampNeg) = (4 : Int32) →
                am_K ru am_Lm IX11_writeTerm d [.ref 0, .int l4, .int (1 : Int32)] σ5 (fun _ σ7 =>
                  (vp_in l4 70000) ∧
                  am_X ru am_Lm IX11_writeTerm (d + 1) 141 [some (.ref 0), some (.int l1), some (.int l2), some (.int l3), some (.int (l4 + (gA σ7 4 (l4).toNatClampNeg))), some (.int (l5 + (1 : Int32)))] [] σ7 Q)))) ∧
          ((gA σ 1 (l1).toNatClampNeg) = (3 : Int32) →
            am_K ru am_Lm IX11_write d [.ref 0, .int (43 : Int32)] σ (fun _ σ8 =>
              (vp_in l1 70000) ∧
              (¬ (gA σ8 1 (l1).toNatClampNeg) = (4 : Int32) →
                am_K ru am_Lm IX11_writeTerm d [.ref 0, .int l4, .int (0 : Int32)] σ8 (fun _ σ9 =>
                  (vp_in l4 70000) ∧
                  am_X ru am_Lm IX11_writeTerm (d + 1) 141 [some (.ref 0), some (.int l1), some (.int l2), some (.int l3), some (.int (l4 + (gA σ9 4 (l4).toNatClampNeg))), some (.int (l5 + (1 : Int32)))] [] σ9 Q)) ∧
              ((gA σ8 1 (l1).toNatClampNeg) = (4 : Int32) →
                am_K ru am_Lm IX11_writeTerm d [.ref 0, .int l4, .int (1 : Int32)] σ8 (fun _ σ10 =>
                  (vp_in l4 70000) ∧
                  am_X ru am_Lm IX11_writeTerm (d + 1) 141 [some (.ref 0), some (.int l1), some (.int l2), some (.int l3), some (.int (l4 + (gA σ10 4 (l4).toNatClampNeg))), some (.int (l5 + (1 : Int32)))] [] σ10 Q))))) ∧
        ((gA σ 1 (l1).toNatClampNeg) = (2 : Int32) →
          am_K ru am_Lm IX11_write d [.ref 0, .int (44 : Int32)] σ (fun _ σ11 =>
            (vp_in l1 70000) ∧
            (¬ (gA σ11 1 (l1).toNatClampNeg) = (4 : Int32) →
              am_K ru am_Lm IX11_writeTerm d [.ref 0, .int l4, .int (0 : Int32)] σ11 (fun _ σ12 =>
                (vp_in l4 70000) ∧
                am_X ru am_Lm IX11_writeTerm (d + 1) 141 [some (.ref 0), some (.int l1), some (.int l2), some (.int l3), some (.int (l4 + (gA σ12 4 (l4).toNatClampNeg))), some (.int (l5 + (1 : Int32)))] [] σ12 Q)) ∧
            ((gA σ11 1 (l1).toNatClampNeg) = (4 : Int32) →
              am_K ru am_Lm IX11_writeTerm d [.ref 0, .int l4, .int (1 : Int32)] σ11 (fun _ σ13 =>
                (vp_in l4 70000) ∧
                am_X ru am_Lm IX11_writeTerm (d + 1) 141 [some (.ref 0), some (.int l1), some (.int l2), some (.int l3), some (.int (l4 + (gA σ13 4 (l4).toNatClampNeg))), some (.int (l5 + (1 : Int32)))] [] σ13 Q))))))) : am_X ru am_Lm IX11_writeTerm (d + 1) 141 [some (.ref 0), some (.int l1), some (.int l2), some (.int l3), some (.int l4), some (.int l5)] [] σ Q := (X_if (fun _ _ => blX11_writeTerm_141 H.1) (fun z0 => (X_ifn (fun _ _ => blX11_writeTerm_232) (fun z1 => (X_call (fun _ _ _ _ => blX11_writeTerm_246) (K_mono ((H.2.1 z0).1 z1) (fun _ σ1 q2 => (X_ret (fun _ _ => blX11_writeTerm_252) q2))))) (fun z1 => (X_ifn (fun _ _ => blX11_writeTerm_236 ((H.2.1 z0).2 z1).1) (fun z2 => (X_ret (fun _ _ => blX11_writeTerm_252) (((H.2.1 z0).2 z1).2.1 z2))) (fun z2 => (X_call (fun _ _ _ _ => blX11_writeTerm_246) (K_mono (((H.2.1 z0).2 z1).2.2 z2) (fun _ σ2 q3 => (X_ret (fun _ _ => blX11_writeTerm_252) q3))))))))) (fun z0 => (X_if (fun _ _ => blX11_writeTerm_152) (fun z1 => (X_ifn (fun _ _ => blX11_writeTerm_193 ((H.2.2 z0).1 z1).1) (fun z2 => (X_go (fun _ _ => blX11_writeTerm_210) (X_call (fun _ _ _ _ => blX11_writeTerm_211) (K_mono (((H.2.2 z0).1 z1).2.1 z2) (fun _ σ3 q4 => (X_go (fun _ _ => blX11_writeTerm_214 q4.1) q4.2)))))) (fun z2 => (X_go (fun _ _ => blX11_writeTerm_206) (X_call (fun _ _ _ _ => blX11_writeTerm_211) (K_mono (((H.2.2 z0).1 z1).2.2 z2) (fun _ σ4 q4 => (X_go (fun _ _ => blX11_writeTerm_214 q4.1) q4.2)))))))) (fun z1 => (X_ifn (fun _ _ => blX11_writeTerm_157 ((H.2.2 z0).2 z1).1) (fun z2 => (X_ifn (fun _ _ => blX11_writeTerm_173 (((H.2.2 z0).2 z1).2.1 z2).1) (fun z3 => (X_go (fun _ _ => blX11_writeTerm_188) (X_call (fun _ _ _ _ => blX11_writeTerm_190) (K_mono ((((H.2.2 z0).2 z1).2.1 z2).2.1 z3) (fun _ σ5 q5 => (X_ifn (fun _ _ => blX11_writeTerm_193 q5.1) (fun z6 => (X_go (fun _ _ => blX11_writeTerm_210) (X_call (fun _ _ _ _ => blX11_writeTerm_211) (K_mono (q5.2.1 z6) (fun _ σ6 q8 => (X_go (fun _ _ => blX11_writeTerm_214 q8.1) q8.2)))))) (fun z6 => (X_go (fun _ _ => blX11_writeTerm_206) (X_call (fun _ _ _ _ => blX11_writeTerm_211) (K_mono (q5.2.2 z6) (fun _ σ7 q8 => (X_go (fun _ _ => blX11_writeTerm_214 q8.1) q8.2)))))))))))) (fun z3 => (X_go (fun _ _ => blX11_writeTerm_183) (X_call (fun _ _ _ _ => blX11_writeTerm_190) (K_mono ((((H.2.2 z0).2 z1).2.1 z2).2.2 z3) (fun _ σ8 q5 => (X_ifn (fun _ _ => blX11_writeTerm_193 q5.1) (fun z6 => (X_go (fun _ _ => blX11_writeTerm_210) (X_call (fun _ _ _ _ => blX11_writeTerm_211) (K_mono (q5.2.1 z6) (fun _ σ9 q8 => (X_go (fun _ _ => blX11_writeTerm_214 q8.1) q8.2)))))) (fun z6 => (X_go (fun _ _ => blX11_writeTerm_206) (X_call (fun _ _ _ _ => blX11_writeTerm_211) (K_mono (q5.2.2 z6) (fun _ σ10 q8 => (X_go (fun _ _ => blX11_writeTerm_214 q8.1) q8.2)))))))))))))) (fun z2 => (X_go (fun _ _ => blX11_writeTerm_168) (X_call (fun _ _ _ _ => blX11_writeTerm_190) (K_mono (((H.2.2 z0).2 z1).2.2 z2) (fun _ σ11 q4 => (X_ifn (fun _ _ => blX11_writeTerm_193 q4.1) (fun z5 => (X_go (fun _ _ => blX11_writeTerm_210) (X_call (fun _ _ _ _ => blX11_writeTerm_211) (K_mono (q4.2.1 z5) (fun _ σ12 q7 => (X_go (fun _ _ => blX11_writeTerm_214 q7.1) q7.2)))))) (fun z5 => (X_go (fun _ _ => blX11_writeTerm_206) (X_call (fun _ _ _ _ => blX11_writeTerm_211) (K_mono (q4.2.2 z5) (fun _ σ13 q7 => (X_go (fun _ _ => blX11_writeTerm_214 q7.1) q7.2)))))))))))))))))
set_option maxRecDepth 20000 in
theorem vX11_print {d : Nat} {σ : am_S} {Q : Int32 → am_S → Prop} {l1 : Int32} (H :
    am_K ri am_Lm IX11_isSlot d [.int l1] σ (fun r1 σ1 =>
      (¬ r1 = 0 →
        (vp_in l1 16) ∧
        (¬ (gA σ1 7 (l1).toNatClampNeg) = 0 →
          am_K ru am_Lm IX11_writeTerm d [.ref 0, .int ((40 : Int32) * l1), .int (0 : Int32)] (wS σ1 0 15 (0 : Int32)) (fun _ σ2 =>
            Q (gS σ2 0 15) σ2)) ∧
        ((gA σ1 7 (l1).toNatClampNeg) = 0 →
          Q (-2 : Int32) σ1)) ∧
      (r1 = 0 →
        Q (-1 : Int32) σ1))) : am_K ri am_Lm IX11_print (d + 1) [.ref 0, .int l1] σ Q := K_of am_owX11_print (Nat.le_of_ble_eq_true rfl) (X_call (fun _ _ _ _ => blX11_print_0) (K_mono H (fun r1 σ1 q0 => (X_ifn (fun _ _ => blX11_print_4) (fun z1 => (X_ifn (fun _ _ => blX11_print_9 (q0.1 z1).1) (fun z2 => (X_call (fun _ _ _ _ => blX11_print_21) (K_mono ((q0.1 z1).2.1 z2) (fun _ σ2 q3 => (X_ret (fun _ _ => blX11_print_35) q3))))) (fun z2 => (X_ret (fun _ _ => blX11_print_18) ((q0.1 z1).2.2 z2))))) (fun z1 => (X_ret (fun _ _ => blX11_print_7) (q0.2 z1)))))))
set_option maxRecDepth 20000 in
theorem vX11_out {d : Nat} {σ : am_S} {Q : Int32 → am_S → Prop} {l1 : Int32} (H :
    am_K ri am_Lm IX11_in d [.long (l1).toInt64, .long (0 : Int64), .long (((gS σ 0 15) - (1 : Int32))).toInt64] σ (fun r1 σ1 =>
      (r1 = 0 →
        Q (-2 : Int32) σ1) ∧
      (¬ r1 = 0 →
        (vp_in l1 400) ∧
        Q (gA σ1 8 (l1).toNatClampNeg) σ1))) : am_K ri am_Lm IX11_out (d + 1) [.ref 0, .int l1] σ Q := K_of am_owX11_out (Nat.le_of_ble_eq_true rfl) (X_call (fun _ _ _ _ => blX11_out_0) (K_mono H (fun r1 σ1 q0 => (X_if (fun _ _ => blX11_out_13) (fun z1 => (X_go (fun _ _ => blX11_out_25) (X_ret (fun _ _ => blX11_out_27) (q0.1 z1)))) (fun z1 => (X_go (fun _ _ => blX11_out_16 (q0.2 z1).1) (X_ret (fun _ _ => blX11_out_27) (q0.2 z1).2)))))))
set_option maxRecDepth 20000 in
theorem vX11_goal {d : Nat} {σ : am_S} {Q : Int32 → am_S → Prop} {l1 : Int32} {l2 : Int32} {l3 : Int32} {l4 : Int32} {l5 : Int32} (H :
    (vp_in (gS σ 0 26) 4000) ∧
    (vp_in (gS σ 0 26) 4000) ∧
    (vp_in (gS σ 0 26) 4000) ∧
    (vp_in (gS σ 0 26) 4000) ∧
    (vp_in (gS σ 0 26) 4000) ∧
    Q (((gS σ 0 26) + (1 : Int32)) - (1 : Int32)) (wS (wA (wA (wA (wA (wA σ 12 ((gS σ 0 26)).toNatClampNeg l1) 13 ((gS σ 0 26)).toNatClampNeg l2) 14 ((gS σ 0 26)).toNatClampNeg l3) 15 ((gS σ 0 26)).toNatClampNeg l4) 16 ((gS σ 0 26)).toNatClampNeg l5) 0 26 ((gS σ 0 26) + (1 : Int32)))) : am_K ri am_Lm IX11_goal (d + 1) [.ref 0, .int l1, .int l2, .int l3, .int l4, .int l5] σ Q := K_of am_owX11_goal (Nat.le_of_ble_eq_true rfl) (X_ret (fun _ _ => blX11_goal_0 H.1 H.2.1 H.2.2.1 H.2.2.2.1 H.2.2.2.2.1) H.2.2.2.2.2)
set_option maxRecDepth 20000 in
theorem vX11_nameOf {d : Nat} {σ : am_S} {Q : Int32 → am_S → Prop} {l1 : Int32} (H :
    am_X ri am_Lm IX11_nameOf (d + 1) 2 [some (.ref 0), some (.int l1), some (.int (0 : Int32))] [] σ Q) : am_K ri am_Lm IX11_nameOf (d + 1) [.ref 0, .int l1] σ Q := K_of am_owX11_nameOf (Nat.le_of_ble_eq_true rfl) (X_go (fun _ _ => blX11_nameOf_0) H)
set_option maxRecDepth 20000 in
theorem vX11_nameOf_2 {d : Nat} {σ : am_S} {Q : Int32 → am_S → Prop} {l1 : Int32} {l2 : Int32} (H :
    ((gS σ 0 17) ≤ l2 →
      Q (-1 : Int32) σ) ∧
    (¬ (gS σ 0 17) ≤ l2 →
      (vp_in l2 4) ∧
      (¬ (gA σ 9 (l2).toNatClampNeg) = l1 →
        am_X ri am_Lm IX11_nameOf (d + 1) 2 [some (.ref 0), some (.int l1), some (.int (l2 + (1 : Int32)))] [] σ Q) ∧
      ((gA σ 9 (l2).toNatClampNeg) = l1 →
        Q l2 σ))) : am_X ri am_Lm IX11_nameOf (d + 1) 2 [some (.ref 0), some (.int l1), some (.int l2)] [] σ Q := (X_if (fun _ _ => blX11_nameOf_2) (fun z0 => (X_ret (fun _ _ => blX11_nameOf_28) (H.1 z0))) (fun z0 => (X_ifn (fun _ _ => blX11_nameOf_10 (H.2 z0).1) (fun z1 => (X_go (fun _ _ => blX11_nameOf_22) ((H.2 z0).2.1 z1))) (fun z1 => (X_ret (fun _ _ => blX11_nameOf_20) ((H.2 z0).2.2 z1))))))
set_option maxRecDepth 20000 in
theorem vX11_matcherAt {d : Nat} {σ : am_S} {Q : Int32 → am_S → Prop} {l1 : Int32} {l2 : Int32} (H :
    Q ((640 : Int32) + ((40 : Int32) * (((4 : Int32) * l1) + l2))) σ) : am_K ri am_Lm IX11_matcherAt (d + 1) [.ref 0, .int l1, .int l2] σ Q := K_of am_owX11_matcherAt (Nat.le_of_ble_eq_true rfl) (X_ret (fun _ _ => blX11_matcherAt_0) H)
set_option maxRecDepth 20000 in
theorem vX11_found {d : Nat} {σ : am_S} {Q : Unit → am_S → Prop}  (H :
    am_X ru am_Lm IX11_found (d + 1) 2 [some (.ref 0), some (.int (0 : Int32)), none, none] [] σ Q) : am_K ru am_Lm IX11_found (d + 1) [.ref 0] σ Q := K_of am_owX11_found (Nat.le_of_ble_eq_true rfl) (X_go (fun _ _ => blX11_found_0) H)
set_option maxRecDepth 20000 in
theorem vX11_found_2 {d : Nat} {σ : am_S} {Q : Unit → am_S → Prop} {l1 : Int32} (H :
    ((gS σ 0 16) ≤ l1 →
      (¬ (gS σ 0 16) = (50 : Int32) →
        am_X ru am_Lm IX11_found (d + 1) 85 [some (.ref 0), some (.int (0 : Int32)), none, none] [] σ Q) ∧
      ((gS σ 0 16) = (50 : Int32) →
        (((1 : Int32) = 0 ∨ (1 : Int32) = 1)) ∧
        Q () (wS σ 0 27 (1 : Int32)))) ∧
    (¬ (gS σ 0 16) ≤ l1 →
      am_X ru am_Lm IX11_found (d + 1) 14 [some (.ref 0), some (.int l1), some (.int (1 : Int32)), some (.int (0 : Int32))] [] σ Q)) : am_X ru am_Lm IX11_found (d + 1) 2 [some (.ref 0), some (.int l1), none, none] [] σ Q := (X_if (fun _ _ => blX11_found_2) (fun z0 => (X_ifn (fun _ _ => blX11_found_68) (fun z1 => (X_go (fun _ _ => blX11_found_83) ((H.1 z0).1 z1))) (fun z1 => (X_ret (fun _ _ => blX11_found_77 ((H.1 z0).2 z1).1) ((H.1 z0).2 z1).2)))) (fun z0 => (X_go (fun _ _ => blX11_found_10) (H.2 z0))))
set_option maxRecDepth 20000 in
theorem vX11_found_14 {d : Nat} {σ : am_S} {Q : Unit → am_S → Prop} {l1 : Int32} {l2 : Int32} {l3 : Int32} (H :
    ((gS σ 0 17) ≤ l3 →
      (l2 = 0 →
        am_X ru am_Lm IX11_found (d + 1) 2 [some (.ref 0), some (.int (l1 + (1 : Int32))), none, none] [] σ Q) ∧
      (¬ l2 = 0 →
        Q () σ)) ∧
    (¬ (gS σ 0 17) ≤ l3 →
      (l2 = 0 →
        (l2 = 0 →
          am_X ru am_Lm IX11_found (d + 1) 2 [some (.ref 0), some (.int (l1 + (1 : Int32))), none, none] [] σ Q) ∧
        (¬ l2 = 0 →
          Q () σ)) ∧
      (¬ l2 = 0 →
        am_K ri am_Lm IX11_matcherAt d [.ref 0, .int l1, .int l3] σ (fun r1 σ1 =>
          (vp_in l3 4) ∧
          am_K ri am_Lm IX11_ordered d [.ref 0, .int r1, .int (gA σ1 10 (l3).toNatClampNeg)] σ1 (fun r2 σ2 =>
            (¬ r2 = 0 →
              am_X ru am_Lm IX11_found (d + 1) 14 [some (.ref 0), some (.int l1), some (.int (0 : Int32)), some (.int (l3 + (1 : Int32)))] [] σ2 Q) ∧
            (r2 = 0 →
              am_X ru am_Lm IX11_found (d + 1) 14 [some (.ref 0), some (.int l1), some (.int (1 : Int32)), some (.int (l3 + (1 : Int32)))] [] σ2 Q)))))) : am_X ru am_Lm IX11_found (d + 1) 14 [some (.ref 0), some (.int l1), some (.int l2), some (.int l3)] [] σ Q := (X_if (fun _ _ => blX11_found_14) (fun z0 => (X_if (fun _ _ => blX11_found_57) (fun z1 => (X_go (fun _ _ => blX11_found_62) ((H.1 z0).1 z1))) (fun z1 => (X_ret (fun _ _ => blX11_found_61) ((H.1 z0).2 z1))))) (fun z0 => (X_if (fun _ _ => blX11_found_22) (fun z1 => (X_if (fun _ _ => blX11_found_57) (fun z2 => (X_go (fun _ _ => blX11_found_62) (((H.2 z0).1 z1).1 z2))) (fun z2 => (X_ret (fun _ _ => blX11_found_61) (((H.2 z0).1 z1).2 z2))))) (fun z1 => (X_call (fun _ _ _ _ => blX11_found_26) (K_mono ((H.2 z0).2 z1) (fun r1 σ1 q2 => (X_call (fun _ _ _ _ => blX11_found_33 q2.1) (K_mono q2.2 (fun r2 σ2 q3 => (X_ifn (fun _ _ => blX11_found_42) (fun z4 => (X_go (fun _ _ => blX11_found_49) (X_go (fun _ _ => blX11_found_50) (q3.1 z4)))) (fun z4 => (X_go (fun _ _ => blX11_found_45) (X_go (fun _ _ => blX11_found_50) (q3.2 z4)))))))))))))))
set_option maxRecDepth 20000 in
theorem vX11_found_85 {d : Nat} {σ : am_S} {Q : Unit → am_S → Prop} {l1 : Int32} (H :
    ((gS σ 0 17) ≤ l1 →
      Q () (wS σ 0 16 ((gS σ 0 16) + (1 : Int32)))) ∧
    (¬ (gS σ 0 17) ≤ l1 →
      (vp_in l1 4) ∧
      am_K ri am_Lm IX11_matcherAt d [.ref 0, .int (gS σ 0 16), .int l1] σ (fun r1 σ1 =>
        am_K ru am_Lm IX11_copy d [.ref 0, .int (gA σ 10 (l1).toNatClampNeg), .int r1] σ1 (fun _ σ2 =>
          am_X ru am_Lm IX11_found (d + 1) 85 [some (.ref 0), some (.int (l1 + (1 : Int32))), none, none] [] σ2 Q)))) : am_X ru am_Lm IX11_found (d + 1) 85 [some (.ref 0), some (.int l1), none, none] [] σ Q := (X_if (fun _ _ => blX11_found_85) (fun z0 => (X_ret (fun _ _ => blX11_found_118) (H.1 z0))) (fun z0 => (X_call (fun _ _ _ _ => blX11_found_93 (H.2 z0).1) (K_mono (H.2 z0).2 (fun r1 σ1 q1 => (X_call (fun _ _ _ _ => blX11_found_109) (K_mono q1 (fun _ σ2 q2 => (X_go (fun _ _ => blX11_found_112) q2)))))))))
set_option maxRecDepth 20000 in
theorem vX11_work {d : Nat} {σ : am_S} {Q : Unit → am_S → Prop} {l1 : Int32} (H :
    ((gS σ 0 27) = 0 →
      (0 ≤ l1 →
        (vp_in l1 4000) ∧
        (0 ≤ (gA σ 14 (l1).toNatClampNeg) →
          am_K ru am_Lm IX11_solveParts d [.ref 0, .int l1] σ (fun _ σ1 =>
            Q () σ1)) ∧
        (¬ 0 ≤ (gA σ 14 (l1).toNatClampNeg) →
          (vp_in l1 4000) ∧
          (vp_in l1 4000) ∧
          (vp_in l1 4000) ∧
          am_K ru am_Lm IX11_solveOne d [.ref 0, .int (gA σ 12 (l1).toNatClampNeg), .int (gA σ 13 (l1).toNatClampNeg), .int (gA σ 16 (l1).toNatClampNeg)] σ (fun _ σ2 =>
            Q () σ2))) ∧
      (¬ 0 ≤ l1 →
        am_K ru am_Lm IX11_found d [.ref 0] σ (fun _ σ3 =>
          Q () σ3))) ∧
    (¬ (gS σ 0 27) = 0 →
      Q () σ)) : am_K ru am_Lm IX11_work (d + 1) [.ref 0, .int l1] σ Q := K_of am_owX11_work (Nat.le_of_ble_eq_true rfl) (X_if (fun _ _ => blX11_work_0) (fun z0 => (X_if (fun _ _ => blX11_work_8) (fun z1 => (X_if (fun _ _ => blX11_work_19 ((H.1 z0).1 z1).1) (fun z2 => (X_call (fun _ _ _ _ => blX11_work_53) (K_mono (((H.1 z0).1 z1).2.1 z2) (fun _ σ1 q3 => (X_ret (fun _ _ => blX11_work_58) q3))))) (fun z2 => (X_call (fun _ _ _ _ => blX11_work_28 (((H.1 z0).1 z1).2.2 z2).1 (((H.1 z0).1 z1).2.2 z2).2.1 (((H.1 z0).1 z1).2.2 z2).2.2.1) (K_mono (((H.1 z0).1 z1).2.2 z2).2.2.2 (fun _ σ2 q3 => (X_go (fun _ _ => blX11_work_50) (X_ret (fun _ _ => blX11_work_58) q3)))))))) (fun z1 => (X_call (fun _ _ _ _ => blX11_work_12) (K_mono ((H.1 z0).2 z1) (fun _ σ3 q2 => (X_go (fun _ _ => blX11_work_16) (X_ret (fun _ _ => blX11_work_58) q2)))))))) (fun z0 => (X_ret (fun _ _ => blX11_work_7) (H.2 z0))))
set_option maxRecDepth 20000 in
theorem vX11_solveOne {d : Nat} {σ : am_S} {Q : Unit → am_S → Prop} {l1 : Int32} {l2 : Int32} {l3 : Int32} (H :
    (vp_in l1 70000) ∧
    (¬ (gA σ 1 (l1).toNatClampNeg) = 0 →
      (vp_in l1 70000) ∧
      (vp_in l2 70000) ∧
      (¬ (gA σ 1 (l1).toNatClampNeg) = (gA σ 1 (l2).toNatClampNeg) →
        Q () σ) ∧
      ((gA σ 1 (l1).toNatClampNeg) = (gA σ 1 (l2).toNatClampNeg) →
        (vp_in l1 70000) ∧
        (vp_in l2 70000) ∧
        ((gA σ 2 (l1).toNatClampNeg) = (gA σ 2 (l2).toNatClampNeg) →
          (vp_in l1 70000) ∧
          (¬ (gA σ 1 (l1).toNatClampNeg) = (1 : Int32) →
            (vp_in l1 70000) ∧
            ((gA σ 1 (l1).toNatClampNeg) = (2 : Int32) →
              (vp_in l1 70000) ∧
              (vp_in l2 70000) ∧
              (¬ (gA σ 3 (l1).toNatClampNeg) = (gA σ 3 (l2).toNatClampNeg) →
                Q () (wS σ 0 26 (gS σ 0 26))) ∧
              ((gA σ 3 (l1).toNatClampNeg) = (gA σ 3 (l2).toNatClampNeg) →
                (vp_in l1 70000) ∧
                am_X ru am_Lm IX11_solveOne (d + 1) 190 [some (.ref 0), some (.int l1), some (.int l2), some (.int l3), some (.int (gS σ 0 26)), some (.int l3), some (.int ((gA σ 3 (l1).toNatClampNeg) - (1 : Int32)))] [] σ Q)) ∧
            (¬ (gA σ 1 (l1).toNatClampNeg) = (2 : Int32) →
              (vp_in l1 70000) ∧
              am_K ri am_Lm IX11_goal d [.ref 0, .int l1, .int l2, .int (gA σ 3 (l1).toNatClampNeg), .int (0 : Int32), .int l3] σ (fun r1 σ1 =>
                am_K ru am_Lm IX11_work d [.ref 0, .int r1] σ1 (fun _ σ2 =>
                  Q () (wS σ2 0 26 (gS σ 0 26)))))) ∧
          ((gA σ 1 (l1).toNatClampNeg) = (1 : Int32) →
            am_K ru am_Lm IX11_work d [.ref 0, .int l3] σ (fun _ σ3 =>
              Q () (wS σ3 0 26 (gS σ 0 26))))) ∧
        (¬ (gA σ 2 (l1).toNatClampNeg) = (gA σ 2 (l2).toNatClampNeg) →
          Q () σ))) ∧
    ((gA σ 1 (l1).toNatClampNeg) = 0 →
      (vp_in l1 70000) ∧
      am_K ri am_Lm IX11_nameOf d [.ref 0, .int (gA σ 2 (l1).toNatClampNeg)] σ (fun r4 σ4 =>
        (vp_in r4 4) ∧
        ((gA σ4 10 (r4).toNatClampNeg) < 0 →
          (vp_in r4 4) ∧
          am_K ru am_Lm IX11_work d [.ref 0, .int l3] (wA σ4 10 (r4).toNatClampNeg l2) (fun _ σ5 =>
            (vp_in r4 4) ∧
            Q () (wA σ5 10 (r4).toNatClampNeg (-1 : Int32)))) ∧
        (¬ (gA σ4 10 (r4).toNatClampNeg) < 0 →
          (vp_in r4 4) ∧
          am_K ri am_Lm IX11_ordered d [.ref 0, .int (gA σ4 10 (r4).toNatClampNeg), .int l2] σ4 (fun r6 σ6 =>
            (¬ r6 = 0 →
              Q () σ6) ∧
            (r6 = 0 →
              am_K ru am_Lm IX11_work d [.ref 0, .int l3] σ6 (fun _ σ7 =>
                Q () σ7))))))) : am_K ru am_Lm IX11_solveOne (d + 1) [.ref 0, .int l1, .int l2, .int l3] σ Q := K_of am_owX11_solveOne (Nat.le_of_ble_eq_true rfl) (X_ifn (fun _ _ => blX11_solveOne_0 H.1) (fun z0 => (X_ifn (fun _ _ => blX11_solveOne_76 (H.2.1 z0).1 (H.2.1 z0).2.1) (fun z1 => (X_ret (fun _ _ => blX11_solveOne_106) ((H.2.1 z0).2.2.1 z1))) (fun z1 => (X_if (fun _ _ => blX11_solveOne_91 ((H.2.1 z0).2.2.2 z1).1 ((H.2.1 z0).2.2.2 z1).2.1) (fun z2 => (X_ifn (fun _ _ => blX11_solveOne_107 (((H.2.1 z0).2.2.2 z1).2.2.1 z2).1) (fun z3 => (X_if (fun _ _ => blX11_solveOne_131 ((((H.2.1 z0).2.2.2 z1).2.2.1 z2).2.1 z3).1) (fun z4 => (X_ifn (fun _ _ => blX11_solveOne_162 (((((H.2.1 z0).2.2.2 z1).2.2.1 z2).2.1 z3).2.1 z4).1 (((((H.2.1 z0).2.2.2 z1).2.2.1 z2).2.1 z3).2.1 z4).2.1) (fun z5 => (X_ret (fun _ _ => blX11_solveOne_231) ((((((H.2.1 z0).2.2.2 z1).2.2.1 z2).2.1 z3).2.1 z4).2.2.1 z5))) (fun z5 => (X_go (fun _ _ => blX11_solveOne_177 ((((((H.2.1 z0).2.2.2 z1).2.2.1 z2).2.1 z3).2.1 z4).2.2.2 z5).1) ((((((H.2.1 z0).2.2.2 z1).2.2.1 z2).2.1 z3).2.1 z4).2.2.2 z5).2)))) (fun z4 => (X_call (fun _ _ _ _ => blX11_solveOne_141 (((((H.2.1 z0).2.2.2 z1).2.2.1 z2).2.1 z3).2.2 z4).1) (K_mono (((((H.2.1 z0).2.2.2 z1).2.2.1 z2).2.1 z3).2.2 z4).2 (fun r1 σ1 q5 => (X_call (fun _ _ _ _ => blX11_solveOne_156) (K_mono q5 (fun _ σ2 q6 => (X_go (fun _ _ => blX11_solveOne_159) (X_ret (fun _ _ => blX11_solveOne_231) q6))))))))))) (fun z3 => (X_call (fun _ _ _ _ => blX11_solveOne_123) (K_mono ((((H.2.1 z0).2.2.2 z1).2.2.1 z2).2.2 z3) (fun _ σ3 q4 => (X_go (fun _ _ => blX11_solveOne_128) (X_ret (fun _ _ => blX11_solveOne_231) q4)))))))) (fun z2 => (X_ret (fun _ _ => blX11_solveOne_106) (((H.2.1 z0).2.2.2 z1).2.2.2 z2))))))) (fun z0 => (X_call (fun _ _ _ _ => blX11_solveOne_9 (H.2.2 z0).1) (K_mono (H.2.2 z0).2 (fun r4 σ4 q1 => (X_if (fun _ _ => blX11_solveOne_19 q1.1) (fun z2 => (X_call (fun _ _ _ _ => blX11_solveOne_54 (q1.2.1 z2).1) (K_mono (q1.2.1 z2).2 (fun _ σ5 q3 => (X_go (fun _ _ => blX11_solveOne_67 q3.1) (X_ret (fun _ _ => blX11_solveOne_75) q3.2)))))) (fun z2 => (X_call (fun _ _ _ _ => blX11_solveOne_31 (q1.2.2 z2).1) (K_mono (q1.2.2 z2).2 (fun r6 σ6 q3 => (X_ifn (fun _ _ => blX11_solveOne_43) (fun z4 => (X_ret (fun _ _ => blX11_solveOne_75) (q3.1 z4))) (fun z4 => (X_call (fun _ _ _ _ => blX11_solveOne_46) (K_mono (q3.2 z4) (fun _ σ7 q5 => (X_go (fun _ _ => blX11_solveOne_51) (X_ret (fun _ _ => blX11_solveOne_75) q5)))))))))))))))))
set_option maxRecDepth 20000 in
theorem vX11_solveOne_190 {d : Nat} {σ : am_S} {Q : Unit → am_S → Prop} {l1 : Int32} {l2 : Int32} {l3 : Int32} {l4 : Int32} {l5 : Int32} {l6 : Int32} (H :
    (l6 < 0 →
      am_K ru am_Lm IX11_work d [.ref 0, .int l5] σ (fun _ σ1 =>
        Q () (wS σ1 0 26 l4))) ∧
    (¬ l6 < 0 →
      am_K ri am_Lm IX11_partAt d [.ref 0, .int l1, .int l6] σ (fun r2 σ2 =>
        am_K ri am_Lm IX11_partAt d [.ref 0, .int l2, .int l6] σ2 (fun r3 σ3 =>
          am_K ri am_Lm IX11_goal d [.ref 0, .int r2, .int r3, .int (-1 : Int32), .int (0 : Int32), .int l5] σ3 (fun r4 σ4 =>
            am_X ru am_Lm IX11_solveOne (d + 1) 190 [some (.ref 0), some (.int l1), some (.int l2), some (.int l3), some (.int l4), some (.int r4), some (.int (l6 + (-1 : Int32)))] [] σ4 Q))))) : am_X ru am_Lm IX11_solveOne (d + 1) 190 [some (.ref 0), some (.int l1), some (.int l2), some (.int l3), some (.int l4), some (.int l5), some (.int l6)] [] σ Q := (X_if (fun _ _ => blX11_solveOne_190) (fun z0 => (X_call (fun _ _ _ _ => blX11_solveOne_225) (K_mono (H.1 z0) (fun _ σ1 q1 => (X_ret (fun _ _ => blX11_solveOne_231) q1))))) (fun z0 => (X_call (fun _ _ _ _ => blX11_solveOne_195) (K_mono (H.2 z0) (fun r2 σ2 q1 => (X_call (fun _ _ _ _ => blX11_solveOne_203) (K_mono q1 (fun r3 σ3 q2 => (X_call (fun _ _ _ _ => blX11_solveOne_210) (K_mono q2 (fun r4 σ4 q3 => (X_go (fun _ _ => blX11_solveOne_217) q3))))))))))))
set_option maxRecDepth 20000 in
theorem vX11_solveParts {d : Nat} {σ : am_S} {Q : Unit → am_S → Prop} {l1 : Int32} (H :
    (vp_in l1 4000) ∧
    (vp_in l1 4000) ∧
    (vp_in l1 4000) ∧
    (vp_in (gA σ 13 (l1).toNatClampNeg) 70000) ∧
    (vp_in l1 4000) ∧
    (0 ≤ ((gA σ 14 (l1).toNatClampNeg) - (1 : Int32)) →
      am_K ri am_Lm IX11_partAt d [.ref 0, .int (gA σ 12 (l1).toNatClampNeg), .int ((gA σ 14 (l1).toNatClampNeg) - (1 : Int32))] σ (fun r1 σ1 =>
        (vp_in r1 70000) ∧
        ((gA σ1 1 (r1).toNatClampNeg) = 0 →
          (vp_in r1 70000) ∧
          am_K ri am_Lm IX11_nameOf d [.ref 0, .int (gA σ1 2 (r1).toNatClampNeg)] σ1 (fun r2 σ2 =>
            (vp_in r2 4) ∧
            ((gA σ2 10 (r2).toNatClampNeg) < 0 →
              am_X ru am_Lm IX11_solveParts (d + 1) 249 [some (.ref 0), some (.int l1), some (.int (gA σ 12 (l1).toNatClampNeg)), some (.int (gA σ 13 (l1).toNatClampNeg)), some (.int (gA σ 15 (l1).toNatClampNeg)), some (.int (gA σ 3 ((gA σ 13 (l1).toNatClampNeg)).toNatClampNeg)), some (.int ((gA σ 14 (l1).toNatClampNeg) - (1 : Int32))), some (.int (gS σ 0 26)), some (.int r1), some (.int r2), some (.int (1 : Int32)), none, none, none] [] σ2 Q) ∧
            (¬ (gA σ2 10 (r2).toNatClampNeg) < 0 →
              (vp_in r2 4) ∧
              am_K ri am_Lm IX11_without d [.ref 0, .int (gA σ 13 (l1).toNatClampNeg), .int (gA σ 15 (l1).toNatClampNeg), .int (gA σ2 10 (r2).toNatClampNeg)] σ2 (fun r3 σ3 =>
                (r3 < 0 →
                  Q () σ3) ∧
                (¬ r3 < 0 →
                  (vp_in l1 4000) ∧
                  am_K ri am_Lm IX11_goal d [.ref 0, .int (gA σ 12 (l1).toNatClampNeg), .int (gA σ 13 (l1).toNatClampNeg), .int ((gA σ 14 (l1).toNatClampNeg) - (1 : Int32)), .int r3, .int (gA σ3 16 (l1).toNatClampNeg)] σ3 (fun r4 σ4 =>
                    am_K ru am_Lm IX11_work d [.ref 0, .int r4] σ4 (fun _ σ5 =>
                      Q () (wS σ5 0 26 (gS σ 0 26))))))))) ∧
        (¬ (gA σ1 1 (r1).toNatClampNeg) = 0 →
          am_X ru am_Lm IX11_solveParts (d + 1) 95 [some (.ref 0), some (.int l1), some (.int (gA σ 12 (l1).toNatClampNeg)), some (.int (gA σ 13 (l1).toNatClampNeg)), some (.int (gA σ 15 (l1).toNatClampNeg)), some (.int (gA σ 3 ((gA σ 13 (l1).toNatClampNeg)).toNatClampNeg)), some (.int ((gA σ 14 (l1).toNatClampNeg) - (1 : Int32))), some (.int (gS σ 0 26)), some (.int r1), some (.int (0 : Int32)), none, none, none, none] [] σ1 Q))) ∧
    (¬ 0 ≤ ((gA σ 14 (l1).toNatClampNeg) - (1 : Int32)) →
      (¬ (gA σ 15 (l1).toNatClampNeg) = (((1 : Int32) <<< ((gA σ 3 ((gA σ 13 (l1).toNatClampNeg)).toNatClampNeg) &&& 31)) - (1 : Int32)) →
        Q () σ) ∧
      ((gA σ 15 (l1).toNatClampNeg) = (((1 : Int32) <<< ((gA σ 3 ((gA σ 13 (l1).toNatClampNeg)).toNatClampNeg) &&& 31)) - (1 : Int32)) →
        (vp_in l1 4000) ∧
        am_K ru am_Lm IX11_work d [.ref 0, .int (gA σ 16 (l1).toNatClampNeg)] σ (fun _ σ6 =>
          Q () σ6)))) : am_K ru am_Lm IX11_solveParts (d + 1) [.ref 0, .int l1] σ Q := K_of am_owX11_solveParts (Nat.le_of_ble_eq_true rfl) (X_if (fun _ _ => blX11_solveParts_0 H.1 H.2.1 H.2.2.1 H.2.2.2.1 H.2.2.2.2.1) (fun z0 => (X_call (fun _ _ _ _ => blX11_solveParts_67) (K_mono (H.2.2.2.2.2.1 z0) (fun r1 σ1 q1 => (X_if (fun _ _ => blX11_solveParts_80 q1.1) (fun z2 => (X_call (fun _ _ _ _ => blX11_solveParts_175 (q1.2.1 z2).1) (K_mono (q1.2.1 z2).2 (fun r2 σ2 q3 => (X_if (fun _ _ => blX11_solveParts_186 q3.1) (fun z4 => (X_go (fun _ _ => blX11_solveParts_246) (q3.2.1 z4))) (fun z4 => (X_call (fun _ _ _ _ => blX11_solveParts_198 (q3.2.2 z4).1) (K_mono (q3.2.2 z4).2 (fun r3 σ3 q5 => (X_if (fun _ _ => blX11_solveParts_212) (fun z6 => (X_ret (fun _ _ => blX11_solveParts_245) (q5.1 z6))) (fun z6 => (X_call (fun _ _ _ _ => blX11_solveParts_219 (q5.2 z6).1) (K_mono (q5.2 z6).2 (fun r4 σ4 q7 => (X_call (fun _ _ _ _ => blX11_solveParts_236) (K_mono q7 (fun _ σ5 q8 => (X_go (fun _ _ => blX11_solveParts_239) (X_ret (fun _ _ => blX11_solveParts_245) q8))))))))))))))))))) (fun z2 => (X_go (fun _ _ => blX11_solveParts_92) (q1.2.2 z2)))))))) (fun z0 => (X_ifn (fun _ _ => blX11_solveParts_45) (fun z1 => (X_ret (fun _ _ => blX11_solveParts_66) ((H.2.2.2.2.2.2 z0).1 z1))) (fun z1 => (X_call (fun _ _ _ _ => blX11_solveParts_56 ((H.2.2.2.2.2.2 z0).2 z1).1) (K_mono ((H.2.2.2.2.2.2 z0).2 z1).2 (fun _ σ6 q2 => (X_ret (fun _ _ => blX11_solveParts_66) q2))))))))
set_option maxRecDepth 20000 in
theorem vX11_solveParts_95 {d : Nat} {σ : am_S} {Q : Unit → am_S → Prop} {l1 : Int32} {l2 : Int32} {l3 : Int32} {l4 : Int32} {l5 : Int32} {l6 : Int32} {l7 : Int32} {l8 : Int32} {l9 : Int32} (H :
    (l5 ≤ l9 →
      Q () σ) ∧
    (¬ l5 ≤ l9 →
      (¬ ((l4 >>> (l9 &&& 31)) &&& (1 : Int32)) = 0 →
        am_X ru am_Lm IX11_solveParts (d + 1) 95 [some (.ref 0), some (.int l1), some (.int l2), some (.int l3), some (.int l4), some (.int l5), some (.int l6), some (.int l7), some (.int l8), some (.int (l9 + (1 : Int32))), none, none, none, none] [] σ Q) ∧
      (((l4 >>> (l9 &&& 31)) &&& (1 : Int32)) = 0 →
        am_K ri am_Lm IX11_isFirst d [.ref 0, .int l3, .int l9, .int l4] σ (fun r1 σ1 =>
          (r1 = 0 →
            am_X ru am_Lm IX11_solveParts (d + 1) 95 [some (.ref 0), some (.int l1), some (.int l2), some (.int l3), some (.int l4), some (.int l5), some (.int l6), some (.int l7), some (.int l8), some (.int (l9 + (1 : Int32))), none, none, none, none] [] σ1 Q) ∧
          (¬ r1 = 0 →
            (vp_in l1 4000) ∧
            am_K ri am_Lm IX11_goal d [.ref 0, .int l2, .int l3, .int l6, .int (l4 ||| ((1 : Int32) <<< (l9 &&& 31))), .int (gA σ1 16 (l1).toNatClampNeg)] σ1 (fun r2 σ2 =>
              am_K ri am_Lm IX11_partAt d [.ref 0, .int l3, .int l9] σ2 (fun r3 σ3 =>
                am_K ru am_Lm IX11_solveOne d [.ref 0, .int l8, .int r3, .int r2] σ3 (fun _ σ4 =>
                  am_X ru am_Lm IX11_solveParts (d + 1) 95 [some (.ref 0), some (.int l1), some (.int l2), some (.int l3), some (.int l4), some (.int l5), some (.int l6), some (.int l7), some (.int l8), some (.int (l9 + (1 : Int32))), none, none, none, none] [] (wS σ4 0 26 l7) Q)))))))) : am_X ru am_Lm IX11_solveParts (d + 1) 95 [some (.ref 0), some (.int l1), some (.int l2), some (.int l3), some (.int l4), some (.int l5), some (.int l6), some (.int l7), some (.int l8), some (.int l9), none, none, none, none] [] σ Q := (X_if (fun _ _ => blX11_solveParts_95) (fun z0 => (X_ret (fun _ _ => blX11_solveParts_174) (H.1 z0))) (fun z0 => (X_ifn (fun _ _ => blX11_solveParts_102) (fun z1 => (X_go (fun _ _ => blX11_solveParts_168) ((H.2 z0).1 z1))) (fun z1 => (X_call (fun _ _ _ _ => blX11_solveParts_112) (K_mono ((H.2 z0).2 z1) (fun r1 σ1 q2 => (X_if (fun _ _ => blX11_solveParts_121) (fun z3 => (X_go (fun _ _ => blX11_solveParts_168) (q2.1 z3))) (fun z3 => (X_call (fun _ _ _ _ => blX11_solveParts_124 (q2.2 z3).1) (K_mono (q2.2 z3).2 (fun r2 σ2 q4 => (X_call (fun _ _ _ _ => blX11_solveParts_145) (K_mono q4 (fun r3 σ3 q5 => (X_call (fun _ _ _ _ => blX11_solveParts_157) (K_mono q5 (fun _ σ4 q6 => (X_go (fun _ _ => blX11_solveParts_162) (X_go (fun _ _ => blX11_solveParts_168) q6))))))))))))))))))))
set_option maxRecDepth 20000 in
theorem vX11_solveParts_249 {d : Nat} {σ : am_S} {Q : Unit → am_S → Prop} {l1 : Int32} {l2 : Int32} {l3 : Int32} {l4 : Int32} {l5 : Int32} {l6 : Int32} {l7 : Int32} {l8 : Int32} {l9 : Int32} {l10 : Int32} (H :
    (((1 : Int32) <<< (l5 &&& 31)) ≤ l10 →
      Q () σ) ∧
    (¬ ((1 : Int32) <<< (l5 &&& 31)) ≤ l10 →
      (¬ (gS σ 0 27) = 0 →
        Q () σ) ∧
      ((gS σ 0 27) = 0 →
        (¬ (l10 &&& l4) = 0 →
          am_X ru am_Lm IX11_solveParts (d + 1) 249 [some (.ref 0), some (.int l1), some (.int l2), some (.int l3), some (.int l4), some (.int l5), some (.int l6), some (.int l7), some (.int l8), some (.int l9), some (.int (l10 + (1 : Int32))), none, none, none] [] σ Q) ∧
        ((l10 &&& l4) = 0 →
          am_K ri am_Lm IX11_isLow d [.ref 0, .int l3, .int l10, .int l4] σ (fun r1 σ1 =>
            (r1 = 0 →
              am_X ru am_Lm IX11_solveParts (d + 1) 249 [some (.ref 0), some (.int l1), some (.int l2), some (.int l3), some (.int l4), some (.int l5), some (.int l6), some (.int l7), some (.int l8), some (.int l9), some (.int (l10 + (1 : Int32))), none, none, none] [] σ1 Q) ∧
            (¬ r1 = 0 →
              am_X ru am_Lm IX11_solveParts (d + 1) 300 [some (.ref 0), some (.int l1), some (.int l2), some (.int l3), some (.int l4), some (.int l5), some (.int l6), some (.int l7), some (.int l8), some (.int l9), some (.int l10), some (.int (gS σ1 0 4)), some (.int (gS σ1 0 7)), some (.int (0 : Int32))] [] σ1 Q)))))) : am_X ru am_Lm IX11_solveParts (d + 1) 249 [some (.ref 0), some (.int l1), some (.int l2), some (.int l3), some (.int l4), some (.int l5), some (.int l6), some (.int l7), some (.int l8), some (.int l9), some (.int l10), none, none, none] [] σ Q := (X_if (fun _ _ => blX11_solveParts_249) (fun z0 => (X_ret (fun _ _ => blX11_solveParts_403) (H.1 z0))) (fun z0 => (X_ifn (fun _ _ => blX11_solveParts_258) (fun z1 => (X_ret (fun _ _ => blX11_solveParts_403) ((H.2 z0).1 z1))) (fun z1 => (X_ifn (fun _ _ => blX11_solveParts_265) (fun z2 => (X_go (fun _ _ => blX11_solveParts_397) (((H.2 z0).2 z1).1 z2))) (fun z2 => (X_call (fun _ _ _ _ => blX11_solveParts_273) (K_mono (((H.2 z0).2 z1).2 z2) (fun r1 σ1 q3 => (X_if (fun _ _ => blX11_solveParts_282) (fun z4 => (X_go (fun _ _ => blX11_solveParts_397) (q3.1 z4))) (fun z4 => (X_go (fun _ _ => blX11_solveParts_285) (q3.2 z4)))))))))))))
set_option maxRecDepth 20000 in
theorem vX11_solveParts_300 {d : Nat} {σ : am_S} {Q : Unit → am_S → Prop} {l1 : Int32} {l2 : Int32} {l3 : Int32} {l4 : Int32} {l5 : Int32} {l6 : Int32} {l7 : Int32} {l8 : Int32} {l9 : Int32} {l10 : Int32} {l11 : Int32} {l12 : Int32} {l13 : Int32} (H :
    (l5 ≤ l13 →
      (vp_in l3 70000) ∧
      am_K ri am_Lm IX11_joined d [.ref 0, .int (gA σ 1 (l3).toNatClampNeg), .int l12] σ (fun r1 σ1 =>
        (vp_in l9 4) ∧
        (vp_in l1 4000) ∧
        am_K ri am_Lm IX11_goal d [.ref 0, .int l2, .int l3, .int l6, .int (l4 ||| l10), .int (gA σ1 16 (l1).toNatClampNeg)] (wA σ1 10 (l9).toNatClampNeg r1) (fun r2 σ2 =>
          am_K ru am_Lm IX11_work d [.ref 0, .int r2] σ2 (fun _ σ3 =>
            (vp_in l9 4) ∧
            am_X ru am_Lm IX11_solveParts (d + 1) 249 [some (.ref 0), some (.int l1), some (.int l2), some (.int l3), some (.int l4), some (.int l5), some (.int l6), some (.int l7), some (.int l8), some (.int l9), some (.int (l10 + (1 : Int32))), none, none, none] [] (wS (wA (wS σ3 0 26 l7) 10 (l9).toNatClampNeg (-1 : Int32)) 0 4 l11) Q)))) ∧
    (¬ l5 ≤ l13 →
      (¬ ((l10 >>> (l13 &&& 31)) &&& (1 : Int32)) = (1 : Int32) →
        am_X ru am_Lm IX11_solveParts (d + 1) 300 [some (.ref 0), some (.int l1), some (.int l2), some (.int l3), some (.int l4), some (.int l5), some (.int l6), some (.int l7), some (.int l8), some (.int l9), some (.int l10), some (.int l11), some (.int l12), some (.int (l13 + (1 : Int32)))] [] σ Q) ∧
      (((l10 >>> (l13 &&& 31)) &&& (1 : Int32)) = (1 : Int32) →
        am_K ri am_Lm IX11_partAt d [.ref 0, .int l3, .int l13] σ (fun r4 σ4 =>
          am_K ru am_Lm IX11_put d [.ref 0, .int r4] σ4 (fun _ σ5 =>
            am_X ru am_Lm IX11_solveParts (d + 1) 300 [some (.ref 0), some (.int l1), some (.int l2), some (.int l3), some (.int l4), some (.int l5), some (.int l6), some (.int l7), some (.int l8), some (.int l9), some (.int l10), some (.int l11), some (.int l12), some (.int (l13 + (1 : Int32)))] [] σ5 Q))))) : am_X ru am_Lm IX11_solveParts (d + 1) 300 [some (.ref 0), some (.int l1), some (.int l2), some (.int l3), some (.int l4), some (.int l5), some (.int l6), some (.int l7), some (.int l8), some (.int l9), some (.int l10), some (.int l11), some (.int l12), some (.int l13)] [] σ Q := (X_if (fun _ _ => blX11_solveParts_300) (fun z0 => (X_call (fun _ _ _ _ => blX11_solveParts_335 (H.1 z0).1) (K_mono (H.1 z0).2 (fun r1 σ1 q1 => (X_call (fun _ _ _ _ => blX11_solveParts_353 q1.1 q1.2.1) (K_mono q1.2.2 (fun r2 σ2 q2 => (X_call (fun _ _ _ _ => blX11_solveParts_374) (K_mono q2 (fun _ σ3 q3 => (X_go (fun _ _ => blX11_solveParts_377 q3.1) (X_go (fun _ _ => blX11_solveParts_397) q3.2)))))))))))) (fun z0 => (X_ifn (fun _ _ => blX11_solveParts_307) (fun z1 => (X_go (fun _ _ => blX11_solveParts_329) ((H.2 z0).1 z1))) (fun z1 => (X_call (fun _ _ _ _ => blX11_solveParts_318) (K_mono ((H.2 z0).2 z1) (fun r4 σ4 q2 => (X_call (fun _ _ _ _ => blX11_solveParts_326) (K_mono q2 (fun _ σ5 q3 => (X_go (fun _ _ => blX11_solveParts_329) q3)))))))))))
set_option maxRecDepth 20000 in
theorem vX11_isFirst {d : Nat} {σ : am_S} {Q : Int32 → am_S → Prop} {l1 : Int32} {l2 : Int32} {l3 : Int32} (H :
    (l2 = 0 →
      Q (1 : Int32) σ) ∧
    (¬ l2 = 0 →
      (((l3 >>> ((l2 - (1 : Int32)) &&& 31)) &&& (1 : Int32)) = (1 : Int32) →
        Q (1 : Int32) σ) ∧
      (¬ ((l3 >>> ((l2 - (1 : Int32)) &&& 31)) &&& (1 : Int32)) = (1 : Int32) →
        am_K ri am_Lm IX11_partAt d [.ref 0, .int l1, .int (l2 - (1 : Int32))] σ (fun r1 σ1 =>
          am_K ri am_Lm IX11_partAt d [.ref 0, .int l1, .int l2] σ1 (fun r2 σ2 =>
            am_K ri am_Lm IX11_ordered d [.ref 0, .int r1, .int r2] σ2 (fun r3 σ3 =>
              (r3 = 0 →
                Q (0 : Int32) σ3) ∧
              (¬ r3 = 0 →
                Q (1 : Int32) σ3))))))) : am_K ri am_Lm IX11_isFirst (d + 1) [.ref 0, .int l1, .int l2, .int l3] σ Q := K_of am_owX11_isFirst (Nat.le_of_ble_eq_true rfl) (X_if (fun _ _ => blX11_isFirst_0) (fun z0 => (X_go (fun _ _ => blX11_isFirst_36) (X_ret (fun _ _ => blX11_isFirst_41 (Or.inr rfl)) (H.1 z0)))) (fun z0 => (X_if (fun _ _ => blX11_isFirst_4) (fun z1 => (X_go (fun _ _ => blX11_isFirst_36) (X_ret (fun _ _ => blX11_isFirst_41 (Or.inr rfl)) ((H.2 z0).1 z1)))) (fun z1 => (X_call (fun _ _ _ _ => blX11_isFirst_15) (K_mono ((H.2 z0).2 z1) (fun r1 σ1 q2 => (X_call (fun _ _ _ _ => blX11_isFirst_24) (K_mono q2 (fun r2 σ2 q3 => (X_call (fun _ _ _ _ => blX11_isFirst_30) (K_mono q3 (fun r3 σ3 q4 => (X_if (fun _ _ => blX11_isFirst_33) (fun z5 => (X_go (fun _ _ => blX11_isFirst_40) (X_ret (fun _ _ => blX11_isFirst_41 (Or.inl rfl)) (q4.1 z5)))) (fun z5 => (X_go (fun _ _ => blX11_isFirst_36) (X_ret (fun _ _ => blX11_isFirst_41 (Or.inr rfl)) (q4.2 z5))))))))))))))))))
set_option maxRecDepth 20000 in
theorem vX11_isLow {d : Nat} {σ : am_S} {Q : Int32 → am_S → Prop} {l1 : Int32} {l2 : Int32} {l3 : Int32} (H :
    am_X ri am_Lm IX11_isLow (d + 1) 6 [some (.ref 0), some (.int l1), some (.int l2), some (.int l3), some (.int (1 : Int32)), some (.int (1 : Int32)), none, none] [] σ Q) : am_K ri am_Lm IX11_isLow (d + 1) [.ref 0, .int l1, .int l2, .int l3] σ Q := K_of am_owX11_isLow (Nat.le_of_ble_eq_true rfl) (X_go (fun _ _ => blX11_isLow_0) H)
set_option maxRecDepth 20000 in
theorem vX11_isLow_6 {d : Nat} {σ : am_S} {Q : Int32 → am_S → Prop} {l1 : Int32} {l2 : Int32} {l3 : Int32} {l4 : Int32} {l5 : Int32} (H :
    (vp_in l1 70000) ∧
    ((gA σ 3 (l1).toNatClampNeg) ≤ l5 →
      (l4 = 0 ∨ l4 = 1) ∧ Q l4 σ) ∧
    (¬ (gA σ 3 (l1).toNatClampNeg) ≤ l5 →
      (l4 = 0 →
        (l4 = 0 ∨ l4 = 1) ∧ Q l4 σ) ∧
      (¬ l4 = 0 →
        (¬ ((l2 >>> (l5 &&& 31)) &&& (1 : Int32)) = (1 : Int32) →
          (¬ ((l2 >>> ((l5 - (1 : Int32)) &&& 31)) &&& (1 : Int32)) = 0 →
            am_X ri am_Lm IX11_isLow (d + 1) 65 [some (.ref 0), some (.int l1), some (.int l2), some (.int l3), some (.int l4), some (.int l5), some (.int (0 : Int32)), none] [] σ Q) ∧
          (((l2 >>> ((l5 - (1 : Int32)) &&& 31)) &&& (1 : Int32)) = 0 →
            (¬ ((l3 >>> ((l5 - (1 : Int32)) &&& 31)) &&& (1 : Int32)) = 0 →
              am_X ri am_Lm IX11_isLow (d + 1) 65 [some (.ref 0), some (.int l1), some (.int l2), some (.int l3), some (.int l4), some (.int l5), some (.int (0 : Int32)), none] [] σ Q) ∧
            (((l3 >>> ((l5 - (1 : Int32)) &&& 31)) &&& (1 : Int32)) = 0 →
              am_X ri am_Lm IX11_isLow (d + 1) 6 [some (.ref 0), some (.int l1), some (.int l2), some (.int l3), some (.int (1 : Int32)), some (.int (l5 + (1 : Int32))), none, none] [] σ Q))) ∧
        (((l2 >>> (l5 &&& 31)) &&& (1 : Int32)) = (1 : Int32) →
          (¬ ((l2 >>> ((l5 - (1 : Int32)) &&& 31)) &&& (1 : Int32)) = 0 →
            am_X ri am_Lm IX11_isLow (d + 1) 65 [some (.ref 0), some (.int l1), some (.int l2), some (.int l3), some (.int l4), some (.int l5), some (.int (1 : Int32)), none] [] σ Q) ∧
          (((l2 >>> ((l5 - (1 : Int32)) &&& 31)) &&& (1 : Int32)) = 0 →
            (¬ ((l3 >>> ((l5 - (1 : Int32)) &&& 31)) &&& (1 : Int32)) = 0 →
              am_X ri am_Lm IX11_isLow (d + 1) 65 [some (.ref 0), some (.int l1), some (.int l2), some (.int l3), some (.int l4), some (.int l5), some (.int (1 : Int32)), none] [] σ Q) ∧
            (((l3 >>> ((l5 - (1 : Int32)) &&& 31)) &&& (1 : Int32)) = 0 →
              am_K ri am_Lm IX11_partAt d [.ref 0, .int l1, .int (l5 - (1 : Int32))] σ (fun r1 σ1 =>
                am_K ri am_Lm IX11_partAt d [.ref 0, .int l1, .int l5] σ1 (fun r2 σ2 =>
                  am_K ri am_Lm IX11_ordered d [.ref 0, .int r1, .int r2] σ2 (fun r3 σ3 =>
                    (r3 = 0 →
                      am_X ri am_Lm IX11_isLow (d + 1) 6 [some (.ref 0), some (.int l1), some (.int l2), some (.int l3), some (.int (0 : Int32)), some (.int (l5 + (1 : Int32))), none, none] [] σ3 Q) ∧
                    (¬ r3 = 0 →
                      am_X ri am_Lm IX11_isLow (d + 1) 6 [some (.ref 0), some (.int l1), some (.int l2), some (.int l3), some (.int (1 : Int32)), some (.int (l5 + (1 : Int32))), none, none] [] σ3 Q)))))))))) : am_X ri am_Lm IX11_isLow (d + 1) 6 [some (.ref 0), some (.int l1), some (.int l2), some (.int l3), some (.int l4), some (.int l5), none, none] [] σ Q := (X_if (fun _ _ => blX11_isLow_6 H.1) (fun z0 => (X_ret (fun _ _ => blX11_isLow_114 (H.2.1 z0).1) (H.2.1 z0).2)) (fun z0 => (X_if (fun _ _ => blX11_isLow_17) (fun z1 => (X_ret (fun _ _ => blX11_isLow_114 ((H.2.2 z0).1 z1).1) ((H.2.2 z0).1 z1).2)) (fun z1 => (X_ifn (fun _ _ => blX11_isLow_22) (fun z2 => (X_go (fun _ _ => blX11_isLow_36) (X_ifn (fun _ _ => blX11_isLow_37) (fun z4 => ((((H.2.2 z0).2 z1).1 z2).1 z4)) (fun z4 => (X_ifn (fun _ _ => blX11_isLow_50) (fun z5 => (((((H.2.2 z0).2 z1).1 z2).2 z4).1 z5)) (fun z5 => (X_go (fun _ _ => blX11_isLow_61) (X_go (fun _ _ h => blX11_isLow_66 (fun _ => h) (fun z => absurd z (by decide))) (X_go (fun _ _ => blX11_isLow_101) (X_go (fun _ _ => blX11_isLow_106) (((((H.2.2 z0).2 z1).1 z2).2 z4).2 z5))))))))))) (fun z2 => (X_go (fun _ _ => blX11_isLow_32) (X_ifn (fun _ _ => blX11_isLow_37) (fun z4 => ((((H.2.2 z0).2 z1).2 z2).1 z4)) (fun z4 => (X_ifn (fun _ _ => blX11_isLow_50) (fun z5 => (((((H.2.2 z0).2 z1).2 z2).2 z4).1 z5)) (fun z5 => (X_go (fun _ _ => blX11_isLow_61) (X_go (fun _ _ h => blX11_isLow_66 (fun z => absurd z (by decide)) (fun _ => h)) (X_go (fun _ _ h => blX11_isLow_73 (fun z => absurd z (by decide)) (fun _ => h)) (X_call (fun _ _ _ _ => blX11_isLow_78) (K_mono (((((H.2.2 z0).2 z1).2 z2).2 z4).2 z5) (fun r1 σ1 q9 => (X_call (fun _ _ _ _ => blX11_isLow_88) (K_mono q9 (fun r2 σ2 q10 => (X_call (fun _ _ _ _ => blX11_isLow_95) (K_mono q10 (fun r3 σ3 q11 => (X_if (fun _ _ => blX11_isLow_98) (fun z12 => (X_go (fun _ _ => blX11_isLow_105) (X_go (fun _ _ => blX11_isLow_106) (q11.1 z12)))) (fun z12 => (X_go (fun _ _ => blX11_isLow_101) (X_go (fun _ _ => blX11_isLow_106) (q11.2 z12))))))))))))))))))))))))))))
set_option maxRecDepth 20000 in
theorem vX11_isLow_65 {d : Nat} {σ : am_S} {Q : Int32 → am_S → Prop} {l1 : Int32} {l2 : Int32} {l3 : Int32} {l4 : Int32} {l5 : Int32} {l6 : Int32} (H :
    (l6 = 0 →
      am_X ri am_Lm IX11_isLow (d + 1) 6 [some (.ref 0), some (.int l1), some (.int l2), some (.int l3), some (.int (1 : Int32)), some (.int (l5 + (1 : Int32))), none, none] [] σ Q) ∧
    (¬ l6 = 0 →
      am_X ri am_Lm IX11_isLow (d + 1) 6 [some (.ref 0), some (.int l1), some (.int l2), some (.int l3), some (.int (1 : Int32)), some (.int (l5 + (1 : Int32))), none, none] [] σ Q)) : am_X ri am_Lm IX11_isLow (d + 1) 65 [some (.ref 0), some (.int l1), some (.int l2), some (.int l3), some (.int l4), some (.int l5), some (.int l6), none] [] σ Q := (X_go (fun _ _ => blX11_isLow_65) (X_if (fun _ _ => blX11_isLow_66) (fun z1 => (X_go (fun _ _ => blX11_isLow_101) (X_go (fun _ _ => blX11_isLow_106) (H.1 z1)))) (fun z1 => (X_go (fun _ _ h => blX11_isLow_73 (fun _ => h) (fun z => absurd z (by decide))) (X_go (fun _ _ => blX11_isLow_101) (X_go (fun _ _ => blX11_isLow_106) (H.2 z1)))))))
set_option maxRecDepth 20000 in
theorem vX11_without {d : Nat} {σ : am_S} {Q : Int32 → am_S → Prop} {l1 : Int32} {l2 : Int32} {l3 : Int32} (H :
    (vp_in l3 70000) ∧
    (vp_in l1 70000) ∧
    ((gA σ 1 (l3).toNatClampNeg) = (gA σ 1 (l1).toNatClampNeg) →
      (vp_in l3 70000) ∧
      am_X ri am_Lm IX11_without (d + 1) 45 [some (.ref 0), some (.int l1), some (.int l2), some (.int l3), some (.int l2), some (.int (0 : Int32)), some (.int (gA σ 3 (l3).toNatClampNeg)), some (.int (0 : Int32)), none, none] [] σ Q) ∧
    (¬ (gA σ 1 (l3).toNatClampNeg) = (gA σ 1 (l1).toNatClampNeg) →
      am_X ri am_Lm IX11_without (d + 1) 45 [some (.ref 0), some (.int l1), some (.int l2), some (.int l3), some (.int l2), some (.int (1 : Int32)), some (.int (1 : Int32)), some (.int (0 : Int32)), none, none] [] σ Q)) : am_K ri am_Lm IX11_without (d + 1) [.ref 0, .int l1, .int l2, .int l3] σ Q := K_of am_owX11_without (Nat.le_of_ble_eq_true rfl) (X_if (fun _ _ => blX11_without_0 H.1 H.2.1) (fun z0 => (X_go (fun _ _ => blX11_without_22) (X_go (fun _ _ h => blX11_without_23 (fun _ => h) (fun z => absurd z (by decide))) (X_go (fun _ _ => blX11_without_34 (H.2.2.1 z0).1) (X_go (fun _ _ => blX11_without_40) (H.2.2.1 z0).2))))) (fun z0 => (X_go (fun _ _ => blX11_without_18) (X_go (fun _ _ h => blX11_without_23 (fun z => absurd z (by decide)) (fun _ => h)) (X_go (fun _ _ => blX11_without_30) (X_go (fun _ _ => blX11_without_40) (H.2.2.2 z0)))))))
