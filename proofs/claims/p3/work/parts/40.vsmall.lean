set_option maxRecDepth 20000 in
theorem vX7_empty {d : Nat} {σ : am_S} {Q : Int64 → am_S → Prop} {l0 : Int32} (H :
    Q ((l0).toInt64 <<< (((52 : Int32)).toInt64 &&& 63)) σ) : am_K rj am_Lx IX7_empty (d + 1) [.int l0] σ Q := K_of am_owX7_empty (Nat.le_of_ble_eq_true rfl) (X_ret (fun _ _ => blX7_empty_0) H)
set_option maxRecDepth 20000 in
theorem vX7_kind {d : Nat} {σ : am_S} {Q : Int32 → am_S → Prop} {l0 : Int64} (H :
    Q (((l0).toUInt64 >>> (((52 : Int32)).toInt64.toUInt64 &&& Int64.toUInt64 63)).toInt64).toInt32 σ) : am_K ri am_Lx IX7_kind (d + 1) [.long l0] σ Q := K_of am_owX7_kind (Nat.le_of_ble_eq_true rfl) (X_ret (fun _ _ => blX7_kind_0) H)
set_option maxRecDepth 20000 in
theorem vX7_size {d : Nat} {σ : am_S} {Q : Int32 → am_S → Prop} {l0 : Int64} (H :
    Q ((((l0).toUInt64 >>> (((48 : Int32)).toInt64.toUInt64 &&& Int64.toUInt64 63)).toInt64).toInt32 &&& (15 : Int32)) σ) : am_K ri am_Lx IX7_size (d + 1) [.long l0] σ Q := K_of am_owX7_size (Nat.le_of_ble_eq_true rfl) (X_ret (fun _ _ => blX7_size_0) H)
set_option maxRecDepth 20000 in
theorem vX7_at {d : Nat} {σ : am_S} {Q : Int32 → am_S → Prop} {l0 : Int64} {l2 : Int32} (H :
    Q ((((l0).toUInt64 >>> ((((42 : Int32) - ((6 : Int32) * l2))).toInt64.toUInt64 &&& Int64.toUInt64 63)).toInt64).toInt32 &&& (63 : Int32)) σ) : am_K ri am_Lx IX7_at (d + 1) [.long l0, .int l2] σ Q := K_of am_owX7_at (Nat.le_of_ble_eq_true rfl) (X_ret (fun _ _ => blX7_at_0) H)
set_option maxRecDepth 20000 in
theorem vX7_with {d : Nat} {σ : am_S} {Q : Int64 → am_S → Prop} {l0 : Int64} {l2 : Int32} (H :
    am_K ri am_Lx IX7_size d [.long l0] σ (fun r1 σ1 =>
      (r1 < (8 : Int32) →
        Q ((l0 + (281474976710656 : Int64)) ||| ((l2).toInt64 <<< ((((42 : Int32) - ((6 : Int32) * r1))).toInt64 &&& 63))) σ1) ∧
      (¬ r1 < (8 : Int32) →
        Q l0 σ1))) : am_K rj am_Lx IX7_with (d + 1) [.long l0, .int l2] σ Q := K_of am_owX7_with (Nat.le_of_ble_eq_true rfl) (X_call (fun _ _ _ _ => blX7_with_0) (K_mono H (fun r1 σ1 q0 => (X_if (fun _ _ => blX7_with_4) (fun z1 => (X_go (fun _ _ => blX7_with_15) (X_ret (fun _ _ => blX7_with_31) (q0.1 z1)))) (fun z1 => (X_go (fun _ _ => blX7_with_11) (X_ret (fun _ _ => blX7_with_31) (q0.2 z1))))))))
set_option maxRecDepth 20000 in
theorem vX7_without {d : Nat} {σ : am_S} {Q : Int64 → am_S → Prop} {l0 : Int64} {l2 : Int32} (H :
    Q (((((l0).toUInt64 >>> (((((42 : Int32) - ((6 : Int32) * l2)) + (6 : Int32))).toInt64.toUInt64 &&& Int64.toUInt64 63)).toInt64 <<< (((((42 : Int32) - ((6 : Int32) * l2)) + (6 : Int32))).toInt64 &&& 63)) ||| ((l0 &&& (((1 : Int64) <<< ((((42 : Int32) - ((6 : Int32) * l2))).toInt64 &&& 63)) - (1 : Int64))) <<< (((6 : Int32)).toInt64 &&& 63))) - (281474976710656 : Int64)) σ) : am_K rj am_Lx IX7_without (d + 1) [.long l0, .int l2] σ Q := K_of am_owX7_without (Nat.le_of_ble_eq_true rfl) (X_ret (fun _ _ => blX7_without_0) H)
set_option maxRecDepth 20000 in
theorem vX7_minus {d : Nat} {σ : am_S} {Q : Int64 → am_S → Prop} {l0 : Int64} {l2 : Int64} (H :
    am_K ri am_Lx IX7_size d [.long l2] σ (fun r1 σ1 =>
      am_X rj am_Lx IX7_minus (d + 1) 12 [some (.long l0), none, some (.long l2), none, some (.long l0), none, some (.int r1), some (.int (0 : Int32)), none, none] [] σ1 Q)) : am_K rj am_Lx IX7_minus (d + 1) [.long l0, .long l2] σ Q := K_of am_owX7_minus (Nat.le_of_ble_eq_true rfl) (X_call (fun _ _ _ _ => blX7_minus_0) (K_mono H (fun r1 σ1 q0 => (X_go (fun _ _ => blX7_minus_7) q0))))
set_option maxRecDepth 20000 in
theorem vX7_minus_12 {d : Nat} {σ : am_S} {Q : Int64 → am_S → Prop} {l0 : Int64} {l2 : Int64} {l4 : Int64} {l6 : Int32} {l7 : Int32} (H :
    (l6 ≤ l7 →
      Q l4 σ) ∧
    (¬ l6 ≤ l7 →
      am_K ri am_Lx IX7_at d [.long l2, .int l7] σ (fun r1 σ1 =>
        am_X rj am_Lx IX7_minus (d + 1) 30 [some (.long l0), none, some (.long l2), none, some (.long l4), none, some (.int l6), some (.int l7), some (.int r1), some (.int (0 : Int32))] [] σ1 Q))) : am_X rj am_Lx IX7_minus (d + 1) 12 [some (.long l0), none, some (.long l2), none, some (.long l4), none, some (.int l6), some (.int l7), none, none] [] σ Q := (X_if (fun _ _ => blX7_minus_12) (fun z0 => (X_ret (fun _ _ => blX7_minus_87) (H.1 z0))) (fun z0 => (X_call (fun _ _ _ _ => blX7_minus_19) (K_mono (H.2 z0) (fun r1 σ1 q1 => (X_go (fun _ _ => blX7_minus_25) q1))))))
set_option maxRecDepth 20000 in
theorem vX7_minus_30 {d : Nat} {σ : am_S} {Q : Int64 → am_S → Prop} {l0 : Int64} {l2 : Int64} {l4 : Int64} {l6 : Int32} {l7 : Int32} {l8 : Int32} {l9 : Int32} (H :
    am_K ri am_Lx IX7_size d [.long l4] σ (fun r1 σ1 =>
      (r1 ≤ l9 →
        am_K ri am_Lx IX7_size d [.long l4] σ1 (fun r2 σ2 =>
          (l9 < r2 →
            am_K rj am_Lx IX7_without d [.long l4, .int l9] σ2 (fun r3 σ3 =>
              am_X rj am_Lx IX7_minus (d + 1) 12 [some (.long l0), none, some (.long l2), none, some (.long r3), none, some (.int l6), some (.int (l7 + (1 : Int32))), none, none] [] σ3 Q)) ∧
          (¬ l9 < r2 →
            Q (-1 : Int64) σ2))) ∧
      (¬ r1 ≤ l9 →
        am_K ri am_Lx IX7_at d [.long l4, .int l9] σ1 (fun r4 σ4 =>
          (r4 = l8 →
            am_K ri am_Lx IX7_size d [.long l4] σ4 (fun r5 σ5 =>
              (l9 < r5 →
                am_K rj am_Lx IX7_without d [.long l4, .int l9] σ5 (fun r6 σ6 =>
                  am_X rj am_Lx IX7_minus (d + 1) 12 [some (.long l0), none, some (.long l2), none, some (.long r6), none, some (.int l6), some (.int (l7 + (1 : Int32))), none, none] [] σ6 Q)) ∧
              (¬ l9 < r5 →
                Q (-1 : Int64) σ5))) ∧
          (¬ r4 = l8 →
            am_X rj am_Lx IX7_minus (d + 1) 30 [some (.long l0), none, some (.long l2), none, some (.long l4), none, some (.int l6), some (.int l7), some (.int l8), some (.int (l9 + (1 : Int32)))] [] σ4 Q))))) : am_X rj am_Lx IX7_minus (d + 1) 30 [some (.long l0), none, some (.long l2), none, some (.long l4), none, some (.int l6), some (.int l7), some (.int l8), some (.int l9)] [] σ Q := (X_call (fun _ _ _ _ => blX7_minus_30) (K_mono H (fun r1 σ1 q0 => (X_if (fun _ _ => blX7_minus_37) (fun z1 => (X_call (fun _ _ _ _ => blX7_minus_58) (K_mono (q0.1 z1) (fun r2 σ2 q2 => (X_if (fun _ _ => blX7_minus_65) (fun z3 => (X_call (fun _ _ _ _ => blX7_minus_72) (K_mono (q2.1 z3) (fun r3 σ3 q4 => (X_go (fun _ _ => blX7_minus_79) q4))))) (fun z3 => (X_ret (fun _ _ => blX7_minus_68) (q2.2 z3)))))))) (fun z1 => (X_call (fun _ _ _ _ => blX7_minus_40) (K_mono (q0.2 z1) (fun r4 σ4 q2 => (X_if (fun _ _ => blX7_minus_47) (fun z3 => (X_call (fun _ _ _ _ => blX7_minus_58) (K_mono (q2.1 z3) (fun r5 σ5 q4 => (X_if (fun _ _ => blX7_minus_65) (fun z5 => (X_call (fun _ _ _ _ => blX7_minus_72) (K_mono (q4.1 z5) (fun r6 σ6 q6 => (X_go (fun _ _ => blX7_minus_79) q6))))) (fun z5 => (X_ret (fun _ _ => blX7_minus_68) (q4.2 z5)))))))) (fun z3 => (X_go (fun _ _ => blX7_minus_52) (q2.2 z3))))))))))))
set_option maxRecDepth 20000 in
theorem vX7_divided {d : Nat} {σ : am_S} {Q : Int64 → am_S → Prop} {l0 : Int64} {l2 : Int32} (H :
    am_K ri am_Lx IX7_kind d [.long l0] σ (fun r1 σ1 =>
      am_K rj am_Lx IX7_empty d [.int r1] σ1 (fun r2 σ2 =>
        am_K ri am_Lx IX7_size d [.long l0] σ2 (fun r3 σ3 =>
          am_X rj am_Lx IX7_divided (d + 1) 17 [some (.long l0), none, some (.int l2), some (.long r2), none, some (.int r3), some (.int (0 : Int32)), none] [] σ3 Q)))) : am_K rj am_Lx IX7_divided (d + 1) [.long l0, .int l2] σ Q := K_of am_owX7_divided (Nat.le_of_ble_eq_true rfl) (X_call (fun _ _ _ _ => blX7_divided_0) (K_mono H (fun r1 σ1 q0 => (X_call (fun _ _ _ _ => blX7_divided_4) (K_mono q0 (fun r2 σ2 q1 => (X_call (fun _ _ _ _ => blX7_divided_7) (K_mono q1 (fun r3 σ3 q2 => (X_go (fun _ _ => blX7_divided_12) q2))))))))))
set_option maxRecDepth 20000 in
theorem vX7_divided_17 {d : Nat} {σ : am_S} {Q : Int64 → am_S → Prop} {l0 : Int64} {l2 : Int32} {l3 : Int64} {l5 : Int32} {l6 : Int32} (H :
    (l5 ≤ l6 →
      Q l3 σ) ∧
    (¬ l5 ≤ l6 →
      (l2 < (1 : Int32) →
        am_X rj am_Lx IX7_divided (d + 1) 61 [some (.long l0), none, some (.int l2), some (.long l3), none, some (.int l5), some (.int l6), none] [] σ Q) ∧
      (¬ l2 < (1 : Int32) →
        (l5 < (l6 + l2) →
          am_X rj am_Lx IX7_divided (d + 1) 61 [some (.long l0), none, some (.int l2), some (.long l3), none, some (.int l5), some (.int l6), none] [] σ Q) ∧
        (¬ l5 < (l6 + l2) →
          am_K ri am_Lx IX7_at d [.long l0, .int l6] σ (fun r1 σ1 =>
            am_K ri am_Lx IX7_at d [.long l0, .int ((l6 + l2) - (1 : Int32))] σ1 (fun r2 σ2 =>
              (¬ r1 = r2 →
                am_X rj am_Lx IX7_divided (d + 1) 61 [some (.long l0), none, some (.int l2), some (.long l3), none, some (.int l5), some (.int l6), none] [] σ2 Q) ∧
              (r1 = r2 →
                am_K ri am_Lx IX7_at d [.long l0, .int l6] σ2 (fun r3 σ3 =>
                  am_K rj am_Lx IX7_with d [.long l3, .int r3] σ3 (fun r4 σ4 =>
                    am_X rj am_Lx IX7_divided (d + 1) 17 [some (.long l0), none, some (.int l2), some (.long r4), none, some (.int l5), some (.int (l6 + l2)), none] [] σ4 Q))))))))) : am_X rj am_Lx IX7_divided (d + 1) 17 [some (.long l0), none, some (.int l2), some (.long l3), none, some (.int l5), some (.int l6), none] [] σ Q := (X_if (fun _ _ => blX7_divided_17) (fun z0 => (X_ret (fun _ _ => blX7_divided_98) (H.1 z0))) (fun z0 => (X_if (fun _ _ => blX7_divided_24) (fun z1 => ((H.2 z0).1 z1)) (fun z1 => (X_if (fun _ _ => blX7_divided_29) (fun z2 => (((H.2 z0).2 z1).1 z2)) (fun z2 => (X_call (fun _ _ _ _ => blX7_divided_38) (K_mono (((H.2 z0).2 z1).2 z2) (fun r1 σ1 q3 => (X_call (fun _ _ _ _ => blX7_divided_44) (K_mono q3 (fun r2 σ2 q4 => (X_ifn (fun _ _ => blX7_divided_54) (fun z5 => (q4.1 z5)) (fun z5 => (X_go (fun _ _ => blX7_divided_57) (X_go (fun _ _ h => blX7_divided_62 (fun z => absurd z (by decide)) (fun _ => h)) (X_call (fun _ _ _ _ => blX7_divided_69) (K_mono (q4.2 z5) (fun r3 σ3 q8 => (X_call (fun _ _ _ _ => blX7_divided_76) (K_mono q8 (fun r4 σ4 q9 => (X_go (fun _ _ => blX7_divided_79) (X_go (fun _ _ h => blX7_divided_80 (fun z => absurd z (by decide)) (fun _ => h)) (X_go (fun _ _ => blX7_divided_87) (X_go (fun _ _ => blX7_divided_92) q9))))))))))))))))))))))))))
set_option maxRecDepth 20000 in
theorem vX7_divided_61 {d : Nat} {σ : am_S} {Q : Int64 → am_S → Prop} {l0 : Int64} {l2 : Int32} {l3 : Int64} {l5 : Int32} {l6 : Int32} (H :
    am_X rj am_Lx IX7_divided (d + 1) 17 [some (.long l0), none, some (.int l2), some (.long l3), none, some (.int l5), some (.int (l6 + (1 : Int32))), none] [] σ Q) : am_X rj am_Lx IX7_divided (d + 1) 61 [some (.long l0), none, some (.int l2), some (.long l3), none, some (.int l5), some (.int l6), none] [] σ Q := (X_go (fun _ _ => blX7_divided_61) (X_go (fun _ _ h => blX7_divided_62 (fun _ => h) (fun z => absurd z (by decide))) (X_go (fun _ _ h => blX7_divided_80 (fun _ => h) (fun z => absurd z (by decide))) (X_go (fun _ _ => blX7_divided_91) (X_go (fun _ _ => blX7_divided_92) H)))))
set_option maxRecDepth 20000 in
theorem vX7_picked {d : Nat} {σ : am_S} {Q : Int64 → am_S → Prop} {l0 : Int64} {l2 : Int32} (H :
    am_K ri am_Lx IX7_kind d [.long l0] σ (fun r1 σ1 =>
      am_K rj am_Lx IX7_empty d [.int r1] σ1 (fun r2 σ2 =>
        am_K ri am_Lx IX7_size d [.long l0] σ2 (fun r3 σ3 =>
          am_X rj am_Lx IX7_picked (d + 1) 17 [some (.long l0), none, some (.int l2), some (.long r2), none, some (.int r3), some (.int (0 : Int32))] [] σ3 Q)))) : am_K rj am_Lx IX7_picked (d + 1) [.long l0, .int l2] σ Q := K_of am_owX7_picked (Nat.le_of_ble_eq_true rfl) (X_call (fun _ _ _ _ => blX7_picked_0) (K_mono H (fun r1 σ1 q0 => (X_call (fun _ _ _ _ => blX7_picked_4) (K_mono q0 (fun r2 σ2 q1 => (X_call (fun _ _ _ _ => blX7_picked_7) (K_mono q1 (fun r3 σ3 q2 => (X_go (fun _ _ => blX7_picked_12) q2))))))))))
set_option maxRecDepth 20000 in
theorem vX7_picked_17 {d : Nat} {σ : am_S} {Q : Int64 → am_S → Prop} {l0 : Int64} {l2 : Int32} {l3 : Int64} {l5 : Int32} {l6 : Int32} (H :
    (l5 ≤ l6 →
      Q l3 σ) ∧
    (¬ l5 ≤ l6 →
      (((l2 >>> (l6 &&& 31)) &&& (1 : Int32)) = 0 →
        am_X rj am_Lx IX7_picked (d + 1) 17 [some (.long l0), none, some (.int l2), some (.long l3), none, some (.int l5), some (.int (l6 + (1 : Int32)))] [] σ Q) ∧
      (¬ ((l2 >>> (l6 &&& 31)) &&& (1 : Int32)) = 0 →
        (l6 ≤ 0 →
          am_K ri am_Lx IX7_at d [.long l0, .int l6] σ (fun r1 σ1 =>
            am_K rj am_Lx IX7_with d [.long l3, .int r1] σ1 (fun r2 σ2 =>
              am_X rj am_Lx IX7_picked (d + 1) 17 [some (.long l0), none, some (.int l2), some (.long r2), none, some (.int l5), some (.int (l6 + (1 : Int32)))] [] σ2 Q))) ∧
        (¬ l6 ≤ 0 →
          (¬ ((l2 >>> ((l6 - (1 : Int32)) &&& 31)) &&& (1 : Int32)) = 0 →
            am_K ri am_Lx IX7_at d [.long l0, .int l6] σ (fun r3 σ3 =>
              am_K rj am_Lx IX7_with d [.long l3, .int r3] σ3 (fun r4 σ4 =>
                am_X rj am_Lx IX7_picked (d + 1) 17 [some (.long l0), none, some (.int l2), some (.long r4), none, some (.int l5), some (.int (l6 + (1 : Int32)))] [] σ4 Q))) ∧
          (((l2 >>> ((l6 - (1 : Int32)) &&& 31)) &&& (1 : Int32)) = 0 →
            am_K ri am_Lx IX7_at d [.long l0, .int l6] σ (fun r5 σ5 =>
              am_K ri am_Lx IX7_at d [.long l0, .int (l6 - (1 : Int32))] σ5 (fun r6 σ6 =>
                (¬ r5 = r6 →
                  am_K ri am_Lx IX7_at d [.long l0, .int l6] σ6 (fun r7 σ7 =>
                    am_K rj am_Lx IX7_with d [.long l3, .int r7] σ7 (fun r8 σ8 =>
                      am_X rj am_Lx IX7_picked (d + 1) 17 [some (.long l0), none, some (.int l2), some (.long r8), none, some (.int l5), some (.int (l6 + (1 : Int32)))] [] σ8 Q))) ∧
                (r5 = r6 →
                  Q (-1 : Int64) σ6)))))))) : am_X rj am_Lx IX7_picked (d + 1) 17 [some (.long l0), none, some (.int l2), some (.long l3), none, some (.int l5), some (.int l6)] [] σ Q := (X_if (fun _ _ => blX7_picked_17) (fun z0 => (X_ret (fun _ _ => blX7_picked_87) (H.1 z0))) (fun z0 => (X_if (fun _ _ => blX7_picked_24) (fun z1 => (X_go (fun _ _ => blX7_picked_81) ((H.2 z0).1 z1))) (fun z1 => (X_if (fun _ _ => blX7_picked_33) (fun z2 => (X_call (fun _ _ _ _ => blX7_picked_70) (K_mono (((H.2 z0).2 z1).1 z2) (fun r1 σ1 q3 => (X_call (fun _ _ _ _ => blX7_picked_77) (K_mono q3 (fun r2 σ2 q4 => (X_go (fun _ _ => blX7_picked_80) (X_go (fun _ _ => blX7_picked_81) q4))))))))) (fun z2 => (X_ifn (fun _ _ => blX7_picked_38) (fun z3 => (X_call (fun _ _ _ _ => blX7_picked_70) (K_mono ((((H.2 z0).2 z1).2 z2).1 z3) (fun r3 σ3 q4 => (X_call (fun _ _ _ _ => blX7_picked_77) (K_mono q4 (fun r4 σ4 q5 => (X_go (fun _ _ => blX7_picked_80) (X_go (fun _ _ => blX7_picked_81) q5))))))))) (fun z3 => (X_call (fun _ _ _ _ => blX7_picked_49) (K_mono ((((H.2 z0).2 z1).2 z2).2 z3) (fun r5 σ5 q4 => (X_call (fun _ _ _ _ => blX7_picked_55) (K_mono q4 (fun r6 σ6 q5 => (X_ifn (fun _ _ => blX7_picked_63) (fun z6 => (X_call (fun _ _ _ _ => blX7_picked_70) (K_mono (q5.1 z6) (fun r7 σ7 q7 => (X_call (fun _ _ _ _ => blX7_picked_77) (K_mono q7 (fun r8 σ8 q8 => (X_go (fun _ _ => blX7_picked_80) (X_go (fun _ _ => blX7_picked_81) q8))))))))) (fun z6 => (X_ret (fun _ _ => blX7_picked_66) (q5.2 z6))))))))))))))))))
set_option maxRecDepth 20000 in
theorem vX8_init {d : Nat} {σ : am_S} {Q : Unit → am_S → Prop} {l0 : Nat} {l1 : Int32} {l2 : Int32} {l3 : Nat} (H :
    (¬ l1 = 0 →
      am_X ru am_Lx IX8_init (d + 1) 23 [some (.ref l0), some (.int l1), some (.int l2), some (.ref l3), some (.int (1 : Int32)), some (.int (0 : Int32)), some (.int (0 : Int32))] [] σ Q) ∧
    (l1 = 0 →
      am_X ru am_Lx IX8_init (d + 1) 23 [some (.ref l0), some (.int l1), some (.int l2), some (.ref l3), some (.int (1 : Int32)), some (.int ((1 : Int32) <<< (l2 &&& 31))), some (.int (0 : Int32))] [] σ Q)) : am_K ru am_Lx IX8_init (d + 1) [.ref l0, .int l1, .int l2, .ref l3] σ Q := K_of am_owX8_init (Nat.le_of_ble_eq_true rfl) (X_ifn (fun _ _ => blX8_init_0) (fun z0 => (X_go (fun _ _ => blX8_init_17) (X_go (fun _ _ => blX8_init_18) (H.1 z0)))) (fun z0 => (X_go (fun _ _ => blX8_init_11) (X_go (fun _ _ => blX8_init_18) (H.2 z0)))))
set_option maxRecDepth 20000 in
theorem vX8_init_23 {d : Nat} {σ : am_S} {Q : Unit → am_S → Prop} {l0 : Nat} {l1 : Int32} {l2 : Int32} {l3 : Nat} {l4 : Int32} {l5 : Int32} {l6 : Int32} (H :
    (am_isA am_Lx σ l3) ∧
    ((Int32.ofNat (am_rl am_Lx σ l3)) ≤ l6 →
      (am_isT am_Lx σ l0) ∧
      (am_isT am_Lx (wS σ l0 0 l1) l0) ∧
      (am_isT am_Lx (wS (wS σ l0 0 l1) l0 1 l2) l0) ∧
      (l3 < am_sb) ∧
      (am_isT am_Lx (wQ (wS (wS σ l0 0 l1) l0 1 l2) l0 (some l3)) l0) ∧
      (am_isT am_Lx (wS (wQ (wS (wS σ l0 0 l1) l0 1 l2) l0 (some l3)) l0 3 l4) l0) ∧
      Q () (wS (wS (wQ (wS (wS σ l0 0 l1) l0 1 l2) l0 (some l3)) l0 3 l4) l0 4 l5)) ∧
    (¬ (Int32.ofNat (am_rl am_Lx σ l3)) ≤ l6 →
      (am_isR am_Lx σ l3) ∧
      (vp_in l6 (am_rl am_Lx σ l3)) ∧
      (gP σ l3 (l6).toNatClampNeg = none →
        False) ∧
      (∀ t1, gP σ l3 (l6).toNatClampNeg = some t1 →
        (am_isT am_Lx σ t1) ∧
        (am_isR am_Lx σ l3) ∧
        (vp_in l6 (am_rl am_Lx σ l3)) ∧
        (gP σ l3 (l6).toNatClampNeg = none →
          False) ∧
        (∀ t2, gP σ l3 (l6).toNatClampNeg = some t2 →
          (am_isT am_Lx σ t2) ∧
          am_X ru am_Lx IX8_init (d + 1) 23 [some (.ref l0), some (.int l1), some (.int l2), some (.ref l3), some (.int (l4 + (gS σ t1 3))), some (.int (l5 ||| (gS σ t2 4))), some (.int (l6 + (1 : Int32)))] [] σ Q)))) : am_X ru am_Lx IX8_init (d + 1) 23 [some (.ref l0), some (.int l1), some (.int l2), some (.ref l3), some (.int l4), some (.int l5), some (.int l6)] [] σ Q := (X_if (fun _ _ => blX8_init_23 H.1) (fun z0 => (X_ret (fun _ _ => blX8_init_60 (H.2.1 z0).1 (H.2.1 z0).2.1 (H.2.1 z0).2.2.1 (H.2.1 z0).2.2.2.1 (H.2.1 z0).2.2.2.2.1 (H.2.1 z0).2.2.2.2.2.1) (H.2.1 z0).2.2.2.2.2.2)) (fun z0 => (X_opt (fun _ _ => blX8_init_30 (H.2.2 z0).1 (H.2.2 z0).2.1) (fun z1 => (False.elim ((H.2.2 z0).2.2.1 z1))) (fun t1 z1 => (X_opt (fun _ _ => blX8_init_36_r ((H.2.2 z0).2.2.2 t1 z1).1 ((H.2.2 z0).2.2.2 t1 z1).2.1 ((H.2.2 z0).2.2.2 t1 z1).2.2.1) (fun z2 => (False.elim (((H.2.2 z0).2.2.2 t1 z1).2.2.2.1 z2))) (fun t2 z2 => (X_go (fun _ _ => blX8_init_48_r (((H.2.2 z0).2.2.2 t1 z1).2.2.2.2 t2 z2).1) (((H.2.2 z0).2.2.2 t1 z1).2.2.2.2 t2 z2).2)))))))
set_option maxRecDepth 20000 in
theorem vX8_compare {d : Nat} {σ : am_S} {Q : Int32 → am_S → Prop} {l0 : Nat} {l1 : Nat} {l2 : Int32} (H :
    (am_isT am_Lx σ l0) ∧
    (am_isT am_Lx σ l1) ∧
    am_K ri am_Lx IJ6_compare_7cf53 d [.int (gS σ l0 0), .int (gS σ l1 0)] σ (fun r1 σ1 =>
      (¬ r1 = 0 →
        am_X ri am_Lx IX8_compare (d + 1) 28 [some (.ref l0), some (.ref l1), some (.int l2), some (.int r1), none] [] σ1 Q) ∧
      (r1 = 0 →
        (am_isT am_Lx σ1 l0) ∧
        (am_isT am_Lx σ1 l1) ∧
        am_K ri am_Lx IJ6_compare_7cf53 d [.int (gS σ1 l0 1), .int (gS σ1 l1 1)] σ1 (fun r2 σ2 =>
          am_X ri am_Lx IX8_compare (d + 1) 28 [some (.ref l0), some (.ref l1), some (.int l2), some (.int r2), none] [] σ2 Q)))) : am_K ri am_Lx IX8_compare (d + 1) [.ref l0, .ref l1, .int l2] σ Q := K_of am_owX8_compare (Nat.le_of_ble_eq_true rfl) (X_call (fun _ _ _ _ => blX8_compare_0 H.1 H.2.1) (K_mono H.2.2 (fun r1 σ1 q0 => (X_ifn (fun _ _ => blX8_compare_11) (fun z1 => (q0.1 z1)) (fun z1 => (X_call (fun _ _ _ _ => blX8_compare_16 (q0.2 z1).1 (q0.2 z1).2.1) (K_mono (q0.2 z1).2.2 (fun r2 σ2 q2 => (X_go (fun _ _ => blX8_compare_27) q2)))))))))
set_option maxRecDepth 20000 in
theorem vX8_compare_28 {d : Nat} {σ : am_S} {Q : Int32 → am_S → Prop} {l0 : Nat} {l1 : Nat} {l2 : Int32} {l3 : Int32} (H :
    (¬ l3 = 0 →
      (¬ l3 = 0 →
        Q l3 σ) ∧
      (l3 = 0 →
        (l2 < (40 : Int32) →
          am_X ri am_Lx IX8_compare (d + 1) 61 [some (.ref l0), some (.ref l1), some (.int l2), some (.int l3), some (.int (0 : Int32))] [] σ Q) ∧
        (¬ l2 < (40 : Int32) →
          Q l3 σ))) ∧
    (l3 = 0 →
      (am_isT am_Lx σ l0) ∧
      (gQ σ l0 = none →
        False) ∧
      (∀ t1, gQ σ l0 = some t1 →
        (am_isA am_Lx σ t1) ∧
        (am_isT am_Lx σ l1) ∧
        (gQ σ l1 = none →
          False) ∧
        (∀ t2, gQ σ l1 = some t2 →
          (am_isA am_Lx σ t2) ∧
          am_K ri am_Lx IJ6_compare_7cf53 d [.int (Int32.ofNat (am_rl am_Lx σ t1)), .int (Int32.ofNat (am_rl am_Lx σ t2))] σ (fun r3 σ3 =>
            (¬ r3 = 0 →
              Q r3 σ3) ∧
            (r3 = 0 →
              (l2 < (40 : Int32) →
                am_X ri am_Lx IX8_compare (d + 1) 61 [some (.ref l0), some (.ref l1), some (.int l2), some (.int r3), some (.int (0 : Int32))] [] σ3 Q) ∧
              (¬ l2 < (40 : Int32) →
                Q r3 σ3))))))) : am_X ri am_Lx IX8_compare (d + 1) 28 [some (.ref l0), some (.ref l1), some (.int l2), some (.int l3), none] [] σ Q := (X_ifn (fun _ _ => blX8_compare_28) (fun z0 => (X_ifn (fun _ _ => blX8_compare_46) (fun z1 => (X_ret (fun _ _ => blX8_compare_56) ((H.1 z0).1 z1))) (fun z1 => (X_if (fun _ _ => blX8_compare_50) (fun z2 => (X_go (fun _ _ => blX8_compare_58) (((H.1 z0).2 z1).1 z2))) (fun z2 => (X_ret (fun _ _ => blX8_compare_56) (((H.1 z0).2 z1).2 z2))))))) (fun z0 => (X_opt (fun _ _ => blX8_compare_32 (H.2 z0).1) (fun z1 => (False.elim ((H.2 z0).2.1 z1))) (fun t1 z1 => (X_opt (fun _ _ => blX8_compare_36_r ((H.2 z0).2.2 t1 z1).1 ((H.2 z0).2.2 t1 z1).2.1) (fun z2 => (False.elim (((H.2 z0).2.2 t1 z1).2.2.1 z2))) (fun t2 z2 => (X_call (fun _ _ _ _ => blX8_compare_41_r (((H.2 z0).2.2 t1 z1).2.2.2 t2 z2).1) (K_mono (((H.2 z0).2.2 t1 z1).2.2.2 t2 z2).2 (fun r3 σ3 q3 => (X_go (fun _ _ => blX8_compare_45) (X_ifn (fun _ _ => blX8_compare_46) (fun z5 => (X_ret (fun _ _ => blX8_compare_56) (q3.1 z5))) (fun z5 => (X_if (fun _ _ => blX8_compare_50) (fun z6 => (X_go (fun _ _ => blX8_compare_58) ((q3.2 z5).1 z6))) (fun z6 => (X_ret (fun _ _ => blX8_compare_56) ((q3.2 z5).2 z6))))))))))))))))
set_option maxRecDepth 20000 in
theorem vX8_compare_61 {d : Nat} {σ : am_S} {Q : Int32 → am_S → Prop} {l0 : Nat} {l1 : Nat} {l2 : Int32} {l3 : Int32} {l4 : Int32} (H :
    (¬ l3 = 0 →
      Q l3 σ) ∧
    (l3 = 0 →
      (am_isT am_Lx σ l0) ∧
      (gQ σ l0 = none →
        False) ∧
      (∀ t1, gQ σ l0 = some t1 →
        (am_isA am_Lx σ t1) ∧
        ((Int32.ofNat (am_rl am_Lx σ t1)) ≤ l4 →
          Q l3 σ) ∧
        (¬ (Int32.ofNat (am_rl am_Lx σ t1)) ≤ l4 →
          (am_isT am_Lx σ l0) ∧
          (gQ σ l0 = none →
            False) ∧
          (∀ t2, gQ σ l0 = some t2 →
            (am_isR am_Lx σ t2) ∧
            (vp_in l4 (am_rl am_Lx σ t2)) ∧
            (gP σ t2 (l4).toNatClampNeg = none →
              (am_isT am_Lx σ l1) ∧
              (gQ σ l1 = none →
                False) ∧
              (∀ t4, gQ σ l1 = some t4 →
                (am_isR am_Lx σ t4) ∧
                (vp_in l4 (am_rl am_Lx σ t4)) ∧
                (gP σ t4 (l4).toNatClampNeg = none →
                  am_K ri am_Lx IX8_compare d [.null, .null, .int (l2 + (1 : Int32))] σ (fun r6 σ6 =>
                    am_X ri am_Lx IX8_compare (d + 1) 61 [some (.ref l0), some (.ref l1), some (.int l2), some (.int r6), some (.int (l4 + (1 : Int32)))] [] σ6 Q)) ∧
                (∀ t5, gP σ t4 (l4).toNatClampNeg = some t5 →
                  am_K ri am_Lx IX8_compare d [.null, .ref t5, .int (l2 + (1 : Int32))] σ (fun r7 σ7 =>
                    am_X ri am_Lx IX8_compare (d + 1) 61 [some (.ref l0), some (.ref l1), some (.int l2), some (.int r7), some (.int (l4 + (1 : Int32)))] [] σ7 Q)))) ∧
            (∀ t3, gP σ t2 (l4).toNatClampNeg = some t3 →
              (am_isT am_Lx σ l1) ∧
              (gQ σ l1 = none →
                False) ∧
              (∀ t8, gQ σ l1 = some t8 →
                (am_isR am_Lx σ t8) ∧
                (vp_in l4 (am_rl am_Lx σ t8)) ∧
                (gP σ t8 (l4).toNatClampNeg = none →
                  am_K ri am_Lx IX8_compare d [.ref t3, .null, .int (l2 + (1 : Int32))] σ (fun r10 σ10 =>
                    am_X ri am_Lx IX8_compare (d + 1) 61 [some (.ref l0), some (.ref l1), some (.int l2), some (.int r10), some (.int (l4 + (1 : Int32)))] [] σ10 Q)) ∧
                (∀ t9, gP σ t8 (l4).toNatClampNeg = some t9 →
                  am_K ri am_Lx IX8_compare d [.ref t3, .ref t9, .int (l2 + (1 : Int32))] σ (fun r11 σ11 =>
                    am_X ri am_Lx IX8_compare (d + 1) 61 [some (.ref l0), some (.ref l1), some (.int l2), some (.int r11), some (.int (l4 + (1 : Int32)))] [] σ11 Q))))))))) : am_X ri am_Lx IX8_compare (d + 1) 61 [some (.ref l0), some (.ref l1), some (.int l2), some (.int l3), some (.int l4)] [] σ Q := (X_ifn (fun _ _ => blX8_compare_61) (fun z0 => (X_ret (fun _ _ => blX8_compare_102) (H.1 z0))) (fun z0 => (X_opt (fun _ _ => blX8_compare_65 (H.2 z0).1) (fun z1 => (False.elim ((H.2 z0).2.1 z1))) (fun t1 z1 => (X_if (fun _ _ => blX8_compare_71_r ((H.2 z0).2.2 t1 z1).1) (fun z2 => (X_ret (fun _ _ => blX8_compare_102) (((H.2 z0).2.2 t1 z1).2.1 z2))) (fun z2 => (X_opt (fun _ _ => blX8_compare_75 (((H.2 z0).2.2 t1 z1).2.2 z2).1) (fun z3 => (False.elim ((((H.2 z0).2.2 t1 z1).2.2 z2).2.1 z3))) (fun t2 z3 => (X_opt (fun _ _ => blX8_compare_79_r ((((H.2 z0).2.2 t1 z1).2.2 z2).2.2 t2 z3).1 ((((H.2 z0).2.2 t1 z1).2.2 z2).2.2 t2 z3).2.1) (fun z4 => (X_opt (fun _ _ => blX8_compare_82_n (((((H.2 z0).2.2 t1 z1).2.2 z2).2.2 t2 z3).2.2.1 z4).1) (fun z5 => (False.elim ((((((H.2 z0).2.2 t1 z1).2.2 z2).2.2 t2 z3).2.2.1 z4).2.1 z5))) (fun t4 z5 => (X_opt (fun _ _ => blX8_compare_86_rn ((((((H.2 z0).2.2 t1 z1).2.2 z2).2.2 t2 z3).2.2.1 z4).2.2 t4 z5).1 ((((((H.2 z0).2.2 t1 z1).2.2 z2).2.2 t2 z3).2.2.1 z4).2.2 t4 z5).2.1) (fun z6 => (X_call (fun _ _ _ _ => blX8_compare_89_nn) (K_mono (((((((H.2 z0).2.2 t1 z1).2.2 z2).2.2 t2 z3).2.2.1 z4).2.2 t4 z5).2.2.1 z6) (fun r6 σ6 q7 => (X_go (fun _ _ => blX8_compare_95) q7))))) (fun t5 z6 => (X_call (fun _ _ _ _ => blX8_compare_89_rn) (K_mono (((((((H.2 z0).2.2 t1 z1).2.2 z2).2.2 t2 z3).2.2.1 z4).2.2 t4 z5).2.2.2 t5 z6) (fun r7 σ7 q7 => (X_go (fun _ _ => blX8_compare_95) q7))))))))) (fun t3 z4 => (X_opt (fun _ _ => blX8_compare_82_r (((((H.2 z0).2.2 t1 z1).2.2 z2).2.2 t2 z3).2.2.2 t3 z4).1) (fun z5 => (False.elim ((((((H.2 z0).2.2 t1 z1).2.2 z2).2.2 t2 z3).2.2.2 t3 z4).2.1 z5))) (fun t8 z5 => (X_opt (fun _ _ => blX8_compare_86_rr ((((((H.2 z0).2.2 t1 z1).2.2 z2).2.2 t2 z3).2.2.2 t3 z4).2.2 t8 z5).1 ((((((H.2 z0).2.2 t1 z1).2.2 z2).2.2 t2 z3).2.2.2 t3 z4).2.2 t8 z5).2.1) (fun z6 => (X_call (fun _ _ _ _ => blX8_compare_89_nr) (K_mono (((((((H.2 z0).2.2 t1 z1).2.2 z2).2.2 t2 z3).2.2.2 t3 z4).2.2 t8 z5).2.2.1 z6) (fun r10 σ10 q7 => (X_go (fun _ _ => blX8_compare_95) q7))))) (fun t9 z6 => (X_call (fun _ _ _ _ => blX8_compare_89_rr) (K_mono (((((((H.2 z0).2.2 t1 z1).2.2 z2).2.2 t2 z3).2.2.2 t3 z4).2.2 t8 z5).2.2.2 t9 z6) (fun r11 σ11 q7 => (X_go (fun _ _ => blX8_compare_95) q7))))))))))))))))))
set_option maxRecDepth 20000 in
theorem vJ6_compare_7cf53 {d : Nat} {σ : am_S} {Q : Int32 → am_S → Prop} {l0 : Int32} {l1 : Int32} (H :
    (l1 ≤ l0 →
      (¬ l0 = l1 →
        Q (1 : Int32) σ) ∧
      (l0 = l1 →
        Q (0 : Int32) σ)) ∧
    (¬ l1 ≤ l0 →
      Q (-1 : Int32) σ)) : am_K ri am_Lx IJ6_compare_7cf53 (d + 1) [.int l0, .int l1] σ Q := K_of am_owJ6_compare_7cf53 (Nat.le_of_ble_eq_true rfl) (X_if (fun _ _ => blJ6_compare_7cf53_0) (fun z0 => (X_ifn (fun _ _ => blJ6_compare_7cf53_9) (fun z1 => (X_go (fun _ _ => blJ6_compare_7cf53_18) (X_ret (fun _ _ => blJ6_compare_7cf53_19) ((H.1 z0).1 z1)))) (fun z1 => (X_go (fun _ _ => blJ6_compare_7cf53_14) (X_ret (fun _ _ => blJ6_compare_7cf53_19) ((H.1 z0).2 z1)))))) (fun z0 => (X_go (fun _ _ => blJ6_compare_7cf53_5) (X_ret (fun _ _ => blJ6_compare_7cf53_19) (H.2 z0)))))
set_option maxRecDepth 20000 in
theorem vJ6_bitCount_0f7a4 {d : Nat} {σ : am_S} {Q : Int32 → am_S → Prop} {l0 : Int32} (H :
    Q ((((((((l0 - (((l0).toUInt32 >>> (((1 : Int32)).toUInt32 &&& Int32.toUInt32 31)).toInt32 &&& (1431655765 : Int32))) &&& (858993459 : Int32)) + ((((l0 - (((l0).toUInt32 >>> (((1 : Int32)).toUInt32 &&& Int32.toUInt32 31)).toInt32 &&& (1431655765 : Int32)))).toUInt32 >>> (((2 : Int32)).toUInt32 &&& Int32.toUInt32 31)).toInt32 &&& (858993459 : Int32))) + (((((l0 - (((l0).toUInt32 >>> (((1 : Int32)).toUInt32 &&& Int32.toUInt32 31)).toInt32 &&& (1431655765 : Int32))) &&& (858993459 : Int32)) + ((((l0 - (((l0).toUInt32 >>> (((1 : Int32)).toUInt32 &&& Int32.toUInt32 31)).toInt32 &&& (1431655765 : Int32)))).toUInt32 >>> (((2 : Int32)).toUInt32 &&& Int32.toUInt32 31)).toInt32 &&& (858993459 : Int32)))).toUInt32 >>> (((4 : Int32)).toUInt32 &&& Int32.toUInt32 31)).toInt32) &&& (252645135 : Int32)) + (((((((l0 - (((l0).toUInt32 >>> (((1 : Int32)).toUInt32 &&& Int32.toUInt32 31)).toInt32 &&& (1431655765 : Int32))) &&& (858993459 : Int32)) + ((((l0 - (((l0).toUInt32 >>> (((1 : Int32)).toUInt32 &&& Int32.toUInt32 31)).toInt32 &&& (1431655765 : Int32)))).toUInt32 >>> (((2 : Int32)).toUInt32 &&& Int32.toUInt32 31)).toInt32 &&& (858993459 : Int32))) + (((((l0 - (((l0).toUInt32 >>> (((1 : Int32)).toUInt32 &&& Int32.toUInt32 31)).toInt32 &&& (1431655765 : Int32))) &&& (858993459 : Int32)) + ((((l0 - (((l0).toUInt32 >>> (((1 : Int32)).toUInt32 &&& Int32.toUInt32 31)).toInt32 &&& (1431655765 : Int32)))).toUInt32 >>> (((2 : Int32)).toUInt32 &&& Int32.toUInt32 31)).toInt32 &&& (858993459 : Int32)))).toUInt32 >>> (((4 : Int32)).toUInt32 &&& Int32.toUInt32 31)).toInt32) &&& (252645135 : Int32))).toUInt32 >>> (((8 : Int32)).toUInt32 &&& Int32.toUInt32 31)).toInt32) + ((((((((l0 - (((l0).toUInt32 >>> (((1 : Int32)).toUInt32 &&& Int32.toUInt32 31)).toInt32 &&& (1431655765 : Int32))) &&& (858993459 : Int32)) + ((((l0 - (((l0).toUInt32 >>> (((1 : Int32)).toUInt32 &&& Int32.toUInt32 31)).toInt32 &&& (1431655765 : Int32)))).toUInt32 >>> (((2 : Int32)).toUInt32 &&& Int32.toUInt32 31)).toInt32 &&& (858993459 : Int32))) + (((((l0 - (((l0).toUInt32 >>> (((1 : Int32)).toUInt32 &&& Int32.toUInt32 31)).toInt32 &&& (1431655765 : Int32))) &&& (858993459 : Int32)) + ((((l0 - (((l0).toUInt32 >>> (((1 : Int32)).toUInt32 &&& Int32.toUInt32 31)).toInt32 &&& (1431655765 : Int32)))).toUInt32 >>> (((2 : Int32)).toUInt32 &&& Int32.toUInt32 31)).toInt32 &&& (858993459 : Int32)))).toUInt32 >>> (((4 : Int32)).toUInt32 &&& Int32.toUInt32 31)).toInt32) &&& (252645135 : Int32)) + (((((((l0 - (((l0).toUInt32 >>> (((1 : Int32)).toUInt32 &&& Int32.toUInt32 31)).toInt32 &&& (1431655765 : Int32))) &&& (858993459 : Int32)) + ((((l0 - (((l0).toUInt32 >>> (((1 : Int32)).toUInt32 &&& Int32.toUInt32 31)).toInt32 &&& (1431655765 : Int32)))).toUInt32 >>> (((2 : Int32)).toUInt32 &&& Int32.toUInt32 31)).toInt32 &&& (858993459 : Int32))) + (((((l0 - (((l0).toUInt32 >>> (((1 : Int32)).toUInt32 &&& Int32.toUInt32 31)).toInt32 &&& (1431655765 : Int32))) &&& (858993459 : Int32)) + ((((l0 - (((l0).toUInt32 >>> (((1 : Int32)).toUInt32 &&& Int32.toUInt32 31)).toInt32 &&& (1431655765 : Int32)))).toUInt32 >>> (((2 : Int32)).toUInt32 &&& Int32.toUInt32 31)).toInt32 &&& (858993459 : Int32)))).toUInt32 >>> (((4 : Int32)).toUInt32 &&& Int32.toUInt32 31)).toInt32) &&& (252645135 : Int32))).toUInt32 >>> (((8 : Int32)).toUInt32 &&& Int32.toUInt32 31)).toInt32)).toUInt32 >>> (((16 : Int32)).toUInt32 &&& Int32.toUInt32 31)).toInt32) &&& (63 : Int32)) σ) : am_K ri am_Lx IJ6_bitCount_0f7a4 (d + 1) [.int l0] σ Q := K_of am_owJ6_bitCount_0f7a4 (Nat.le_of_ble_eq_true rfl) (X_ret (fun _ _ => blJ6_bitCount_0f7a4_0) H)
set_option maxRecDepth 20000 in
theorem vJ13_compare_74951 {d : Nat} {σ : am_S} {Q : Int32 → am_S → Prop} {l0 : Int64} {l2 : Int64} (H :
    (0 ≤ (lg_cmp l0 l2) →
      (¬ (lg_cmp l0 l2) = 0 →
        Q (1 : Int32) σ) ∧
      ((lg_cmp l0 l2) = 0 →
        Q (0 : Int32) σ)) ∧
    (¬ 0 ≤ (lg_cmp l0 l2) →
      Q (-1 : Int32) σ)) : am_K ri am_Lx IJ13_compare_74951 (d + 1) [.long l0, .long l2] σ Q := K_of am_owJ13_compare_74951 (Nat.le_of_ble_eq_true rfl) (X_if (fun _ _ => blJ13_compare_74951_0) (fun z0 => (X_ifn (fun _ _ => blJ13_compare_74951_10) (fun z1 => (X_go (fun _ _ => blJ13_compare_74951_20) (X_ret (fun _ _ => blJ13_compare_74951_21) ((H.1 z0).1 z1)))) (fun z1 => (X_go (fun _ _ => blJ13_compare_74951_16) (X_ret (fun _ _ => blJ13_compare_74951_21) ((H.1 z0).2 z1)))))) (fun z0 => (X_go (fun _ _ => blJ13_compare_74951_6) (X_ret (fun _ _ => blJ13_compare_74951_21) (H.2 z0)))))
set_option maxRecDepth 20000 in
theorem vX5_byteAt {d : Nat} {σ : am_S} {Q : Int32 → am_S → Prop} {l1 : Int32} (H :
    (l1 < 0 →
      Q (-2 : Int32) σ) ∧
    (¬ l1 < 0 →
      (l1 < (gS σ 9 1) →
        (vp_in l1 256) ∧
        Q (gA σ 10 (l1).toNatClampNeg) σ) ∧
      (¬ l1 < (gS σ 9 1) →
        Q (-2 : Int32) σ))) : am_K ri am_Lx IX5_byteAt (d + 1) [.ref 9, .int l1] σ Q := K_of am_owX5_byteAt (Nat.le_of_ble_eq_true rfl) (X_if (fun _ _ => blX5_byteAt_0) (fun z0 => (X_go (fun _ _ => blX5_byteAt_12) (X_ret (fun _ _ => blX5_byteAt_23) (H.1 z0)))) (fun z0 => (X_if (fun _ _ => blX5_byteAt_4) (fun z1 => (X_go (fun _ _ => blX5_byteAt_17 ((H.2 z0).1 z1).1) (X_ret (fun _ _ => blX5_byteAt_23) ((H.2 z0).1 z1).2))) (fun z1 => (X_go (fun _ _ => blX5_byteAt_12) (X_ret (fun _ _ => blX5_byteAt_23) ((H.2 z0).2 z1)))))))
set_option maxRecDepth 20000 in
theorem vX5_printed {d : Nat} {σ : am_S} {Q : Int32 → am_S → Prop} {l1 : Nat} (H :
    am_K ru am_Lx IX5_write d [.ref 9, .ref l1, .int (0 : Int32)] (wS σ 9 1 (0 : Int32)) (fun _ σ1 =>
      Q (gS σ1 9 1) σ1)) : am_K ri am_Lx IX5_printed (d + 1) [.ref 9, .ref l1] σ Q := K_of am_owX5_printed (Nat.le_of_ble_eq_true rfl) (X_call (fun _ _ _ _ => blX5_printed_0) (K_mono H (fun _ σ1 q0 => (X_ret (fun _ _ => blX5_printed_11) q0))))
set_option maxRecDepth 20000 in
theorem vX5_add {d : Nat} {σ : am_S} {Q : Unit → am_S → Prop} {l1 : Int32} (H :
    ((256 : Int32) ≤ (gS σ 9 1) →
      Q () σ) ∧
    (¬ (256 : Int32) ≤ (gS σ 9 1) →
      (vp_in (gS σ 9 1) 256) ∧
      Q () (wS (wA σ 10 ((gS σ 9 1)).toNatClampNeg (vp_nar .byte (l1).toInt8.toInt32)) 9 1 ((gS σ 9 1) + (1 : Int32))))) : am_K ru am_Lx IX5_add (d + 1) [.ref 9, .int l1] σ Q := K_of am_owX5_add (Nat.le_of_ble_eq_true rfl) (X_if (fun _ _ => blX5_add_0) (fun z0 => (X_ret (fun _ _ => blX5_add_31) (H.1 z0))) (fun z0 => (X_go (fun _ _ => blX5_add_10 (H.2 z0).1) (X_ret (fun _ _ => blX5_add_31) (H.2 z0).2))))
set_option maxRecDepth 20000 in
theorem vX5_write {d : Nat} {σ : am_S} {Q : Unit → am_S → Prop} {l1 : Nat} {l2 : Int32} (H :
    (l2 < (40 : Int32) →
      am_K ru am_Lx IX5_writeLetter d [.ref 9, .ref l1] σ (fun _ σ1 =>
        (am_isT am_Lx σ1 l1) ∧
        (¬ (gS σ1 l1 0) = (2 : Int32) →
          (am_isT am_Lx σ1 l1) ∧
          (¬ (gS σ1 l1 0) = (3 : Int32) →
            am_X ru am_Lx IX5_write (d + 1) 55 [some (.ref 9), some (.ref l1), some (.int l2), some (.int (0 : Int32)), some (.int (42 : Int32)), some (.int (0 : Int32)), none, none] [] σ1 Q) ∧
          ((gS σ1 l1 0) = (3 : Int32) →
            am_X ru am_Lx IX5_write (d + 1) 55 [some (.ref 9), some (.ref l1), some (.int l2), some (.int (0 : Int32)), some (.int (43 : Int32)), some (.int (0 : Int32)), none, none] [] σ1 Q)) ∧
        ((gS σ1 l1 0) = (2 : Int32) →
          am_X ru am_Lx IX5_write (d + 1) 55 [some (.ref 9), some (.ref l1), some (.int l2), some (.int (1 : Int32)), some (.int (44 : Int32)), some (.int (0 : Int32)), none, none] [] σ1 Q))) ∧
    (¬ l2 < (40 : Int32) →
      Q () σ)) : am_K ru am_Lx IX5_write (d + 1) [.ref 9, .ref l1, .int l2] σ Q := K_of am_owX5_write (Nat.le_of_ble_eq_true rfl) (X_if (fun _ _ => blX5_write_0) (fun z0 => (X_call (fun _ _ _ _ => blX5_write_7) (K_mono (H.1 z0) (fun _ σ1 q1 => (X_ifn (fun _ _ => blX5_write_12 q1.1) (fun z2 => (X_go (fun _ _ => blX5_write_24) (X_go (fun _ _ h => blX5_write_25 (fun _ => h) (fun z => absurd z (by decide))) (X_ifn (fun _ _ => blX5_write_35 (q1.2.1 z2).1) (fun z5 => (X_go (fun _ _ => blX5_write_48) (X_go (fun _ _ => blX5_write_50) ((q1.2.1 z2).2.1 z5)))) (fun z5 => (X_go (fun _ _ => blX5_write_43) (X_go (fun _ _ => blX5_write_50) ((q1.2.1 z2).2.2 z5)))))))) (fun z2 => (X_go (fun _ _ => blX5_write_20) (X_go (fun _ _ h => blX5_write_25 (fun z => absurd z (by decide)) (fun _ => h)) (X_go (fun _ _ => blX5_write_30) (X_go (fun _ _ => blX5_write_50) (q1.2.2 z2))))))))))) (fun z0 => (X_ret (fun _ _ => blX5_write_6) (H.2 z0))))
set_option maxRecDepth 20000 in
theorem vX5_write_55 {d : Nat} {σ : am_S} {Q : Unit → am_S → Prop} {l1 : Nat} {l2 : Int32} {l3 : Int32} {l4 : Int32} {l5 : Int32} (H :
    (am_isT am_Lx σ l1) ∧
    (gQ σ l1 = none →
      False) ∧
    (∀ t1, gQ σ l1 = some t1 →
      (am_isA am_Lx σ t1) ∧
      ((Int32.ofNat (am_rl am_Lx σ t1)) ≤ l5 →
        Q () σ) ∧
      (¬ (Int32.ofNat (am_rl am_Lx σ t1)) ≤ l5 →
        (l5 ≤ 0 →
          am_X ru am_Lx IX5_write (d + 1) 76 [some (.ref 9), some (.ref l1), some (.int l2), some (.int l3), some (.int l4), some (.int l5), none, none] [] σ Q) ∧
        (¬ l5 ≤ 0 →
          am_K ru am_Lx IX5_add d [.ref 9, .int l4] σ (fun _ σ2 =>
            am_X ru am_Lx IX5_write (d + 1) 76 [some (.ref 9), some (.ref l1), some (.int l2), some (.int l3), some (.int l4), some (.int l5), none, none] [] σ2 Q))))) : am_X ru am_Lx IX5_write (d + 1) 55 [some (.ref 9), some (.ref l1), some (.int l2), some (.int l3), some (.int l4), some (.int l5), none, none] [] σ Q := (X_opt (fun _ _ => blX5_write_55 H.1) (fun z0 => (False.elim (H.2.1 z0))) (fun t1 z0 => (X_if (fun _ _ => blX5_write_61_r (H.2.2 t1 z0).1) (fun z1 => (X_ret (fun _ _ => blX5_write_171) ((H.2.2 t1 z0).2.1 z1))) (fun z1 => (X_if (fun _ _ => blX5_write_65) (fun z2 => (((H.2.2 t1 z0).2.2 z1).1 z2)) (fun z2 => (X_call (fun _ _ _ _ => blX5_write_70) (K_mono (((H.2.2 t1 z0).2.2 z1).2 z2) (fun _ σ2 q3 => q3)))))))))
set_option maxRecDepth 20000 in
theorem vX5_write_76 {d : Nat} {σ : am_S} {Q : Unit → am_S → Prop} {l1 : Nat} {l2 : Int32} {l3 : Int32} {l4 : Int32} {l5 : Int32} (H :
    (am_isT am_Lx σ l1) ∧
    (gQ σ l1 = none →
      False) ∧
    (∀ t1, gQ σ l1 = some t1 →
      (am_isR am_Lx σ t1) ∧
      (vp_in l5 (am_rl am_Lx σ t1)) ∧
      (gP σ t1 (l5).toNatClampNeg = none →
        (am_isT am_Lx σ l1) ∧
        (¬ (gS σ l1 0) = (4 : Int32) →
          (l3 = 0 →
            am_X ru am_Lx IX5_write (d + 1) 129 [some (.ref 9), some (.ref l1), some (.int l2), some (.int l3), some (.int l4), some (.int l5), some (.null), some (.int (0 : Int32))] [] σ Q) ∧
          (¬ l3 = 0 →
            (¬ l5 = 0 →
              am_X ru am_Lx IX5_write (d + 1) 129 [some (.ref 9), some (.ref l1), some (.int l2), some (.int l3), some (.int l4), some (.int l5), some (.null), some (.int (0 : Int32))] [] σ Q) ∧
            (l5 = 0 →
              am_K ru am_Lx IX5_add d [.ref 9, .int (40 : Int32)] σ (fun _ σ3 =>
                am_X ru am_Lx IX5_write (d + 1) 129 [some (.ref 9), some (.ref l1), some (.int l2), some (.int l3), some (.int l4), some (.int l5), some (.null), some (.int (0 : Int32))] [] σ3 Q)))) ∧
        ((gS σ l1 0) = (4 : Int32) →
          False)) ∧
      (∀ t2, gP σ t1 (l5).toNatClampNeg = some t2 →
        (am_isT am_Lx σ l1) ∧
        (¬ (gS σ l1 0) = (4 : Int32) →
          (l3 = 0 →
            am_X ru am_Lx IX5_write (d + 1) 129 [some (.ref 9), some (.ref l1), some (.int l2), some (.int l3), some (.int l4), some (.int l5), some (.ref t2), some (.int (0 : Int32))] [] σ Q) ∧
          (¬ l3 = 0 →
            (¬ l5 = 0 →
              am_X ru am_Lx IX5_write (d + 1) 129 [some (.ref 9), some (.ref l1), some (.int l2), some (.int l3), some (.int l4), some (.int l5), some (.ref t2), some (.int (0 : Int32))] [] σ Q) ∧
            (l5 = 0 →
              am_K ru am_Lx IX5_add d [.ref 9, .int (40 : Int32)] σ (fun _ σ4 =>
                am_X ru am_Lx IX5_write (d + 1) 129 [some (.ref 9), some (.ref l1), some (.int l2), some (.int l3), some (.int l4), some (.int l5), some (.ref t2), some (.int (0 : Int32))] [] σ4 Q)))) ∧
        ((gS σ l1 0) = (4 : Int32) →
          (am_isT am_Lx σ t2) ∧
          (¬ (gS σ t2 0) = (3 : Int32) →
            (l3 = 0 →
              am_X ru am_Lx IX5_write (d + 1) 129 [some (.ref 9), some (.ref l1), some (.int l2), some (.int l3), some (.int l4), some (.int l5), some (.ref t2), some (.int (0 : Int32))] [] σ Q) ∧
            (¬ l3 = 0 →
              (¬ l5 = 0 →
                am_X ru am_Lx IX5_write (d + 1) 129 [some (.ref 9), some (.ref l1), some (.int l2), some (.int l3), some (.int l4), some (.int l5), some (.ref t2), some (.int (0 : Int32))] [] σ Q) ∧
              (l5 = 0 →
                am_K ru am_Lx IX5_add d [.ref 9, .int (40 : Int32)] σ (fun _ σ5 =>
                  am_X ru am_Lx IX5_write (d + 1) 129 [some (.ref 9), some (.ref l1), some (.int l2), some (.int l3), some (.int l4), some (.int l5), some (.ref t2), some (.int (0 : Int32))] [] σ5 Q)))) ∧
          ((gS σ t2 0) = (3 : Int32) →
            am_K ru am_Lx IX5_add d [.ref 9, .int (40 : Int32)] σ (fun _ σ6 =>
              am_X ru am_Lx IX5_write (d + 1) 129 [some (.ref 9), some (.ref l1), some (.int l2), some (.int l3), some (.int l4), some (.int l5), some (.ref t2), some (.int (1 : Int32))] [] σ6 Q)))))) : am_X ru am_Lx IX5_write (d + 1) 76 [some (.ref 9), some (.ref l1), some (.int l2), some (.int l3), some (.int l4), some (.int l5), none, none] [] σ Q := (X_opt (fun _ _ => blX5_write_76 H.1) (fun z0 => (False.elim (H.2.1 z0))) (fun t1 z0 => (X_opt (fun _ _ => blX5_write_80_r (H.2.2 t1 z0).1 (H.2.2 t1 z0).2.1) (fun z1 => (X_ifn (fun _ _ => blX5_write_83_n ((H.2.2 t1 z0).2.2.1 z1).1) (fun z2 => (X_go (fun _ _ => blX5_write_106_n) (X_go (fun _ _ h => blX5_write_107_n (fun z => absurd z (by decide)) (fun _ => h)) (X_if (fun _ _ => blX5_write_114_n) (fun z5 => ((((H.2.2 t1 z0).2.2.1 z1).2.1 z2).1 z5)) (fun z5 => (X_ifn (fun _ _ => blX5_write_118_n) (fun z6 => (((((H.2.2 t1 z0).2.2.1 z1).2.1 z2).2 z5).1 z6)) (fun z6 => (X_call (fun _ _ _ _ => blX5_write_123_n) (K_mono (((((H.2.2 t1 z0).2.2.1 z1).2.1 z2).2 z5).2 z6) (fun _ σ3 q7 => q7)))))))))) (fun z2 => (False.elim (((H.2.2 t1 z0).2.2.1 z1).2.2 z2))))) (fun t2 z1 => (X_ifn (fun _ _ => blX5_write_83_r ((H.2.2 t1 z0).2.2.2 t2 z1).1) (fun z2 => (X_go (fun _ _ => blX5_write_106_r) (X_go (fun _ _ h => blX5_write_107_r (fun z => absurd z (by decide)) (fun _ => h)) (X_if (fun _ _ => blX5_write_114_r) (fun z5 => ((((H.2.2 t1 z0).2.2.2 t2 z1).2.1 z2).1 z5)) (fun z5 => (X_ifn (fun _ _ => blX5_write_118_r) (fun z6 => (((((H.2.2 t1 z0).2.2.2 t2 z1).2.1 z2).2 z5).1 z6)) (fun z6 => (X_call (fun _ _ _ _ => blX5_write_123_r) (K_mono (((((H.2.2 t1 z0).2.2.2 t2 z1).2.1 z2).2 z5).2 z6) (fun _ σ4 q7 => q7)))))))))) (fun z2 => (X_ifn (fun _ _ => blX5_write_93_r (((H.2.2 t1 z0).2.2.2 t2 z1).2.2 z2).1) (fun z3 => (X_go (fun _ _ => blX5_write_106_r) (X_go (fun _ _ h => blX5_write_107_r (fun z => absurd z (by decide)) (fun _ => h)) (X_if (fun _ _ => blX5_write_114_r) (fun z6 => (((((H.2.2 t1 z0).2.2.2 t2 z1).2.2 z2).2.1 z3).1 z6)) (fun z6 => (X_ifn (fun _ _ => blX5_write_118_r) (fun z7 => ((((((H.2.2 t1 z0).2.2.2 t2 z1).2.2 z2).2.1 z3).2 z6).1 z7)) (fun z7 => (X_call (fun _ _ _ _ => blX5_write_123_r) (K_mono ((((((H.2.2 t1 z0).2.2.2 t2 z1).2.2 z2).2.1 z3).2 z6).2 z7) (fun _ σ5 q8 => q8)))))))))) (fun z3 => (X_go (fun _ _ => blX5_write_102) (X_go (fun _ _ h => blX5_write_107_r (fun _ => h) (fun z => absurd z (by decide))) (X_call (fun _ _ _ _ => blX5_write_123_r) (K_mono ((((H.2.2 t1 z0).2.2.2 t2 z1).2.2 z2).2.2 z3) (fun _ σ6 q6 => q6)))))))))))))
set_option maxRecDepth 20000 in
theorem vX5_write_129_r {d : Nat} {σ : am_S} {Q : Unit → am_S → Prop} {l1 : Nat} {l2 : Int32} {l3 : Int32} {l4 : Int32} {l5 : Int32} {l6 : Nat} {l7 : Int32} (H :
    am_K ru am_Lx IX5_write d [.ref 9, .ref l6, .int (l2 + (1 : Int32))] σ (fun _ σ1 =>
      (¬ l7 = 0 →
        am_K ru am_Lx IX5_add d [.ref 9, .int (41 : Int32)] σ1 (fun _ σ2 =>
          am_X ru am_Lx IX5_write (d + 1) 55 [some (.ref 9), some (.ref l1), some (.int l2), some (.int l3), some (.int l4), some (.int (l5 + (1 : Int32))), none, none] [] σ2 Q)) ∧
      (l7 = 0 →
        (l3 = 0 →
          am_X ru am_Lx IX5_write (d + 1) 55 [some (.ref 9), some (.ref l1), some (.int l2), some (.int l3), some (.int l4), some (.int (l5 + (1 : Int32))), none, none] [] σ1 Q) ∧
        (¬ l3 = 0 →
          (am_isT am_Lx σ1 l1) ∧
          (gQ σ1 l1 = none →
            False) ∧
          (∀ t3, gQ σ1 l1 = some t3 →
            (am_isA am_Lx σ1 t3) ∧
            (¬ l5 = ((Int32.ofNat (am_rl am_Lx σ1 t3)) - (1 : Int32)) →
              am_X ru am_Lx IX5_write (d + 1) 55 [some (.ref 9), some (.ref l1), some (.int l2), some (.int l3), some (.int l4), some (.int (l5 + (1 : Int32))), none, none] [] σ1 Q) ∧
            (l5 = ((Int32.ofNat (am_rl am_Lx σ1 t3)) - (1 : Int32)) →
              am_K ru am_Lx IX5_add d [.ref 9, .int (41 : Int32)] σ1 (fun _ σ4 =>
                am_X ru am_Lx IX5_write (d + 1) 55 [some (.ref 9), some (.ref l1), some (.int l2), some (.int l3), some (.int l4), some (.int (l5 + (1 : Int32))), none, none] [] σ4 Q))))))) : am_X ru am_Lx IX5_write (d + 1) 129 [some (.ref 9), some (.ref l1), some (.int l2), some (.int l3), some (.int l4), some (.int l5), some (.ref l6), some (.int l7)] [] σ Q := (X_call (fun _ _ _ _ => blX5_write_129_r) (K_mono H (fun _ σ1 q0 => (X_ifn (fun _ _ => blX5_write_138_r) (fun z1 => (X_call (fun _ _ _ _ => blX5_write_159_r) (K_mono (q0.1 z1) (fun _ σ2 q2 => (X_go (fun _ _ => blX5_write_165_r) q2))))) (fun z1 => (X_if (fun _ _ => blX5_write_143_r) (fun z2 => (X_go (fun _ _ => blX5_write_165_r) ((q0.2 z1).1 z2))) (fun z2 => (X_opt (fun _ _ => blX5_write_147_r ((q0.2 z1).2 z2).1) (fun z3 => (False.elim (((q0.2 z1).2 z2).2.1 z3))) (fun t3 z3 => (X_ifn (fun _ _ => blX5_write_153_rr (((q0.2 z1).2 z2).2.2 t3 z3).1) (fun z4 => (X_go (fun _ _ => blX5_write_165_r) ((((q0.2 z1).2 z2).2.2 t3 z3).2.1 z4))) (fun z4 => (X_call (fun _ _ _ _ => blX5_write_159_r) (K_mono ((((q0.2 z1).2 z2).2.2 t3 z3).2.2 z4) (fun _ σ4 q5 => (X_go (fun _ _ => blX5_write_165_r) q5)))))))))))))))
set_option maxRecDepth 20000 in
theorem vX5_write_129_n {d : Nat} {σ : am_S} {Q : Unit → am_S → Prop} {l1 : Nat} {l2 : Int32} {l3 : Int32} {l4 : Int32} {l5 : Int32} {l7 : Int32} (H :
    am_K ru am_Lx IX5_write d [.ref 9, .null, .int (l2 + (1 : Int32))] σ (fun _ σ1 =>
      (¬ l7 = 0 →
        am_K ru am_Lx IX5_add d [.ref 9, .int (41 : Int32)] σ1 (fun _ σ2 =>
          am_X ru am_Lx IX5_write (d + 1) 55 [some (.ref 9), some (.ref l1), some (.int l2), some (.int l3), some (.int l4), some (.int (l5 + (1 : Int32))), none, none] [] σ2 Q)) ∧
      (l7 = 0 →
        (l3 = 0 →
          am_X ru am_Lx IX5_write (d + 1) 55 [some (.ref 9), some (.ref l1), some (.int l2), some (.int l3), some (.int l4), some (.int (l5 + (1 : Int32))), none, none] [] σ1 Q) ∧
        (¬ l3 = 0 →
          (am_isT am_Lx σ1 l1) ∧
          (gQ σ1 l1 = none →
            False) ∧
          (∀ t3, gQ σ1 l1 = some t3 →
            (am_isA am_Lx σ1 t3) ∧
            (¬ l5 = ((Int32.ofNat (am_rl am_Lx σ1 t3)) - (1 : Int32)) →
              am_X ru am_Lx IX5_write (d + 1) 55 [some (.ref 9), some (.ref l1), some (.int l2), some (.int l3), some (.int l4), some (.int (l5 + (1 : Int32))), none, none] [] σ1 Q) ∧
            (l5 = ((Int32.ofNat (am_rl am_Lx σ1 t3)) - (1 : Int32)) →
              am_K ru am_Lx IX5_add d [.ref 9, .int (41 : Int32)] σ1 (fun _ σ4 =>
                am_X ru am_Lx IX5_write (d + 1) 55 [some (.ref 9), some (.ref l1), some (.int l2), some (.int l3), some (.int l4), some (.int (l5 + (1 : Int32))), none, none] [] σ4 Q))))))) : am_X ru am_Lx IX5_write (d + 1) 129 [some (.ref 9), some (.ref l1), some (.int l2), some (.int l3), some (.int l4), some (.int l5), some (.null), some (.int l7)] [] σ Q := (X_call (fun _ _ _ _ => blX5_write_129_n) (K_mono H (fun _ σ1 q0 => (X_ifn (fun _ _ => blX5_write_138_n) (fun z1 => (X_call (fun _ _ _ _ => blX5_write_159_n) (K_mono (q0.1 z1) (fun _ σ2 q2 => (X_go (fun _ _ => blX5_write_165_n) q2))))) (fun z1 => (X_if (fun _ _ => blX5_write_143_n) (fun z2 => (X_go (fun _ _ => blX5_write_165_n) ((q0.2 z1).1 z2))) (fun z2 => (X_opt (fun _ _ => blX5_write_147_n ((q0.2 z1).2 z2).1) (fun z3 => (False.elim (((q0.2 z1).2 z2).2.1 z3))) (fun t3 z3 => (X_ifn (fun _ _ => blX5_write_153_nr (((q0.2 z1).2 z2).2.2 t3 z3).1) (fun z4 => (X_go (fun _ _ => blX5_write_165_n) ((((q0.2 z1).2 z2).2.2 t3 z3).2.1 z4))) (fun z4 => (X_call (fun _ _ _ _ => blX5_write_159_n) (K_mono ((((q0.2 z1).2 z2).2.2 t3 z3).2.2 z4) (fun _ σ4 q5 => (X_go (fun _ _ => blX5_write_165_n) q5)))))))))))))))
set_option maxRecDepth 20000 in
theorem vX5_writeLetter {d : Nat} {σ : am_S} {Q : Unit → am_S → Prop} {l1 : Nat} (H :
    (am_isT am_Lx σ l1) ∧
    ((2 : Int32) < (gS σ l1 0) →
      Q () σ) ∧
    (¬ (2 : Int32) < (gS σ l1 0) →
      (am_isT am_Lx σ l1) ∧
      (0 ≤ (gS σ l1 1) →
        (am_isT am_Lx σ l1) ∧
        (¬ (gS σ l1 0) = 0 →
          (am_isT am_Lx σ l1) ∧
          (¬ (gS σ l1 0) = (1 : Int32) →
            (am_isT am_Lx σ l1) ∧
            am_K ri am_Lx IJ0_length_8abf5 d [.ref (am_sb + 2)] σ (fun r1 σ1 =>
              (r1 ≤ (gS σ l1 1) →
                Q () σ1) ∧
              (¬ r1 ≤ (gS σ l1 1) →
                (am_isT am_Lx σ1 l1) ∧
                am_K ri am_Lx IJ0_charAt_5068e d [.ref (am_sb + 2), .int (gS σ1 l1 1)] σ1 (fun r2 σ2 =>
                  am_K ru am_Lx IX5_add d [.ref 9, .int r2] σ2 (fun _ σ3 =>
                    Q () σ3))))) ∧
          ((gS σ l1 0) = (1 : Int32) →
            (am_isT am_Lx σ l1) ∧
            am_K ri am_Lx IJ0_length_8abf5 d [.ref (am_sb + 1)] σ (fun r4 σ4 =>
              (r4 ≤ (gS σ l1 1) →
                Q () σ4) ∧
              (¬ r4 ≤ (gS σ l1 1) →
                (am_isT am_Lx σ4 l1) ∧
                am_K ri am_Lx IJ0_charAt_5068e d [.ref (am_sb + 1), .int (gS σ4 l1 1)] σ4 (fun r5 σ5 =>
                  am_K ru am_Lx IX5_add d [.ref 9, .int r5] σ5 (fun _ σ6 =>
                    Q () σ6)))))) ∧
        ((gS σ l1 0) = 0 →
          (am_isT am_Lx σ l1) ∧
          am_K ri am_Lx IJ0_length_8abf5 d [.ref (am_sb + 0)] σ (fun r7 σ7 =>
            (r7 ≤ (gS σ l1 1) →
              Q () σ7) ∧
            (¬ r7 ≤ (gS σ l1 1) →
              (am_isT am_Lx σ7 l1) ∧
              am_K ri am_Lx IJ0_charAt_5068e d [.ref (am_sb + 0), .int (gS σ7 l1 1)] σ7 (fun r8 σ8 =>
                am_K ru am_Lx IX5_add d [.ref 9, .int r8] σ8 (fun _ σ9 =>
                  Q () σ9)))))) ∧
      (¬ 0 ≤ (gS σ l1 1) →
        Q () σ))) : am_K ru am_Lx IX5_writeLetter (d + 1) [.ref 9, .ref l1] σ Q := K_of am_owX5_writeLetter (Nat.le_of_ble_eq_true rfl) (X_if (fun _ _ => blX5_writeLetter_0 H.1) (fun z0 => (X_ret (fun _ _ => blX5_writeLetter_15) (H.2.1 z0))) (fun z0 => (X_if (fun _ _ => blX5_writeLetter_8 (H.2.2 z0).1) (fun z1 => (X_ifn (fun _ _ => blX5_writeLetter_16 ((H.2.2 z0).2.1 z1).1) (fun z2 => (X_ifn (fun _ _ => blX5_writeLetter_28 (((H.2.2 z0).2.1 z1).2.1 z2).1) (fun z3 => (X_go (fun _ _ => blX5_writeLetter_41) (X_call (fun _ _ _ _ => blX5_writeLetter_43_2 ((((H.2.2 z0).2.1 z1).2.1 z2).2.1 z3).1) (K_mono ((((H.2.2 z0).2.1 z1).2.1 z2).2.1 z3).2 (fun r1 σ1 q5 => (X_if (fun _ _ => blX5_writeLetter_52_2) (fun z6 => (X_ret (fun _ _ => blX5_writeLetter_67_2) (q5.1 z6))) (fun z6 => (X_call (fun _ _ _ _ => blX5_writeLetter_55_2 (q5.2 z6).1) (K_mono (q5.2 z6).2 (fun r2 σ2 q7 => (X_call (fun _ _ _ _ => blX5_writeLetter_64_2) (K_mono q7 (fun _ σ3 q8 => (X_ret (fun _ _ => blX5_writeLetter_67_2) q8)))))))))))))) (fun z3 => (X_go (fun _ _ => blX5_writeLetter_36) (X_call (fun _ _ _ _ => blX5_writeLetter_43_1 ((((H.2.2 z0).2.1 z1).2.1 z2).2.2 z3).1) (K_mono ((((H.2.2 z0).2.1 z1).2.1 z2).2.2 z3).2 (fun r4 σ4 q5 => (X_if (fun _ _ => blX5_writeLetter_52_1) (fun z6 => (X_ret (fun _ _ => blX5_writeLetter_67_1) (q5.1 z6))) (fun z6 => (X_call (fun _ _ _ _ => blX5_writeLetter_55_1 (q5.2 z6).1) (K_mono (q5.2 z6).2 (fun r5 σ5 q7 => (X_call (fun _ _ _ _ => blX5_writeLetter_64_1) (K_mono q7 (fun _ σ6 q8 => (X_ret (fun _ _ => blX5_writeLetter_67_1) q8)))))))))))))))) (fun z2 => (X_go (fun _ _ => blX5_writeLetter_23) (X_call (fun _ _ _ _ => blX5_writeLetter_43_0 (((H.2.2 z0).2.1 z1).2.2 z2).1) (K_mono (((H.2.2 z0).2.1 z1).2.2 z2).2 (fun r7 σ7 q4 => (X_if (fun _ _ => blX5_writeLetter_52_0) (fun z5 => (X_ret (fun _ _ => blX5_writeLetter_67_0) (q4.1 z5))) (fun z5 => (X_call (fun _ _ _ _ => blX5_writeLetter_55_0 (q4.2 z5).1) (K_mono (q4.2 z5).2 (fun r8 σ8 q6 => (X_call (fun _ _ _ _ => blX5_writeLetter_64_0) (K_mono q6 (fun _ σ9 q7 => (X_ret (fun _ _ => blX5_writeLetter_67_0) q7)))))))))))))))) (fun z1 => (X_ret (fun _ _ => blX5_writeLetter_15) ((H.2.2 z0).2.2 z1))))))
