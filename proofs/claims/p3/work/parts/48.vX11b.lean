set_option maxRecDepth 20000 in
theorem vX11_without_45 {d : Nat} {σ : am_S} {Q : Int32 → am_S → Prop} {l1 : Int32} {l2 : Int32} {l3 : Int32} {l4 : Int32} {l5 : Int32} {l6 : Int32} {l7 : Int32} (H :
    (l6 ≤ l7 →
      Q l4 σ) ∧
    (¬ l6 ≤ l7 →
      (l5 = 0 →
        am_K ri am_Lm IX11_partAt d [.ref 0, .int l3, .int l7] σ (fun r1 σ1 =>
          am_X ri am_Lm IX11_without (d + 1) 73 [some (.ref 0), some (.int l1), some (.int l2), some (.int l3), some (.int l4), some (.int l5), some (.int l6), some (.int l7), some (.int r1), some (.int (0 : Int32))] [] σ1 Q)) ∧
      (¬ l5 = 0 →
        am_X ri am_Lm IX11_without (d + 1) 73 [some (.ref 0), some (.int l1), some (.int l2), some (.int l3), some (.int l4), some (.int l5), some (.int l6), some (.int l7), some (.int l3), some (.int (0 : Int32))] [] σ Q))) : am_X ri am_Lm IX11_without (d + 1) 45 [some (.ref 0), some (.int l1), some (.int l2), some (.int l3), some (.int l4), some (.int l5), some (.int l6), some (.int l7), none, none] [] σ Q := (X_if (fun _ _ => blX11_without_45) (fun z0 => (X_ret (fun _ _ => blX11_without_145) (H.1 z0))) (fun z0 => (X_if (fun _ _ => blX11_without_52) (fun z1 => (X_call (fun _ _ _ _ => blX11_without_61) (K_mono ((H.2 z0).1 z1) (fun r1 σ1 q2 => (X_go (fun _ _ => blX11_without_68) q2))))) (fun z1 => (X_go (fun _ _ => blX11_without_57) (X_go (fun _ _ => blX11_without_68) ((H.2 z0).2 z1)))))))
set_option maxRecDepth 20000 in
theorem vX11_without_73 {d : Nat} {σ : am_S} {Q : Int32 → am_S → Prop} {l1 : Int32} {l2 : Int32} {l3 : Int32} {l4 : Int32} {l5 : Int32} {l6 : Int32} {l7 : Int32} {l8 : Int32} {l9 : Int32} (H :
    (vp_in l1 70000) ∧
    ((gA σ 3 (l1).toNatClampNeg) ≤ l9 →
      (vp_in l1 70000) ∧
      (¬ l9 = (gA σ 3 (l1).toNatClampNeg) →
        am_X ri am_Lm IX11_without (d + 1) 45 [some (.ref 0), some (.int l1), some (.int l2), some (.int l3), some (.int (l4 ||| ((1 : Int32) <<< (l9 &&& 31)))), some (.int l5), some (.int l6), some (.int (l7 + (1 : Int32))), none, none] [] σ Q) ∧
      (l9 = (gA σ 3 (l1).toNatClampNeg) →
        Q (-1 : Int32) σ)) ∧
    (¬ (gA σ 3 (l1).toNatClampNeg) ≤ l9 →
      (((l4 >>> (l9 &&& 31)) &&& (1 : Int32)) = (1 : Int32) →
        am_X ri am_Lm IX11_without (d + 1) 73 [some (.ref 0), some (.int l1), some (.int l2), some (.int l3), some (.int l4), some (.int l5), some (.int l6), some (.int l7), some (.int l8), some (.int (l9 + (1 : Int32)))] [] σ Q) ∧
      (¬ ((l4 >>> (l9 &&& 31)) &&& (1 : Int32)) = (1 : Int32) →
        am_K ri am_Lm IX11_partAt d [.ref 0, .int l1, .int l9] σ (fun r1 σ1 =>
          am_K ri am_Lm IX11_ordered d [.ref 0, .int r1, .int l8] σ1 (fun r2 σ2 =>
            (r2 = 0 →
              (vp_in l1 70000) ∧
              (¬ l9 = (gA σ2 3 (l1).toNatClampNeg) →
                am_X ri am_Lm IX11_without (d + 1) 45 [some (.ref 0), some (.int l1), some (.int l2), some (.int l3), some (.int (l4 ||| ((1 : Int32) <<< (l9 &&& 31)))), some (.int l5), some (.int l6), some (.int (l7 + (1 : Int32))), none, none] [] σ2 Q) ∧
              (l9 = (gA σ2 3 (l1).toNatClampNeg) →
                Q (-1 : Int32) σ2)) ∧
            (¬ r2 = 0 →
              am_X ri am_Lm IX11_without (d + 1) 73 [some (.ref 0), some (.int l1), some (.int l2), some (.int l3), some (.int l4), some (.int l5), some (.int l6), some (.int l7), some (.int l8), some (.int (l9 + (1 : Int32)))] [] σ2 Q)))))) : am_X ri am_Lm IX11_without (d + 1) 73 [some (.ref 0), some (.int l1), some (.int l2), some (.int l3), some (.int l4), some (.int l5), some (.int l6), some (.int l7), some (.int l8), some (.int l9)] [] σ Q := (X_if (fun _ _ => blX11_without_73 H.1) (fun z0 => (X_ifn (fun _ _ => blX11_without_117 (H.2.1 z0).1) (fun z1 => (X_go (fun _ _ => blX11_without_130) ((H.2.1 z0).2.1 z1))) (fun z1 => (X_ret (fun _ _ => blX11_without_128) ((H.2.1 z0).2.2 z1))))) (fun z0 => (X_if (fun _ _ => blX11_without_84) (fun z1 => (X_go (fun _ _ => blX11_without_111) ((H.2.2 z0).1 z1))) (fun z1 => (X_call (fun _ _ _ _ => blX11_without_95) (K_mono ((H.2.2 z0).2 z1) (fun r1 σ1 q2 => (X_call (fun _ _ _ _ => blX11_without_103) (K_mono q2 (fun r2 σ2 q3 => (X_if (fun _ _ => blX11_without_108) (fun z4 => (X_ifn (fun _ _ => blX11_without_117 (q3.1 z4).1) (fun z5 => (X_go (fun _ _ => blX11_without_130) ((q3.1 z4).2.1 z5))) (fun z5 => (X_ret (fun _ _ => blX11_without_128) ((q3.1 z4).2.2 z5))))) (fun z4 => (X_go (fun _ _ => blX11_without_111) (q3.2 z4))))))))))))))
set_option maxRecDepth 20000 in
theorem vX11_orderMatchers {d : Nat} {σ : am_S} {Q : Int32 → am_S → Prop} {l1 : Int32} {l2 : Int32} (H :
    am_X ri am_Lm IX11_orderMatchers (d + 1) 5 [some (.ref 0), some (.int l1), some (.int l2), some (.int (0 : Int32)), some (.int (0 : Int32))] [] σ Q) : am_K ri am_Lm IX11_orderMatchers (d + 1) [.ref 0, .int l1, .int l2] σ Q := K_of am_owX11_orderMatchers (Nat.le_of_ble_eq_true rfl) (X_go (fun _ _ => blX11_orderMatchers_0) H)
set_option maxRecDepth 20000 in
theorem vX11_orderMatchers_5 {d : Nat} {σ : am_S} {Q : Int32 → am_S → Prop} {l1 : Int32} {l2 : Int32} {l3 : Int32} {l4 : Int32} (H :
    ((gS σ 0 17) ≤ l4 →
      Q l3 σ) ∧
    (¬ (gS σ 0 17) ≤ l4 →
      (¬ l3 = 0 →
        Q l3 σ) ∧
      (l3 = 0 →
        am_K ri am_Lm IX11_matcherAt d [.ref 0, .int l1, .int l4] σ (fun r1 σ1 =>
          am_K ri am_Lm IX11_matcherAt d [.ref 0, .int l2, .int l4] σ1 (fun r2 σ2 =>
            am_K ri am_Lm IX11_ordered d [.ref 0, .int r1, .int r2] σ2 (fun r3 σ3 =>
              am_X ri am_Lm IX11_orderMatchers (d + 1) 5 [some (.ref 0), some (.int l1), some (.int l2), some (.int r3), some (.int (l4 + (1 : Int32)))] [] σ3 Q)))))) : am_X ri am_Lm IX11_orderMatchers (d + 1) 5 [some (.ref 0), some (.int l1), some (.int l2), some (.int l3), some (.int l4)] [] σ Q := (X_if (fun _ _ => blX11_orderMatchers_5) (fun z0 => (X_ret (fun _ _ => blX11_orderMatchers_43) (H.1 z0))) (fun z0 => (X_ifn (fun _ _ => blX11_orderMatchers_14) (fun z1 => (X_ret (fun _ _ => blX11_orderMatchers_43) ((H.2 z0).1 z1))) (fun z1 => (X_call (fun _ _ _ _ => blX11_orderMatchers_18) (K_mono ((H.2 z0).2 z1) (fun r1 σ1 q2 => (X_call (fun _ _ _ _ => blX11_orderMatchers_26) (K_mono q2 (fun r2 σ2 q3 => (X_call (fun _ _ _ _ => blX11_orderMatchers_33) (K_mono q3 (fun r3 σ3 q4 => (X_go (fun _ _ => blX11_orderMatchers_36) q4))))))))))))))
set_option maxRecDepth 20000 in
theorem vX11_match {d : Nat} {σ : am_S} {Q : Int32 → am_S → Prop} {l1 : Int32} {l2 : Int32} (H :
    am_K ri am_Lm IX11_isSlot d [.int l1] σ (fun r1 σ1 =>
      (r1 = 0 →
        Q (-1 : Int32) σ1) ∧
      (¬ r1 = 0 →
        am_K ri am_Lm IX11_isSlot d [.int l2] σ1 (fun r2 σ2 =>
          (¬ r2 = 0 →
            (vp_in l1 16) ∧
            ((gA σ2 7 (l1).toNatClampNeg) = 0 →
              Q (-2 : Int32) σ2) ∧
            (¬ (gA σ2 7 (l1).toNatClampNeg) = 0 →
              (vp_in l2 16) ∧
              (¬ (gA σ2 7 (l2).toNatClampNeg) = 0 →
                am_K ri am_Lm IX11_variablesIn d [.ref 0, .int ((40 : Int32) * l1)] σ2 (fun r3 σ3 =>
                  am_K ri am_Lm IX11_bitsOf d [.int r3] σ3 (fun r4 σ4 =>
                    ((4 : Int32) < r4 →
                      Q (-3 : Int32) σ4) ∧
                    (¬ (4 : Int32) < r4 →
                      am_K ri am_Lm IX11_variablesIn d [.ref 0, .int ((40 : Int32) * l2)] σ4 (fun r5 σ5 =>
                        (r5 = 0 →
                          am_K ru am_Lm IX11_begin d [.ref 0] σ5 (fun _ σ6 =>
                            am_X ri am_Lm IX11_match (d + 1) 80 [some (.ref 0), some (.int l1), some (.int l2), some (.int r3), some (.int (0 : Int32)), none] [] (wS σ6 0 17 (0 : Int32)) Q)) ∧
                        (¬ r5 = 0 →
                          Q (-3 : Int32) σ5)))))) ∧
              ((gA σ2 7 (l2).toNatClampNeg) = 0 →
                Q (-2 : Int32) σ2))) ∧
          (r2 = 0 →
            Q (-1 : Int32) σ2))))) : am_K ri am_Lm IX11_match (d + 1) [.ref 0, .int l1, .int l2] σ Q := K_of am_owX11_match (Nat.le_of_ble_eq_true rfl) (X_call (fun _ _ _ _ => blX11_match_0) (K_mono H (fun r1 σ1 q0 => (X_if (fun _ _ => blX11_match_4) (fun z1 => (X_ret (fun _ _ => blX11_match_14) (q0.1 z1))) (fun z1 => (X_call (fun _ _ _ _ => blX11_match_7) (K_mono (q0.2 z1) (fun r2 σ2 q2 => (X_ifn (fun _ _ => blX11_match_11) (fun z3 => (X_if (fun _ _ => blX11_match_16 (q2.1 z3).1) (fun z4 => (X_ret (fun _ _ => blX11_match_34) ((q2.1 z3).2.1 z4))) (fun z4 => (X_ifn (fun _ _ => blX11_match_25 ((q2.1 z3).2.2 z4).1) (fun z5 => (X_call (fun _ _ _ _ => blX11_match_37) (K_mono (((q2.1 z3).2.2 z4).2.1 z5) (fun r3 σ3 q6 => (X_call (fun _ _ _ _ => blX11_match_45) (K_mono q6 (fun r4 σ4 q7 => (X_if (fun _ _ => blX11_match_50) (fun z8 => (X_ret (fun _ _ => blX11_match_65) (q7.1 z8))) (fun z8 => (X_call (fun _ _ _ _ => blX11_match_54) (K_mono (q7.2 z8) (fun r5 σ5 q9 => (X_if (fun _ _ => blX11_match_62) (fun z10 => (X_call (fun _ _ _ _ => blX11_match_68) (K_mono (q9.1 z10) (fun _ σ6 q11 => (X_go (fun _ _ => blX11_match_72) q11))))) (fun z10 => (X_ret (fun _ _ => blX11_match_65) (q9.2 z10)))))))))))))))) (fun z5 => (X_ret (fun _ _ => blX11_match_34) (((q2.1 z3).2.2 z4).2.2 z5))))))) (fun z3 => (X_ret (fun _ _ => blX11_match_14) (q2.2 z3))))))))))))
set_option maxRecDepth 20000 in
theorem vX11_match_80 {d : Nat} {σ : am_S} {Q : Int32 → am_S → Prop} {l1 : Int32} {l2 : Int32} {l3 : Int32} {l4 : Int32} (H :
    ((22 : Int32) ≤ l4 →
      (((0 : Int32) = 0 ∨ (0 : Int32) = 1)) ∧
      am_K ru am_Lm IX11_solveOne d [.ref 0, .int ((40 : Int32) * l1), .int ((40 : Int32) * l2), .int (-1 : Int32)] (wS (wS (wS σ 0 16 (0 : Int32)) 0 27 (0 : Int32)) 0 26 (0 : Int32)) (fun _ σ1 =>
        ((gS σ1 0 27) = 0 →
          am_X ri am_Lm IX11_match (d + 1) 180 [some (.ref 0), some (.int l1), some (.int l2), some (.int l3), some (.int (0 : Int32)), none] [] σ1 Q) ∧
        (¬ (gS σ1 0 27) = 0 →
          Q (-4 : Int32) (wS σ1 0 16 (0 : Int32))))) ∧
    (¬ (22 : Int32) ≤ l4 →
      (¬ ((l3 >>> (l4 &&& 31)) &&& (1 : Int32)) = (1 : Int32) →
        am_X ri am_Lm IX11_match (d + 1) 80 [some (.ref 0), some (.int l1), some (.int l2), some (.int l3), some (.int (l4 + (1 : Int32))), none] [] σ Q) ∧
      (((l3 >>> (l4 &&& 31)) &&& (1 : Int32)) = (1 : Int32) →
        (vp_in (gS σ 0 17) 4) ∧
        (vp_in (gS σ 0 17) 4) ∧
        am_X ri am_Lm IX11_match (d + 1) 80 [some (.ref 0), some (.int l1), some (.int l2), some (.int l3), some (.int (l4 + (1 : Int32))), none] [] (wS (wA (wA σ 9 ((gS σ 0 17)).toNatClampNeg l4) 10 ((gS σ 0 17)).toNatClampNeg (-1 : Int32)) 0 17 ((gS σ 0 17) + (1 : Int32))) Q))) : am_X ri am_Lm IX11_match (d + 1) 80 [some (.ref 0), some (.int l1), some (.int l2), some (.int l3), some (.int l4), none] [] σ Q := (X_if (fun _ _ => blX11_match_80) (fun z0 => (X_call (fun _ _ _ _ => blX11_match_134 (H.1 z0).1) (K_mono (H.1 z0).2 (fun _ σ1 q1 => (X_if (fun _ _ => blX11_match_162) (fun z2 => (X_go (fun _ _ => blX11_match_177) (q1.1 z2))) (fun z2 => (X_ret (fun _ _ => blX11_match_169) (q1.2 z2)))))))) (fun z0 => (X_ifn (fun _ _ => blX11_match_87) (fun z1 => (X_go (fun _ _ => blX11_match_128) ((H.2 z0).1 z1))) (fun z1 => (X_go (fun _ _ => blX11_match_97 ((H.2 z0).2 z1).1 ((H.2 z0).2 z1).2.1) (X_go (fun _ _ => blX11_match_128) ((H.2 z0).2 z1).2.2))))))
set_option maxRecDepth 20000 in
theorem vX11_match_180 {d : Nat} {σ : am_S} {Q : Int32 → am_S → Prop} {l1 : Int32} {l2 : Int32} {l3 : Int32} {l4 : Int32} (H :
    ((gS σ 0 16) ≤ l4 →
      Q (gS σ 0 16) σ) ∧
    (¬ (gS σ 0 16) ≤ l4 →
      am_X ri am_Lm IX11_match (d + 1) 193 [some (.ref 0), some (.int l1), some (.int l2), some (.int l3), some (.int l4), some (.int l4)] [] σ Q)) : am_X ri am_Lm IX11_match (d + 1) 180 [some (.ref 0), some (.int l1), some (.int l2), some (.int l3), some (.int l4), none] [] σ Q := (X_if (fun _ _ => blX11_match_180) (fun z0 => (X_ret (fun _ _ => blX11_match_253) (H.1 z0))) (fun z0 => (X_go (fun _ _ => blX11_match_189) (H.2 z0))))
set_option maxRecDepth 20000 in
theorem vX11_match_193 {d : Nat} {σ : am_S} {Q : Int32 → am_S → Prop} {l1 : Int32} {l2 : Int32} {l3 : Int32} {l4 : Int32} {l5 : Int32} (H :
    (l5 ≤ 0 →
      (vp_in l5 100) ∧
      am_X ri am_Lm IX11_match (d + 1) 180 [some (.ref 0), some (.int l1), some (.int l2), some (.int l3), some (.int (l4 + (1 : Int32))), none] [] (wA σ 11 (l5).toNatClampNeg l4) Q) ∧
    (¬ l5 ≤ 0 →
      (vp_in (l5 - (1 : Int32)) 100) ∧
      am_K ri am_Lm IX11_orderMatchers d [.ref 0, .int (gA σ 11 ((l5 - (1 : Int32))).toNatClampNeg), .int l4] σ (fun r1 σ1 =>
        (r1 ≤ 0 →
          (vp_in l5 100) ∧
          am_X ri am_Lm IX11_match (d + 1) 180 [some (.ref 0), some (.int l1), some (.int l2), some (.int l3), some (.int (l4 + (1 : Int32))), none] [] (wA σ1 11 (l5).toNatClampNeg l4) Q) ∧
        (¬ r1 ≤ 0 →
          (vp_in (l5 - (1 : Int32)) 100) ∧
          (vp_in l5 100) ∧
          am_X ri am_Lm IX11_match (d + 1) 193 [some (.ref 0), some (.int l1), some (.int l2), some (.int l3), some (.int l4), some (.int (l5 + (-1 : Int32)))] [] (wA σ1 11 (l5).toNatClampNeg (gA σ1 11 ((l5 - (1 : Int32))).toNatClampNeg)) Q)))) : am_X ri am_Lm IX11_match (d + 1) 193 [some (.ref 0), some (.int l1), some (.int l2), some (.int l3), some (.int l4), some (.int l5)] [] σ Q := (X_if (fun _ _ => blX11_match_193) (fun z0 => (X_go (fun _ _ => blX11_match_238 (H.1 z0).1) (H.1 z0).2)) (fun z0 => (X_call (fun _ _ _ _ => blX11_match_198 (H.2 z0).1) (K_mono (H.2 z0).2 (fun r1 σ1 q1 => (X_if (fun _ _ => blX11_match_213) (fun z2 => (X_go (fun _ _ => blX11_match_238 (q1.1 z2).1) (q1.1 z2).2)) (fun z2 => (X_go (fun _ _ => blX11_match_216 (q1.2 z2).1 (q1.2 z2).2.1) (q1.2 z2).2.2))))))))
set_option maxRecDepth 20000 in
theorem vX11_matched {d : Nat} {σ : am_S} {Q : Int32 → am_S → Prop} {l1 : Int32} {l2 : Int32} {l3 : Int32} (H :
    am_K ri am_Lm IX11_in d [.long (l1).toInt64, .long (0 : Int64), .long (((gS σ 0 16) - (1 : Int32))).toInt64] σ (fun r1 σ1 =>
      (r1 = 0 →
        Q (-1 : Int32) σ1) ∧
      (¬ r1 = 0 →
        am_K ri am_Lm IX11_in d [.long (l2).toInt64, .long (0 : Int64), .long (21 : Int64)] σ1 (fun r2 σ2 =>
          (r2 = 0 →
            Q (-1 : Int32) σ2) ∧
          (¬ r2 = 0 →
            am_K ri am_Lm IX11_isSlot d [.int l3] σ2 (fun r3 σ3 =>
              (¬ r3 = 0 →
                am_K ri am_Lm IX11_nameOf d [.ref 0, .int l2] σ3 (fun r4 σ4 =>
                  (0 ≤ r4 →
                    (vp_in l1 100) ∧
                    am_K ri am_Lm IX11_matcherAt d [.ref 0, .int (gA σ4 11 (l1).toNatClampNeg), .int r4] σ4 (fun r5 σ5 =>
                      am_K ri am_Lm IX11_store d [.ref 0, .int r5, .int l3] σ5 (fun r6 σ6 =>
                        Q r6 σ6))) ∧
                  (¬ 0 ≤ r4 →
                    Q (-2 : Int32) σ4))) ∧
              (r3 = 0 →
                Q (-1 : Int32) σ3))))))) : am_K ri am_Lm IX11_matched (d + 1) [.ref 0, .int l1, .int l2, .int l3] σ Q := K_of am_owX11_matched (Nat.le_of_ble_eq_true rfl) (X_call (fun _ _ _ _ => blX11_matched_0) (K_mono H (fun r1 σ1 q0 => (X_if (fun _ _ => blX11_matched_13) (fun z1 => (X_ret (fun _ _ => blX11_matched_35) (q0.1 z1))) (fun z1 => (X_call (fun _ _ _ _ => blX11_matched_16) (K_mono (q0.2 z1) (fun r2 σ2 q2 => (X_if (fun _ _ => blX11_matched_25) (fun z3 => (X_ret (fun _ _ => blX11_matched_35) (q2.1 z3))) (fun z3 => (X_call (fun _ _ _ _ => blX11_matched_28) (K_mono (q2.2 z3) (fun r3 σ3 q4 => (X_ifn (fun _ _ => blX11_matched_32) (fun z5 => (X_call (fun _ _ _ _ => blX11_matched_37) (K_mono (q4.1 z5) (fun r4 σ4 q6 => (X_if (fun _ _ => blX11_matched_42) (fun z7 => (X_call (fun _ _ _ _ => blX11_matched_54 (q6.1 z7).1) (K_mono (q6.1 z7).2 (fun r5 σ5 q8 => (X_call (fun _ _ _ _ => blX11_matched_67) (K_mono q8 (fun r6 σ6 q9 => (X_ret (fun _ _ => blX11_matched_71) q9)))))))) (fun z7 => (X_go (fun _ _ => blX11_matched_49) (X_ret (fun _ _ => blX11_matched_71) (q6.2 z7))))))))) (fun z5 => (X_ret (fun _ _ => blX11_matched_35) (q4.2 z5)))))))))))))))))
set_option maxRecDepth 20000 in
theorem vX11_filled {d : Nat} {σ : am_S} {Q : Int32 → am_S → Prop} {l1 : Int32} (H :
    ((gS σ 0 5) = 0 →
      (vp_in l1 70000) ∧
      (¬ (gA σ 1 (l1).toNatClampNeg) = 0 →
        (vp_in l1 70000) ∧
        (¬ (gA σ 3 (l1).toNatClampNeg) = 0 →
          am_X ri am_Lm IX11_filled (d + 1) 69 [some (.ref 0), some (.int l1), some (.int (gS σ 0 7)), some (.int (l1 + (1 : Int32))), some (.int (0 : Int32))] [] σ Q) ∧
        ((gA σ 3 (l1).toNatClampNeg) = 0 →
          Q l1 σ)) ∧
      ((gA σ 1 (l1).toNatClampNeg) = 0 →
        (vp_in l1 70000) ∧
        (vp_in (gA σ 2 (l1).toNatClampNeg) 22) ∧
        ((gA σ 17 ((gA σ 2 (l1).toNatClampNeg)).toNatClampNeg) < 0 →
          (vp_in l1 70000) ∧
          (¬ (gA σ 3 (l1).toNatClampNeg) = 0 →
            am_X ri am_Lm IX11_filled (d + 1) 69 [some (.ref 0), some (.int l1), some (.int (gS σ 0 7)), some (.int (l1 + (1 : Int32))), some (.int (0 : Int32))] [] σ Q) ∧
          ((gA σ 3 (l1).toNatClampNeg) = 0 →
            Q l1 σ)) ∧
        (¬ (gA σ 17 ((gA σ 2 (l1).toNatClampNeg)).toNatClampNeg) < 0 →
          (vp_in l1 70000) ∧
          (vp_in (gA σ 2 (l1).toNatClampNeg) 22) ∧
          Q (gA σ 17 ((gA σ 2 (l1).toNatClampNeg)).toNatClampNeg) σ))) ∧
    (¬ (gS σ 0 5) = 0 →
      Q (17280 : Int32) σ)) : am_K ri am_Lm IX11_filled (d + 1) [.ref 0, .int l1] σ Q := K_of am_owX11_filled (Nat.le_of_ble_eq_true rfl) (X_if (fun _ _ => blX11_filled_0) (fun z0 => (X_ifn (fun _ _ => blX11_filled_11 (H.1 z0).1) (fun z1 => (X_ifn (fun _ _ => blX11_filled_46 ((H.1 z0).2.1 z1).1) (fun z2 => (X_go (fun _ _ => blX11_filled_57) (((H.1 z0).2.1 z1).2.1 z2))) (fun z2 => (X_ret (fun _ _ => blX11_filled_55) (((H.1 z0).2.1 z1).2.2 z2))))) (fun z1 => (X_if (fun _ _ => blX11_filled_20 ((H.1 z0).2.2 z1).1 ((H.1 z0).2.2 z1).2.1) (fun z2 => (X_ifn (fun _ _ => blX11_filled_46 (((H.1 z0).2.2 z1).2.2.1 z2).1) (fun z3 => (X_go (fun _ _ => blX11_filled_57) ((((H.1 z0).2.2 z1).2.2.1 z2).2.1 z3))) (fun z3 => (X_ret (fun _ _ => blX11_filled_55) ((((H.1 z0).2.2 z1).2.2.1 z2).2.2 z3))))) (fun z2 => (X_ret (fun _ _ => blX11_filled_34 (((H.1 z0).2.2 z1).2.2.2 z2).1 (((H.1 z0).2.2 z1).2.2.2 z2).2.1) (((H.1 z0).2.2 z1).2.2.2 z2).2.2)))))) (fun z0 => (X_ret (fun _ _ => blX11_filled_7) (H.2 z0))))
set_option maxRecDepth 20000 in
theorem vX11_filled_69 {d : Nat} {σ : am_S} {Q : Int32 → am_S → Prop} {l1 : Int32} {l2 : Int32} {l3 : Int32} {l4 : Int32} (H :
    (vp_in l1 70000) ∧
    ((gA σ 3 (l1).toNatClampNeg) ≤ l4 →
      ((gS σ 0 5) = 0 →
        (vp_in l1 70000) ∧
        (¬ (gA σ 1 (l1).toNatClampNeg) = (2 : Int32) →
          (vp_in l1 70000) ∧
          am_K ri am_Lm IX11_joined d [.ref 0, .int (gA σ 1 (l1).toNatClampNeg), .int l2] σ (fun r1 σ1 =>
            Q r1 σ1)) ∧
        ((gA σ 1 (l1).toNatClampNeg) = (2 : Int32) →
          (vp_in l1 70000) ∧
          am_K ri am_Lm IX11_made d [.ref 0, .int (2 : Int32), .int (gA σ 2 (l1).toNatClampNeg), .int l2] σ (fun r2 σ2 =>
            Q r2 σ2))) ∧
      (¬ (gS σ 0 5) = 0 →
        Q (17280 : Int32) (wS σ 0 7 l2))) ∧
    (¬ (gA σ 3 (l1).toNatClampNeg) ≤ l4 →
      am_K ri am_Lm IX11_filled d [.ref 0, .int l3] σ (fun r3 σ3 =>
        am_K ru am_Lm IX11_put d [.ref 0, .int r3] σ3 (fun _ σ4 =>
          (vp_in l3 70000) ∧
          am_X ri am_Lm IX11_filled (d + 1) 69 [some (.ref 0), some (.int l1), some (.int l2), some (.int (l3 + (gA σ4 4 (l3).toNatClampNeg))), some (.int (l4 + (1 : Int32)))] [] σ4 Q)))) : am_X ri am_Lm IX11_filled (d + 1) 69 [some (.ref 0), some (.int l1), some (.int l2), some (.int l3), some (.int l4)] [] σ Q := (X_if (fun _ _ => blX11_filled_69 H.1) (fun z0 => (X_if (fun _ _ => blX11_filled_104) (fun z1 => (X_ifn (fun _ _ => blX11_filled_120 ((H.2.1 z0).1 z1).1) (fun z2 => (X_call (fun _ _ _ _ => blX11_filled_145 (((H.2.1 z0).1 z1).2.1 z2).1) (K_mono (((H.2.1 z0).1 z1).2.1 z2).2 (fun r1 σ1 q3 => (X_ret (fun _ _ => blX11_filled_156) q3))))) (fun z2 => (X_call (fun _ _ _ _ => blX11_filled_130 (((H.2.1 z0).1 z1).2.2 z2).1) (K_mono (((H.2.1 z0).1 z1).2.2 z2).2 (fun r2 σ2 q3 => (X_go (fun _ _ => blX11_filled_142) (X_ret (fun _ _ => blX11_filled_156) q3)))))))) (fun z1 => (X_ret (fun _ _ => blX11_filled_111) ((H.2.1 z0).2 z1))))) (fun z0 => (X_call (fun _ _ _ _ => blX11_filled_80) (K_mono (H.2.2 z0) (fun r3 σ3 q1 => (X_call (fun _ _ _ _ => blX11_filled_86) (K_mono q1 (fun _ σ4 q2 => (X_go (fun _ _ => blX11_filled_89 q2.1) q2.2)))))))))
set_option maxRecDepth 20000 in
theorem vX11_fill {d : Nat} {σ : am_S} {Q : Int32 → am_S → Prop} {l1 : Int32} {l2 : Int32} (H :
    am_K ri am_Lm IX11_filled d [.ref 0, .int ((40 : Int32) * l1)] σ (fun r1 σ1 =>
      (¬ (gS σ1 0 5) = 0 →
        Q (-4 : Int32) σ1) ∧
      ((gS σ1 0 5) = 0 →
        am_K ri am_Lm IX11_fits d [.ref 0, .int r1] σ1 (fun r2 σ2 =>
          (¬ r2 = 0 →
            am_K ru am_Lm IX11_copy d [.ref 0, .int r1, .int (69900 : Int32)] σ2 (fun _ σ3 =>
              am_K ri am_Lm IX11_store d [.ref 0, .int (69900 : Int32), .int l2] σ3 (fun r4 σ4 =>
                Q r4 σ4))) ∧
          (r2 = 0 →
            Q (-4 : Int32) σ2))))) : am_K ri am_Lm IX11_fill (d + 1) [.ref 0, .int l1, .int l2] σ Q := K_of am_owX11_fill (Nat.le_of_ble_eq_true rfl) (X_call (fun _ _ _ _ => blX11_fill_0) (K_mono H (fun r1 σ1 q0 => (X_ifn (fun _ _ => blX11_fill_8) (fun z1 => (X_ret (fun _ _ => blX11_fill_24) (q0.1 z1))) (fun z1 => (X_call (fun _ _ _ _ => blX11_fill_16) (K_mono (q0.2 z1) (fun r2 σ2 q2 => (X_ifn (fun _ _ => blX11_fill_21) (fun z3 => (X_call (fun _ _ _ _ => blX11_fill_27) (K_mono (q2.1 z3) (fun _ σ3 q4 => (X_call (fun _ _ _ _ => blX11_fill_35) (K_mono q4 (fun r4 σ4 q5 => (X_ret (fun _ _ => blX11_fill_43) q5)))))))) (fun z3 => (X_ret (fun _ _ => blX11_fill_24) (q2.2 z3))))))))))))
set_option maxRecDepth 20000 in
theorem vX11_instance {d : Nat} {σ : am_S} {Q : Int32 → am_S → Prop} {l1 : Int32} {l2 : Int32} {l3 : Int32} (H :
    am_K ri am_Lm IX11_in d [.long (l1).toInt64, .long (0 : Int64), .long (((gS σ 0 16) - (1 : Int32))).toInt64] σ (fun r1 σ1 =>
      (r1 = 0 →
        Q (-1 : Int32) σ1) ∧
      (¬ r1 = 0 →
        am_K ri am_Lm IX11_isSlot d [.int l2] σ1 (fun r2 σ2 =>
          (r2 = 0 →
            Q (-1 : Int32) σ2) ∧
          (¬ r2 = 0 →
            am_K ri am_Lm IX11_isSlot d [.int l3] σ2 (fun r3 σ3 =>
              (¬ r3 = 0 →
                (vp_in l2 16) ∧
                (¬ (gA σ3 7 (l2).toNatClampNeg) = 0 →
                  am_K ru am_Lm IX11_begin d [.ref 0] σ3 (fun _ σ4 =>
                    am_X ri am_Lm IX11_instance (d + 1) 51 [some (.ref 0), some (.int l1), some (.int l2), some (.int l3), some (.int (0 : Int32)), none] [] σ4 Q)) ∧
                ((gA σ3 7 (l2).toNatClampNeg) = 0 →
                  Q (-2 : Int32) σ3)) ∧
              (r3 = 0 →
                Q (-1 : Int32) σ3))))))) : am_K ri am_Lm IX11_instance (d + 1) [.ref 0, .int l1, .int l2, .int l3] σ Q := K_of am_owX11_instance (Nat.le_of_ble_eq_true rfl) (X_call (fun _ _ _ _ => blX11_instance_0) (K_mono H (fun r1 σ1 q0 => (X_if (fun _ _ => blX11_instance_13) (fun z1 => (X_ret (fun _ _ => blX11_instance_30) (q0.1 z1))) (fun z1 => (X_call (fun _ _ _ _ => blX11_instance_16) (K_mono (q0.2 z1) (fun r2 σ2 q2 => (X_if (fun _ _ => blX11_instance_20) (fun z3 => (X_ret (fun _ _ => blX11_instance_30) (q2.1 z3))) (fun z3 => (X_call (fun _ _ _ _ => blX11_instance_23) (K_mono (q2.2 z3) (fun r3 σ3 q4 => (X_ifn (fun _ _ => blX11_instance_27) (fun z5 => (X_ifn (fun _ _ => blX11_instance_32 (q4.1 z5).1) (fun z6 => (X_call (fun _ _ _ _ => blX11_instance_44) (K_mono ((q4.1 z5).2.1 z6) (fun _ σ4 q7 => (X_go (fun _ _ => blX11_instance_48) q7))))) (fun z6 => (X_ret (fun _ _ => blX11_instance_41) ((q4.1 z5).2.2 z6))))) (fun z5 => (X_ret (fun _ _ => blX11_instance_30) (q4.2 z5)))))))))))))))))
set_option maxRecDepth 20000 in
theorem vX11_instance_51 {d : Nat} {σ : am_S} {Q : Int32 → am_S → Prop} {l1 : Int32} {l2 : Int32} {l3 : Int32} {l4 : Int32} (H :
    ((22 : Int32) ≤ l4 →
      am_K ri am_Lm IX11_fill d [.ref 0, .int l2, .int l3] σ (fun r1 σ1 =>
        Q r1 σ1)) ∧
    (¬ (22 : Int32) ≤ l4 →
      am_K ri am_Lm IX11_nameOf d [.ref 0, .int l4] σ (fun r2 σ2 =>
        (0 ≤ r2 →
          (vp_in l1 100) ∧
          am_K ri am_Lm IX11_matcherAt d [.ref 0, .int (gA σ2 11 (l1).toNatClampNeg), .int r2] σ2 (fun r3 σ3 =>
            (vp_in l4 22) ∧
            am_X ri am_Lm IX11_instance (d + 1) 51 [some (.ref 0), some (.int l1), some (.int l2), some (.int l3), some (.int (l4 + (1 : Int32))), none] [] (wA σ3 17 (l4).toNatClampNeg r3) Q)) ∧
        (¬ 0 ≤ r2 →
          (vp_in l4 22) ∧
          am_X ri am_Lm IX11_instance (d + 1) 51 [some (.ref 0), some (.int l1), some (.int l2), some (.int l3), some (.int (l4 + (1 : Int32))), none] [] (wA σ2 17 (l4).toNatClampNeg (-1 : Int32)) Q)))) : am_X ri am_Lm IX11_instance (d + 1) 51 [some (.ref 0), some (.int l1), some (.int l2), some (.int l3), some (.int l4), none] [] σ Q := (X_if (fun _ _ => blX11_instance_51) (fun z0 => (X_call (fun _ _ _ _ => blX11_instance_100) (K_mono (H.1 z0) (fun r1 σ1 q1 => (X_ret (fun _ _ => blX11_instance_106) q1))))) (fun z0 => (X_call (fun _ _ _ _ => blX11_instance_58) (K_mono (H.2 z0) (fun r2 σ2 q1 => (X_if (fun _ _ => blX11_instance_64) (fun z2 => (X_call (fun _ _ _ _ => blX11_instance_81 (q1.1 z2).1) (K_mono (q1.1 z2).2 (fun r3 σ3 q3 => (X_go (fun _ _ => blX11_instance_93 q3.1) q3.2))))) (fun z2 => (X_go (fun _ _ => blX11_instance_77) (X_go (fun _ _ => blX11_instance_93 (q1.2 z2).1) (q1.2 z2).2)))))))))
set_option maxRecDepth 20000 in
theorem vX11_system {d : Nat} {σ : am_S} {Q : Int32 → am_S → Prop} {l1 : Int32} {l2 : Int32} (H :
    am_K ri am_Lm IX11_in d [.long (l1).toInt64, .long (1 : Int64), .long (3 : Int64)] σ (fun r1 σ1 =>
      (r1 = 0 →
        Q (-1 : Int32) σ1) ∧
      (¬ r1 = 0 →
        am_K ri am_Lm IX11_in d [.long (l2).toInt64, .long (1 : Int64), .long (6 : Int64)] σ1 (fun r2 σ2 =>
          (¬ r2 = 0 →
            am_X ri am_Lm IX11_system (d + 1) 43 [some (.ref 0), some (.int l1), some (.int l2), some (.int (0 : Int32))] [] (wS (wS (wS σ2 0 29 l1) 0 30 l2) 0 32 (0 : Int32)) Q) ∧
          (r2 = 0 →
            Q (-1 : Int32) σ2))))) : am_K ri am_Lm IX11_system (d + 1) [.ref 0, .int l1, .int l2] σ Q := K_of am_owX11_system (Nat.le_of_ble_eq_true rfl) (X_call (fun _ _ _ _ => blX11_system_0) (K_mono H (fun r1 σ1 q0 => (X_if (fun _ _ => blX11_system_9) (fun z1 => (X_ret (fun _ _ => blX11_system_24) (q0.1 z1))) (fun z1 => (X_call (fun _ _ _ _ => blX11_system_12) (K_mono (q0.2 z1) (fun r2 σ2 q2 => (X_ifn (fun _ _ => blX11_system_21) (fun z3 => (X_go (fun _ _ => blX11_system_26) (q2.1 z3))) (fun z3 => (X_ret (fun _ _ => blX11_system_24) (q2.2 z3))))))))))))
set_option maxRecDepth 20000 in
theorem vX11_system_43 {d : Nat} {σ : am_S} {Q : Int32 → am_S → Prop} {l1 : Int32} {l2 : Int32} {l3 : Int32} (H :
    ((18 : Int32) ≤ l3 →
      Q (1 : Int32) σ) ∧
    (¬ (18 : Int32) ≤ l3 →
      (vp_in l3 18) ∧
      am_X ri am_Lm IX11_system (d + 1) 43 [some (.ref 0), some (.int l1), some (.int l2), some (.int (l3 + (1 : Int32)))] [] (wA σ 18 (l3).toNatClampNeg (0 : Int32)) Q)) : am_X ri am_Lm IX11_system (d + 1) 43 [some (.ref 0), some (.int l1), some (.int l2), some (.int l3)] [] σ Q := (X_if (fun _ _ => blX11_system_43) (fun z0 => (X_ret (fun _ _ => blX11_system_62) (H.1 z0))) (fun z0 => (X_go (fun _ _ => blX11_system_49 (H.2 z0).1) (H.2 z0).2)))
set_option maxRecDepth 20000 in
theorem vX11_number {d : Nat} {σ : am_S} {Q : Int32 → am_S → Prop} {l1 : Int32} {l2 : Int32} {l3 : Int32} (H :
    am_K ri am_Lm IX11_in d [.long (l1).toInt64, .long (0 : Int64), .long (((gS σ 0 29) - (1 : Int32))).toInt64] σ (fun r1 σ1 =>
      (r1 = 0 →
        Q (-1001 : Int32) σ1) ∧
      (¬ r1 = 0 →
        am_K ri am_Lm IX11_in d [.long (l2).toInt64, .long (0 : Int64), .long (((gS σ1 0 30) - (1 : Int32))).toInt64] σ1 (fun r2 σ2 =>
          (r2 = 0 →
            Q (-1001 : Int32) σ2) ∧
          (¬ r2 = 0 →
            am_K ri am_Lm IX11_in d [.long (l3).toInt64, .long (-9 : Int64), .long (9 : Int64)] σ2 (fun r3 σ3 =>
              (¬ r3 = 0 →
                (vp_in (((6 : Int32) * l1) + l2) 18) ∧
                (vp_in (((6 : Int32) * l1) + l2) 18) ∧
                Q (gA σ3 18 ((((6 : Int32) * l1) + l2)).toNatClampNeg) (wS (wA σ3 18 ((((6 : Int32) * l1) + l2)).toNatClampNeg l3) 0 32 (0 : Int32))) ∧
              (r3 = 0 →
                Q (-1001 : Int32) σ3))))))) : am_K ri am_Lm IX11_number (d + 1) [.ref 0, .int l1, .int l2, .int l3] σ Q := K_of am_owX11_number (Nat.le_of_ble_eq_true rfl) (X_call (fun _ _ _ _ => blX11_number_0) (K_mono H (fun r1 σ1 q0 => (X_if (fun _ _ => blX11_number_13) (fun z1 => (X_ret (fun _ _ => blX11_number_46) (q0.1 z1))) (fun z1 => (X_call (fun _ _ _ _ => blX11_number_16) (K_mono (q0.2 z1) (fun r2 σ2 q2 => (X_if (fun _ _ => blX11_number_29) (fun z3 => (X_ret (fun _ _ => blX11_number_46) (q2.1 z3))) (fun z3 => (X_call (fun _ _ _ _ => blX11_number_32) (K_mono (q2.2 z3) (fun r3 σ3 q4 => (X_ifn (fun _ _ => blX11_number_43) (fun z5 => (X_ret (fun _ _ => blX11_number_50 (q4.1 z5).1 (q4.1 z5).2.1) (q4.1 z5).2.2)) (fun z5 => (X_ret (fun _ _ => blX11_number_46) (q4.2 z5)))))))))))))))))
set_option maxRecDepth 20000 in
theorem vX11_solves {d : Nat} {σ : am_S} {Q : Int32 → am_S → Prop}  (H :
    am_X ri am_Lm IX11_solves (d + 1) 4 [some (.ref 0), some (.int (1 : Int32)), some (.int (0 : Int32)), none, none] [] σ Q) : am_K ri am_Lm IX11_solves (d + 1) [.ref 0] σ Q := K_of am_owX11_solves (Nat.le_of_ble_eq_true rfl) (X_go (fun _ _ => blX11_solves_0) H)
set_option maxRecDepth 20000 in
theorem vX11_solves_4 {d : Nat} {σ : am_S} {Q : Int32 → am_S → Prop} {l1 : Int32} {l2 : Int32} (H :
    ((gS σ 0 29) ≤ l2 →
      (l1 = 0 ∨ l1 = 1) ∧ Q l1 σ) ∧
    (¬ (gS σ 0 29) ≤ l2 →
      (l1 = 0 →
        (l1 = 0 ∨ l1 = 1) ∧ Q l1 σ) ∧
      (¬ l1 = 0 →
        am_X ri am_Lm IX11_solves (d + 1) 21 [some (.ref 0), some (.int l1), some (.int l2), some (.int (0 : Int32)), some (.int (0 : Int32))] [] σ Q))) : am_X ri am_Lm IX11_solves (d + 1) 4 [some (.ref 0), some (.int l1), some (.int l2), none, none] [] σ Q := (X_if (fun _ _ => blX11_solves_4) (fun z0 => (X_ret (fun _ _ => blX11_solves_75 (H.1 z0).1) (H.1 z0).2)) (fun z0 => (X_if (fun _ _ => blX11_solves_12) (fun z1 => (X_ret (fun _ _ => blX11_solves_75 ((H.2 z0).1 z1).1) ((H.2 z0).1 z1).2)) (fun z1 => (X_go (fun _ _ => blX11_solves_16) ((H.2 z0).2 z1))))))
set_option maxRecDepth 20000 in
theorem vX11_solves_21 {d : Nat} {σ : am_S} {Q : Int32 → am_S → Prop} {l1 : Int32} {l2 : Int32} {l3 : Int32} {l4 : Int32} (H :
    ((gS σ 0 30) ≤ l4 →
      (¬ l3 = 0 →
        am_X ri am_Lm IX11_solves (d + 1) 4 [some (.ref 0), some (.int (0 : Int32)), some (.int (l2 + (1 : Int32))), none, none] [] σ Q) ∧
      (l3 = 0 →
        am_X ri am_Lm IX11_solves (d + 1) 4 [some (.ref 0), some (.int (1 : Int32)), some (.int (l2 + (1 : Int32))), none, none] [] σ Q)) ∧
    (¬ (gS σ 0 30) ≤ l4 →
      (vp_in (((6 : Int32) * l2) + l4) 18) ∧
      (vp_in l4 32) ∧
      am_X ri am_Lm IX11_solves (d + 1) 21 [some (.ref 0), some (.int l1), some (.int l2), some (.int (l3 + ((gA σ 18 ((((6 : Int32) * l2) + l4)).toNatClampNeg) * (gA σ 20 (l4).toNatClampNeg)))), some (.int (l4 + (1 : Int32)))] [] σ Q)) : am_X ri am_Lm IX11_solves (d + 1) 21 [some (.ref 0), some (.int l1), some (.int l2), some (.int l3), some (.int l4)] [] σ Q := (X_if (fun _ _ => blX11_solves_21) (fun z0 => (X_ifn (fun _ _ => blX11_solves_59) (fun z1 => (X_go (fun _ _ => blX11_solves_67) (X_go (fun _ _ => blX11_solves_68) ((H.1 z0).1 z1)))) (fun z1 => (X_go (fun _ _ => blX11_solves_63) (X_go (fun _ _ => blX11_solves_68) ((H.1 z0).2 z1)))))) (fun z0 => (X_go (fun _ _ => blX11_solves_30 (H.2 z0).1 (H.2 z0).2.1) (H.2 z0).2.2)))
set_option maxRecDepth 20000 in
theorem vX11_isLeast {d : Nat} {σ : am_S} {Q : Int32 → am_S → Prop}  (H :
    am_X ri am_Lm IX11_isLeast (d + 1) 4 [some (.ref 0), some (.int (1 : Int32)), some (.int (0 : Int32)), none, none] [] σ Q) : am_K ri am_Lm IX11_isLeast (d + 1) [.ref 0] σ Q := K_of am_owX11_isLeast (Nat.le_of_ble_eq_true rfl) (X_go (fun _ _ => blX11_isLeast_0) H)
set_option maxRecDepth 20000 in
theorem vX11_isLeast_4 {d : Nat} {σ : am_S} {Q : Int32 → am_S → Prop} {l1 : Int32} {l2 : Int32} (H :
    ((gS σ 0 32) ≤ l2 →
      (l1 = 0 ∨ l1 = 1) ∧ Q l1 σ) ∧
    (¬ (gS σ 0 32) ≤ l2 →
      (l1 = 0 →
        (l1 = 0 ∨ l1 = 1) ∧ Q l1 σ) ∧
      (¬ l1 = 0 →
        am_X ri am_Lm IX11_isLeast (d + 1) 21 [some (.ref 0), some (.int l1), some (.int l2), some (.int (1 : Int32)), some (.int (0 : Int32))] [] σ Q))) : am_X ri am_Lm IX11_isLeast (d + 1) 4 [some (.ref 0), some (.int l1), some (.int l2), none, none] [] σ Q := (X_if (fun _ _ => blX11_isLeast_4) (fun z0 => (X_ret (fun _ _ => blX11_isLeast_84 (H.1 z0).1) (H.1 z0).2)) (fun z0 => (X_if (fun _ _ => blX11_isLeast_12) (fun z1 => (X_ret (fun _ _ => blX11_isLeast_84 ((H.2 z0).1 z1).1) ((H.2 z0).1 z1).2)) (fun z1 => (X_go (fun _ _ => blX11_isLeast_16) ((H.2 z0).2 z1))))))
set_option maxRecDepth 20000 in
theorem vX11_isLeast_21 {d : Nat} {σ : am_S} {Q : Int32 → am_S → Prop} {l1 : Int32} {l2 : Int32} {l3 : Int32} {l4 : Int32} (H :
    ((gS σ 0 30) ≤ l4 →
      (¬ l3 = 0 →
        am_X ri am_Lm IX11_isLeast (d + 1) 4 [some (.ref 0), some (.int (0 : Int32)), some (.int (l2 + (1 : Int32))), none, none] [] σ Q) ∧
      (l3 = 0 →
        am_X ri am_Lm IX11_isLeast (d + 1) 4 [some (.ref 0), some (.int (1 : Int32)), some (.int (l2 + (1 : Int32))), none, none] [] σ Q)) ∧
    (¬ (gS σ 0 30) ≤ l4 →
      (l3 = 0 →
        (¬ l3 = 0 →
          am_X ri am_Lm IX11_isLeast (d + 1) 4 [some (.ref 0), some (.int (0 : Int32)), some (.int (l2 + (1 : Int32))), none, none] [] σ Q) ∧
        (l3 = 0 →
          am_X ri am_Lm IX11_isLeast (d + 1) 4 [some (.ref 0), some (.int (1 : Int32)), some (.int (l2 + (1 : Int32))), none, none] [] σ Q)) ∧
      (¬ l3 = 0 →
        (vp_in (((6 : Int32) * l2) + l4) 606) ∧
        (vp_in l4 32) ∧
        ((gA σ 20 (l4).toNatClampNeg) < (gA σ 19 ((((6 : Int32) * l2) + l4)).toNatClampNeg) →
          am_X ri am_Lm IX11_isLeast (d + 1) 21 [some (.ref 0), some (.int l1), some (.int l2), some (.int (0 : Int32)), some (.int (l4 + (1 : Int32)))] [] σ Q) ∧
        (¬ (gA σ 20 (l4).toNatClampNeg) < (gA σ 19 ((((6 : Int32) * l2) + l4)).toNatClampNeg) →
          am_X ri am_Lm IX11_isLeast (d + 1) 21 [some (.ref 0), some (.int l1), some (.int l2), some (.int (1 : Int32)), some (.int (l4 + (1 : Int32)))] [] σ Q)))) : am_X ri am_Lm IX11_isLeast (d + 1) 21 [some (.ref 0), some (.int l1), some (.int l2), some (.int l3), some (.int l4)] [] σ Q := (X_if (fun _ _ => blX11_isLeast_21) (fun z0 => (X_ifn (fun _ _ => blX11_isLeast_68) (fun z1 => (X_go (fun _ _ => blX11_isLeast_76) (X_go (fun _ _ => blX11_isLeast_77) ((H.1 z0).1 z1)))) (fun z1 => (X_go (fun _ _ => blX11_isLeast_72) (X_go (fun _ _ => blX11_isLeast_77) ((H.1 z0).2 z1)))))) (fun z0 => (X_if (fun _ _ => blX11_isLeast_30) (fun z1 => (X_ifn (fun _ _ => blX11_isLeast_68) (fun z2 => (X_go (fun _ _ => blX11_isLeast_76) (X_go (fun _ _ => blX11_isLeast_77) (((H.2 z0).1 z1).1 z2)))) (fun z2 => (X_go (fun _ _ => blX11_isLeast_72) (X_go (fun _ _ => blX11_isLeast_77) (((H.2 z0).1 z1).2 z2)))))) (fun z1 => (X_if (fun _ _ => blX11_isLeast_34 ((H.2 z0).2 z1).1 ((H.2 z0).2 z1).2.1) (fun z2 => (X_go (fun _ _ => blX11_isLeast_60) (X_go (fun _ _ => blX11_isLeast_61) (((H.2 z0).2 z1).2.2.1 z2)))) (fun z2 => (X_go (fun _ _ => blX11_isLeast_56) (X_go (fun _ _ => blX11_isLeast_61) (((H.2 z0).2 z1).2.2.2 z2)))))))))
set_option maxRecDepth 20000 in
theorem vX11_give {d : Nat} {σ : am_S} {Q : Unit → am_S → Prop} {l1 : Int32} {l2 : Int32} (H :
    ((gS σ 0 27) = 0 →
      (¬ l1 = ((gS σ 0 30) - (1 : Int32)) →
        am_X ru am_Lm IX11_give (d + 1) 113 [some (.ref 0), some (.int l1), some (.int l2), some (.int (0 : Int32))] [] σ Q) ∧
      (l1 = ((gS σ 0 30) - (1 : Int32)) →
        (vp_in l1 32) ∧
        am_K ri am_Lm IX11_solves d [.ref 0] (wA σ 20 (l1).toNatClampNeg l2) (fun r1 σ1 =>
          (r1 = 0 →
            Q () σ1) ∧
          (¬ r1 = 0 →
            am_K ri am_Lm IX11_isLeast d [.ref 0] σ1 (fun r2 σ2 =>
              (r2 = 0 →
                Q () σ2) ∧
              (¬ r2 = 0 →
                (¬ (gS σ2 0 32) = (100 : Int32) →
                  (((0 : Int32) = 0 ∨ (0 : Int32) = 1)) ∧
                  am_X ru am_Lm IX11_give (d + 1) 66 [some (.ref 0), some (.int l1), some (.int l2), some (.int (0 : Int32))] [] (wS σ2 0 27 (0 : Int32)) Q) ∧
                ((gS σ2 0 32) = (100 : Int32) →
                  (((1 : Int32) = 0 ∨ (1 : Int32) = 1)) ∧
                  Q () (wS σ2 0 27 (1 : Int32))))))))) ∧
    (¬ (gS σ 0 27) = 0 →
      Q () σ)) : am_K ru am_Lm IX11_give (d + 1) [.ref 0, .int l1, .int l2] σ Q := K_of am_owX11_give (Nat.le_of_ble_eq_true rfl) (X_if (fun _ _ => blX11_give_0) (fun z0 => (X_ifn (fun _ _ => blX11_give_8) (fun z1 => (X_go (fun _ _ => blX11_give_111) ((H.1 z0).1 z1))) (fun z1 => (X_call (fun _ _ _ _ => blX11_give_18 ((H.1 z0).2 z1).1) (K_mono ((H.1 z0).2 z1).2 (fun r1 σ1 q2 => (X_if (fun _ _ => blX11_give_29) (fun z3 => (X_ret (fun _ _ => blX11_give_110) (q2.1 z3))) (fun z3 => (X_call (fun _ _ _ _ => blX11_give_32) (K_mono (q2.2 z3) (fun r2 σ2 q4 => (X_if (fun _ _ => blX11_give_36) (fun z5 => (X_ret (fun _ _ => blX11_give_110) (q4.1 z5))) (fun z5 => (X_ifn (fun _ _ => blX11_give_39) (fun z6 => (X_go (fun _ _ => blX11_give_53) (X_go (fun _ _ h => blX11_give_54 ((q4.2 z5).1 z6).1 (fun z => absurd z (by decide)) (fun _ => h)) (X_go (fun _ _ => blX11_give_64) ((q4.2 z5).1 z6).2)))) (fun z6 => (X_go (fun _ _ => blX11_give_49) (X_go (fun _ _ h => blX11_give_54 ((q4.2 z5).2 z6).1 (fun _ => h) (fun z => absurd z (by decide))) (X_ret (fun _ _ => blX11_give_110) ((q4.2 z5).2 z6).2)))))))))))))))))) (fun z0 => (X_ret (fun _ _ => blX11_give_7) (H.2 z0))))
set_option maxRecDepth 20000 in
theorem vX11_give_66 {d : Nat} {σ : am_S} {Q : Unit → am_S → Prop} {l1 : Int32} {l2 : Int32} {l3 : Int32} (H :
    ((gS σ 0 30) ≤ l3 →
      Q () (wS σ 0 32 ((gS σ 0 32) + (1 : Int32)))) ∧
    (¬ (gS σ 0 30) ≤ l3 →
      (vp_in l3 32) ∧
      (vp_in (((6 : Int32) * (gS σ 0 32)) + l3) 606) ∧
      am_X ru am_Lm IX11_give (d + 1) 66 [some (.ref 0), some (.int l1), some (.int l2), some (.int (l3 + (1 : Int32)))] [] (wA σ 19 ((((6 : Int32) * (gS σ 0 32)) + l3)).toNatClampNeg (gA σ 20 (l3).toNatClampNeg)) Q)) : am_X ru am_Lm IX11_give (d + 1) 66 [some (.ref 0), some (.int l1), some (.int l2), some (.int l3)] [] σ Q := (X_if (fun _ _ => blX11_give_66) (fun z0 => (X_go (fun _ _ => blX11_give_100) (X_ret (fun _ _ => blX11_give_110) (H.1 z0)))) (fun z0 => (X_go (fun _ _ => blX11_give_74 (H.2 z0).1 (H.2 z0).2.1) (H.2 z0).2.2)))
set_option maxRecDepth 20000 in
theorem vX11_give_113 {d : Nat} {σ : am_S} {Q : Unit → am_S → Prop} {l1 : Int32} {l2 : Int32} {l3 : Int32} (H :
    (l2 < l3 →
      Q () σ) ∧
    (¬ l2 < l3 →
      (vp_in l1 32) ∧
      am_K ru am_Lm IX11_give d [.ref 0, .int (l1 + (1 : Int32)), .int (l2 - l3)] (wA σ 20 (l1).toNatClampNeg l3) (fun _ σ1 =>
        am_X ru am_Lm IX11_give (d + 1) 113 [some (.ref 0), some (.int l1), some (.int l2), some (.int (l3 + (1 : Int32)))] [] σ1 Q))) : am_X ru am_Lm IX11_give (d + 1) 113 [some (.ref 0), some (.int l1), some (.int l2), some (.int l3)] [] σ Q := (X_if (fun _ _ => blX11_give_113) (fun z0 => (X_ret (fun _ _ => blX11_give_141) (H.1 z0))) (fun z0 => (X_call (fun _ _ _ _ => blX11_give_118 (H.2 z0).1) (K_mono (H.2 z0).2 (fun _ σ1 q1 => (X_go (fun _ _ => blX11_give_135) q1))))))
set_option maxRecDepth 20000 in
theorem vX11_orderSolutions {d : Nat} {σ : am_S} {Q : Int32 → am_S → Prop} {l1 : Int32} {l2 : Int32} (H :
    am_X ri am_Lm IX11_orderSolutions (d + 1) 2 [some (.ref 0), some (.int l1), some (.int l2), some (.int (0 : Int32))] [] σ Q) : am_K ri am_Lm IX11_orderSolutions (d + 1) [.ref 0, .int l1, .int l2] σ Q := K_of am_owX11_orderSolutions (Nat.le_of_ble_eq_true rfl) (X_go (fun _ _ => blX11_orderSolutions_0) H)
set_option maxRecDepth 20000 in
theorem vX11_orderSolutions_2 {d : Nat} {σ : am_S} {Q : Int32 → am_S → Prop} {l1 : Int32} {l2 : Int32} {l3 : Int32} (H :
    ((gS σ 0 30) ≤ l3 →
      Q (0 : Int32) σ) ∧
    (¬ (gS σ 0 30) ≤ l3 →
      (vp_in (((6 : Int32) * l1) + l3) 606) ∧
      (vp_in (((6 : Int32) * l2) + l3) 606) ∧
      ((gA σ 19 ((((6 : Int32) * l1) + l3)).toNatClampNeg) = (gA σ 19 ((((6 : Int32) * l2) + l3)).toNatClampNeg) →
        am_X ri am_Lm IX11_orderSolutions (d + 1) 2 [some (.ref 0), some (.int l1), some (.int l2), some (.int (l3 + (1 : Int32)))] [] σ Q) ∧
      (¬ (gA σ 19 ((((6 : Int32) * l1) + l3)).toNatClampNeg) = (gA σ 19 ((((6 : Int32) * l2) + l3)).toNatClampNeg) →
        (vp_in (((6 : Int32) * l1) + l3) 606) ∧
        (vp_in (((6 : Int32) * l2) + l3) 606) ∧
        Q ((gA σ 19 ((((6 : Int32) * l1) + l3)).toNatClampNeg) - (gA σ 19 ((((6 : Int32) * l2) + l3)).toNatClampNeg)) σ))) : am_X ri am_Lm IX11_orderSolutions (d + 1) 2 [some (.ref 0), some (.int l1), some (.int l2), some (.int l3)] [] σ Q := (X_if (fun _ _ => blX11_orderSolutions_2) (fun z0 => (X_ret (fun _ _ => blX11_orderSolutions_65) (H.1 z0))) (fun z0 => (X_if (fun _ _ => blX11_orderSolutions_10 (H.2 z0).1 (H.2 z0).2.1) (fun z1 => (X_go (fun _ _ => blX11_orderSolutions_59) ((H.2 z0).2.2.1 z1))) (fun z1 => (X_ret (fun _ _ => blX11_orderSolutions_35 ((H.2 z0).2.2.2 z1).1 ((H.2 z0).2.2.2 z1).2.1) ((H.2 z0).2.2.2 z1).2.2)))))
set_option maxRecDepth 20000 in
theorem vX11_solve {d : Nat} {σ : am_S} {Q : Int32 → am_S → Prop} {l1 : Int32} (H :
    am_K ri am_Lm IX11_in d [.long (l1).toInt64, .long (1 : Int64), .long (16 : Int64)] σ (fun r1 σ1 =>
      (¬ r1 = 0 →
        (((0 : Int32) = 0 ∨ (0 : Int32) = 1)) ∧
        am_X ri am_Lm IX11_solve (d + 1) 26 [some (.ref 0), some (.int l1), some (.int (1 : Int32)), none] [] (wS (wS σ1 0 32 (0 : Int32)) 0 27 (0 : Int32)) Q) ∧
      (r1 = 0 →
        Q (-1 : Int32) σ1))) : am_K ri am_Lm IX11_solve (d + 1) [.ref 0, .int l1] σ Q := K_of am_owX11_solve (Nat.le_of_ble_eq_true rfl) (X_call (fun _ _ _ _ => blX11_solve_0) (K_mono H (fun r1 σ1 q0 => (X_ifn (fun _ _ => blX11_solve_9) (fun z1 => (X_go (fun _ _ => blX11_solve_14 (q0.1 z1).1) (q0.1 z1).2)) (fun z1 => (X_ret (fun _ _ => blX11_solve_12) (q0.2 z1)))))))
set_option maxRecDepth 20000 in
theorem vX11_solve_26 {d : Nat} {σ : am_S} {Q : Int32 → am_S → Prop} {l1 : Int32} {l2 : Int32} (H :
    (l1 < l2 →
      ((gS σ 0 27) = 0 →
        am_X ri am_Lm IX11_solve (d + 1) 67 [some (.ref 0), some (.int l1), some (.int (0 : Int32)), none] [] σ Q) ∧
      (¬ (gS σ 0 27) = 0 →
        Q (-4 : Int32) (wS σ 0 32 (0 : Int32)))) ∧
    (¬ l1 < l2 →
      (¬ (gS σ 0 27) = 0 →
        ((gS σ 0 27) = 0 →
          am_X ri am_Lm IX11_solve (d + 1) 67 [some (.ref 0), some (.int l1), some (.int (0 : Int32)), none] [] σ Q) ∧
        (¬ (gS σ 0 27) = 0 →
          Q (-4 : Int32) (wS σ 0 32 (0 : Int32)))) ∧
      ((gS σ 0 27) = 0 →
        am_K ru am_Lm IX11_give d [.ref 0, .int (0 : Int32), .int l2] σ (fun _ σ1 =>
          am_X ri am_Lm IX11_solve (d + 1) 26 [some (.ref 0), some (.int l1), some (.int (l2 + (1 : Int32))), none] [] σ1 Q)))) : am_X ri am_Lm IX11_solve (d + 1) 26 [some (.ref 0), some (.int l1), some (.int l2), none] [] σ Q := (X_if (fun _ _ => blX11_solve_26) (fun z0 => (X_if (fun _ _ => blX11_solve_50) (fun z1 => (X_go (fun _ _ => blX11_solve_65) ((H.1 z0).1 z1))) (fun z1 => (X_ret (fun _ _ => blX11_solve_57) ((H.1 z0).2 z1))))) (fun z0 => (X_ifn (fun _ _ => blX11_solve_31) (fun z1 => (X_if (fun _ _ => blX11_solve_50) (fun z2 => (X_go (fun _ _ => blX11_solve_65) (((H.2 z0).1 z1).1 z2))) (fun z2 => (X_ret (fun _ _ => blX11_solve_57) (((H.2 z0).1 z1).2 z2))))) (fun z1 => (X_call (fun _ _ _ _ => blX11_solve_38) (K_mono ((H.2 z0).2 z1) (fun _ σ1 q2 => (X_go (fun _ _ => blX11_solve_44) q2))))))))
set_option maxRecDepth 20000 in
theorem vX11_solve_67 {d : Nat} {σ : am_S} {Q : Int32 → am_S → Prop} {l1 : Int32} {l2 : Int32} (H :
    ((gS σ 0 32) ≤ l2 →
      Q (gS σ 0 32) σ) ∧
    (¬ (gS σ 0 32) ≤ l2 →
      am_X ri am_Lm IX11_solve (d + 1) 77 [some (.ref 0), some (.int l1), some (.int l2), some (.int l2)] [] σ Q)) : am_X ri am_Lm IX11_solve (d + 1) 67 [some (.ref 0), some (.int l1), some (.int l2), none] [] σ Q := (X_if (fun _ _ => blX11_solve_67) (fun z0 => (X_ret (fun _ _ => blX11_solve_130) (H.1 z0))) (fun z0 => (X_go (fun _ _ => blX11_solve_75) (H.2 z0))))
set_option maxRecDepth 20000 in
theorem vX11_solve_77 {d : Nat} {σ : am_S} {Q : Int32 → am_S → Prop} {l1 : Int32} {l2 : Int32} {l3 : Int32} (H :
    (l3 ≤ 0 →
      (vp_in l3 100) ∧
      am_X ri am_Lm IX11_solve (d + 1) 67 [some (.ref 0), some (.int l1), some (.int (l2 + (1 : Int32))), none] [] (wA σ 21 (l3).toNatClampNeg l2) Q) ∧
    (¬ l3 ≤ 0 →
      (vp_in (l3 - (1 : Int32)) 100) ∧
      am_K ri am_Lm IX11_orderSolutions d [.ref 0, .int (gA σ 21 ((l3 - (1 : Int32))).toNatClampNeg), .int l2] σ (fun r1 σ1 =>
        (r1 ≤ 0 →
          (vp_in l3 100) ∧
          am_X ri am_Lm IX11_solve (d + 1) 67 [some (.ref 0), some (.int l1), some (.int (l2 + (1 : Int32))), none] [] (wA σ1 21 (l3).toNatClampNeg l2) Q) ∧
        (¬ r1 ≤ 0 →
          (vp_in (l3 - (1 : Int32)) 100) ∧
          (vp_in l3 100) ∧
          am_X ri am_Lm IX11_solve (d + 1) 77 [some (.ref 0), some (.int l1), some (.int l2), some (.int (l3 + (-1 : Int32)))] [] (wA σ1 21 (l3).toNatClampNeg (gA σ1 21 ((l3 - (1 : Int32))).toNatClampNeg)) Q)))) : am_X ri am_Lm IX11_solve (d + 1) 77 [some (.ref 0), some (.int l1), some (.int l2), some (.int l3)] [] σ Q := (X_if (fun _ _ => blX11_solve_77) (fun z0 => (X_go (fun _ _ => blX11_solve_117 (H.1 z0).1) (H.1 z0).2)) (fun z0 => (X_call (fun _ _ _ _ => blX11_solve_81 (H.2 z0).1) (K_mono (H.2 z0).2 (fun r1 σ1 q1 => (X_if (fun _ _ => blX11_solve_94) (fun z2 => (X_go (fun _ _ => blX11_solve_117 (q1.1 z2).1) (q1.1 z2).2)) (fun z2 => (X_go (fun _ _ => blX11_solve_97 (q1.2 z2).1 (q1.2 z2).2.1) (q1.2 z2).2.2))))))))
set_option maxRecDepth 20000 in
theorem vX11_solution {d : Nat} {σ : am_S} {Q : Int32 → am_S → Prop} {l1 : Int32} {l2 : Int32} (H :
    am_K ri am_Lm IX11_in d [.long (l1).toInt64, .long (0 : Int64), .long (((gS σ 0 32) - (1 : Int32))).toInt64] σ (fun r1 σ1 =>
      (r1 = 0 →
        Q (-1 : Int32) σ1) ∧
      (¬ r1 = 0 →
        am_K ri am_Lm IX11_in d [.long (l2).toInt64, .long (0 : Int64), .long (((gS σ1 0 30) - (1 : Int32))).toInt64] σ1 (fun r2 σ2 =>
          (r2 = 0 →
            Q (-1 : Int32) σ2) ∧
          (¬ r2 = 0 →
            (vp_in l1 100) ∧
            (vp_in (((6 : Int32) * (gA σ2 21 (l1).toNatClampNeg)) + l2) 606) ∧
            Q (gA σ2 19 ((((6 : Int32) * (gA σ2 21 (l1).toNatClampNeg)) + l2)).toNatClampNeg) σ2))))) : am_K ri am_Lm IX11_solution (d + 1) [.ref 0, .int l1, .int l2] σ Q := K_of am_owX11_solution (Nat.le_of_ble_eq_true rfl) (X_call (fun _ _ _ _ => blX11_solution_0) (K_mono H (fun r1 σ1 q0 => (X_if (fun _ _ => blX11_solution_13) (fun z1 => (X_go (fun _ _ => blX11_solution_51) (X_ret (fun _ _ => blX11_solution_52) (q0.1 z1)))) (fun z1 => (X_call (fun _ _ _ _ => blX11_solution_16) (K_mono (q0.2 z1) (fun r2 σ2 q2 => (X_if (fun _ _ => blX11_solution_29) (fun z3 => (X_go (fun _ _ => blX11_solution_51) (X_ret (fun _ _ => blX11_solution_52) (q2.1 z3)))) (fun z3 => (X_go (fun _ _ => blX11_solution_32 (q2.2 z3).1 (q2.2 z3).2.1) (X_ret (fun _ _ => blX11_solution_52) (q2.2 z3).2.2))))))))))))
set_option maxRecDepth 20000 in
theorem vX11_partsBy {d : Nat} {σ : am_S} {Q : Int32 → am_S → Prop} {l1 : Int32} {l2 : Int32} (H :
    (vp_in l1 70000) ∧
    (¬ (gA σ 1 (l1).toNatClampNeg) = l2 →
      Q (1 : Int32) σ) ∧
    ((gA σ 1 (l1).toNatClampNeg) = l2 →
      (vp_in l1 70000) ∧
      Q (gA σ 3 (l1).toNatClampNeg) σ)) : am_K ri am_Lm IX11_partsBy (d + 1) [.ref 0, .int l1, .int l2] σ Q := K_of am_owX11_partsBy (Nat.le_of_ble_eq_true rfl) (X_ifn (fun _ _ => blX11_partsBy_0 H.1) (fun z0 => (X_go (fun _ _ => blX11_partsBy_19) (X_ret (fun _ _ => blX11_partsBy_20) (H.2.1 z0)))) (fun z0 => (X_go (fun _ _ => blX11_partsBy_10 (H.2.2 z0).1) (X_ret (fun _ _ => blX11_partsBy_20) (H.2.2 z0).2))))
set_option maxRecDepth 20000 in
theorem vX11_partBy {d : Nat} {σ : am_S} {Q : Int32 → am_S → Prop} {l1 : Int32} {l2 : Int32} {l3 : Int32} (H :
    (vp_in l1 70000) ∧
    (¬ (gA σ 1 (l1).toNatClampNeg) = l2 →
      Q l1 σ) ∧
    ((gA σ 1 (l1).toNatClampNeg) = l2 →
      am_K ri am_Lm IX11_partAt d [.ref 0, .int l1, .int l3] σ (fun r1 σ1 =>
        Q r1 σ1))) : am_K ri am_Lm IX11_partBy (d + 1) [.ref 0, .int l1, .int l2, .int l3] σ Q := K_of am_owX11_partBy (Nat.le_of_ble_eq_true rfl) (X_ifn (fun _ _ => blX11_partBy_0 H.1) (fun z0 => (X_go (fun _ _ => blX11_partBy_19) (X_ret (fun _ _ => blX11_partBy_20) (H.2.1 z0)))) (fun z0 => (X_call (fun _ _ _ _ => blX11_partBy_10) (K_mono (H.2.2 z0) (fun r1 σ1 q1 => (X_go (fun _ _ => blX11_partBy_16) (X_ret (fun _ _ => blX11_partBy_20) q1)))))))
set_option maxRecDepth 20000 in
theorem vX11_isPlain {d : Nat} {σ : am_S} {Q : Int32 → am_S → Prop} {l1 : Int32} {l2 : Int32} (H :
    am_X ri am_Lm IX11_isPlain (d + 1) 5 [some (.ref 0), some (.int l1), some (.int l2), some (.int (1 : Int32)), some (.int (0 : Int32)), none] [] σ Q) : am_K ri am_Lm IX11_isPlain (d + 1) [.ref 0, .int l1, .int l2] σ Q := K_of am_owX11_isPlain (Nat.le_of_ble_eq_true rfl) (X_go (fun _ _ => blX11_isPlain_0) H)
set_option maxRecDepth 20000 in
theorem vX11_isPlain_5 {d : Nat} {σ : am_S} {Q : Int32 → am_S → Prop} {l1 : Int32} {l2 : Int32} {l3 : Int32} {l4 : Int32} (H :
    am_K ri am_Lm IX11_partsBy d [.ref 0, .int l1, .int l2] σ (fun r1 σ1 =>
      (r1 ≤ l4 →
        (l3 = 0 ∨ l3 = 1) ∧ Q l3 σ1) ∧
      (¬ r1 ≤ l4 →
        (l3 = 0 →
          (l3 = 0 ∨ l3 = 1) ∧ Q l3 σ1) ∧
        (¬ l3 = 0 →
          am_K ri am_Lm IX11_partBy d [.ref 0, .int l1, .int l2, .int l4] σ1 (fun r2 σ2 =>
            (vp_in r2 70000) ∧
            ((gA σ2 1 (r2).toNatClampNeg) = 0 →
              am_X ri am_Lm IX11_isPlain (d + 1) 5 [some (.ref 0), some (.int l1), some (.int l2), some (.int (1 : Int32)), some (.int (l4 + (1 : Int32))), none] [] σ2 Q) ∧
            (¬ (gA σ2 1 (r2).toNatClampNeg) = 0 →
              am_K ri am_Lm IX11_variablesIn d [.ref 0, .int r2] σ2 (fun r3 σ3 =>
                (¬ r3 = 0 →
                  am_X ri am_Lm IX11_isPlain (d + 1) 5 [some (.ref 0), some (.int l1), some (.int l2), some (.int (0 : Int32)), some (.int (l4 + (1 : Int32))), none] [] σ3 Q) ∧
                (r3 = 0 →
                  am_X ri am_Lm IX11_isPlain (d + 1) 5 [some (.ref 0), some (.int l1), some (.int l2), some (.int (1 : Int32)), some (.int (l4 + (1 : Int32))), none] [] σ3 Q)))))))) : am_X ri am_Lm IX11_isPlain (d + 1) 5 [some (.ref 0), some (.int l1), some (.int l2), some (.int l3), some (.int l4), none] [] σ Q := (X_call (fun _ _ _ _ => blX11_isPlain_5) (K_mono H (fun r1 σ1 q0 => (X_if (fun _ _ => blX11_isPlain_13) (fun z1 => (X_ret (fun _ _ => blX11_isPlain_61 (q0.1 z1).1) (q0.1 z1).2)) (fun z1 => (X_if (fun _ _ => blX11_isPlain_16) (fun z2 => (X_ret (fun _ _ => blX11_isPlain_61 ((q0.2 z1).1 z2).1) ((q0.2 z1).1 z2).2)) (fun z2 => (X_call (fun _ _ _ _ => blX11_isPlain_20) (K_mono ((q0.2 z1).2 z2) (fun r2 σ2 q3 => (X_if (fun _ _ => blX11_isPlain_28 q3.1) (fun z4 => (X_go (fun _ _ => blX11_isPlain_49) (X_go (fun _ _ => blX11_isPlain_54) (q3.2.1 z4)))) (fun z4 => (X_call (fun _ _ _ _ => blX11_isPlain_40) (K_mono (q3.2.2 z4) (fun r3 σ3 q5 => (X_ifn (fun _ _ => blX11_isPlain_46) (fun z6 => (X_go (fun _ _ => blX11_isPlain_53) (X_go (fun _ _ => blX11_isPlain_54) (q5.1 z6)))) (fun z6 => (X_go (fun _ _ => blX11_isPlain_49) (X_go (fun _ _ => blX11_isPlain_54) (q5.2 z6))))))))))))))))))))
set_option maxRecDepth 20000 in
theorem vX11_weigh {d : Nat} {σ : am_S} {Q : Unit → am_S → Prop} {l1 : Int32} {l2 : Int32} (H :
    (vp_in l1 70000) ∧
    (¬ (gA σ 1 (l1).toNatClampNeg) = 0 →
      am_X ru am_Lm IX11_weigh (d + 1) 27 [some (.ref 0), some (.int l1), some (.int l2), some (.int (0 : Int32)), none] [] σ Q) ∧
    ((gA σ 1 (l1).toNatClampNeg) = 0 →
      (vp_in l1 70000) ∧
      (vp_in (gA σ 2 (l1).toNatClampNeg) 22) ∧
      (vp_in (gA σ 2 (l1).toNatClampNeg) 22) ∧
      Q () (wA σ 27 ((gA σ 2 (l1).toNatClampNeg)).toNatClampNeg ((gA σ 27 ((gA σ 2 (l1).toNatClampNeg)).toNatClampNeg) + l2)))) : am_K ru am_Lm IX11_weigh (d + 1) [.ref 0, .int l1, .int l2] σ Q := K_of am_owX11_weigh (Nat.le_of_ble_eq_true rfl) (X_ifn (fun _ _ => blX11_weigh_0 H.1) (fun z0 => (X_go (fun _ _ => blX11_weigh_25) (H.2.1 z0))) (fun z0 => (X_ret (fun _ _ => blX11_weigh_9 (H.2.2 z0).1 (H.2.2 z0).2.1 (H.2.2 z0).2.2.1) (H.2.2 z0).2.2.2)))
set_option maxRecDepth 20000 in
theorem vX11_weigh_27 {d : Nat} {σ : am_S} {Q : Unit → am_S → Prop} {l1 : Int32} {l2 : Int32} {l3 : Int32} (H :
    ((gS σ 0 41) ≤ l3 →
      (l3 = (gS σ 0 41) →
        am_X ru am_Lm IX11_weigh (d + 1) 83 [some (.ref 0), some (.int l1), some (.int l2), some (.int l3), some (.int (gS σ 0 41))] [] σ Q) ∧
      (¬ l3 = (gS σ 0 41) →
        (vp_in l3 17) ∧
        am_K ri am_Lm IX11_ordered d [.ref 0, .int (gA σ 28 (l3).toNatClampNeg), .int l1] σ (fun r1 σ1 =>
          (r1 = 0 →
            (vp_in l3 17) ∧
            (vp_in l3 17) ∧
            Q () (wA σ1 29 (l3).toNatClampNeg ((gA σ1 29 (l3).toNatClampNeg) + l2))) ∧
          (¬ r1 = 0 →
            am_X ru am_Lm IX11_weigh (d + 1) 83 [some (.ref 0), some (.int l1), some (.int l2), some (.int l3), some (.int (gS σ1 0 41))] [] σ1 Q)))) ∧
    (¬ (gS σ 0 41) ≤ l3 →
      (vp_in l3 17) ∧
      am_K ri am_Lm IX11_ordered d [.ref 0, .int (gA σ 28 (l3).toNatClampNeg), .int l1] σ (fun r2 σ2 =>
        (0 ≤ r2 →
          (l3 = (gS σ2 0 41) →
            am_X ru am_Lm IX11_weigh (d + 1) 83 [some (.ref 0), some (.int l1), some (.int l2), some (.int l3), some (.int (gS σ2 0 41))] [] σ2 Q) ∧
          (¬ l3 = (gS σ2 0 41) →
            (vp_in l3 17) ∧
            am_K ri am_Lm IX11_ordered d [.ref 0, .int (gA σ2 28 (l3).toNatClampNeg), .int l1] σ2 (fun r3 σ3 =>
              (r3 = 0 →
                (vp_in l3 17) ∧
                (vp_in l3 17) ∧
                Q () (wA σ3 29 (l3).toNatClampNeg ((gA σ3 29 (l3).toNatClampNeg) + l2))) ∧
              (¬ r3 = 0 →
                am_X ru am_Lm IX11_weigh (d + 1) 83 [some (.ref 0), some (.int l1), some (.int l2), some (.int l3), some (.int (gS σ3 0 41))] [] σ3 Q)))) ∧
        (¬ 0 ≤ r2 →
          am_X ru am_Lm IX11_weigh (d + 1) 27 [some (.ref 0), some (.int l1), some (.int l2), some (.int (l3 + (1 : Int32))), none] [] σ2 Q)))) : am_X ru am_Lm IX11_weigh (d + 1) 27 [some (.ref 0), some (.int l1), some (.int l2), some (.int l3), none] [] σ Q := (X_if (fun _ _ => blX11_weigh_27) (fun z0 => (X_if (fun _ _ => blX11_weigh_55) (fun z1 => (X_go (fun _ _ => blX11_weigh_77) ((H.1 z0).1 z1))) (fun z1 => (X_call (fun _ _ _ _ => blX11_weigh_63 ((H.1 z0).2 z1).1) (K_mono ((H.1 z0).2 z1).2 (fun r1 σ1 q2 => (X_if (fun _ _ => blX11_weigh_74) (fun z3 => (X_ret (fun _ _ => blX11_weigh_151 (q2.1 z3).1 (q2.1 z3).2.1) (q2.1 z3).2.2)) (fun z3 => (X_go (fun _ _ => blX11_weigh_77) (q2.2 z3)))))))))) (fun z0 => (X_call (fun _ _ _ _ => blX11_weigh_35 (H.2 z0).1) (K_mono (H.2 z0).2 (fun r2 σ2 q1 => (X_if (fun _ _ => blX11_weigh_46) (fun z2 => (X_if (fun _ _ => blX11_weigh_55) (fun z3 => (X_go (fun _ _ => blX11_weigh_77) ((q1.1 z2).1 z3))) (fun z3 => (X_call (fun _ _ _ _ => blX11_weigh_63 ((q1.1 z2).2 z3).1) (K_mono ((q1.1 z2).2 z3).2 (fun r3 σ3 q4 => (X_if (fun _ _ => blX11_weigh_74) (fun z5 => (X_ret (fun _ _ => blX11_weigh_151 (q4.1 z5).1 (q4.1 z5).2.1) (q4.1 z5).2.2)) (fun z5 => (X_go (fun _ _ => blX11_weigh_77) (q4.2 z5)))))))))) (fun z2 => (X_go (fun _ _ => blX11_weigh_49) (q1.2 z2)))))))))
set_option maxRecDepth 20000 in
theorem vX11_weigh_83 {d : Nat} {σ : am_S} {Q : Unit → am_S → Prop} {l1 : Int32} {l2 : Int32} {l3 : Int32} {l4 : Int32} (H :
    (l4 ≤ l3 →
      (vp_in l3 17) ∧
      (vp_in l3 17) ∧
      (vp_in l3 17) ∧
      (vp_in l3 17) ∧
      Q () (wA (wS (wA (wA σ 28 (l3).toNatClampNeg l1) 29 (l3).toNatClampNeg (0 : Int32)) 0 41 ((gS σ 0 41) + (1 : Int32))) 29 (l3).toNatClampNeg ((gA (wA (wA σ 28 (l3).toNatClampNeg l1) 29 (l3).toNatClampNeg (0 : Int32)) 29 (l3).toNatClampNeg) + l2))) ∧
    (¬ l4 ≤ l3 →
      (vp_in (l4 - (1 : Int32)) 17) ∧
      (vp_in l4 17) ∧
      (vp_in (l4 - (1 : Int32)) 17) ∧
      (vp_in l4 17) ∧
      am_X ru am_Lm IX11_weigh (d + 1) 83 [some (.ref 0), some (.int l1), some (.int l2), some (.int l3), some (.int (l4 + (-1 : Int32)))] [] (wA (wA σ 28 (l4).toNatClampNeg (gA σ 28 ((l4 - (1 : Int32))).toNatClampNeg)) 29 (l4).toNatClampNeg (gA σ 29 ((l4 - (1 : Int32))).toNatClampNeg)) Q)) : am_X ru am_Lm IX11_weigh (d + 1) 83 [some (.ref 0), some (.int l1), some (.int l2), some (.int l3), some (.int l4)] [] σ Q := (X_if (fun _ _ => blX11_weigh_83) (fun z0 => (X_go (fun _ _ => blX11_weigh_127 (H.1 z0).1 (H.1 z0).2.1) (X_ret (fun _ _ => blX11_weigh_151 (H.1 z0).2.2.1 (H.1 z0).2.2.2.1) (H.1 z0).2.2.2.2))) (fun z0 => (X_go (fun _ _ => blX11_weigh_89 (H.2 z0).1 (H.2 z0).2.1 (H.2 z0).2.2.1 (H.2 z0).2.2.2.1) (H.2 z0).2.2.2.2)))
set_option maxRecDepth 20000 in
theorem vX11_gather {d : Nat} {σ : am_S} {Q : Int32 → am_S → Prop} {l1 : Int32} {l2 : Int32} {l3 : Int32} (H :
    am_X ri am_Lm IX11_gather (d + 1) 3 [some (.ref 0), some (.int l1), some (.int l2), some (.int l3), some (.int (0 : Int32)), none] [] σ Q) : am_K ri am_Lm IX11_gather (d + 1) [.ref 0, .int l1, .int l2, .int l3] σ Q := K_of am_owX11_gather (Nat.le_of_ble_eq_true rfl) (X_go (fun _ _ => blX11_gather_0) H)
set_option maxRecDepth 20000 in
theorem vX11_gather_3 {d : Nat} {σ : am_S} {Q : Int32 → am_S → Prop} {l1 : Int32} {l2 : Int32} {l3 : Int32} {l4 : Int32} (H :
    ((22 : Int32) ≤ l4 →
      am_X ri am_Lm IX11_gather (d + 1) 32 [some (.ref 0), some (.int l1), some (.int l2), some (.int l3), some (.int (0 : Int32)), none] [] (wS σ 0 41 (0 : Int32)) Q) ∧
    (¬ (22 : Int32) ≤ l4 →
      (vp_in l4 22) ∧
      am_X ri am_Lm IX11_gather (d + 1) 3 [some (.ref 0), some (.int l1), some (.int l2), some (.int l3), some (.int (l4 + (1 : Int32))), none] [] (wA σ 27 (l4).toNatClampNeg (0 : Int32)) Q)) : am_X ri am_Lm IX11_gather (d + 1) 3 [some (.ref 0), some (.int l1), some (.int l2), some (.int l3), some (.int l4), none] [] σ Q := (X_if (fun _ _ => blX11_gather_3) (fun z0 => (X_go (fun _ _ => blX11_gather_24) (H.1 z0))) (fun z0 => (X_go (fun _ _ => blX11_gather_10 (H.2 z0).1) (H.2 z0).2)))
set_option maxRecDepth 20000 in
theorem vX11_gather_32 {d : Nat} {σ : am_S} {Q : Int32 → am_S → Prop} {l1 : Int32} {l2 : Int32} {l3 : Int32} {l4 : Int32} (H :
    am_K ri am_Lm IX11_partsBy d [.ref 0, .int l1, .int l3] σ (fun r1 σ1 =>
      (r1 ≤ l4 →
        am_X ri am_Lm IX11_gather (d + 1) 65 [some (.ref 0), some (.int l1), some (.int l2), some (.int l3), some (.int (0 : Int32)), none] [] σ1 Q) ∧
      (¬ r1 ≤ l4 →
        am_K ri am_Lm IX11_partBy d [.ref 0, .int l1, .int l3, .int l4] σ1 (fun r2 σ2 =>
          am_K ru am_Lm IX11_weigh d [.ref 0, .int r2, .int (1 : Int32)] σ2 (fun _ σ3 =>
            am_X ri am_Lm IX11_gather (d + 1) 32 [some (.ref 0), some (.int l1), some (.int l2), some (.int l3), some (.int (l4 + (1 : Int32))), none] [] σ3 Q))))) : am_X ri am_Lm IX11_gather (d + 1) 32 [some (.ref 0), some (.int l1), some (.int l2), some (.int l3), some (.int l4), none] [] σ Q := (X_call (fun _ _ _ _ => blX11_gather_32) (K_mono H (fun r1 σ1 q0 => (X_if (fun _ _ => blX11_gather_40) (fun z1 => (X_go (fun _ _ => blX11_gather_62) (q0.1 z1))) (fun z1 => (X_call (fun _ _ _ _ => blX11_gather_43) (K_mono (q0.2 z1) (fun r2 σ2 q2 => (X_call (fun _ _ _ _ => blX11_gather_52) (K_mono q2 (fun _ σ3 q3 => (X_go (fun _ _ => blX11_gather_56) q3))))))))))))
set_option maxRecDepth 20000 in
theorem vX11_gather_65 {d : Nat} {σ : am_S} {Q : Int32 → am_S → Prop} {l1 : Int32} {l2 : Int32} {l3 : Int32} {l4 : Int32} (H :
    am_K ri am_Lm IX11_partsBy d [.ref 0, .int l2, .int l3] σ (fun r1 σ1 =>
      (r1 ≤ l4 →
        am_X ri am_Lm IX11_gather (d + 1) 103 [some (.ref 0), some (.int l1), some (.int l2), some (.int l3), some (.int (0 : Int32)), none] [] (wS σ1 0 40 (0 : Int32)) Q) ∧
      (¬ r1 ≤ l4 →
        am_K ri am_Lm IX11_partBy d [.ref 0, .int l2, .int l3, .int l4] σ1 (fun r2 σ2 =>
          am_K ru am_Lm IX11_weigh d [.ref 0, .int r2, .int (-1 : Int32)] σ2 (fun _ σ3 =>
            am_X ri am_Lm IX11_gather (d + 1) 65 [some (.ref 0), some (.int l1), some (.int l2), some (.int l3), some (.int (l4 + (1 : Int32))), none] [] σ3 Q))))) : am_X ri am_Lm IX11_gather (d + 1) 65 [some (.ref 0), some (.int l1), some (.int l2), some (.int l3), some (.int l4), none] [] σ Q := (X_call (fun _ _ _ _ => blX11_gather_65) (K_mono H (fun r1 σ1 q0 => (X_if (fun _ _ => blX11_gather_73) (fun z1 => (X_go (fun _ _ => blX11_gather_95) (q0.1 z1))) (fun z1 => (X_call (fun _ _ _ _ => blX11_gather_76) (K_mono (q0.2 z1) (fun r2 σ2 q2 => (X_call (fun _ _ _ _ => blX11_gather_85) (K_mono q2 (fun _ σ3 q3 => (X_go (fun _ _ => blX11_gather_89) q3))))))))))))
set_option maxRecDepth 20000 in
theorem vX11_gather_103 {d : Nat} {σ : am_S} {Q : Int32 → am_S → Prop} {l1 : Int32} {l2 : Int32} {l3 : Int32} {l4 : Int32} (H :
    ((6 : Int32) ≤ l4 →
      am_X ri am_Lm IX11_gather (d + 1) 169 [some (.ref 0), some (.int l1), some (.int l2), some (.int l3), some (.int (0 : Int32)), some (.int (0 : Int32))] [] σ Q) ∧
    (¬ (6 : Int32) ≤ l4 →
      (vp_in l4 22) ∧
      ((gA σ 27 (l4).toNatClampNeg) = 0 →
        am_X ri am_Lm IX11_gather (d + 1) 103 [some (.ref 0), some (.int l1), some (.int l2), some (.int l3), some (.int (l4 + (1 : Int32))), none] [] σ Q) ∧
      (¬ (gA σ 27 (l4).toNatClampNeg) = 0 →
        (vp_in (gS σ 0 40) 6) ∧
        (vp_in l4 22) ∧
        (vp_in (gS σ 0 40) 32) ∧
        am_X ri am_Lm IX11_gather (d + 1) 103 [some (.ref 0), some (.int l1), some (.int l2), some (.int l3), some (.int (l4 + (1 : Int32))), none] [] (wS (wA (wA σ 22 ((gS σ 0 40)).toNatClampNeg l4) 23 ((gS σ 0 40)).toNatClampNeg (gA σ 27 (l4).toNatClampNeg)) 0 40 ((gS σ 0 40) + (1 : Int32))) Q))) : am_X ri am_Lm IX11_gather (d + 1) 103 [some (.ref 0), some (.int l1), some (.int l2), some (.int l3), some (.int l4), none] [] σ Q := (X_if (fun _ _ => blX11_gather_103) (fun z0 => (X_go (fun _ _ => blX11_gather_163) (H.1 z0))) (fun z0 => (X_if (fun _ _ => blX11_gather_110 (H.2 z0).1) (fun z1 => (X_go (fun _ _ => blX11_gather_157) ((H.2 z0).2.1 z1))) (fun z1 => (X_go (fun _ _ => blX11_gather_120 ((H.2 z0).2.2 z1).1 ((H.2 z0).2.2 z1).2.1 ((H.2 z0).2.2 z1).2.2.1) (X_go (fun _ _ => blX11_gather_157) ((H.2 z0).2.2 z1).2.2.2))))))
set_option maxRecDepth 20000 in
theorem vX11_gather_169 {d : Nat} {σ : am_S} {Q : Int32 → am_S → Prop} {l1 : Int32} {l2 : Int32} {l3 : Int32} {l4 : Int32} {l5 : Int32} (H :
    ((gS σ 0 41) ≤ l5 →
      Q ((gS σ 0 40) + l4) (wS σ 0 41 l4)) ∧
    (¬ (gS σ 0 41) ≤ l5 →
      (vp_in l5 17) ∧
      ((gA σ 29 (l5).toNatClampNeg) = 0 →
        am_X ri am_Lm IX11_gather (d + 1) 169 [some (.ref 0), some (.int l1), some (.int l2), some (.int l3), some (.int l4), some (.int (l5 + (1 : Int32)))] [] σ Q) ∧
      (¬ (gA σ 29 (l5).toNatClampNeg) = 0 →
        (vp_in l5 17) ∧
        am_K ru am_Lm IX11_copy d [.ref 0, .int (gA σ 28 (l5).toNatClampNeg), .int ((16640 : Int32) + ((40 : Int32) * l4))] σ (fun _ σ1 =>
          (vp_in l5 17) ∧
          (vp_in ((gS σ1 0 40) + l4) 32) ∧
          am_X ri am_Lm IX11_gather (d + 1) 169 [some (.ref 0), some (.int l1), some (.int l2), some (.int l3), some (.int (l4 + (1 : Int32))), some (.int (l5 + (1 : Int32)))] [] (wA σ1 23 (((gS σ1 0 40) + l4)).toNatClampNeg (gA σ1 29 (l5).toNatClampNeg)) Q)))) : am_X ri am_Lm IX11_gather (d + 1) 169 [some (.ref 0), some (.int l1), some (.int l2), some (.int l3), some (.int l4), some (.int l5)] [] σ Q := (X_if (fun _ _ => blX11_gather_169) (fun z0 => (X_ret (fun _ _ => blX11_gather_236) (H.1 z0))) (fun z0 => (X_if (fun _ _ => blX11_gather_178 (H.2 z0).1) (fun z1 => (X_go (fun _ _ => blX11_gather_230) ((H.2 z0).2.1 z1))) (fun z1 => (X_call (fun _ _ _ _ => blX11_gather_188 ((H.2 z0).2.2 z1).1) (K_mono ((H.2 z0).2.2 z1).2 (fun _ σ1 q2 => (X_go (fun _ _ => blX11_gather_208 q2.1 q2.2.1) (X_go (fun _ _ => blX11_gather_230) q2.2.2)))))))))
set_option maxRecDepth 20000 in
theorem vX11_isLeastBase {d : Nat} {σ : am_S} {Q : Int32 → am_S → Prop} {l1 : Int32} (H :
    am_X ri am_Lm IX11_isLeastBase (d + 1) 4 [some (.ref 0), some (.int l1), some (.int (1 : Int32)), some (.int (0 : Int32)), none, none] [] σ Q) : am_K ri am_Lm IX11_isLeastBase (d + 1) [.ref 0, .int l1] σ Q := K_of am_owX11_isLeastBase (Nat.le_of_ble_eq_true rfl) (X_go (fun _ _ => blX11_isLeastBase_0) H)
set_option maxRecDepth 20000 in
theorem vX11_isLeastBase_4 {d : Nat} {σ : am_S} {Q : Int32 → am_S → Prop} {l1 : Int32} {l2 : Int32} {l3 : Int32} (H :
    ((gS σ 0 36) ≤ l3 →
      (l2 = 0 ∨ l2 = 1) ∧ Q l2 σ) ∧
    (¬ (gS σ 0 36) ≤ l3 →
      (l2 = 0 →
        (l2 = 0 ∨ l2 = 1) ∧ Q l2 σ) ∧
      (¬ l2 = 0 →
        am_X ri am_Lm IX11_isLeastBase (d + 1) 22 [some (.ref 0), some (.int l1), some (.int l2), some (.int l3), some (.int (1 : Int32)), some (.int (0 : Int32))] [] σ Q))) : am_X ri am_Lm IX11_isLeastBase (d + 1) 4 [some (.ref 0), some (.int l1), some (.int l2), some (.int l3), none, none] [] σ Q := (X_if (fun _ _ => blX11_isLeastBase_4) (fun z0 => (X_ret (fun _ _ => blX11_isLeastBase_85 (H.1 z0).1) (H.1 z0).2)) (fun z0 => (X_if (fun _ _ => blX11_isLeastBase_12) (fun z1 => (X_ret (fun _ _ => blX11_isLeastBase_85 ((H.2 z0).1 z1).1) ((H.2 z0).1 z1).2)) (fun z1 => (X_go (fun _ _ => blX11_isLeastBase_16) ((H.2 z0).2 z1))))))
set_option maxRecDepth 20000 in
theorem vX11_isLeastBase_22 {d : Nat} {σ : am_S} {Q : Int32 → am_S → Prop} {l1 : Int32} {l2 : Int32} {l3 : Int32} {l4 : Int32} {l5 : Int32} (H :
    (l1 ≤ l5 →
      (¬ l4 = 0 →
        am_X ri am_Lm IX11_isLeastBase (d + 1) 4 [some (.ref 0), some (.int l1), some (.int (0 : Int32)), some (.int (l3 + (1 : Int32))), none, none] [] σ Q) ∧
      (l4 = 0 →
        am_X ri am_Lm IX11_isLeastBase (d + 1) 4 [some (.ref 0), some (.int l1), some (.int (1 : Int32)), some (.int (l3 + (1 : Int32))), none, none] [] σ Q)) ∧
    (¬ l1 ≤ l5 →
      (l4 = 0 →
        (¬ l4 = 0 →
          am_X ri am_Lm IX11_isLeastBase (d + 1) 4 [some (.ref 0), some (.int l1), some (.int (0 : Int32)), some (.int (l3 + (1 : Int32))), none, none] [] σ Q) ∧
        (l4 = 0 →
          am_X ri am_Lm IX11_isLeastBase (d + 1) 4 [some (.ref 0), some (.int l1), some (.int (1 : Int32)), some (.int (l3 + (1 : Int32))), none, none] [] σ Q)) ∧
      (¬ l4 = 0 →
        (vp_in (((32 : Int32) * l3) + l5) 600) ∧
        (vp_in l5 32) ∧
        ((gA σ 20 (l5).toNatClampNeg) < (gA σ 24 ((((32 : Int32) * l3) + l5)).toNatClampNeg) →
          am_X ri am_Lm IX11_isLeastBase (d + 1) 22 [some (.ref 0), some (.int l1), some (.int l2), some (.int l3), some (.int (0 : Int32)), some (.int (l5 + (1 : Int32)))] [] σ Q) ∧
        (¬ (gA σ 20 (l5).toNatClampNeg) < (gA σ 24 ((((32 : Int32) * l3) + l5)).toNatClampNeg) →
          am_X ri am_Lm IX11_isLeastBase (d + 1) 22 [some (.ref 0), some (.int l1), some (.int l2), some (.int l3), some (.int (1 : Int32)), some (.int (l5 + (1 : Int32)))] [] σ Q)))) : am_X ri am_Lm IX11_isLeastBase (d + 1) 22 [some (.ref 0), some (.int l1), some (.int l2), some (.int l3), some (.int l4), some (.int l5)] [] σ Q := (X_if (fun _ _ => blX11_isLeastBase_22) (fun z0 => (X_ifn (fun _ _ => blX11_isLeastBase_68) (fun z1 => (X_go (fun _ _ => blX11_isLeastBase_77) (X_go (fun _ _ => blX11_isLeastBase_78) ((H.1 z0).1 z1)))) (fun z1 => (X_go (fun _ _ => blX11_isLeastBase_73) (X_go (fun _ _ => blX11_isLeastBase_78) ((H.1 z0).2 z1)))))) (fun z0 => (X_if (fun _ _ => blX11_isLeastBase_28) (fun z1 => (X_ifn (fun _ _ => blX11_isLeastBase_68) (fun z2 => (X_go (fun _ _ => blX11_isLeastBase_77) (X_go (fun _ _ => blX11_isLeastBase_78) (((H.2 z0).1 z1).1 z2)))) (fun z2 => (X_go (fun _ _ => blX11_isLeastBase_73) (X_go (fun _ _ => blX11_isLeastBase_78) (((H.2 z0).1 z1).2 z2)))))) (fun z1 => (X_if (fun _ _ => blX11_isLeastBase_33 ((H.2 z0).2 z1).1 ((H.2 z0).2 z1).2.1) (fun z2 => (X_go (fun _ _ => blX11_isLeastBase_59) (X_go (fun _ _ => blX11_isLeastBase_60) (((H.2 z0).2 z1).2.2.1 z2)))) (fun z2 => (X_go (fun _ _ => blX11_isLeastBase_55) (X_go (fun _ _ => blX11_isLeastBase_60) (((H.2 z0).2 z1).2.2.2 z2)))))))))
set_option maxRecDepth 20000 in
theorem vX11_giveBase {d : Nat} {σ : am_S} {Q : Unit → am_S → Prop} {l1 : Int32} {l2 : Int32} {l3 : Int32} {l4 : Int32} {l5 : Int32} {l6 : Int32} (H :
    ((gS σ 0 27) = 0 →
      (¬ l1 = l2 →
        (vp_in l1 32) ∧
        ((gA σ 23 (l1).toNatClampNeg) ≤ 0 →
          am_X ru am_Lm IX11_giveBase (d + 1) 124 [some (.ref 0), some (.int l1), some (.int l2), some (.int l3), some (.int l4), some (.int l5), some (.int l6), some (.int l5), some (.int (0 : Int32))] [] σ Q) ∧
        (¬ (gA σ 23 (l1).toNatClampNeg) ≤ 0 →
          am_X ru am_Lm IX11_giveBase (d + 1) 124 [some (.ref 0), some (.int l1), some (.int l2), some (.int l3), some (.int l4), some (.int l5), some (.int l6), some (.int l4), some (.int (0 : Int32))] [] σ Q)) ∧
      (l1 = l2 →
        (¬ l3 = 0 →
          Q () σ) ∧
        (l3 = 0 →
          (¬ l6 = 0 →
            Q () σ) ∧
          (l6 = 0 →
            am_K ri am_Lm IX11_isLeastBase d [.ref 0, .int l2] σ (fun r1 σ1 =>
              (r1 = 0 →
                Q () σ1) ∧
              (¬ r1 = 0 →
                (¬ (gS σ1 0 36) = (16 : Int32) →
                  (((0 : Int32) = 0 ∨ (0 : Int32) = 1)) ∧
                  am_X ru am_Lm IX11_giveBase (d + 1) 58 [some (.ref 0), some (.int l1), some (.int l2), some (.int l3), some (.int l4), some (.int l5), some (.int l6), some (.int (0 : Int32)), none] [] (wS σ1 0 27 (0 : Int32)) Q) ∧
                ((gS σ1 0 36) = (16 : Int32) →
                  (((1 : Int32) = 0 ∨ (1 : Int32) = 1)) ∧
                  Q () (wS σ1 0 27 (1 : Int32))))))))) ∧
    (¬ (gS σ 0 27) = 0 →
      Q () σ)) : am_K ru am_Lm IX11_giveBase (d + 1) [.ref 0, .int l1, .int l2, .int l3, .int l4, .int l5, .int l6] σ Q := K_of am_owX11_giveBase (Nat.le_of_ble_eq_true rfl) (X_if (fun _ _ => blX11_giveBase_0) (fun z0 => (X_ifn (fun _ _ => blX11_giveBase_8) (fun z1 => (X_if (fun _ _ => blX11_giveBase_103 ((H.1 z0).1 z1).1) (fun z2 => (X_go (fun _ _ => blX11_giveBase_117) (X_go (fun _ _ => blX11_giveBase_119) (((H.1 z0).1 z1).2.1 z2)))) (fun z2 => (X_go (fun _ _ => blX11_giveBase_112) (X_go (fun _ _ => blX11_giveBase_119) (((H.1 z0).1 z1).2.2 z2)))))) (fun z1 => (X_ifn (fun _ _ => blX11_giveBase_13) (fun z2 => (X_ret (fun _ _ => blX11_giveBase_102) (((H.1 z0).2 z1).1 z2))) (fun z2 => (X_ifn (fun _ _ => blX11_giveBase_17) (fun z3 => (X_ret (fun _ _ => blX11_giveBase_102) ((((H.1 z0).2 z1).2 z2).1 z3))) (fun z3 => (X_call (fun _ _ _ _ => blX11_giveBase_22) (K_mono ((((H.1 z0).2 z1).2 z2).2 z3) (fun r1 σ1 q4 => (X_if (fun _ _ => blX11_giveBase_27) (fun z5 => (X_ret (fun _ _ => blX11_giveBase_102) (q4.1 z5))) (fun z5 => (X_ifn (fun _ _ => blX11_giveBase_30) (fun z6 => (X_go (fun _ _ => blX11_giveBase_44) (X_go (fun _ _ h => blX11_giveBase_45 ((q4.2 z5).1 z6).1 (fun z => absurd z (by decide)) (fun _ => h)) (X_go (fun _ _ => blX11_giveBase_55) ((q4.2 z5).1 z6).2)))) (fun z6 => (X_go (fun _ _ => blX11_giveBase_40) (X_go (fun _ _ h => blX11_giveBase_45 ((q4.2 z5).2 z6).1 (fun _ => h) (fun z => absurd z (by decide))) (X_ret (fun _ _ => blX11_giveBase_102) ((q4.2 z5).2 z6).2))))))))))))))))) (fun z0 => (X_ret (fun _ _ => blX11_giveBase_7) (H.2 z0))))
set_option maxRecDepth 20000 in
theorem vX11_giveBase_58 {d : Nat} {σ : am_S} {Q : Unit → am_S → Prop} {l1 : Int32} {l2 : Int32} {l3 : Int32} {l4 : Int32} {l5 : Int32} {l6 : Int32} {l7 : Int32} (H :
    (l2 ≤ l7 →
      Q () (wS σ 0 36 ((gS σ 0 36) + (1 : Int32)))) ∧
    (¬ l2 ≤ l7 →
      (vp_in l7 32) ∧
      (vp_in (((32 : Int32) * (gS σ 0 36)) + l7) 600) ∧
      am_X ru am_Lm IX11_giveBase (d + 1) 58 [some (.ref 0), some (.int l1), some (.int l2), some (.int l3), some (.int l4), some (.int l5), some (.int l6), some (.int (l7 + (1 : Int32))), none] [] (wA σ 24 ((((32 : Int32) * (gS σ 0 36)) + l7)).toNatClampNeg (gA σ 20 (l7).toNatClampNeg)) Q)) : am_X ru am_Lm IX11_giveBase (d + 1) 58 [some (.ref 0), some (.int l1), some (.int l2), some (.int l3), some (.int l4), some (.int l5), some (.int l6), some (.int l7), none] [] σ Q := (X_if (fun _ _ => blX11_giveBase_58) (fun z0 => (X_go (fun _ _ => blX11_giveBase_92) (X_ret (fun _ _ => blX11_giveBase_102) (H.1 z0)))) (fun z0 => (X_go (fun _ _ => blX11_giveBase_64 (H.2 z0).1 (H.2 z0).2.1) (H.2 z0).2.2)))
set_option maxRecDepth 20000 in
theorem vX11_giveBase_124 {d : Nat} {σ : am_S} {Q : Unit → am_S → Prop} {l1 : Int32} {l2 : Int32} {l3 : Int32} {l4 : Int32} {l5 : Int32} {l6 : Int32} {l7 : Int32} {l8 : Int32} (H :
    (l3 < l8 →
      (vp_in l1 32) ∧
      Q () (wA σ 20 (l1).toNatClampNeg (0 : Int32))) ∧
    (¬ l3 < l8 →
      (l7 < l8 →
        (vp_in l1 32) ∧
        Q () (wA σ 20 (l1).toNatClampNeg (0 : Int32))) ∧
      (¬ l7 < l8 →
        (vp_in l1 32) ∧
        (vp_in l1 32) ∧
        ((gA σ 23 (l1).toNatClampNeg) ≤ 0 →
          (vp_in l1 32) ∧
          ((gA σ 23 (l1).toNatClampNeg) ≤ 0 →
            (vp_in l1 32) ∧
            am_K ru am_Lm IX11_giveBase d [.ref 0, .int (l1 + (1 : Int32)), .int l2, .int (l3 - l8), .int l4, .int (l5 - l8), .int (l6 + (l8 * (gA σ 23 (l1).toNatClampNeg)))] (wA σ 20 (l1).toNatClampNeg l8) (fun _ σ1 =>
              am_X ru am_Lm IX11_giveBase (d + 1) 124 [some (.ref 0), some (.int l1), some (.int l2), some (.int l3), some (.int l4), some (.int l5), some (.int l6), some (.int l7), some (.int (l8 + (1 : Int32)))] [] σ1 Q)) ∧
          (¬ (gA σ 23 (l1).toNatClampNeg) ≤ 0 →
            (vp_in l1 32) ∧
            am_K ru am_Lm IX11_giveBase d [.ref 0, .int (l1 + (1 : Int32)), .int l2, .int (l3 - l8), .int l4, .int l5, .int (l6 + (l8 * (gA σ 23 (l1).toNatClampNeg)))] (wA σ 20 (l1).toNatClampNeg l8) (fun _ σ2 =>
              am_X ru am_Lm IX11_giveBase (d + 1) 124 [some (.ref 0), some (.int l1), some (.int l2), some (.int l3), some (.int l4), some (.int l5), some (.int l6), some (.int l7), some (.int (l8 + (1 : Int32)))] [] σ2 Q))) ∧
        (¬ (gA σ 23 (l1).toNatClampNeg) ≤ 0 →
          (vp_in l1 32) ∧
          ((gA σ 23 (l1).toNatClampNeg) ≤ 0 →
            (vp_in l1 32) ∧
            am_K ru am_Lm IX11_giveBase d [.ref 0, .int (l1 + (1 : Int32)), .int l2, .int (l3 - l8), .int (l4 - l8), .int (l5 - l8), .int (l6 + (l8 * (gA σ 23 (l1).toNatClampNeg)))] (wA σ 20 (l1).toNatClampNeg l8) (fun _ σ3 =>
              am_X ru am_Lm IX11_giveBase (d + 1) 124 [some (.ref 0), some (.int l1), some (.int l2), some (.int l3), some (.int l4), some (.int l5), some (.int l6), some (.int l7), some (.int (l8 + (1 : Int32)))] [] σ3 Q)) ∧
          (¬ (gA σ 23 (l1).toNatClampNeg) ≤ 0 →
            (vp_in l1 32) ∧
            am_K ru am_Lm IX11_giveBase d [.ref 0, .int (l1 + (1 : Int32)), .int l2, .int (l3 - l8), .int (l4 - l8), .int l5, .int (l6 + (l8 * (gA σ 23 (l1).toNatClampNeg)))] (wA σ 20 (l1).toNatClampNeg l8) (fun _ σ4 =>
              am_X ru am_Lm IX11_giveBase (d + 1) 124 [some (.ref 0), some (.int l1), some (.int l2), some (.int l3), some (.int l4), some (.int l5), some (.int l6), some (.int l7), some (.int (l8 + (1 : Int32)))] [] σ4 Q)))))) : am_X ru am_Lm IX11_giveBase (d + 1) 124 [some (.ref 0), some (.int l1), some (.int l2), some (.int l3), some (.int l4), some (.int l5), some (.int l6), some (.int l7), some (.int l8)] [] σ Q := (X_if (fun _ _ => blX11_giveBase_124) (fun z0 => (X_ret (fun _ _ => blX11_giveBase_213 (H.1 z0).1) (H.1 z0).2)) (fun z0 => (X_if (fun _ _ => blX11_giveBase_130) (fun z1 => (X_ret (fun _ _ => blX11_giveBase_213 ((H.2 z0).1 z1).1) ((H.2 z0).1 z1).2)) (fun z1 => (X_if (fun _ _ => blX11_giveBase_137 ((H.2 z0).2 z1).1 ((H.2 z0).2 z1).2.1) (fun z2 => (X_go (fun _ _ => blX11_giveBase_171) (X_if (fun _ _ => blX11_giveBase_173 (((H.2 z0).2 z1).2.2.1 z2).1) (fun z4 => (X_go (fun _ _ => blX11_giveBase_187) (X_call (fun _ _ _ _ => blX11_giveBase_192 ((((H.2 z0).2 z1).2.2.1 z2).2.1 z4).1) (K_mono ((((H.2 z0).2 z1).2.2.1 z2).2.1 z4).2 (fun _ σ1 q6 => (X_go (fun _ _ => blX11_giveBase_207) q6)))))) (fun z4 => (X_go (fun _ _ => blX11_giveBase_182) (X_call (fun _ _ _ _ => blX11_giveBase_192 ((((H.2 z0).2 z1).2.2.1 z2).2.2 z4).1) (K_mono ((((H.2 z0).2 z1).2.2.1 z2).2.2 z4).2 (fun _ σ2 q6 => (X_go (fun _ _ => blX11_giveBase_207) q6))))))))) (fun z2 => (X_go (fun _ _ => blX11_giveBase_163) (X_if (fun _ _ => blX11_giveBase_173 (((H.2 z0).2 z1).2.2.2 z2).1) (fun z4 => (X_go (fun _ _ => blX11_giveBase_187) (X_call (fun _ _ _ _ => blX11_giveBase_192 ((((H.2 z0).2 z1).2.2.2 z2).2.1 z4).1) (K_mono ((((H.2 z0).2 z1).2.2.2 z2).2.1 z4).2 (fun _ σ3 q6 => (X_go (fun _ _ => blX11_giveBase_207) q6)))))) (fun z4 => (X_go (fun _ _ => blX11_giveBase_182) (X_call (fun _ _ _ _ => blX11_giveBase_192 ((((H.2 z0).2 z1).2.2.2 z2).2.2 z4).1) (K_mono ((((H.2 z0).2 z1).2.2.2 z2).2.2 z4).2 (fun _ σ4 q6 => (X_go (fun _ _ => blX11_giveBase_207) q6))))))))))))))
set_option maxRecDepth 20000 in
theorem vX11_orderBases {d : Nat} {σ : am_S} {Q : Int32 → am_S → Prop} {l1 : Int32} {l2 : Int32} {l3 : Int32} (H :
    am_X ri am_Lm IX11_orderBases (d + 1) 3 [some (.ref 0), some (.int l1), some (.int l2), some (.int l3), some (.int (0 : Int32))] [] σ Q) : am_K ri am_Lm IX11_orderBases (d + 1) [.ref 0, .int l1, .int l2, .int l3] σ Q := K_of am_owX11_orderBases (Nat.le_of_ble_eq_true rfl) (X_go (fun _ _ => blX11_orderBases_0) H)
set_option maxRecDepth 20000 in
theorem vX11_orderBases_3 {d : Nat} {σ : am_S} {Q : Int32 → am_S → Prop} {l1 : Int32} {l2 : Int32} {l3 : Int32} {l4 : Int32} (H :
    (l3 ≤ l4 →
      Q (0 : Int32) σ) ∧
    (¬ l3 ≤ l4 →
      (vp_in (((32 : Int32) * l1) + l4) 600) ∧
      (vp_in (((32 : Int32) * l2) + l4) 600) ∧
      ((gA σ 24 ((((32 : Int32) * l1) + l4)).toNatClampNeg) = (gA σ 24 ((((32 : Int32) * l2) + l4)).toNatClampNeg) →
        am_X ri am_Lm IX11_orderBases (d + 1) 3 [some (.ref 0), some (.int l1), some (.int l2), some (.int l3), some (.int (l4 + (1 : Int32)))] [] σ Q) ∧
      (¬ (gA σ 24 ((((32 : Int32) * l1) + l4)).toNatClampNeg) = (gA σ 24 ((((32 : Int32) * l2) + l4)).toNatClampNeg) →
        (vp_in (((32 : Int32) * l1) + l4) 600) ∧
        (vp_in (((32 : Int32) * l2) + l4) 600) ∧
        Q ((gA σ 24 ((((32 : Int32) * l1) + l4)).toNatClampNeg) - (gA σ 24 ((((32 : Int32) * l2) + l4)).toNatClampNeg)) σ))) : am_X ri am_Lm IX11_orderBases (d + 1) 3 [some (.ref 0), some (.int l1), some (.int l2), some (.int l3), some (.int l4)] [] σ Q := (X_if (fun _ _ => blX11_orderBases_3) (fun z0 => (X_ret (fun _ _ => blX11_orderBases_68) (H.1 z0))) (fun z0 => (X_if (fun _ _ => blX11_orderBases_9 (H.2 z0).1 (H.2 z0).2.1) (fun z1 => (X_go (fun _ _ => blX11_orderBases_62) ((H.2 z0).2.2.1 z1))) (fun z1 => (X_ret (fun _ _ => blX11_orderBases_36 ((H.2 z0).2.2.2 z1).1 ((H.2 z0).2.2.2 z1).2.1) ((H.2 z0).2.2.2 z1).2.2)))))
set_option maxRecDepth 20000 in
theorem vX11_groundOf {d : Nat} {σ : am_S} {Q : Int32 → am_S → Prop} {l1 : Int32} (H :
    am_X ri am_Lm IX11_groundOf (d + 1) 4 [some (.ref 0), some (.int l1), some (.int (-1 : Int32)), some (.int (0 : Int32)), none] [] σ Q) : am_K ri am_Lm IX11_groundOf (d + 1) [.ref 0, .int l1] σ Q := K_of am_owX11_groundOf (Nat.le_of_ble_eq_true rfl) (X_go (fun _ _ => blX11_groundOf_0) H)
set_option maxRecDepth 20000 in
theorem vX11_groundOf_4 {d : Nat} {σ : am_S} {Q : Int32 → am_S → Prop} {l1 : Int32} {l2 : Int32} {l3 : Int32} (H :
    ((gS σ 0 41) ≤ l3 →
      Q l2 σ) ∧
    (¬ (gS σ 0 41) ≤ l3 →
      (vp_in l1 17) ∧
      (vp_in ((((32 : Int32) * (gA σ 25 (l1).toNatClampNeg)) + (gS σ 0 40)) + l3) 600) ∧
      (¬ (gA σ 24 (((((32 : Int32) * (gA σ 25 (l1).toNatClampNeg)) + (gS σ 0 40)) + l3)).toNatClampNeg) = 0 →
        (¬ (gA σ 24 (((((32 : Int32) * (gA σ 25 (l1).toNatClampNeg)) + (gS σ 0 40)) + l3)).toNatClampNeg) = (1 : Int32) →
          am_X ri am_Lm IX11_groundOf (d + 1) 4 [some (.ref 0), some (.int l1), some (.int (-2 : Int32)), some (.int (l3 + (1 : Int32))), none] [] σ Q) ∧
        ((gA σ 24 (((((32 : Int32) * (gA σ 25 (l1).toNatClampNeg)) + (gS σ 0 40)) + l3)).toNatClampNeg) = (1 : Int32) →
          (¬ l2 = (-1 : Int32) →
            am_X ri am_Lm IX11_groundOf (d + 1) 4 [some (.ref 0), some (.int l1), some (.int (-2 : Int32)), some (.int (l3 + (1 : Int32))), none] [] σ Q) ∧
          (l2 = (-1 : Int32) →
            am_X ri am_Lm IX11_groundOf (d + 1) 4 [some (.ref 0), some (.int l1), some (.int l3), some (.int (l3 + (1 : Int32))), none] [] σ Q))) ∧
      ((gA σ 24 (((((32 : Int32) * (gA σ 25 (l1).toNatClampNeg)) + (gS σ 0 40)) + l3)).toNatClampNeg) = 0 →
        am_X ri am_Lm IX11_groundOf (d + 1) 4 [some (.ref 0), some (.int l1), some (.int l2), some (.int (l3 + (1 : Int32))), none] [] σ Q))) : am_X ri am_Lm IX11_groundOf (d + 1) 4 [some (.ref 0), some (.int l1), some (.int l2), some (.int l3), none] [] σ Q := (X_if (fun _ _ => blX11_groundOf_4) (fun z0 => (X_ret (fun _ _ => blX11_groundOf_68) (H.1 z0))) (fun z0 => (X_ifn (fun _ _ => blX11_groundOf_12 (H.2 z0).1 (H.2 z0).2.1) (fun z1 => (X_ifn (fun _ _ => blX11_groundOf_44) (fun z2 => (X_go (fun _ _ => blX11_groundOf_59) (X_go (fun _ _ => blX11_groundOf_61) (((H.2 z0).2.2.1 z1).1 z2)))) (fun z2 => (X_ifn (fun _ _ => blX11_groundOf_50) (fun z3 => (X_go (fun _ _ => blX11_groundOf_59) (X_go (fun _ _ => blX11_groundOf_61) ((((H.2 z0).2.2.1 z1).2 z2).1 z3)))) (fun z3 => (X_go (fun _ _ => blX11_groundOf_55) (X_go (fun _ _ => blX11_groundOf_61) ((((H.2 z0).2.2.1 z1).2 z2).2 z3)))))))) (fun z1 => (X_go (fun _ _ => blX11_groundOf_40) (X_go (fun _ _ => blX11_groundOf_61) ((H.2 z0).2.2.2 z1)))))))
set_option maxRecDepth 20000 in
theorem vX11_isGood {d : Nat} {σ : am_S} {Q : Int32 → am_S → Prop} {l1 : Int32} (H :
    am_X ri am_Lm IX11_isGood (d + 1) 4 [some (.ref 0), some (.int l1), some (.int (0 : Int32)), some (.int (0 : Int32)), none, none] [] σ Q) : am_K ri am_Lm IX11_isGood (d + 1) [.ref 0, .int l1] σ Q := K_of am_owX11_isGood (Nat.le_of_ble_eq_true rfl) (X_go (fun _ _ => blX11_isGood_0) H)
set_option maxRecDepth 20000 in
theorem vX11_isGood_4 {d : Nat} {σ : am_S} {Q : Int32 → am_S → Prop} {l1 : Int32} {l2 : Int32} {l3 : Int32} (H :
    ((gS σ 0 36) ≤ l3 →
      (l2 = (((1 : Int32) <<< ((gS σ 0 41) &&& 31)) - (1 : Int32)) →
        am_X ri am_Lm IX11_isGood (d + 1) 91 [some (.ref 0), some (.int l1), some (.int l2), some (.int (0 : Int32)), none, none] [] σ Q) ∧
      (¬ l2 = (((1 : Int32) <<< ((gS σ 0 41) &&& 31)) - (1 : Int32)) →
        Q (0 : Int32) σ)) ∧
    (¬ (gS σ 0 36) ≤ l3 →
      (¬ ((l1 >>> (l3 &&& 31)) &&& (1 : Int32)) = (1 : Int32) →
        am_X ri am_Lm IX11_isGood (d + 1) 4 [some (.ref 0), some (.int l1), some (.int l2), some (.int (l3 + (1 : Int32))), none, none] [] σ Q) ∧
      (((l1 >>> (l3 &&& 31)) &&& (1 : Int32)) = (1 : Int32) →
        (vp_in l3 16) ∧
        ((gA σ 30 (l3).toNatClampNeg) = (-2 : Int32) →
          Q (0 : Int32) σ) ∧
        (¬ (gA σ 30 (l3).toNatClampNeg) = (-2 : Int32) →
          ((gA σ 30 (l3).toNatClampNeg) < 0 →
            ((gA σ 30 (l3).toNatClampNeg) < 0 →
              am_X ri am_Lm IX11_isGood (d + 1) 4 [some (.ref 0), some (.int l1), some (.int (l2 ||| (0 : Int32))), some (.int (l3 + (1 : Int32))), none, none] [] σ Q) ∧
            (¬ (gA σ 30 (l3).toNatClampNeg) < 0 →
              am_X ri am_Lm IX11_isGood (d + 1) 4 [some (.ref 0), some (.int l1), some (.int (l2 ||| ((1 : Int32) <<< ((gA σ 30 (l3).toNatClampNeg) &&& 31)))), some (.int (l3 + (1 : Int32))), none, none] [] σ Q)) ∧
          (¬ (gA σ 30 (l3).toNatClampNeg) < 0 →
            (¬ ((l2 >>> ((gA σ 30 (l3).toNatClampNeg) &&& 31)) &&& (1 : Int32)) = (1 : Int32) →
              ((gA σ 30 (l3).toNatClampNeg) < 0 →
                am_X ri am_Lm IX11_isGood (d + 1) 4 [some (.ref 0), some (.int l1), some (.int (l2 ||| (0 : Int32))), some (.int (l3 + (1 : Int32))), none, none] [] σ Q) ∧
              (¬ (gA σ 30 (l3).toNatClampNeg) < 0 →
                am_X ri am_Lm IX11_isGood (d + 1) 4 [some (.ref 0), some (.int l1), some (.int (l2 ||| ((1 : Int32) <<< ((gA σ 30 (l3).toNatClampNeg) &&& 31)))), some (.int (l3 + (1 : Int32))), none, none] [] σ Q)) ∧
            (((l2 >>> ((gA σ 30 (l3).toNatClampNeg) &&& 31)) &&& (1 : Int32)) = (1 : Int32) →
              Q (0 : Int32) σ)))))) : am_X ri am_Lm IX11_isGood (d + 1) 4 [some (.ref 0), some (.int l1), some (.int l2), some (.int l3), none, none] [] σ Q := (X_if (fun _ _ => blX11_isGood_4) (fun z0 => (X_if (fun _ _ => blX11_isGood_75) (fun z1 => (X_go (fun _ _ => blX11_isGood_89) ((H.1 z0).1 z1))) (fun z1 => (X_ret (fun _ _ => blX11_isGood_87 (Or.inl rfl)) ((H.1 z0).2 z1))))) (fun z0 => (X_ifn (fun _ _ => blX11_isGood_12) (fun z1 => (X_go (fun _ _ => blX11_isGood_69) ((H.2 z0).1 z1))) (fun z1 => (X_if (fun _ _ => blX11_isGood_21 ((H.2 z0).2 z1).1) (fun z2 => (X_ret (fun _ _ => blX11_isGood_51 (Or.inl rfl)) (((H.2 z0).2 z1).2.1 z2))) (fun z2 => (X_if (fun _ _ => blX11_isGood_36) (fun z3 => (X_if (fun _ _ => blX11_isGood_53) (fun z4 => (X_go (fun _ _ => blX11_isGood_66) (X_go (fun _ _ => blX11_isGood_67) (X_go (fun _ _ => blX11_isGood_69) (((((H.2 z0).2 z1).2.2 z2).1 z3).1 z4))))) (fun z4 => (X_go (fun _ _ => blX11_isGood_59) (X_go (fun _ _ => blX11_isGood_67) (X_go (fun _ _ => blX11_isGood_69) (((((H.2 z0).2 z1).2.2 z2).1 z3).2 z4))))))) (fun z3 => (X_ifn (fun _ _ => blX11_isGood_41) (fun z4 => (X_if (fun _ _ => blX11_isGood_53) (fun z5 => (X_go (fun _ _ => blX11_isGood_66) (X_go (fun _ _ => blX11_isGood_67) (X_go (fun _ _ => blX11_isGood_69) ((((((H.2 z0).2 z1).2.2 z2).2 z3).1 z4).1 z5))))) (fun z5 => (X_go (fun _ _ => blX11_isGood_59) (X_go (fun _ _ => blX11_isGood_67) (X_go (fun _ _ => blX11_isGood_69) ((((((H.2 z0).2 z1).2.2 z2).2 z3).1 z4).2 z5))))))) (fun z4 => (X_ret (fun _ _ => blX11_isGood_51 (Or.inl rfl)) (((((H.2 z0).2 z1).2.2 z2).2 z3).2 z4))))))))))))
set_option maxRecDepth 20000 in
theorem vX11_isGood_91 {d : Nat} {σ : am_S} {Q : Int32 → am_S → Prop} {l1 : Int32} {l2 : Int32} {l3 : Int32} (H :
    ((gS σ 0 40) ≤ l3 →
      Q (1 : Int32) σ) ∧
    (¬ (gS σ 0 40) ≤ l3 →
      am_X ri am_Lm IX11_isGood (d + 1) 105 [some (.ref 0), some (.int l1), some (.int l2), some (.int l3), some (.int (0 : Int32)), some (.int (0 : Int32))] [] σ Q)) : am_X ri am_Lm IX11_isGood (d + 1) 91 [some (.ref 0), some (.int l1), some (.int l2), some (.int l3), none, none] [] σ Q := (X_if (fun _ _ => blX11_isGood_91) (fun z0 => (X_ret (fun _ _ => blX11_isGood_162 (Or.inr rfl)) (H.1 z0))) (fun z0 => (X_go (fun _ _ => blX11_isGood_99) (H.2 z0))))
set_option maxRecDepth 20000 in
theorem vX11_isGood_105 {d : Nat} {σ : am_S} {Q : Int32 → am_S → Prop} {l1 : Int32} {l2 : Int32} {l3 : Int32} {l4 : Int32} {l5 : Int32} (H :
    ((gS σ 0 36) ≤ l5 →
      (¬ l4 = 0 →
        am_X ri am_Lm IX11_isGood (d + 1) 91 [some (.ref 0), some (.int l1), some (.int l2), some (.int (l3 + (1 : Int32))), none, none] [] σ Q) ∧
      (l4 = 0 →
        Q (0 : Int32) σ)) ∧
    (¬ (gS σ 0 36) ≤ l5 →
      (vp_in l5 17) ∧
      (vp_in (((32 : Int32) * (gA σ 25 (l5).toNatClampNeg)) + l3) 600) ∧
      am_X ri am_Lm IX11_isGood (d + 1) 105 [some (.ref 0), some (.int l1), some (.int l2), some (.int l3), some (.int (l4 + (((l1 >>> (l5 &&& 31)) &&& (1 : Int32)) * (gA σ 24 ((((32 : Int32) * (gA σ 25 (l5).toNatClampNeg)) + l3)).toNatClampNeg)))), some (.int (l5 + (1 : Int32)))] [] σ Q)) : am_X ri am_Lm IX11_isGood (d + 1) 105 [some (.ref 0), some (.int l1), some (.int l2), some (.int l3), some (.int l4), some (.int l5)] [] σ Q := (X_if (fun _ _ => blX11_isGood_105) (fun z0 => (X_ifn (fun _ _ => blX11_isGood_149) (fun z1 => (X_go (fun _ _ => blX11_isGood_156) ((H.1 z0).1 z1))) (fun z1 => (X_ret (fun _ _ => blX11_isGood_154 (Or.inl rfl)) ((H.1 z0).2 z1))))) (fun z0 => (X_go (fun _ _ => blX11_isGood_114 (H.2 z0).1 (H.2 z0).2.1) (H.2 z0).2.2)))
set_option maxRecDepth 20000 in
theorem vX11_findBases {d : Nat} {σ : am_S} {Q : Int32 → am_S → Prop} {l1 : Int32} (H :
    am_X ri am_Lm IX11_findBases (d + 1) 14 [some (.ref 0), some (.int l1), some (.int (0 : Int32)), some (.int (0 : Int32)), none] [] (wS (wS σ 0 47 (0 : Int32)) 0 48 (0 : Int32)) Q) : am_K ri am_Lm IX11_findBases (d + 1) [.ref 0, .int l1] σ Q := K_of am_owX11_findBases (Nat.le_of_ble_eq_true rfl) (X_go (fun _ _ => blX11_findBases_0) H)
set_option maxRecDepth 20000 in
theorem vX11_findBases_14 {d : Nat} {σ : am_S} {Q : Int32 → am_S → Prop} {l1 : Int32} {l2 : Int32} {l3 : Int32} (H :
    (l1 ≤ l3 →
      ((l2 * (l1 - l2)) ≤ (16 : Int32) →
        (((0 : Int32) = 0 ∨ (0 : Int32) = 1)) ∧
        am_X ri am_Lm IX11_findBases (d + 1) 130 [some (.ref 0), some (.int l1), some (.int l2), some (.int (2 : Int32)), none] [] (wS (wS σ 0 27 (0 : Int32)) 0 36 (0 : Int32)) Q) ∧
      (¬ (l2 * (l1 - l2)) ≤ (16 : Int32) →
        (((1 : Int32) = 0 ∨ (1 : Int32) = 1)) ∧
        am_X ri am_Lm IX11_findBases (d + 1) 130 [some (.ref 0), some (.int l1), some (.int l2), some (.int (2 : Int32)), none] [] (wS (wS σ 0 27 (1 : Int32)) 0 36 (0 : Int32)) Q)) ∧
    (¬ l1 ≤ l3 →
      (vp_in l3 32) ∧
      ((gA σ 23 (l3).toNatClampNeg) ≤ 0 →
        (vp_in l3 32) ∧
        ((gA σ 23 (l3).toNatClampNeg) ≤ (gS σ 0 47) →
          (vp_in l3 32) ∧
          ((-(gA σ 23 (l3).toNatClampNeg)) ≤ (gS σ 0 48) →
            am_X ri am_Lm IX11_findBases (d + 1) 14 [some (.ref 0), some (.int l1), some (.int (l2 + (0 : Int32))), some (.int (l3 + (1 : Int32))), none] [] (wS (wS σ 0 47 (gS σ 0 47)) 0 48 (gS σ 0 48)) Q) ∧
          (¬ (-(gA σ 23 (l3).toNatClampNeg)) ≤ (gS σ 0 48) →
            (vp_in l3 32) ∧
            am_X ri am_Lm IX11_findBases (d + 1) 14 [some (.ref 0), some (.int l1), some (.int (l2 + (0 : Int32))), some (.int (l3 + (1 : Int32))), none] [] (wS (wS σ 0 47 (gS σ 0 47)) 0 48 (-(gA σ 23 (l3).toNatClampNeg))) Q)) ∧
        (¬ (gA σ 23 (l3).toNatClampNeg) ≤ (gS σ 0 47) →
          (vp_in l3 32) ∧
          (vp_in l3 32) ∧
          ((-(gA σ 23 (l3).toNatClampNeg)) ≤ (gS σ 0 48) →
            am_X ri am_Lm IX11_findBases (d + 1) 14 [some (.ref 0), some (.int l1), some (.int (l2 + (0 : Int32))), some (.int (l3 + (1 : Int32))), none] [] (wS (wS σ 0 47 (gA σ 23 (l3).toNatClampNeg)) 0 48 (gS σ 0 48)) Q) ∧
          (¬ (-(gA σ 23 (l3).toNatClampNeg)) ≤ (gS σ 0 48) →
            (vp_in l3 32) ∧
            am_X ri am_Lm IX11_findBases (d + 1) 14 [some (.ref 0), some (.int l1), some (.int (l2 + (0 : Int32))), some (.int (l3 + (1 : Int32))), none] [] (wS (wS σ 0 47 (gA σ 23 (l3).toNatClampNeg)) 0 48 (-(gA σ 23 (l3).toNatClampNeg))) Q))) ∧
      (¬ (gA σ 23 (l3).toNatClampNeg) ≤ 0 →
        (vp_in l3 32) ∧
        ((gA σ 23 (l3).toNatClampNeg) ≤ (gS σ 0 47) →
          (vp_in l3 32) ∧
          ((-(gA σ 23 (l3).toNatClampNeg)) ≤ (gS σ 0 48) →
            am_X ri am_Lm IX11_findBases (d + 1) 14 [some (.ref 0), some (.int l1), some (.int (l2 + (1 : Int32))), some (.int (l3 + (1 : Int32))), none] [] (wS (wS σ 0 47 (gS σ 0 47)) 0 48 (gS σ 0 48)) Q) ∧
          (¬ (-(gA σ 23 (l3).toNatClampNeg)) ≤ (gS σ 0 48) →
            (vp_in l3 32) ∧
            am_X ri am_Lm IX11_findBases (d + 1) 14 [some (.ref 0), some (.int l1), some (.int (l2 + (1 : Int32))), some (.int (l3 + (1 : Int32))), none] [] (wS (wS σ 0 47 (gS σ 0 47)) 0 48 (-(gA σ 23 (l3).toNatClampNeg))) Q)) ∧
        (¬ (gA σ 23 (l3).toNatClampNeg) ≤ (gS σ 0 47) →
          (vp_in l3 32) ∧
          (vp_in l3 32) ∧
          ((-(gA σ 23 (l3).toNatClampNeg)) ≤ (gS σ 0 48) →
            am_X ri am_Lm IX11_findBases (d + 1) 14 [some (.ref 0), some (.int l1), some (.int (l2 + (1 : Int32))), some (.int (l3 + (1 : Int32))), none] [] (wS (wS σ 0 47 (gA σ 23 (l3).toNatClampNeg)) 0 48 (gS σ 0 48)) Q) ∧
          (¬ (-(gA σ 23 (l3).toNatClampNeg)) ≤ (gS σ 0 48) →
            (vp_in l3 32) ∧
            am_X ri am_Lm IX11_findBases (d + 1) 14 [some (.ref 0), some (.int l1), some (.int (l2 + (1 : Int32))), some (.int (l3 + (1 : Int32))), none] [] (wS (wS σ 0 47 (gA σ 23 (l3).toNatClampNeg)) 0 48 (-(gA σ 23 (l3).toNatClampNeg))) Q))))) : am_X ri am_Lm IX11_findBases (d + 1) 14 [some (.ref 0), some (.int l1), some (.int l2), some (.int l3), none] [] σ Q := (X_if (fun _ _ => blX11_findBases_14) (fun z0 => (X_if (fun _ _ => blX11_findBases_104) (fun z1 => (X_go (fun _ _ => blX11_findBases_119) (X_go (fun _ _ => blX11_findBases_120 ((H.1 z0).1 z1).1) ((H.1 z0).1 z1).2))) (fun z1 => (X_go (fun _ _ => blX11_findBases_115) (X_go (fun _ _ => blX11_findBases_120 ((H.1 z0).2 z1).1) ((H.1 z0).2 z1).2))))) (fun z0 => (X_if (fun _ _ => blX11_findBases_19 (H.2 z0).1) (fun z1 => (X_go (fun _ _ => blX11_findBases_33) (X_if (fun _ _ => blX11_findBases_34 ((H.2 z0).2.1 z1).1) (fun z3 => (X_go (fun _ _ => blX11_findBases_59) (X_if (fun _ _ => blX11_findBases_63 (((H.2 z0).2.1 z1).2.1 z3).1) (fun z5 => (X_go (fun _ _ => blX11_findBases_91) (X_go (fun _ _ => blX11_findBases_95) ((((H.2 z0).2.1 z1).2.1 z3).2.1 z5)))) (fun z5 => (X_go (fun _ _ => blX11_findBases_81 ((((H.2 z0).2.1 z1).2.1 z3).2.2 z5).1) (X_go (fun _ _ => blX11_findBases_95) ((((H.2 z0).2.1 z1).2.1 z3).2.2 z5).2)))))) (fun z3 => (X_go (fun _ _ => blX11_findBases_50 (((H.2 z0).2.1 z1).2.2 z3).1) (X_if (fun _ _ => blX11_findBases_63 (((H.2 z0).2.1 z1).2.2 z3).2.1) (fun z5 => (X_go (fun _ _ => blX11_findBases_91) (X_go (fun _ _ => blX11_findBases_95) ((((H.2 z0).2.1 z1).2.2 z3).2.2.1 z5)))) (fun z5 => (X_go (fun _ _ => blX11_findBases_81 ((((H.2 z0).2.1 z1).2.2 z3).2.2.2 z5).1) (X_go (fun _ _ => blX11_findBases_95) ((((H.2 z0).2.1 z1).2.2 z3).2.2.2 z5).2))))))))) (fun z1 => (X_go (fun _ _ => blX11_findBases_29) (X_if (fun _ _ => blX11_findBases_34 ((H.2 z0).2.2 z1).1) (fun z3 => (X_go (fun _ _ => blX11_findBases_59) (X_if (fun _ _ => blX11_findBases_63 (((H.2 z0).2.2 z1).2.1 z3).1) (fun z5 => (X_go (fun _ _ => blX11_findBases_91) (X_go (fun _ _ => blX11_findBases_95) ((((H.2 z0).2.2 z1).2.1 z3).2.1 z5)))) (fun z5 => (X_go (fun _ _ => blX11_findBases_81 ((((H.2 z0).2.2 z1).2.1 z3).2.2 z5).1) (X_go (fun _ _ => blX11_findBases_95) ((((H.2 z0).2.2 z1).2.1 z3).2.2 z5).2)))))) (fun z3 => (X_go (fun _ _ => blX11_findBases_50 (((H.2 z0).2.2 z1).2.2 z3).1) (X_if (fun _ _ => blX11_findBases_63 (((H.2 z0).2.2 z1).2.2 z3).2.1) (fun z5 => (X_go (fun _ _ => blX11_findBases_91) (X_go (fun _ _ => blX11_findBases_95) ((((H.2 z0).2.2 z1).2.2 z3).2.2.1 z5)))) (fun z5 => (X_go (fun _ _ => blX11_findBases_81 ((((H.2 z0).2.2 z1).2.2 z3).2.2.2 z5).1) (X_go (fun _ _ => blX11_findBases_95) ((((H.2 z0).2.2 z1).2.2 z3).2.2.2 z5).2))))))))))))
set_option maxRecDepth 20000 in
theorem vX11_findBases_130 {d : Nat} {σ : am_S} {Q : Int32 → am_S → Prop} {l1 : Int32} {l2 : Int32} {l3 : Int32} (H :
    (((gS σ 0 47) + (gS σ 0 48)) < l3 →
      ((gS σ 0 27) = 0 →
        am_X ri am_Lm IX11_findBases (d + 1) 183 [some (.ref 0), some (.int l1), some (.int l2), some (.int (0 : Int32)), none] [] σ Q) ∧
      (¬ (gS σ 0 27) = 0 →
        Q (0 : Int32) σ)) ∧
    (¬ ((gS σ 0 47) + (gS σ 0 48)) < l3 →
      (¬ (gS σ 0 27) = 0 →
        ((gS σ 0 27) = 0 →
          am_X ri am_Lm IX11_findBases (d + 1) 183 [some (.ref 0), some (.int l1), some (.int l2), some (.int (0 : Int32)), none] [] σ Q) ∧
        (¬ (gS σ 0 27) = 0 →
          Q (0 : Int32) σ)) ∧
      ((gS σ 0 27) = 0 →
        am_K ru am_Lm IX11_giveBase d [.ref 0, .int (0 : Int32), .int l1, .int l3, .int (gS σ 0 48), .int (gS σ 0 47), .int (0 : Int32)] σ (fun _ σ1 =>
          am_X ri am_Lm IX11_findBases (d + 1) 130 [some (.ref 0), some (.int l1), some (.int l2), some (.int (l3 + (1 : Int32))), none] [] σ1 Q)))) : am_X ri am_Lm IX11_findBases (d + 1) 130 [some (.ref 0), some (.int l1), some (.int l2), some (.int l3), none] [] σ Q := (X_if (fun _ _ => blX11_findBases_130) (fun z0 => (X_if (fun _ _ => blX11_findBases_172) (fun z1 => (X_go (fun _ _ => blX11_findBases_181) ((H.1 z0).1 z1))) (fun z1 => (X_ret (fun _ _ => blX11_findBases_179 (Or.inl rfl)) ((H.1 z0).2 z1))))) (fun z0 => (X_ifn (fun _ _ => blX11_findBases_143) (fun z1 => (X_if (fun _ _ => blX11_findBases_172) (fun z2 => (X_go (fun _ _ => blX11_findBases_181) (((H.2 z0).1 z1).1 z2))) (fun z2 => (X_ret (fun _ _ => blX11_findBases_179 (Or.inl rfl)) (((H.2 z0).1 z1).2 z2))))) (fun z1 => (X_call (fun _ _ _ _ => blX11_findBases_150) (K_mono ((H.2 z0).2 z1) (fun _ σ1 q2 => (X_go (fun _ _ => blX11_findBases_166) q2))))))))
set_option maxRecDepth 20000 in
theorem vX11_findBases_183 {d : Nat} {σ : am_S} {Q : Int32 → am_S → Prop} {l1 : Int32} {l2 : Int32} {l3 : Int32} (H :
    ((gS σ 0 36) ≤ l3 →
      Q (1 : Int32) σ) ∧
    (¬ (gS σ 0 36) ≤ l3 →
      am_X ri am_Lm IX11_findBases (d + 1) 194 [some (.ref 0), some (.int l1), some (.int l2), some (.int l3), some (.int l3)] [] σ Q)) : am_X ri am_Lm IX11_findBases (d + 1) 183 [some (.ref 0), some (.int l1), some (.int l2), some (.int l3), none] [] σ Q := (X_if (fun _ _ => blX11_findBases_183) (fun z0 => (X_ret (fun _ _ => blX11_findBases_253 (Or.inr rfl)) (H.1 z0))) (fun z0 => (X_go (fun _ _ => blX11_findBases_191) (H.2 z0))))
set_option maxRecDepth 20000 in
theorem vX11_findBases_194 {d : Nat} {σ : am_S} {Q : Int32 → am_S → Prop} {l1 : Int32} {l2 : Int32} {l3 : Int32} {l4 : Int32} (H :
    (l4 ≤ 0 →
      (vp_in l4 17) ∧
      am_X ri am_Lm IX11_findBases (d + 1) 183 [some (.ref 0), some (.int l1), some (.int l2), some (.int (l3 + (1 : Int32))), none] [] (wA σ 25 (l4).toNatClampNeg l3) Q) ∧
    (¬ l4 ≤ 0 →
      (vp_in (l4 - (1 : Int32)) 17) ∧
      am_K ri am_Lm IX11_orderBases d [.ref 0, .int (gA σ 25 ((l4 - (1 : Int32))).toNatClampNeg), .int l3, .int l1] σ (fun r1 σ1 =>
        (r1 ≤ 0 →
          (vp_in l4 17) ∧
          am_X ri am_Lm IX11_findBases (d + 1) 183 [some (.ref 0), some (.int l1), some (.int l2), some (.int (l3 + (1 : Int32))), none] [] (wA σ1 25 (l4).toNatClampNeg l3) Q) ∧
        (¬ r1 ≤ 0 →
          (vp_in (l4 - (1 : Int32)) 17) ∧
          (vp_in l4 17) ∧
          am_X ri am_Lm IX11_findBases (d + 1) 194 [some (.ref 0), some (.int l1), some (.int l2), some (.int l3), some (.int (l4 + (-1 : Int32)))] [] (wA σ1 25 (l4).toNatClampNeg (gA σ1 25 ((l4 - (1 : Int32))).toNatClampNeg)) Q)))) : am_X ri am_Lm IX11_findBases (d + 1) 194 [some (.ref 0), some (.int l1), some (.int l2), some (.int l3), some (.int l4)] [] σ Q := (X_if (fun _ _ => blX11_findBases_194) (fun z0 => (X_go (fun _ _ => blX11_findBases_239 (H.1 z0).1) (H.1 z0).2)) (fun z0 => (X_call (fun _ _ _ _ => blX11_findBases_199 (H.2 z0).1) (K_mono (H.2 z0).2 (fun r1 σ1 q1 => (X_if (fun _ _ => blX11_findBases_214) (fun z2 => (X_go (fun _ _ => blX11_findBases_239 (q1.1 z2).1) (q1.1 z2).2)) (fun z2 => (X_go (fun _ _ => blX11_findBases_217 (q1.2 z2).1 (q1.2 z2).2.1) (q1.2 z2).2.2))))))))
set_option maxRecDepth 20000 in
theorem vX11_unify {d : Nat} {σ : am_S} {Q : Int32 → am_S → Prop} {l1 : Int32} {l2 : Int32} {l3 : Int32} (H :
    am_K ri am_Lm IX11_isSlot d [.int l1] σ (fun r1 σ1 =>
      (r1 = 0 →
        Q (-1 : Int32) σ1) ∧
      (¬ r1 = 0 →
        am_K ri am_Lm IX11_isSlot d [.int l2] σ1 (fun r2 σ2 =>
          (r2 = 0 →
            Q (-1 : Int32) σ2) ∧
          (¬ r2 = 0 →
            am_K ri am_Lm IX11_in d [.long (l3).toInt64, .long (0 : Int64), .long (1 : Int64)] σ2 (fun r3 σ3 =>
              (¬ r3 = 0 →
                (vp_in l1 16) ∧
                ((gA σ3 7 (l1).toNatClampNeg) = 0 →
                  Q (-2 : Int32) σ3) ∧
                (¬ (gA σ3 7 (l1).toNatClampNeg) = 0 →
                  (vp_in l2 16) ∧
                  (¬ (gA σ3 7 (l2).toNatClampNeg) = 0 →
                    am_K ri am_Lm IX11_variablesIn d [.ref 0, .int ((40 : Int32) * l1)] σ3 (fun r4 σ4 =>
                      am_K ri am_Lm IX11_variablesIn d [.ref 0, .int ((40 : Int32) * l2)] σ4 (fun r5 σ5 =>
                        ((63 : Int32) < (r4 ||| r5) →
                          Q (-3 : Int32) σ5) ∧
                        (¬ (63 : Int32) < (r4 ||| r5) →
                          am_K ri am_Lm IX11_isPlain d [.ref 0, .int ((40 : Int32) * l1), .int ((3 : Int32) + l3)] σ5 (fun r6 σ6 =>
                            (r6 = 0 →
                              Q (-3 : Int32) σ6) ∧
                            (¬ r6 = 0 →
                              am_K ri am_Lm IX11_isPlain d [.ref 0, .int ((40 : Int32) * l2), .int ((3 : Int32) + l3)] σ6 (fun r7 σ7 =>
                                (¬ r7 = 0 →
                                  am_K ri am_Lm IX11_gather d [.ref 0, .int ((40 : Int32) * l1), .int ((40 : Int32) * l2), .int ((3 : Int32) + l3)] (wS (wS σ7 0 37 (0 : Int32)) 0 39 ((3 : Int32) + l3)) (fun r8 σ8 =>
                                    (¬ r8 = 0 →
                                      am_K ri am_Lm IX11_findBases d [.ref 0, .int r8] σ8 (fun r9 σ9 =>
                                        (¬ r9 = 0 →
                                          am_X ri am_Lm IX11_unify (d + 1) 179 [some (.ref 0), some (.int l1), some (.int l2), some (.int l3), some (.int ((40 : Int32) * l1)), some (.int ((40 : Int32) * l2)), some (.int ((3 : Int32) + l3)), some (.int r8), some (.int (0 : Int32))] [] (wS σ9 0 38 (0 : Int32)) Q) ∧
                                        (r9 = 0 →
                                          Q (-4 : Int32) σ9))) ∧
                                    (r8 = 0 →
                                      (vp_in (0 : Int32) 65536) ∧
                                      Q (1 : Int32) (wS (wA (wS (wS σ8 0 36 (0 : Int32)) 0 38 (0 : Int32)) 26 ((0 : Int32)).toNatClampNeg (0 : Int32)) 0 37 (1 : Int32))))) ∧
                                (r7 = 0 →
                                  Q (-3 : Int32) σ7)))))))) ∧
                  ((gA σ3 7 (l2).toNatClampNeg) = 0 →
                    Q (-2 : Int32) σ3))) ∧
              (r3 = 0 →
                Q (-1 : Int32) σ3))))))) : am_K ri am_Lm IX11_unify (d + 1) [.ref 0, .int l1, .int l2, .int l3] σ Q := K_of am_owX11_unify (Nat.le_of_ble_eq_true rfl) (X_call (fun _ _ _ _ => blX11_unify_0) (K_mono H (fun r1 σ1 q0 => (X_if (fun _ _ => blX11_unify_4) (fun z1 => (X_ret (fun _ _ => blX11_unify_24) (q0.1 z1))) (fun z1 => (X_call (fun _ _ _ _ => blX11_unify_7) (K_mono (q0.2 z1) (fun r2 σ2 q2 => (X_if (fun _ _ => blX11_unify_11) (fun z3 => (X_ret (fun _ _ => blX11_unify_24) (q2.1 z3))) (fun z3 => (X_call (fun _ _ _ _ => blX11_unify_14) (K_mono (q2.2 z3) (fun r3 σ3 q4 => (X_ifn (fun _ _ => blX11_unify_21) (fun z5 => (X_if (fun _ _ => blX11_unify_26 (q4.1 z5).1) (fun z6 => (X_ret (fun _ _ => blX11_unify_44) ((q4.1 z5).2.1 z6))) (fun z6 => (X_ifn (fun _ _ => blX11_unify_35 ((q4.1 z5).2.2 z6).1) (fun z7 => (X_call (fun _ _ _ _ => blX11_unify_47) (K_mono (((q4.1 z5).2.2 z6).2.1 z7) (fun r4 σ4 q8 => (X_call (fun _ _ _ _ => blX11_unify_70) (K_mono q8 (fun r5 σ5 q9 => (X_if (fun _ _ => blX11_unify_76) (fun z10 => (X_ret (fun _ _ => blX11_unify_104) (q9.1 z10))) (fun z10 => (X_call (fun _ _ _ _ => blX11_unify_82) (K_mono (q9.2 z10) (fun r6 σ6 q11 => (X_if (fun _ _ => blX11_unify_90) (fun z12 => (X_ret (fun _ _ => blX11_unify_104) (q11.1 z12))) (fun z12 => (X_call (fun _ _ _ _ => blX11_unify_93) (K_mono (q11.2 z12) (fun r7 σ7 q13 => (X_ifn (fun _ _ => blX11_unify_101) (fun z14 => (X_call (fun _ _ _ _ => blX11_unify_107) (K_mono (q13.1 z14) (fun r8 σ8 q15 => (X_ifn (fun _ _ => blX11_unify_128) (fun z16 => (X_call (fun _ _ _ _ => blX11_unify_159) (K_mono (q15.1 z16) (fun r9 σ9 q17 => (X_ifn (fun _ _ => blX11_unify_165) (fun z18 => (X_go (fun _ _ => blX11_unify_171) (q17.1 z18))) (fun z18 => (X_ret (fun _ _ => blX11_unify_168) (q17.2 z18)))))))) (fun z16 => (X_ret (fun _ _ => blX11_unify_135 (q15.2 z16).1) (q15.2 z16).2))))))) (fun z14 => (X_ret (fun _ _ => blX11_unify_104) (q13.2 z14))))))))))))))))))))) (fun z7 => (X_ret (fun _ _ => blX11_unify_44) (((q4.1 z5).2.2 z6).2.2 z7))))))) (fun z5 => (X_ret (fun _ _ => blX11_unify_24) (q4.2 z5)))))))))))))))))
set_option maxRecDepth 20000 in
theorem vX11_unify_179 {d : Nat} {σ : am_S} {Q : Int32 → am_S → Prop} {l1 : Int32} {l2 : Int32} {l3 : Int32} {l4 : Int32} {l5 : Int32} {l6 : Int32} {l7 : Int32} {l8 : Int32} (H :
    ((gS σ 0 36) ≤ l8 →
      am_X ri am_Lm IX11_unify (d + 1) 236 [some (.ref 0), some (.int l1), some (.int l2), some (.int l3), some (.int l4), some (.int l5), some (.int l6), some (.int l7), some (.int (1 : Int32))] [] σ Q) ∧
    (¬ (gS σ 0 36) ≤ l8 →
      am_K ri am_Lm IX11_groundOf d [.ref 0, .int l8] σ (fun r1 σ1 =>
        (vp_in l8 16) ∧
        (vp_in l8 16) ∧
        (¬ (gA (wA σ1 30 (l8).toNatClampNeg r1) 30 (l8).toNatClampNeg) = (-2 : Int32) →
          am_X ri am_Lm IX11_unify (d + 1) 179 [some (.ref 0), some (.int l1), some (.int l2), some (.int l3), some (.int l4), some (.int l5), some (.int l6), some (.int l7), some (.int (l8 + (1 : Int32)))] [] (wS (wA σ1 30 (l8).toNatClampNeg r1) 0 38 ((gS σ1 0 38) + (1 : Int32))) Q) ∧
        ((gA (wA σ1 30 (l8).toNatClampNeg r1) 30 (l8).toNatClampNeg) = (-2 : Int32) →
          am_X ri am_Lm IX11_unify (d + 1) 179 [some (.ref 0), some (.int l1), some (.int l2), some (.int l3), some (.int l4), some (.int l5), some (.int l6), some (.int l7), some (.int (l8 + (1 : Int32)))] [] (wS (wA σ1 30 (l8).toNatClampNeg r1) 0 38 ((gS σ1 0 38) + (0 : Int32))) Q)))) : am_X ri am_Lm IX11_unify (d + 1) 179 [some (.ref 0), some (.int l1), some (.int l2), some (.int l3), some (.int l4), some (.int l5), some (.int l6), some (.int l7), some (.int l8)] [] σ Q := (X_if (fun _ _ => blX11_unify_179) (fun z0 => (X_go (fun _ _ => blX11_unify_233) (H.1 z0))) (fun z0 => (X_call (fun _ _ _ _ => blX11_unify_188) (K_mono (H.2 z0) (fun r1 σ1 q1 => (X_ifn (fun _ _ => blX11_unify_200 q1.1 q1.2.1) (fun z2 => (X_go (fun _ _ => blX11_unify_222) (X_go (fun _ _ => blX11_unify_223) (q1.2.2.1 z2)))) (fun z2 => (X_go (fun _ _ => blX11_unify_218) (X_go (fun _ _ => blX11_unify_223) (q1.2.2.2 z2))))))))))
set_option maxRecDepth 20000 in
theorem vX11_unify_236 {d : Nat} {σ : am_S} {Q : Int32 → am_S → Prop} {l1 : Int32} {l2 : Int32} {l3 : Int32} {l4 : Int32} {l5 : Int32} {l6 : Int32} {l7 : Int32} {l8 : Int32} (H :
    (((1 : Int32) <<< ((gS σ 0 36) &&& 31)) ≤ l8 →
      Q (gS σ 0 37) σ) ∧
    (¬ ((1 : Int32) <<< ((gS σ 0 36) &&& 31)) ≤ l8 →
      am_K ri am_Lm IX11_isGood d [.ref 0, .int l8] σ (fun r1 σ1 =>
        (r1 = 0 →
          am_X ri am_Lm IX11_unify (d + 1) 236 [some (.ref 0), some (.int l1), some (.int l2), some (.int l3), some (.int l4), some (.int l5), some (.int l6), some (.int l7), some (.int (l8 + (1 : Int32)))] [] σ1 Q) ∧
        (¬ r1 = 0 →
          (vp_in (gS σ1 0 37) 65536) ∧
          am_X ri am_Lm IX11_unify (d + 1) 236 [some (.ref 0), some (.int l1), some (.int l2), some (.int l3), some (.int l4), some (.int l5), some (.int l6), some (.int l7), some (.int (l8 + (1 : Int32)))] [] (wS (wA σ1 26 ((gS σ1 0 37)).toNatClampNeg l8) 0 37 ((gS σ1 0 37) + (1 : Int32))) Q)))) : am_X ri am_Lm IX11_unify (d + 1) 236 [some (.ref 0), some (.int l1), some (.int l2), some (.int l3), some (.int l4), some (.int l5), some (.int l6), some (.int l7), some (.int l8)] [] σ Q := (X_if (fun _ _ => blX11_unify_236) (fun z0 => (X_ret (fun _ _ => blX11_unify_283) (H.1 z0))) (fun z0 => (X_call (fun _ _ _ _ => blX11_unify_247) (K_mono (H.2 z0) (fun r1 σ1 q1 => (X_if (fun _ _ => blX11_unify_253) (fun z2 => (X_go (fun _ _ => blX11_unify_277) (q1.1 z2))) (fun z2 => (X_go (fun _ _ => blX11_unify_256 (q1.2 z2).1) (X_go (fun _ _ => blX11_unify_277) (q1.2 z2).2)))))))))
set_option maxRecDepth 20000 in
theorem vX11_bases {d : Nat} {σ : am_S} {Q : Int32 → am_S → Prop} {l1 : Int32} (H :
    am_K ri am_Lm IX11_in d [.long (l1).toInt64, .long (0 : Int64), .long (2 : Int64)] σ (fun r1 σ1 =>
      (¬ r1 = 0 →
        (¬ (gS σ1 0 37) = 0 →
          (¬ l1 = 0 →
            (¬ l1 = (1 : Int32) →
              Q ((gS σ1 0 40) + (gS σ1 0 41)) σ1) ∧
            (l1 = (1 : Int32) →
              Q (gS σ1 0 38) σ1)) ∧
          (l1 = 0 →
            Q (gS σ1 0 36) σ1)) ∧
        ((gS σ1 0 37) = 0 →
          Q (-2 : Int32) σ1)) ∧
      (r1 = 0 →
        Q (-1 : Int32) σ1))) : am_K ri am_Lm IX11_bases (d + 1) [.ref 0, .int l1] σ Q := K_of am_owX11_bases (Nat.le_of_ble_eq_true rfl) (X_call (fun _ _ _ _ => blX11_bases_0) (K_mono H (fun r1 σ1 q0 => (X_ifn (fun _ _ => blX11_bases_9) (fun z1 => (X_ifn (fun _ _ => blX11_bases_14) (fun z2 => (X_ifn (fun _ _ => blX11_bases_26) (fun z3 => (X_ifn (fun _ _ => blX11_bases_37) (fun z4 => (X_go (fun _ _ => blX11_bases_49) (X_ret (fun _ _ => blX11_bases_58) ((((q0.1 z1).1 z2).1 z3).1 z4)))) (fun z4 => (X_go (fun _ _ => blX11_bases_42) (X_ret (fun _ _ => blX11_bases_58) ((((q0.1 z1).1 z2).1 z3).2 z4)))))) (fun z3 => (X_go (fun _ _ => blX11_bases_30) (X_ret (fun _ _ => blX11_bases_58) (((q0.1 z1).1 z2).2 z3)))))) (fun z2 => (X_go (fun _ _ => blX11_bases_21) (X_ret (fun _ _ => blX11_bases_58) ((q0.1 z1).2 z2)))))) (fun z1 => (X_ret (fun _ _ => blX11_bases_12) (q0.2 z1)))))))
set_option maxRecDepth 20000 in
theorem vX11_base {d : Nat} {σ : am_S} {Q : Int32 → am_S → Prop} {l1 : Int32} {l2 : Int32} (H :
    ((gS σ 0 37) ≤ 0 →
      Q (-1 : Int32) σ) ∧
    (¬ (gS σ 0 37) ≤ 0 →
      am_K ri am_Lm IX11_in d [.long (l1).toInt64, .long (0 : Int64), .long (((gS σ 0 36) - (1 : Int32))).toInt64] σ (fun r1 σ1 =>
        (r1 = 0 →
          Q (-1 : Int32) σ1) ∧
        (¬ r1 = 0 →
          am_K ri am_Lm IX11_in d [.long (l2).toInt64, .long (0 : Int64), .long ((((gS σ1 0 40) + (gS σ1 0 41)) - (1 : Int32))).toInt64] σ1 (fun r2 σ2 =>
            (r2 = 0 →
              Q (-1 : Int32) σ2) ∧
            (¬ r2 = 0 →
              (vp_in l1 17) ∧
              (vp_in (((32 : Int32) * (gA σ2 25 (l1).toNatClampNeg)) + l2) 600) ∧
              Q (gA σ2 24 ((((32 : Int32) * (gA σ2 25 (l1).toNatClampNeg)) + l2)).toNatClampNeg) σ2)))))) : am_K ri am_Lm IX11_base (d + 1) [.ref 0, .int l1, .int l2] σ Q := K_of am_owX11_base (Nat.le_of_ble_eq_true rfl) (X_if (fun _ _ => blX11_base_0) (fun z0 => (X_go (fun _ _ => blX11_base_63) (X_ret (fun _ _ => blX11_base_64) (H.1 z0)))) (fun z0 => (X_call (fun _ _ _ _ => blX11_base_7) (K_mono (H.2 z0) (fun r1 σ1 q1 => (X_if (fun _ _ => blX11_base_20) (fun z2 => (X_go (fun _ _ => blX11_base_63) (X_ret (fun _ _ => blX11_base_64) (q1.1 z2)))) (fun z2 => (X_call (fun _ _ _ _ => blX11_base_23) (K_mono (q1.2 z2) (fun r2 σ2 q3 => (X_if (fun _ _ => blX11_base_41) (fun z4 => (X_go (fun _ _ => blX11_base_63) (X_ret (fun _ _ => blX11_base_64) (q3.1 z4)))) (fun z4 => (X_go (fun _ _ => blX11_base_44 (q3.2 z4).1 (q3.2 z4).2.1) (X_ret (fun _ _ => blX11_base_64) (q3.2 z4).2.2))))))))))))))
set_option maxRecDepth 20000 in
theorem vX11_set {d : Nat} {σ : am_S} {Q : Int32 → am_S → Prop} {l1 : Int32} (H :
    am_K ri am_Lm IX11_in d [.long (l1).toInt64, .long (0 : Int64), .long (((gS σ 0 37) - (1 : Int32))).toInt64] σ (fun r1 σ1 =>
      (r1 = 0 →
        Q (-1 : Int32) σ1) ∧
      (¬ r1 = 0 →
        (vp_in l1 65536) ∧
        Q (gA σ1 26 (l1).toNatClampNeg) σ1))) : am_K ri am_Lm IX11_set (d + 1) [.ref 0, .int l1] σ Q := K_of am_owX11_set (Nat.le_of_ble_eq_true rfl) (X_call (fun _ _ _ _ => blX11_set_0) (K_mono H (fun r1 σ1 q0 => (X_if (fun _ _ => blX11_set_13) (fun z1 => (X_go (fun _ _ => blX11_set_25) (X_ret (fun _ _ => blX11_set_26) (q0.1 z1)))) (fun z1 => (X_go (fun _ _ => blX11_set_16 (q0.2 z1).1) (X_ret (fun _ _ => blX11_set_26) (q0.2 z1).2)))))))
set_option maxRecDepth 20000 in
theorem vX11_unified {d : Nat} {σ : am_S} {Q : Int32 → am_S → Prop} {l1 : Int32} {l2 : Int32} {l3 : Int32} (H :
    am_K ri am_Lm IX11_in d [.long (l1).toInt64, .long (0 : Int64), .long (((gS σ 0 37) - (1 : Int32))).toInt64] σ (fun r1 σ1 =>
      (r1 = 0 →
        Q (-1 : Int32) σ1) ∧
      (¬ r1 = 0 →
        am_K ri am_Lm IX11_isSlot d [.int l2] σ1 (fun r2 σ2 =>
          (r2 = 0 →
            Q (-1 : Int32) σ2) ∧
          (¬ r2 = 0 →
            am_K ri am_Lm IX11_isSlot d [.int l3] σ2 (fun r3 σ3 =>
              (¬ r3 = 0 →
                (vp_in l2 16) ∧
                (¬ (gA σ3 7 (l2).toNatClampNeg) = 0 →
                  am_K ru am_Lm IX11_begin d [.ref 0] σ3 (fun _ σ4 =>
                    am_X ri am_Lm IX11_unified (d + 1) 51 [some (.ref 0), some (.int l1), some (.int l2), some (.int l3), some (.int (0 : Int32)), none] [] σ4 Q)) ∧
                ((gA σ3 7 (l2).toNatClampNeg) = 0 →
                  Q (-2 : Int32) σ3)) ∧
              (r3 = 0 →
                Q (-1 : Int32) σ3))))))) : am_K ri am_Lm IX11_unified (d + 1) [.ref 0, .int l1, .int l2, .int l3] σ Q := K_of am_owX11_unified (Nat.le_of_ble_eq_true rfl) (X_call (fun _ _ _ _ => blX11_unified_0) (K_mono H (fun r1 σ1 q0 => (X_if (fun _ _ => blX11_unified_13) (fun z1 => (X_ret (fun _ _ => blX11_unified_30) (q0.1 z1))) (fun z1 => (X_call (fun _ _ _ _ => blX11_unified_16) (K_mono (q0.2 z1) (fun r2 σ2 q2 => (X_if (fun _ _ => blX11_unified_20) (fun z3 => (X_ret (fun _ _ => blX11_unified_30) (q2.1 z3))) (fun z3 => (X_call (fun _ _ _ _ => blX11_unified_23) (K_mono (q2.2 z3) (fun r3 σ3 q4 => (X_ifn (fun _ _ => blX11_unified_27) (fun z5 => (X_ifn (fun _ _ => blX11_unified_32 (q4.1 z5).1) (fun z6 => (X_call (fun _ _ _ _ => blX11_unified_44) (K_mono ((q4.1 z5).2.1 z6) (fun _ σ4 q7 => (X_go (fun _ _ => blX11_unified_48) q7))))) (fun z6 => (X_ret (fun _ _ => blX11_unified_41) ((q4.1 z5).2.2 z6))))) (fun z5 => (X_ret (fun _ _ => blX11_unified_30) (q4.2 z5)))))))))))))))))
set_option maxRecDepth 20000 in
theorem vX11_unified_51 {d : Nat} {σ : am_S} {Q : Int32 → am_S → Prop} {l1 : Int32} {l2 : Int32} {l3 : Int32} {l4 : Int32} (H :
    ((22 : Int32) ≤ l4 →
      am_K ri am_Lm IX11_variablesIn d [.ref 0, .int ((40 : Int32) * l2)] σ (fun r1 σ1 =>
        am_X ri am_Lm IX11_unified (d + 1) 85 [some (.ref 0), some (.int l1), some (.int l2), some (.int l3), some (.int r1), some (.int (0 : Int32))] [] σ1 Q)) ∧
    (¬ (22 : Int32) ≤ l4 →
      (vp_in l4 22) ∧
      am_X ri am_Lm IX11_unified (d + 1) 51 [some (.ref 0), some (.int l1), some (.int l2), some (.int l3), some (.int (l4 + (1 : Int32))), none] [] (wA σ 17 (l4).toNatClampNeg (-1 : Int32)) Q)) : am_X ri am_Lm IX11_unified (d + 1) 51 [some (.ref 0), some (.int l1), some (.int l2), some (.int l3), some (.int l4), none] [] σ Q := (X_if (fun _ _ => blX11_unified_51) (fun z0 => (X_call (fun _ _ _ _ => blX11_unified_72) (K_mono (H.1 z0) (fun r1 σ1 q1 => (X_go (fun _ _ => blX11_unified_80) q1))))) (fun z0 => (X_go (fun _ _ => blX11_unified_58 (H.2 z0).1) (H.2 z0).2)))
set_option maxRecDepth 20000 in
theorem vX11_unified_85 {d : Nat} {σ : am_S} {Q : Int32 → am_S → Prop} {l1 : Int32} {l2 : Int32} {l3 : Int32} {l4 : Int32} {l5 : Int32} (H :
    ((gS σ 0 40) ≤ l5 →
      ((gS σ 0 5) = 0 →
        am_K ri am_Lm IX11_fill d [.ref 0, .int l2, .int l3] σ (fun r1 σ1 =>
          Q r1 σ1)) ∧
      (¬ (gS σ 0 5) = 0 →
        Q (-4 : Int32) σ)) ∧
    (¬ (gS σ 0 40) ≤ l5 →
      (vp_in l5 6) ∧
      (¬ ((l4 >>> ((gA σ 22 (l5).toNatClampNeg) &&& 31)) &&& (1 : Int32)) = (1 : Int32) →
        am_X ri am_Lm IX11_unified (d + 1) 85 [some (.ref 0), some (.int l1), some (.int l2), some (.int l3), some (.int l4), some (.int (l5 + (1 : Int32)))] [] σ Q) ∧
      (((l4 >>> ((gA σ 22 (l5).toNatClampNeg) &&& 31)) &&& (1 : Int32)) = (1 : Int32) →
        (vp_in l5 6) ∧
        (vp_in l1 65536) ∧
        am_K ri am_Lm IX11_putFor d [.ref 0, .int l5, .int (gA σ 26 (l1).toNatClampNeg)] σ (fun r2 σ2 =>
          (vp_in (gA σ 22 (l5).toNatClampNeg) 22) ∧
          am_X ri am_Lm IX11_unified (d + 1) 85 [some (.ref 0), some (.int l1), some (.int l2), some (.int l3), some (.int l4), some (.int (l5 + (1 : Int32)))] [] (wA σ2 17 ((gA σ 22 (l5).toNatClampNeg)).toNatClampNeg r2) Q)))) : am_X ri am_Lm IX11_unified (d + 1) 85 [some (.ref 0), some (.int l1), some (.int l2), some (.int l3), some (.int l4), some (.int l5)] [] σ Q := (X_if (fun _ _ => blX11_unified_85) (fun z0 => (X_if (fun _ _ => blX11_unified_140) (fun z1 => (X_call (fun _ _ _ _ => blX11_unified_152) (K_mono ((H.1 z0).1 z1) (fun r1 σ1 q2 => (X_ret (fun _ _ => blX11_unified_158) q2))))) (fun z1 => (X_go (fun _ _ => blX11_unified_147) (X_ret (fun _ _ => blX11_unified_158) ((H.1 z0).2 z1)))))) (fun z0 => (X_ifn (fun _ _ => blX11_unified_94 (H.2 z0).1) (fun z1 => (X_go (fun _ _ => blX11_unified_134) ((H.2 z0).2.1 z1))) (fun z1 => (X_call (fun _ _ _ _ => blX11_unified_110 ((H.2 z0).2.2 z1).1 ((H.2 z0).2.2 z1).2.1) (K_mono ((H.2 z0).2.2 z1).2.2 (fun r2 σ2 q2 => (X_go (fun _ _ => blX11_unified_133 q2.1) (X_go (fun _ _ => blX11_unified_134) q2.2)))))))))
set_option maxRecDepth 20000 in
theorem vX11_putFor {d : Nat} {σ : am_S} {Q : Int32 → am_S → Prop} {l1 : Int32} {l2 : Int32} (H :
    am_X ri am_Lm IX11_putFor (d + 1) 8 [some (.ref 0), some (.int l1), some (.int l2), some (.int (gS σ 0 7)), some (.int (0 : Int32)), none, none, none] [] σ Q) : am_K ri am_Lm IX11_putFor (d + 1) [.ref 0, .int l1, .int l2] σ Q := K_of am_owX11_putFor (Nat.le_of_ble_eq_true rfl) (X_go (fun _ _ => blX11_putFor_0) H)
set_option maxRecDepth 20000 in
theorem vX11_putFor_8 {d : Nat} {σ : am_S} {Q : Int32 → am_S → Prop} {l1 : Int32} {l2 : Int32} {l3 : Int32} {l4 : Int32} (H :
    ((gS σ 0 36) ≤ l4 →
      am_K ri am_Lm IX11_joined d [.ref 0, .int (gS σ 0 39), .int l3] σ (fun r1 σ1 =>
        Q r1 σ1)) ∧
    (¬ (gS σ 0 36) ≤ l4 →
      (vp_in l4 17) ∧
      (vp_in (((32 : Int32) * (gA σ 25 (l4).toNatClampNeg)) + l1) 600) ∧
      (¬ (((l2 >>> (l4 &&& 31)) &&& (1 : Int32)) * (gA σ 24 ((((32 : Int32) * (gA σ 25 (l4).toNatClampNeg)) + l1)).toNatClampNeg)) = 0 →
        (vp_in l4 16) ∧
        ((gA σ 30 (l4).toNatClampNeg) < 0 →
          am_K ri am_Lm IX11_head d [.ref 0, .int (0 : Int32), .int ((6 : Int32) + l4), .int (0 : Int32)] σ (fun r2 σ2 =>
            am_X ri am_Lm IX11_putFor (d + 1) 95 [some (.ref 0), some (.int l1), some (.int l2), some (.int l3), some (.int l4), some (.int (((l2 >>> (l4 &&& 31)) &&& (1 : Int32)) * (gA σ 24 ((((32 : Int32) * (gA σ 25 (l4).toNatClampNeg)) + l1)).toNatClampNeg))), some (.int r2), some (.int (0 : Int32))] [] σ2 Q)) ∧
        (¬ (gA σ 30 (l4).toNatClampNeg) < 0 →
          (vp_in l4 16) ∧
          am_X ri am_Lm IX11_putFor (d + 1) 95 [some (.ref 0), some (.int l1), some (.int l2), some (.int l3), some (.int l4), some (.int (((l2 >>> (l4 &&& 31)) &&& (1 : Int32)) * (gA σ 24 ((((32 : Int32) * (gA σ 25 (l4).toNatClampNeg)) + l1)).toNatClampNeg))), some (.int ((16640 : Int32) + ((40 : Int32) * (gA σ 30 (l4).toNatClampNeg)))), some (.int (0 : Int32))] [] σ Q)) ∧
      ((((l2 >>> (l4 &&& 31)) &&& (1 : Int32)) * (gA σ 24 ((((32 : Int32) * (gA σ 25 (l4).toNatClampNeg)) + l1)).toNatClampNeg)) = 0 →
        am_X ri am_Lm IX11_putFor (d + 1) 95 [some (.ref 0), some (.int l1), some (.int l2), some (.int l3), some (.int l4), some (.int (((l2 >>> (l4 &&& 31)) &&& (1 : Int32)) * (gA σ 24 ((((32 : Int32) * (gA σ 25 (l4).toNatClampNeg)) + l1)).toNatClampNeg))), some (.int (0 : Int32)), some (.int (0 : Int32))] [] σ Q))) : am_X ri am_Lm IX11_putFor (d + 1) 8 [some (.ref 0), some (.int l1), some (.int l2), some (.int l3), some (.int l4), none, none, none] [] σ Q := (X_if (fun _ _ => blX11_putFor_8) (fun z0 => (X_call (fun _ _ _ _ => blX11_putFor_120) (K_mono (H.1 z0) (fun r1 σ1 q1 => (X_ret (fun _ _ => blX11_putFor_129) q1))))) (fun z0 => (X_ifn (fun _ _ => blX11_putFor_17 (H.2 z0).1 (H.2 z0).2.1) (fun z1 => (X_if (fun _ _ => blX11_putFor_52 ((H.2 z0).2.2.1 z1).1) (fun z2 => (X_call (fun _ _ _ _ => blX11_putFor_79) (K_mono (((H.2 z0).2.2.1 z1).2.1 z2) (fun r2 σ2 q3 => (X_go (fun _ _ => blX11_putFor_90) q3))))) (fun z2 => (X_go (fun _ _ => blX11_putFor_62 (((H.2 z0).2.2.1 z1).2.2 z2).1) (X_go (fun _ _ => blX11_putFor_90) (((H.2 z0).2.2.1 z1).2.2 z2).2))))) (fun z1 => (X_go (fun _ _ => blX11_putFor_48) (X_go (fun _ _ => blX11_putFor_90) ((H.2 z0).2.2.2 z1)))))))
set_option maxRecDepth 20000 in
theorem vX11_putFor_95 {d : Nat} {σ : am_S} {Q : Int32 → am_S → Prop} {l1 : Int32} {l2 : Int32} {l3 : Int32} {l4 : Int32} {l5 : Int32} {l6 : Int32} {l7 : Int32} (H :
    (l5 ≤ l7 →
      am_X ri am_Lm IX11_putFor (d + 1) 8 [some (.ref 0), some (.int l1), some (.int l2), some (.int l3), some (.int (l4 + (1 : Int32))), none, none, none] [] σ Q) ∧
    (¬ l5 ≤ l7 →
      am_K ru am_Lm IX11_put d [.ref 0, .int l6] σ (fun _ σ1 =>
        am_X ri am_Lm IX11_putFor (d + 1) 95 [some (.ref 0), some (.int l1), some (.int l2), some (.int l3), some (.int l4), some (.int l5), some (.int l6), some (.int (l7 + (1 : Int32)))] [] σ1 Q))) : am_X ri am_Lm IX11_putFor (d + 1) 95 [some (.ref 0), some (.int l1), some (.int l2), some (.int l3), some (.int l4), some (.int l5), some (.int l6), some (.int l7)] [] σ Q := (X_if (fun _ _ => blX11_putFor_95) (fun z0 => (X_go (fun _ _ => blX11_putFor_114) (H.1 z0))) (fun z0 => (X_call (fun _ _ _ _ => blX11_putFor_102) (K_mono (H.2 z0) (fun _ σ1 q1 => (X_go (fun _ _ => blX11_putFor_108) q1))))))
