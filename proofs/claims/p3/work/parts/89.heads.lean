/-! ===== reading: the heads of loops that begin a method ===== -/
set_option maxRecDepth 20000 in
theorem wX6_next {d : Nat} {σ : am_S} {Q : Int32 → am_S → Prop}  (H :
    ((gS σ 7 2) ≤ (gS σ 7 3) →
      ((gS σ 7 2) ≤ (gS σ 7 3) →
        (narrow .char (.int (0 : Int32)) = .int (0 : Int32)) ∧ Q (0 : Int32) σ) ∧
      (¬ (gS σ 7 2) ≤ (gS σ 7 3) →
        (vp_in (gS σ 7 3) 64) ∧
        (narrow .char (.int (((gA σ 8 ((gS σ 7 3)).toNatClampNeg)).toUInt32 % 65536).toInt32) = .int (((gA σ 8 ((gS σ 7 3)).toNatClampNeg)).toUInt32 % 65536).toInt32) ∧ Q (((gA σ 8 ((gS σ 7 3)).toNatClampNeg)).toUInt32 % 65536).toInt32 σ)) ∧
    (¬ (gS σ 7 2) ≤ (gS σ 7 3) →
      (vp_in (gS σ 7 3) 64) ∧
      (¬ (gA σ 8 ((gS σ 7 3)).toNatClampNeg) = (32 : Int32) →
        ((gS σ 7 2) ≤ (gS σ 7 3) →
          (narrow .char (.int (0 : Int32)) = .int (0 : Int32)) ∧ Q (0 : Int32) σ) ∧
        (¬ (gS σ 7 2) ≤ (gS σ 7 3) →
          (vp_in (gS σ 7 3) 64) ∧
          (narrow .char (.int (((gA σ 8 ((gS σ 7 3)).toNatClampNeg)).toUInt32 % 65536).toInt32) = .int (((gA σ 8 ((gS σ 7 3)).toNatClampNeg)).toUInt32 % 65536).toInt32) ∧ Q (((gA σ 8 ((gS σ 7 3)).toNatClampNeg)).toUInt32 % 65536).toInt32 σ)) ∧
      ((gA σ 8 ((gS σ 7 3)).toNatClampNeg) = (32 : Int32) →
        am_X ri am_Lx IX6_next (d + 1) 0 [some (.ref 7)] [] (wS σ 7 3 ((gS σ 7 3) + (1 : Int32))) Q))) : am_X ri am_Lx IX6_next (d + 1) 0 [some (.ref 7)] [] σ Q := (X_if (fun _ _ => blX6_next_0) (fun z0 => (X_if (fun _ _ => blX6_next_38) (fun z1 => (X_go (fun _ _ => blX6_next_62) (X_ret (fun _ _ => blX6_next_63 ((H.1 z0).1 z1).1) ((H.1 z0).1 z1).2))) (fun z1 => (X_go (fun _ _ => blX6_next_49 ((H.1 z0).2 z1).1) (X_ret (fun _ _ => blX6_next_63 ((H.1 z0).2 z1).2.1) ((H.1 z0).2 z1).2.2))))) (fun z0 => (X_ifn (fun _ _ => blX6_next_11 (H.2 z0).1) (fun z1 => (X_if (fun _ _ => blX6_next_38) (fun z2 => (X_go (fun _ _ => blX6_next_62) (X_ret (fun _ _ => blX6_next_63 (((H.2 z0).2.1 z1).1 z2).1) (((H.2 z0).2.1 z1).1 z2).2))) (fun z2 => (X_go (fun _ _ => blX6_next_49 (((H.2 z0).2.1 z1).2 z2).1) (X_ret (fun _ _ => blX6_next_63 (((H.2 z0).2.1 z1).2 z2).2.1) (((H.2 z0).2.1 z1).2 z2).2.2))))) (fun z1 => (X_go (fun _ _ => blX6_next_25) ((H.2 z0).2.2 z1))))))
set_option maxRecDepth 20000 in
theorem wX11_next {d : Nat} {σ : am_S} {Q : Int32 → am_S → Prop}  (H :
    ((gS σ 0 9) ≤ (gS σ 0 10) →
      ((gS σ 0 9) ≤ (gS σ 0 10) →
        Q (-1 : Int32) σ) ∧
      (¬ (gS σ 0 9) ≤ (gS σ 0 10) →
        (vp_in (gS σ 0 10) 64) ∧
        Q (gA σ 6 ((gS σ 0 10)).toNatClampNeg) σ)) ∧
    (¬ (gS σ 0 9) ≤ (gS σ 0 10) →
      (vp_in (gS σ 0 10) 64) ∧
      (¬ (gA σ 6 ((gS σ 0 10)).toNatClampNeg) = (32 : Int32) →
        ((gS σ 0 9) ≤ (gS σ 0 10) →
          Q (-1 : Int32) σ) ∧
        (¬ (gS σ 0 9) ≤ (gS σ 0 10) →
          (vp_in (gS σ 0 10) 64) ∧
          Q (gA σ 6 ((gS σ 0 10)).toNatClampNeg) σ)) ∧
      ((gA σ 6 ((gS σ 0 10)).toNatClampNeg) = (32 : Int32) →
        am_X ri am_Lm IX11_next (d + 1) 0 [some (.ref 0)] [] (wS σ 0 10 ((gS σ 0 10) + (1 : Int32))) Q))) : am_X ri am_Lm IX11_next (d + 1) 0 [some (.ref 0)] [] σ Q := (X_if (fun _ _ => blX11_next_0) (fun z0 => (X_if (fun _ _ => blX11_next_38) (fun z1 => (X_go (fun _ _ => blX11_next_61) (X_ret (fun _ _ => blX11_next_62) ((H.1 z0).1 z1)))) (fun z1 => (X_go (fun _ _ => blX11_next_49 ((H.1 z0).2 z1).1) (X_ret (fun _ _ => blX11_next_62) ((H.1 z0).2 z1).2))))) (fun z0 => (X_ifn (fun _ _ => blX11_next_11 (H.2 z0).1) (fun z1 => (X_if (fun _ _ => blX11_next_38) (fun z2 => (X_go (fun _ _ => blX11_next_61) (X_ret (fun _ _ => blX11_next_62) (((H.2 z0).2.1 z1).1 z2)))) (fun z2 => (X_go (fun _ _ => blX11_next_49 (((H.2 z0).2.1 z1).2 z2).1) (X_ret (fun _ _ => blX11_next_62) (((H.2 z0).2.1 z1).2 z2).2))))) (fun z1 => (X_go (fun _ _ => blX11_next_25) ((H.2 z0).2.2 z1))))))
