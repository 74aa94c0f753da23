/-! ===== the states that the constructors leave, in the machine's words ===== -/
def am_BX : Nat := 599000
def am_BS : Nat := 6890000
def am_pm : Nat → Nat := fun n => match n with
  | 0 => 0
  | 1 => 1
  | 2 => 2
  | 3 => 3
  | 4 => 5
  | 5 => 33
  | 6 => 34
  | 7 => 35
  | 8 => 36
  | 9 => 37
  | 10 => 38
  | 11 => 39
  | 12 => 40
  | 13 => 41
  | 14 => 42
  | 15 => 43
  | 16 => 44
  | 17 => 45
  | 18 => 46
  | 19 => 47
  | 20 => 48
  | 21 => 49
  | 22 => 50
  | 23 => 51
  | 24 => 52
  | 25 => 53
  | 26 => 54
  | 27 => 55
  | 28 => 56
  | 29 => 57
  | 30 => 58
  | 31 => 59
  | 32 => 60
  | 33 => 61
  | 34 => 62
  | 35 => 63
  | 36 => 64
  | 37 => 65
  | 38 => 66
  | 39 => 67
  | 40 => 68
  | 41 => 69
  | 42 => 70
  | 43 => 71
  | 44 => 72
  | 45 => 73
  | 46 => 74
  | 47 => 75
  | 48 => 4
  | 49 => 6
  | 50 => 7
  | 51 => 8
  | 52 => 9
  | 53 => 10
  | 54 => 11
  | 55 => 12
  | 56 => 13
  | 57 => 14
  | 58 => 15
  | 59 => 16
  | 60 => 17
  | 61 => 18
  | 62 => 19
  | 63 => 20
  | 64 => 21
  | 65 => 22
  | 66 => 23
  | 67 => 24
  | 68 => 25
  | 69 => 26
  | 70 => 27
  | 71 => 28
  | 72 => 29
  | 73 => 30
  | 74 => 31
  | 75 => 32
  | n => n
def am_x0 : am_S := ((fun n k => if 49 ≤ n then (match k with
      | 0 => if n < 71 then 0 else 1
      | 1 => if n < 71 then nI (n - 49) else nI (n - 71)
      | 3 => 1
      | 4 => if n < 71 then (1 : Int32) <<< (nI (n - 49) &&& 31) else 0
      | _ => 0) else (match n, k with
    | 7, 5 => (-1)
    | 28, 0 => 6
    | 28, 1 => 100
    | 28, 8 => 1
    | 28, 9 => 1
    | 36, 0 => 16
    | 36, 1 => 16
    | 36, 8 => 1
    | 36, 9 => 1
    | _, _ => 0), fun _ _ => 0, fun _ _ => 0, fun n i => if n = 4 ∧ i < 27 then some (49 + i) else none, fun n => if 49 ≤ n ∧ n < 76 then some 48 else none), (fun n => decide (49 ≤ n), fun _ => 0, 76), (am_BX, am_BS))
def am_m0 : am_S := ((fun n k => match n, k with
    | 0, 4 => 17280
    | 0, 29 => 1
    | 0, 30 => 1
    | 0, 36 => (-2)
    | 0, 39 => 3
    | _, _ => 0, fun _ _ => 0, fun _ _ => 0, fun _ _ => none, fun _ => none), (fun _ => false, fun _ => 0, 31), (0, 0))
theorem sx_0 (g : am_G) (ν : Nat → Nat) : am_ent am_Lx g (fun n => ν (am_pm n)) am_x0 0 = cm_ent g ν (cm_at cm_x1 (am_pm 0)) := rfl
theorem sx_1 (g : am_G) (ν : Nat → Nat) : am_ent am_Lx g (fun n => ν (am_pm n)) am_x0 1 = cm_ent g ν (cm_at cm_x1 (am_pm 1)) := rfl
theorem sx_2 (g : am_G) (ν : Nat → Nat) : am_ent am_Lx g (fun n => ν (am_pm n)) am_x0 2 = cm_ent g ν (cm_at cm_x1 (am_pm 2)) := rfl
theorem sx_3 (g : am_G) (ν : Nat → Nat) : am_ent am_Lx g (fun n => ν (am_pm n)) am_x0 3 = cm_ent g ν (cm_at cm_x1 (am_pm 3)) := rfl
theorem sx_5 (g : am_G) (ν : Nat → Nat) : am_ent am_Lx g (fun n => ν (am_pm n)) am_x0 5 = cm_ent g ν (cm_at cm_x1 (am_pm 5)) := rfl
theorem sx_6 (g : am_G) (ν : Nat → Nat) : am_ent am_Lx g (fun n => ν (am_pm n)) am_x0 6 = cm_ent g ν (cm_at cm_x1 (am_pm 6)) := rfl
theorem sx_7 (g : am_G) (ν : Nat → Nat) : am_ent am_Lx g (fun n => ν (am_pm n)) am_x0 7 = cm_ent g ν (cm_at cm_x1 (am_pm 7)) := rfl
theorem sx_8 (g : am_G) (ν : Nat → Nat) : am_ent am_Lx g (fun n => ν (am_pm n)) am_x0 8 = cm_ent g ν (cm_at cm_x1 (am_pm 8)) := rfl
theorem sx_9 (g : am_G) (ν : Nat → Nat) : am_ent am_Lx g (fun n => ν (am_pm n)) am_x0 9 = cm_ent g ν (cm_at cm_x1 (am_pm 9)) := rfl
theorem sx_10 (g : am_G) (ν : Nat → Nat) : am_ent am_Lx g (fun n => ν (am_pm n)) am_x0 10 = cm_ent g ν (cm_at cm_x1 (am_pm 10)) := rfl
theorem sx_11 (g : am_G) (ν : Nat → Nat) : am_ent am_Lx g (fun n => ν (am_pm n)) am_x0 11 = cm_ent g ν (cm_at cm_x1 (am_pm 11)) := rfl
theorem sx_12 (g : am_G) (ν : Nat → Nat) : am_ent am_Lx g (fun n => ν (am_pm n)) am_x0 12 = cm_ent g ν (cm_at cm_x1 (am_pm 12)) := rfl
theorem sx_13 (g : am_G) (ν : Nat → Nat) : am_ent am_Lx g (fun n => ν (am_pm n)) am_x0 13 = cm_ent g ν (cm_at cm_x1 (am_pm 13)) := rfl
theorem sx_14 (g : am_G) (ν : Nat → Nat) : am_ent am_Lx g (fun n => ν (am_pm n)) am_x0 14 = cm_ent g ν (cm_at cm_x1 (am_pm 14)) := rfl
theorem sx_15 (g : am_G) (ν : Nat → Nat) : am_ent am_Lx g (fun n => ν (am_pm n)) am_x0 15 = cm_ent g ν (cm_at cm_x1 (am_pm 15)) := rfl
theorem sx_16 (g : am_G) (ν : Nat → Nat) : am_ent am_Lx g (fun n => ν (am_pm n)) am_x0 16 = cm_ent g ν (cm_at cm_x1 (am_pm 16)) := rfl
theorem sx_17 (g : am_G) (ν : Nat → Nat) : am_ent am_Lx g (fun n => ν (am_pm n)) am_x0 17 = cm_ent g ν (cm_at cm_x1 (am_pm 17)) := rfl
theorem sx_18 (g : am_G) (ν : Nat → Nat) : am_ent am_Lx g (fun n => ν (am_pm n)) am_x0 18 = cm_ent g ν (cm_at cm_x1 (am_pm 18)) := rfl
theorem sx_19 (g : am_G) (ν : Nat → Nat) : am_ent am_Lx g (fun n => ν (am_pm n)) am_x0 19 = cm_ent g ν (cm_at cm_x1 (am_pm 19)) := rfl
theorem sx_20 (g : am_G) (ν : Nat → Nat) : am_ent am_Lx g (fun n => ν (am_pm n)) am_x0 20 = cm_ent g ν (cm_at cm_x1 (am_pm 20)) := rfl
theorem sx_21 (g : am_G) (ν : Nat → Nat) : am_ent am_Lx g (fun n => ν (am_pm n)) am_x0 21 = cm_ent g ν (cm_at cm_x1 (am_pm 21)) := rfl
theorem sx_22 (g : am_G) (ν : Nat → Nat) : am_ent am_Lx g (fun n => ν (am_pm n)) am_x0 22 = cm_ent g ν (cm_at cm_x1 (am_pm 22)) := rfl
theorem sx_23 (g : am_G) (ν : Nat → Nat) : am_ent am_Lx g (fun n => ν (am_pm n)) am_x0 23 = cm_ent g ν (cm_at cm_x1 (am_pm 23)) := rfl
theorem sx_24 (g : am_G) (ν : Nat → Nat) : am_ent am_Lx g (fun n => ν (am_pm n)) am_x0 24 = cm_ent g ν (cm_at cm_x1 (am_pm 24)) := rfl
theorem sx_25 (g : am_G) (ν : Nat → Nat) : am_ent am_Lx g (fun n => ν (am_pm n)) am_x0 25 = cm_ent g ν (cm_at cm_x1 (am_pm 25)) := rfl
theorem sx_26 (g : am_G) (ν : Nat → Nat) : am_ent am_Lx g (fun n => ν (am_pm n)) am_x0 26 = cm_ent g ν (cm_at cm_x1 (am_pm 26)) := rfl
theorem sx_27 (g : am_G) (ν : Nat → Nat) : am_ent am_Lx g (fun n => ν (am_pm n)) am_x0 27 = cm_ent g ν (cm_at cm_x1 (am_pm 27)) := rfl
theorem sx_28 (g : am_G) (ν : Nat → Nat) : am_ent am_Lx g (fun n => ν (am_pm n)) am_x0 28 = cm_ent g ν (cm_at cm_x1 (am_pm 28)) := rfl
theorem sx_29 (g : am_G) (ν : Nat → Nat) : am_ent am_Lx g (fun n => ν (am_pm n)) am_x0 29 = cm_ent g ν (cm_at cm_x1 (am_pm 29)) := rfl
theorem sx_30 (g : am_G) (ν : Nat → Nat) : am_ent am_Lx g (fun n => ν (am_pm n)) am_x0 30 = cm_ent g ν (cm_at cm_x1 (am_pm 30)) := rfl
theorem sx_31 (g : am_G) (ν : Nat → Nat) : am_ent am_Lx g (fun n => ν (am_pm n)) am_x0 31 = cm_ent g ν (cm_at cm_x1 (am_pm 31)) := rfl
theorem sx_32 (g : am_G) (ν : Nat → Nat) : am_ent am_Lx g (fun n => ν (am_pm n)) am_x0 32 = cm_ent g ν (cm_at cm_x1 (am_pm 32)) := rfl
theorem sx_33 (g : am_G) (ν : Nat → Nat) : am_ent am_Lx g (fun n => ν (am_pm n)) am_x0 33 = cm_ent g ν (cm_at cm_x1 (am_pm 33)) := rfl
theorem sx_34 (g : am_G) (ν : Nat → Nat) : am_ent am_Lx g (fun n => ν (am_pm n)) am_x0 34 = cm_ent g ν (cm_at cm_x1 (am_pm 34)) := rfl
theorem sx_35 (g : am_G) (ν : Nat → Nat) : am_ent am_Lx g (fun n => ν (am_pm n)) am_x0 35 = cm_ent g ν (cm_at cm_x1 (am_pm 35)) := rfl
theorem sx_36 (g : am_G) (ν : Nat → Nat) : am_ent am_Lx g (fun n => ν (am_pm n)) am_x0 36 = cm_ent g ν (cm_at cm_x1 (am_pm 36)) := rfl
theorem sx_37 (g : am_G) (ν : Nat → Nat) : am_ent am_Lx g (fun n => ν (am_pm n)) am_x0 37 = cm_ent g ν (cm_at cm_x1 (am_pm 37)) := rfl
theorem sx_38 (g : am_G) (ν : Nat → Nat) : am_ent am_Lx g (fun n => ν (am_pm n)) am_x0 38 = cm_ent g ν (cm_at cm_x1 (am_pm 38)) := rfl
theorem sx_39 (g : am_G) (ν : Nat → Nat) : am_ent am_Lx g (fun n => ν (am_pm n)) am_x0 39 = cm_ent g ν (cm_at cm_x1 (am_pm 39)) := rfl
theorem sx_40 (g : am_G) (ν : Nat → Nat) : am_ent am_Lx g (fun n => ν (am_pm n)) am_x0 40 = cm_ent g ν (cm_at cm_x1 (am_pm 40)) := rfl
theorem sx_41 (g : am_G) (ν : Nat → Nat) : am_ent am_Lx g (fun n => ν (am_pm n)) am_x0 41 = cm_ent g ν (cm_at cm_x1 (am_pm 41)) := rfl
theorem sx_42 (g : am_G) (ν : Nat → Nat) : am_ent am_Lx g (fun n => ν (am_pm n)) am_x0 42 = cm_ent g ν (cm_at cm_x1 (am_pm 42)) := rfl
theorem sx_43 (g : am_G) (ν : Nat → Nat) : am_ent am_Lx g (fun n => ν (am_pm n)) am_x0 43 = cm_ent g ν (cm_at cm_x1 (am_pm 43)) := rfl
theorem sx_44 (g : am_G) (ν : Nat → Nat) : am_ent am_Lx g (fun n => ν (am_pm n)) am_x0 44 = cm_ent g ν (cm_at cm_x1 (am_pm 44)) := rfl
theorem sx_45 (g : am_G) (ν : Nat → Nat) : am_ent am_Lx g (fun n => ν (am_pm n)) am_x0 45 = cm_ent g ν (cm_at cm_x1 (am_pm 45)) := rfl
theorem sx_46 (g : am_G) (ν : Nat → Nat) : am_ent am_Lx g (fun n => ν (am_pm n)) am_x0 46 = cm_ent g ν (cm_at cm_x1 (am_pm 46)) := rfl
theorem sx_47 (g : am_G) (ν : Nat → Nat) : am_ent am_Lx g (fun n => ν (am_pm n)) am_x0 47 = cm_ent g ν (cm_at cm_x1 (am_pm 47)) := rfl
theorem sx_48 (g : am_G) (ν : Nat → Nat) : am_ent am_Lx g (fun n => ν (am_pm n)) am_x0 48 = cm_ent g ν (cm_at cm_x1 (am_pm 48)) := rfl
theorem sx_49 (g : am_G) (ν : Nat → Nat) : am_ent am_Lx g (fun n => ν (am_pm n)) am_x0 49 = cm_ent g ν (cm_at cm_x1 (am_pm 49)) := rfl
theorem sx_50 (g : am_G) (ν : Nat → Nat) : am_ent am_Lx g (fun n => ν (am_pm n)) am_x0 50 = cm_ent g ν (cm_at cm_x1 (am_pm 50)) := rfl
theorem sx_51 (g : am_G) (ν : Nat → Nat) : am_ent am_Lx g (fun n => ν (am_pm n)) am_x0 51 = cm_ent g ν (cm_at cm_x1 (am_pm 51)) := rfl
theorem sx_52 (g : am_G) (ν : Nat → Nat) : am_ent am_Lx g (fun n => ν (am_pm n)) am_x0 52 = cm_ent g ν (cm_at cm_x1 (am_pm 52)) := rfl
theorem sx_53 (g : am_G) (ν : Nat → Nat) : am_ent am_Lx g (fun n => ν (am_pm n)) am_x0 53 = cm_ent g ν (cm_at cm_x1 (am_pm 53)) := rfl
theorem sx_54 (g : am_G) (ν : Nat → Nat) : am_ent am_Lx g (fun n => ν (am_pm n)) am_x0 54 = cm_ent g ν (cm_at cm_x1 (am_pm 54)) := rfl
theorem sx_55 (g : am_G) (ν : Nat → Nat) : am_ent am_Lx g (fun n => ν (am_pm n)) am_x0 55 = cm_ent g ν (cm_at cm_x1 (am_pm 55)) := rfl
theorem sx_56 (g : am_G) (ν : Nat → Nat) : am_ent am_Lx g (fun n => ν (am_pm n)) am_x0 56 = cm_ent g ν (cm_at cm_x1 (am_pm 56)) := rfl
theorem sx_57 (g : am_G) (ν : Nat → Nat) : am_ent am_Lx g (fun n => ν (am_pm n)) am_x0 57 = cm_ent g ν (cm_at cm_x1 (am_pm 57)) := rfl
theorem sx_58 (g : am_G) (ν : Nat → Nat) : am_ent am_Lx g (fun n => ν (am_pm n)) am_x0 58 = cm_ent g ν (cm_at cm_x1 (am_pm 58)) := rfl
theorem sx_59 (g : am_G) (ν : Nat → Nat) : am_ent am_Lx g (fun n => ν (am_pm n)) am_x0 59 = cm_ent g ν (cm_at cm_x1 (am_pm 59)) := rfl
theorem sx_60 (g : am_G) (ν : Nat → Nat) : am_ent am_Lx g (fun n => ν (am_pm n)) am_x0 60 = cm_ent g ν (cm_at cm_x1 (am_pm 60)) := rfl
theorem sx_61 (g : am_G) (ν : Nat → Nat) : am_ent am_Lx g (fun n => ν (am_pm n)) am_x0 61 = cm_ent g ν (cm_at cm_x1 (am_pm 61)) := rfl
theorem sx_62 (g : am_G) (ν : Nat → Nat) : am_ent am_Lx g (fun n => ν (am_pm n)) am_x0 62 = cm_ent g ν (cm_at cm_x1 (am_pm 62)) := rfl
theorem sx_63 (g : am_G) (ν : Nat → Nat) : am_ent am_Lx g (fun n => ν (am_pm n)) am_x0 63 = cm_ent g ν (cm_at cm_x1 (am_pm 63)) := rfl
theorem sx_64 (g : am_G) (ν : Nat → Nat) : am_ent am_Lx g (fun n => ν (am_pm n)) am_x0 64 = cm_ent g ν (cm_at cm_x1 (am_pm 64)) := rfl
theorem sx_65 (g : am_G) (ν : Nat → Nat) : am_ent am_Lx g (fun n => ν (am_pm n)) am_x0 65 = cm_ent g ν (cm_at cm_x1 (am_pm 65)) := rfl
theorem sx_66 (g : am_G) (ν : Nat → Nat) : am_ent am_Lx g (fun n => ν (am_pm n)) am_x0 66 = cm_ent g ν (cm_at cm_x1 (am_pm 66)) := rfl
theorem sx_67 (g : am_G) (ν : Nat → Nat) : am_ent am_Lx g (fun n => ν (am_pm n)) am_x0 67 = cm_ent g ν (cm_at cm_x1 (am_pm 67)) := rfl
theorem sx_68 (g : am_G) (ν : Nat → Nat) : am_ent am_Lx g (fun n => ν (am_pm n)) am_x0 68 = cm_ent g ν (cm_at cm_x1 (am_pm 68)) := rfl
theorem sx_69 (g : am_G) (ν : Nat → Nat) : am_ent am_Lx g (fun n => ν (am_pm n)) am_x0 69 = cm_ent g ν (cm_at cm_x1 (am_pm 69)) := rfl
theorem sx_70 (g : am_G) (ν : Nat → Nat) : am_ent am_Lx g (fun n => ν (am_pm n)) am_x0 70 = cm_ent g ν (cm_at cm_x1 (am_pm 70)) := rfl
theorem sx_71 (g : am_G) (ν : Nat → Nat) : am_ent am_Lx g (fun n => ν (am_pm n)) am_x0 71 = cm_ent g ν (cm_at cm_x1 (am_pm 71)) := rfl
theorem sx_72 (g : am_G) (ν : Nat → Nat) : am_ent am_Lx g (fun n => ν (am_pm n)) am_x0 72 = cm_ent g ν (cm_at cm_x1 (am_pm 72)) := rfl
theorem sx_73 (g : am_G) (ν : Nat → Nat) : am_ent am_Lx g (fun n => ν (am_pm n)) am_x0 73 = cm_ent g ν (cm_at cm_x1 (am_pm 73)) := rfl
theorem sx_74 (g : am_G) (ν : Nat → Nat) : am_ent am_Lx g (fun n => ν (am_pm n)) am_x0 74 = cm_ent g ν (cm_at cm_x1 (am_pm 74)) := rfl
theorem sx_75 (g : am_G) (ν : Nat → Nat) : am_ent am_Lx g (fun n => ν (am_pm n)) am_x0 75 = cm_ent g ν (cm_at cm_x1 (am_pm 75)) := rfl
theorem sx_4 (g : am_G) (ν : Nat → Nat) : am_ent am_Lx g (fun n => ν (am_pm n)) am_x0 4 = cm_ent g ν (cm_at cm_x1 (am_pm 4)) := by
  show (Sum.inl (g.2.1 4, 27, .inr (.inr (.inr (.inr (fun i => (gP am_x0 4 i).map (fun n => ν (am_pm n))))))) : va_E) = Sum.inl (g.2.1 4, 27, .inr (.inr (.inr (.inr (cm_us ν [(0, 6), (1, 7), (2, 8), (3, 9), (4, 10), (5, 11), (6, 12), (7, 13), (8, 14), (9, 15), (10, 16), (11, 17), (12, 18), (13, 19), (14, 20), (15, 21), (16, 22), (17, 23), (18, 24), (19, 25), (20, 26), (21, 27), (22, 28), (23, 29), (24, 30), (25, 31), (26, 32)])))))
  have e : (fun i => (gP am_x0 4 i).map (fun n => ν (am_pm n))) = cm_us ν [(0, 6), (1, 7), (2, 8), (3, 9), (4, 10), (5, 11), (6, 12), (7, 13), (8, 14), (9, 15), (10, 16), (11, 17), (12, 18), (13, 19), (14, 20), (15, 21), (16, 22), (17, 23), (18, 24), (19, 25), (20, 26), (21, 27), (22, 28), (23, 29), (24, 30), (25, 31), (26, 32)] := by
    funext i
    by_cases hi : i < 27
    · exact match i, hi with
      | 0, _ => rfl
      | 1, _ => rfl
      | 2, _ => rfl
      | 3, _ => rfl
      | 4, _ => rfl
      | 5, _ => rfl
      | 6, _ => rfl
      | 7, _ => rfl
      | 8, _ => rfl
      | 9, _ => rfl
      | 10, _ => rfl
      | 11, _ => rfl
      | 12, _ => rfl
      | 13, _ => rfl
      | 14, _ => rfl
      | 15, _ => rfl
      | 16, _ => rfl
      | 17, _ => rfl
      | 18, _ => rfl
      | 19, _ => rfl
      | 20, _ => rfl
      | 21, _ => rfl
      | 22, _ => rfl
      | 23, _ => rfl
      | 24, _ => rfl
      | 25, _ => rfl
      | 26, _ => rfl
      | n + 27, h => absurd h (by omega)
    · have e1 : gP am_x0 4 i = none := by
        show (if 4 = 4 ∧ i < 27 then some (49 + i) else none) = none
        rw [if_neg (fun z => hi z.2)]
      rw [e1]
      simp only [cm_us, List.foldl, va_up, Option.map]
      repeat rw [if_neg (by omega)]
  rw [e]
theorem sx_all (g : am_G) (ν : Nat → Nat) : ∀ n, n < 76 → am_ent am_Lx g (fun n => ν (am_pm n)) am_x0 n = cm_ent g ν (cm_at cm_x1 (am_pm n)) := fun n hn => match n, hn with
  | 0, _ => sx_0 g ν
  | 1, _ => sx_1 g ν
  | 2, _ => sx_2 g ν
  | 3, _ => sx_3 g ν
  | 4, _ => sx_4 g ν
  | 5, _ => sx_5 g ν
  | 6, _ => sx_6 g ν
  | 7, _ => sx_7 g ν
  | 8, _ => sx_8 g ν
  | 9, _ => sx_9 g ν
  | 10, _ => sx_10 g ν
  | 11, _ => sx_11 g ν
  | 12, _ => sx_12 g ν
  | 13, _ => sx_13 g ν
  | 14, _ => sx_14 g ν
  | 15, _ => sx_15 g ν
  | 16, _ => sx_16 g ν
  | 17, _ => sx_17 g ν
  | 18, _ => sx_18 g ν
  | 19, _ => sx_19 g ν
  | 20, _ => sx_20 g ν
  | 21, _ => sx_21 g ν
  | 22, _ => sx_22 g ν
  | 23, _ => sx_23 g ν
  | 24, _ => sx_24 g ν
  | 25, _ => sx_25 g ν
  | 26, _ => sx_26 g ν
  | 27, _ => sx_27 g ν
  | 28, _ => sx_28 g ν
  | 29, _ => sx_29 g ν
  | 30, _ => sx_30 g ν
  | 31, _ => sx_31 g ν
  | 32, _ => sx_32 g ν
  | 33, _ => sx_33 g ν
  | 34, _ => sx_34 g ν
  | 35, _ => sx_35 g ν
  | 36, _ => sx_36 g ν
  | 37, _ => sx_37 g ν
  | 38, _ => sx_38 g ν
  | 39, _ => sx_39 g ν
  | 40, _ => sx_40 g ν
  | 41, _ => sx_41 g ν
  | 42, _ => sx_42 g ν
  | 43, _ => sx_43 g ν
  | 44, _ => sx_44 g ν
  | 45, _ => sx_45 g ν
  | 46, _ => sx_46 g ν
  | 47, _ => sx_47 g ν
  | 48, _ => sx_48 g ν
  | 49, _ => sx_49 g ν
  | 50, _ => sx_50 g ν
  | 51, _ => sx_51 g ν
  | 52, _ => sx_52 g ν
  | 53, _ => sx_53 g ν
  | 54, _ => sx_54 g ν
  | 55, _ => sx_55 g ν
  | 56, _ => sx_56 g ν
  | 57, _ => sx_57 g ν
  | 58, _ => sx_58 g ν
  | 59, _ => sx_59 g ν
  | 60, _ => sx_60 g ν
  | 61, _ => sx_61 g ν
  | 62, _ => sx_62 g ν
  | 63, _ => sx_63 g ν
  | 64, _ => sx_64 g ν
  | 65, _ => sx_65 g ν
  | 66, _ => sx_66 g ν
  | 67, _ => sx_67 g ν
  | 68, _ => sx_68 g ν
  | 69, _ => sx_69 g ν
  | 70, _ => sx_70 g ν
  | 71, _ => sx_71 g ν
  | 72, _ => sx_72 g ν
  | 73, _ => sx_73 g ν
  | 74, _ => sx_74 g ν
  | 75, _ => sx_75 g ν
  | n + 76, h => absurd h (by omega)
theorem sm_0 (g : am_G) (ν : Nat → Nat) : am_ent am_Lm g ν am_m0 0 = cm_ent g ν (cm_at cm_m1 0) := rfl
theorem sm_1 (g : am_G) (ν : Nat → Nat) : am_ent am_Lm g ν am_m0 1 = cm_ent g ν (cm_at cm_m1 1) := rfl
theorem sm_2 (g : am_G) (ν : Nat → Nat) : am_ent am_Lm g ν am_m0 2 = cm_ent g ν (cm_at cm_m1 2) := rfl
theorem sm_3 (g : am_G) (ν : Nat → Nat) : am_ent am_Lm g ν am_m0 3 = cm_ent g ν (cm_at cm_m1 3) := rfl
theorem sm_4 (g : am_G) (ν : Nat → Nat) : am_ent am_Lm g ν am_m0 4 = cm_ent g ν (cm_at cm_m1 4) := rfl
theorem sm_5 (g : am_G) (ν : Nat → Nat) : am_ent am_Lm g ν am_m0 5 = cm_ent g ν (cm_at cm_m1 5) := rfl
theorem sm_6 (g : am_G) (ν : Nat → Nat) : am_ent am_Lm g ν am_m0 6 = cm_ent g ν (cm_at cm_m1 6) := rfl
theorem sm_7 (g : am_G) (ν : Nat → Nat) : am_ent am_Lm g ν am_m0 7 = cm_ent g ν (cm_at cm_m1 7) := rfl
theorem sm_8 (g : am_G) (ν : Nat → Nat) : am_ent am_Lm g ν am_m0 8 = cm_ent g ν (cm_at cm_m1 8) := rfl
theorem sm_9 (g : am_G) (ν : Nat → Nat) : am_ent am_Lm g ν am_m0 9 = cm_ent g ν (cm_at cm_m1 9) := rfl
theorem sm_10 (g : am_G) (ν : Nat → Nat) : am_ent am_Lm g ν am_m0 10 = cm_ent g ν (cm_at cm_m1 10) := rfl
theorem sm_11 (g : am_G) (ν : Nat → Nat) : am_ent am_Lm g ν am_m0 11 = cm_ent g ν (cm_at cm_m1 11) := rfl
theorem sm_12 (g : am_G) (ν : Nat → Nat) : am_ent am_Lm g ν am_m0 12 = cm_ent g ν (cm_at cm_m1 12) := rfl
theorem sm_13 (g : am_G) (ν : Nat → Nat) : am_ent am_Lm g ν am_m0 13 = cm_ent g ν (cm_at cm_m1 13) := rfl
theorem sm_14 (g : am_G) (ν : Nat → Nat) : am_ent am_Lm g ν am_m0 14 = cm_ent g ν (cm_at cm_m1 14) := rfl
theorem sm_15 (g : am_G) (ν : Nat → Nat) : am_ent am_Lm g ν am_m0 15 = cm_ent g ν (cm_at cm_m1 15) := rfl
theorem sm_16 (g : am_G) (ν : Nat → Nat) : am_ent am_Lm g ν am_m0 16 = cm_ent g ν (cm_at cm_m1 16) := rfl
theorem sm_17 (g : am_G) (ν : Nat → Nat) : am_ent am_Lm g ν am_m0 17 = cm_ent g ν (cm_at cm_m1 17) := rfl
theorem sm_18 (g : am_G) (ν : Nat → Nat) : am_ent am_Lm g ν am_m0 18 = cm_ent g ν (cm_at cm_m1 18) := rfl
theorem sm_19 (g : am_G) (ν : Nat → Nat) : am_ent am_Lm g ν am_m0 19 = cm_ent g ν (cm_at cm_m1 19) := rfl
theorem sm_20 (g : am_G) (ν : Nat → Nat) : am_ent am_Lm g ν am_m0 20 = cm_ent g ν (cm_at cm_m1 20) := rfl
theorem sm_21 (g : am_G) (ν : Nat → Nat) : am_ent am_Lm g ν am_m0 21 = cm_ent g ν (cm_at cm_m1 21) := rfl
theorem sm_22 (g : am_G) (ν : Nat → Nat) : am_ent am_Lm g ν am_m0 22 = cm_ent g ν (cm_at cm_m1 22) := rfl
theorem sm_23 (g : am_G) (ν : Nat → Nat) : am_ent am_Lm g ν am_m0 23 = cm_ent g ν (cm_at cm_m1 23) := rfl
theorem sm_24 (g : am_G) (ν : Nat → Nat) : am_ent am_Lm g ν am_m0 24 = cm_ent g ν (cm_at cm_m1 24) := rfl
theorem sm_25 (g : am_G) (ν : Nat → Nat) : am_ent am_Lm g ν am_m0 25 = cm_ent g ν (cm_at cm_m1 25) := rfl
theorem sm_26 (g : am_G) (ν : Nat → Nat) : am_ent am_Lm g ν am_m0 26 = cm_ent g ν (cm_at cm_m1 26) := rfl
theorem sm_27 (g : am_G) (ν : Nat → Nat) : am_ent am_Lm g ν am_m0 27 = cm_ent g ν (cm_at cm_m1 27) := rfl
theorem sm_28 (g : am_G) (ν : Nat → Nat) : am_ent am_Lm g ν am_m0 28 = cm_ent g ν (cm_at cm_m1 28) := rfl
theorem sm_29 (g : am_G) (ν : Nat → Nat) : am_ent am_Lm g ν am_m0 29 = cm_ent g ν (cm_at cm_m1 29) := rfl
theorem sm_30 (g : am_G) (ν : Nat → Nat) : am_ent am_Lm g ν am_m0 30 = cm_ent g ν (cm_at cm_m1 30) := rfl
theorem sm_all (g : am_G) (ν : Nat → Nat) : ∀ n, n < 31 → am_ent am_Lm g ν am_m0 n = cm_ent g ν (cm_at cm_m1 n) := fun n hn => match n, hn with
  | 0, _ => sm_0 g ν
  | 1, _ => sm_1 g ν
  | 2, _ => sm_2 g ν
  | 3, _ => sm_3 g ν
  | 4, _ => sm_4 g ν
  | 5, _ => sm_5 g ν
  | 6, _ => sm_6 g ν
  | 7, _ => sm_7 g ν
  | 8, _ => sm_8 g ν
  | 9, _ => sm_9 g ν
  | 10, _ => sm_10 g ν
  | 11, _ => sm_11 g ν
  | 12, _ => sm_12 g ν
  | 13, _ => sm_13 g ν
  | 14, _ => sm_14 g ν
  | 15, _ => sm_15 g ν
  | 16, _ => sm_16 g ν
  | 17, _ => sm_17 g ν
  | 18, _ => sm_18 g ν
  | 19, _ => sm_19 g ν
  | 20, _ => sm_20 g ν
  | 21, _ => sm_21 g ν
  | 22, _ => sm_22 g ν
  | 23, _ => sm_23 g ν
  | 24, _ => sm_24 g ν
  | 25, _ => sm_25 g ν
  | 26, _ => sm_26 g ν
  | 27, _ => sm_27 g ν
  | 28, _ => sm_28 g ν
  | 29, _ => sm_29 g ν
  | 30, _ => sm_30 g ν
  | n + 31, h => absurd h (by omega)
theorem am_pm_lt : ∀ n, n < 76 → am_pm n < 76 := by decide +kernel
theorem am_pm_inj : ∀ a, a < 76 → ∀ b, b < 76 → am_pm a = am_pm b → a = b := by decide +kernel
theorem am_pm_ge {n : Nat} (h : 76 ≤ n) : am_pm n = n := by
  obtain ⟨k, rfl⟩ : ∃ k, n = k + 76 := ⟨n - 76, by omega⟩
  rfl
theorem am_gx : gn am_x0 = 76 ∧ cm_x1.length = 76 ∧ gn am_m0 = 31 ∧ cm_m1.length = 31 ∧ gc am_x0 = 599000 ∧ gs am_x0 = 6890000 ∧ gc am_m0 = 0 ∧ gs am_m0 = 0 := ⟨rfl, rfl, rfl, rfl, rfl, rfl, rfl, rfl⟩
theorem am_wx {g : am_G} {ν : Nat → Nat} {n : Nat} (h : n < 76) : (am_wl am_Lx g (fun n => ν (am_pm n)) am_x0)[n]? = (cm_wl g ν cm_x1)[am_pm n]? := by
  rw [am_wl_get (show n < gn am_x0 from h), sx_all g ν n h]
  have h1 := am_pm_lt n h
  obtain ⟨y, hy⟩ : ∃ y, cm_x1[am_pm n]? = some y := ⟨_, List.getElem?_eq_getElem (show am_pm n < cm_x1.length from h1)⟩
  rw [cm_wl_get hy]
  have e : cm_at cm_x1 (am_pm n) = y := by
    unfold cm_at
    rw [List.getD_eq_getElem?_getD, hy]
    rfl
  rw [e]
theorem am_wm {g : am_G} {ν : Nat → Nat} : am_wl am_Lm g ν am_m0 = cm_wl g ν cm_m1 := by
  apply List.ext_getElem?
  intro n
  by_cases h : n < 31
  · rw [am_wl_get (show n < gn am_m0 from h), sm_all g ν n h]
    obtain ⟨y, hy⟩ : ∃ y, cm_m1[n]? = some y := ⟨_, List.getElem?_eq_getElem (show n < cm_m1.length from h)⟩
    rw [cm_wl_get hy]
    have e : cm_at cm_m1 n = y := by
      unfold cm_at
      rw [List.getD_eq_getElem?_getD, hy]
      rfl
    rw [e]
  · rw [List.getElem?_eq_none (by rw [am_wl_len]; exact Nat.not_lt.mp h), List.getElem?_eq_none (by rw [cm_wl_len]; exact Nat.not_lt.mp h)]
theorem am_Px {g : am_G} {ν : Nat → Nat} {H : Heap} (h : va_P g.1 vwCl (cm_wl g ν cm_x1) H) : va_P g.1 vwCl (am_wl am_Lx g (fun n => ν (am_pm n)) am_x0) H := by
  intro k q hq
  have hk : k < 76 := by
    have := (List.getElem?_eq_some_iff.mp hq).1
    rw [am_wl_len] at this
    exact this
  rw [am_wx hk] at hq
  exact h _ q hq
theorem am_Dx {g : am_G} {ν : Nat → Nat} {A : Nat → Prop} (h : va_D A (cm_wl g ν cm_x1)) : va_D A (am_wl am_Lx g (fun n => ν (am_pm n)) am_x0) := by
  have lt : ∀ (k : Nat) (q : Nat × va_E), (am_wl am_Lx g (fun n => ν (am_pm n)) am_x0)[k]? = some q → k < 76 := fun k q hq => by
    have := (List.getElem?_eq_some_iff.mp hq).1
    rw [am_wl_len] at this
    exact this
  refine ⟨fun i j p q hi hj hpq => ?_, fun k q hq => ?_⟩
  · have li := lt i p hi
    have lj := lt j q hj
    rw [am_wx li] at hi
    rw [am_wx lj] at hj
    exact am_pm_inj i li j lj (h.1 _ _ p q hi hj hpq)
  · have lk := lt k q hq
    rw [am_wx lk] at hq
    exact h.2 _ q hq
def am_lokB (Λ : am_Lay) : Bool := (List.range Λ.1).all (fun n => match Λ.2 n with
  | .inl o => o.2.all (fun x => match x with
    | some a => Nat.blt a Λ.1
    | none => true)
  | .inr _ => true)
theorem am_lokB_ok {Λ : am_Lay} (h0 : Λ.1 ≤ am_sb) (h : am_lokB Λ = true) : am_lok Λ := by
  refine ⟨h0, fun n hn => ?_⟩
  have h1 := List.all_eq_true.mp h n (List.mem_range.mpr hn)
  split
  · rename_i o ho
    rw [ho] at h1
    intro a ha
    exact Nat.le_of_ble_eq_true (List.all_eq_true.mp h1 (some a) ha)
  · trivial
theorem am_lokx : am_lok am_Lx := am_lokB_ok (by decide) (by decide +kernel)
theorem am_lokm : am_lok am_Lm := am_lokB_ok (by decide) (by decide +kernel)
theorem am_clx : am_cl am_Lx am_x0 := by
  refine ⟨am_lokx, by decide, by decide, fun n i t h => ?_, fun n a h => ?_⟩
  · have h1 : (if n = 4 ∧ i < 27 then some (49 + i) else none) = some t := h
    split at h1
    · cases h1
      rename_i hc
      show 49 + i < 76
      omega
    · cases h1
  · have h1 : (if 49 ≤ n ∧ n < 76 then some 48 else none) = some a := h
    split at h1
    · cases h1
      decide
    · cases h1
theorem am_clm : am_cl am_Lm am_m0 := by
  refine ⟨am_lokm, by decide, by decide, ?_, ?_⟩
  · intro n i t h
    cases h
  · intro n a h
    cases h
