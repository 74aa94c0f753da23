def cm_x0 : List cm_C := [.inr (9, cm_df tyX10 8)]
def cm_m0 : List cm_C := [.inr (10, cm_df tyX11 53)]
def cm_x1 : List cm_C := [.inr (9, [.ref 1, .ref 2, .ref 3, .ref 35, .ref 37, .ref 39, .ref 56, .ref 63]),
  .inl (4, 16, []),
  .inl (4, 22, []),
  .inr (2, [.ref 5, .ref 33, .ref 34, .int 0]),
  .inl (4, 0, []),
  .inl (4, 27, [(0, 6), (1, 7), (2, 8), (3, 9), (4, 10), (5, 11), (6, 12), (7, 13), (8, 14), (9, 15), (10, 16), (11, 17), (12, 18), (13, 19), (14, 20), (15, 21), (16, 22), (17, 23), (18, 24), (19, 25), (20, 26), (21, 27), (22, 28), (23, 29), (24, 30), (25, 31), (26, 32)]),
  .inr (7, [.int 0, .int 0, .ref 4, .int 1, .int 1]),
  .inr (7, [.int 0, .int 1, .ref 4, .int 1, .int 2]),
  .inr (7, [.int 0, .int 2, .ref 4, .int 1, .int 4]),
  .inr (7, [.int 0, .int 3, .ref 4, .int 1, .int 8]),
  .inr (7, [.int 0, .int 4, .ref 4, .int 1, .int 16]),
  .inr (7, [.int 0, .int 5, .ref 4, .int 1, .int 32]),
  .inr (7, [.int 0, .int 6, .ref 4, .int 1, .int 64]),
  .inr (7, [.int 0, .int 7, .ref 4, .int 1, .int 128]),
  .inr (7, [.int 0, .int 8, .ref 4, .int 1, .int 256]),
  .inr (7, [.int 0, .int 9, .ref 4, .int 1, .int 512]),
  .inr (7, [.int 0, .int 10, .ref 4, .int 1, .int 1024]),
  .inr (7, [.int 0, .int 11, .ref 4, .int 1, .int 2048]),
  .inr (7, [.int 0, .int 12, .ref 4, .int 1, .int 4096]),
  .inr (7, [.int 0, .int 13, .ref 4, .int 1, .int 8192]),
  .inr (7, [.int 0, .int 14, .ref 4, .int 1, .int 16384]),
  .inr (7, [.int 0, .int 15, .ref 4, .int 1, .int 32768]),
  .inr (7, [.int 0, .int 16, .ref 4, .int 1, .int 65536]),
  .inr (7, [.int 0, .int 17, .ref 4, .int 1, .int 131072]),
  .inr (7, [.int 0, .int 18, .ref 4, .int 1, .int 262144]),
  .inr (7, [.int 0, .int 19, .ref 4, .int 1, .int 524288]),
  .inr (7, [.int 0, .int 20, .ref 4, .int 1, .int 1048576]),
  .inr (7, [.int 0, .int 21, .ref 4, .int 1, .int 2097152]),
  .inr (7, [.int 1, .int 0, .ref 4, .int 1, .int 0]),
  .inr (7, [.int 1, .int 1, .ref 4, .int 1, .int 0]),
  .inr (7, [.int 1, .int 2, .ref 4, .int 1, .int 0]),
  .inr (7, [.int 1, .int 3, .ref 4, .int 1, .int 0]),
  .inr (7, [.int 1, .int 4, .ref 4, .int 1, .int 0]),
  .inl (4, 128, []),
  .inl (4, 8, []),
  .inr (6, [.ref 3, .ref 36, .int 0, .int 0, .int 0, .int (-1)]),
  .inl (2, 64, []),
  .inr (5, [.ref 38, .int 0]),
  .inl (2, 256, []),
  .inr (3, [.ref 40, .ref 44, .ref 52, .ref 53, .ref 54, .ref 55, .int 0]),
  .inr (1, [.ref 41, .ref 42, .ref 43, .int 0]),
  .inl (4, 64, []),
  .inl (1, 64, []),
  .inl (1, 64, []),
  .inr (4, [.ref 45, .ref 46, .ref 47, .ref 48, .ref 49, .ref 50, .ref 51, .int 0, .int 0]),
  .inl (4, 40, []),
  .inl (0, 40, []),
  .inl (0, 40, []),
  .inl (0, 40, []),
  .inl (0, 40, []),
  .inl (0, 40, []),
  .inl (1, 40, []),
  .inl (0, 1640, []),
  .inl (1, 1640, []),
  .inl (1, 164, []),
  .inl (1, 200, []),
  .inr (0, [.int 6, .int 100, .ref 57, .ref 58, .ref 59, .ref 60, .ref 61, .ref 62, .int 1, .int 1, .int 0, .int 0]),
  .inl (0, 18, []),
  .inl (0, 21, []),
  .inl (0, 21, []),
  .inl (0, 3, []),
  .inl (0, 6, []),
  .inl (0, 600, []),
  .inr (8, [.ref 64, .ref 71, .ref 72, .ref 73, .ref 74, .ref 75, .int 0, .int 0, .int 0, .int 0, .int 0]),
  .inr (0, [.int 16, .int 16, .ref 65, .ref 66, .ref 67, .ref 68, .ref 69, .ref 70, .int 1, .int 1, .int 0, .int 0]),
  .inl (0, 16, []),
  .inl (0, 17, []),
  .inl (0, 17, []),
  .inl (0, 1, []),
  .inl (0, 16, []),
  .inl (0, 256, []),
  .inl (4, 16, []),
  .inl (0, 16, []),
  .inl (0, 16, []),
  .inl (0, 16, []),
  .inl (0, 16, [])]
def cm_m1 : List cm_C := [.inr (10, [.ref 1, .ref 2, .ref 3, .ref 4, .int 17280, .int 0, .ref 5, .int 0, .ref 6, .int 0, .int 0, .int 0, .int 0, .ref 7, .ref 8, .int 0, .int 0, .int 0, .ref 9, .ref 10, .ref 11, .ref 12, .ref 13, .ref 14, .ref 15, .ref 16, .int 0, .int 0, .ref 17, .int 1, .int 1, .ref 18, .int 0, .ref 19, .ref 20, .ref 21, .int (-2), .int 0, .int 0, .int 3, .int 0, .int 0, .ref 22, .ref 23, .ref 24, .ref 25, .ref 26, .int 0, .int 0, .ref 27, .ref 28, .ref 29, .ref 30]),
  .inl (0, 70000, []),
  .inl (0, 70000, []),
  .inl (0, 70000, []),
  .inl (0, 70000, []),
  .inl (0, 20000, []),
  .inl (0, 64, []),
  .inl (3, 16, []),
  .inl (0, 400, []),
  .inl (0, 4, []),
  .inl (0, 4, []),
  .inl (0, 100, []),
  .inl (0, 4000, []),
  .inl (0, 4000, []),
  .inl (0, 4000, []),
  .inl (0, 4000, []),
  .inl (0, 4000, []),
  .inl (0, 22, []),
  .inl (0, 18, []),
  .inl (0, 606, []),
  .inl (0, 32, []),
  .inl (0, 100, []),
  .inl (0, 6, []),
  .inl (0, 32, []),
  .inl (0, 600, []),
  .inl (0, 17, []),
  .inl (0, 65536, []),
  .inl (0, 22, []),
  .inl (0, 17, []),
  .inl (0, 17, []),
  .inl (0, 16, [])]
def cm_beq (a b : cm_C) : Bool := match a, b with
  | .inl x, .inl y => decide (x = y)
  | .inr x, .inr y => decide (x = y)
  | _, _ => false
theorem cm_beq_ok {a b : cm_C} (h : cm_beq a b = true) : a = b := by
  unfold cm_beq at h
  split at h
  · rw [of_decide_eq_true h]
  · rw [of_decide_eq_true h]
  · cases h
def cm_leq : List cm_C → List cm_C → Bool
  | [], [] => true
  | a :: r, b :: t => cm_beq a b && cm_leq r t
  | _, _ => false
theorem cm_leq_ok : ∀ {a b : List cm_C}, cm_leq a b = true → a = b
  | [], [], _ => rfl
  | a :: r, b :: t, h => by
    have h1 := Bool.and_eq_true_iff.mp h
    rw [cm_beq_ok h1.1, cm_leq_ok h1.2]
  | [], _ :: _, h => by cases h
  | _ :: _, [], h => by cases h
def cm_oeq (a : Option (List cm_C)) (b : List cm_C) : Bool := match a with
  | some x => cm_leq x b
  | none => false
theorem cm_oeq_ok {a : Option (List cm_C)} {b : List cm_C} (h : cm_oeq a b = true) : a = some b := by
  unfold cm_oeq at h
  split at h
  · rw [cm_leq_ok h]
  · cases h
theorem cm_x_ev : cm_ev cm_MT cm_NW 4 0 [.ref 0] cm_x0 = some cm_x1 := cm_oeq_ok (by decide +kernel)
theorem cm_m_ev : cm_ev cm_MT cm_NW 4 10 [.ref 0] cm_m0 = some cm_m1 := cm_oeq_ok (by decide +kernel)
theorem cm_x_ctr : cm_Ctr cm_IX10 4 [.ref 0] cm_x0 cm_x1 := cm_all cm_okall cm_owall 4 0 _ _ _ cm_x_ev
theorem cm_m_ctr : cm_Ctr cm_IX11 4 [.ref 0] cm_m0 cm_m1 := cm_all cm_okall cm_owall 4 10 _ _ _ cm_m_ev
