/-! ===== AN ABSTRACT MACHINE: names in place of addresses, a state of functions, one step as a proposition ===== -/
/-- what stands at a fixed name: an object (number of its class, for each slot: none a number of the state, some r the fixed name r), or an array (kind, length) -/
abbrev am_LE : Type := (Nat × List (Option Nat)) ⊕ (Nat × Nat)
abbrev am_Lay : Type := Nat × (Nat → am_LE)
/-- classes and slots, array classes by kind, the addresses of the String constants and of their bytes -/
abbrev am_G : Type := va_G × (Nat → ClassId) × (Nat → Nat) × (Nat → Nat)
abbrev am_S : Type := ((Nat → Nat → Int32) × (Nat → Nat → Int32) × (Nat → Nat → Int64) × (Nat → Nat → Option Nat) × (Nat → Option Nat)) × ((Nat → Bool) × (Nat → Nat) × Nat) × (Nat × Nat)
def gS (σ : am_S) : Nat → Nat → Int32 := σ.1.1
def gA (σ : am_S) : Nat → Nat → Int32 := σ.1.2.1
def gJ (σ : am_S) : Nat → Nat → Int64 := σ.1.2.2.1
def gP (σ : am_S) : Nat → Nat → Option Nat := σ.1.2.2.2.1
def gQ (σ : am_S) : Nat → Option Nat := σ.1.2.2.2.2
def gk (σ : am_S) : Nat → Bool := σ.2.1.1
def gl (σ : am_S) : Nat → Nat := σ.2.1.2.1
def gn (σ : am_S) : Nat := σ.2.1.2.2
def gc (σ : am_S) : Nat := σ.2.2.1
def gs (σ : am_S) : Nat := σ.2.2.2
def am_u2 {α : Type} (f : Nat → Nat → α) (n k : Nat) (v : α) : Nat → Nat → α := fun a b => if a = n then (if b = k then v else f a b) else f a b
def wS (σ : am_S) (n k : Nat) (v : Int32) : am_S := ((am_u2 (gS σ) n k v, gA σ, gJ σ, gP σ, gQ σ), σ.2)
def wA (σ : am_S) (n k : Nat) (v : Int32) : am_S := ((gS σ, am_u2 (gA σ) n k v, gJ σ, gP σ, gQ σ), σ.2)
def wAf (σ : am_S) (n : Nat) (f : Nat → Int32) : am_S := ((gS σ, va_up (gA σ) n f, gJ σ, gP σ, gQ σ), σ.2)
def wJ (σ : am_S) (n k : Nat) (v : Int64) : am_S := ((gS σ, gA σ, am_u2 (gJ σ) n k v, gP σ, gQ σ), σ.2)
def wJf (σ : am_S) (n : Nat) (f : Nat → Int64) : am_S := ((gS σ, gA σ, va_up (gJ σ) n f, gP σ, gQ σ), σ.2)
def wP (σ : am_S) (n k : Nat) (v : Option Nat) : am_S := ((gS σ, gA σ, gJ σ, am_u2 (gP σ) n k v, gQ σ), σ.2)
def wQ (σ : am_S) (n : Nat) (v : Option Nat) : am_S := ((gS σ, gA σ, gJ σ, gP σ, va_up (gQ σ) n v), σ.2)
/-- a new Term, all of its slots empty -/
def am_nT (σ : am_S) : am_S := ((va_up (gS σ) (gn σ) (fun _ => 0), gA σ, gJ σ, gP σ, va_up (gQ σ) (gn σ) none), (va_up (gk σ) (gn σ) true, gl σ, gn σ + 1), (gc σ - 1, gs σ - 5))
/-- a new array of Terms, all null -/
def am_nA (σ : am_S) (len : Nat) : am_S := ((gS σ, gA σ, gJ σ, va_up (gP σ) (gn σ) (fun _ => none), gQ σ), (va_up (gk σ) (gn σ) false, va_up (gl σ) (gn σ) len, gn σ + 1), (gc σ - 1, gs σ - len))
/-- the names of the String constants begin here -/
def am_sb : Nat := 1000000000
def am_ix (c : Nat) : Nat := c
/-- the entry of an array -/
def am_ar (g : am_G) (ν : Nat → Nat) (σ : am_S) (n ty len : Nat) : va_E := match ty with
  | 0 => .inl (g.2.1 0, len, .inl (gA σ n))
  | 1 => .inl (g.2.1 1, len, .inr (.inl (gJ σ n)))
  | 2 => .inl (g.2.1 2, len, .inl (gA σ n))
  | 3 => .inl (g.2.1 3, len, .inl (gA σ n))
  | _ => .inl (g.2.1 4, len, .inr (.inr (.inr (.inr (fun i => (gP σ n i).map ν)))))
def am_fv (ν : Nat → Nat) (S : Nat → Int32) : Nat → List (Option Nat) → List Value
  | _, [] => []
  | k, none :: r => .int (S k) :: am_fv ν S (k + 1) r
  | k, some a :: r => .ref (ν a) :: am_fv ν S (k + 1) r
def am_ent (Λ : am_Lay) (g : am_G) (ν : Nat → Nat) (σ : am_S) (n : Nat) : va_E :=
  if n < Λ.1 then (match Λ.2 n with
    | .inl o => .inr (o.1, am_fv ν (gS σ n) 0 o.2)
    | .inr a => am_ar g ν σ n a.1 a.2)
  else if gk σ n = true then .inr (7, [.int (gS σ n 0), .int (gS σ n 1), va_rf ((gQ σ n).map ν), .int (gS σ n 3), .int (gS σ n 4)])
  else am_ar g ν σ n 4 (gl σ n)
def am_wl (Λ : am_Lay) (g : am_G) (ν : Nat → Nat) (σ : am_S) : va_W := (List.range (gn σ)).map (fun n => (ν n, am_ent Λ g ν σ n))
def am_ty : Nat → FieldType
  | 0 => .int
  | 1 => .long
  | 2 => .byte
  | 3 => .boolean
  | _ => .object RX8
def am_tys (g : am_G) : List (ClassId × FieldType) := [(g.2.1 0, .int), (g.2.1 1, .long), (g.2.1 2, .byte), (g.2.1 3, .boolean), (g.2.1 4, .object RX8)]
/-- what is fixed names' own: references of objects go to fixed names -/
def am_lok (Λ : am_Lay) : Prop := Λ.1 ≤ am_sb ∧ ∀ n, n < Λ.1 → match Λ.2 n with
  | .inl o => ∀ a, some a ∈ o.2 → a < Λ.1
  | .inr _ => True
/-- references go to names that there are -/
def am_cl (Λ : am_Lay) (σ : am_S) : Prop := am_lok Λ ∧ Λ.1 ≤ gn σ ∧ gn σ + gc σ ≤ am_sb ∧ (∀ n i t, gP σ n i = some t → t < gn σ) ∧ (∀ n a, gQ σ n = some a → a < gn σ)
def am_tr (ν : Nat → Nat) (v : Value) : Value := match v with
  | .ref n => .ref (ν n)
  | x => x
def am_sc (N : Nat) (v : Value) : Prop := match v with
  | .ref n => n < N ∨ am_sb ≤ n
  | _ => True
/-- locals as pairs, as the kit has them -/
def am_prs (ν : Nat → Nat) : Nat → List (Option Value) → List (Nat × Value)
  | _, [] => []
  | i, none :: r => am_prs ν (i + 1) r
  | i, some v :: r => (i, am_tr ν v) :: am_prs ν (i + 1) r
def am_clr (ls : List (Option Value)) (i : Nat) : List (Option Value) := match i with
  | 0 => ls
  | j + 1 => match ls[j]? with
    | some (some v) => bif v.category == 2 then ls.set j none else ls
    | _ => ls
def am_st1 (ls : List (Option Value)) (i : Nat) (v : Value) : List (Option Value) := (am_clr ls i).set i (some v)
def am_st2 (ls : List (Option Value)) (i : Nat) (v : Value) : List (Option Value) := ((am_clr ls i).set i (some v)).set (i + 1) none
/-! the tables of a method: name, code, locals, answer, instructions, field links (index, (class, slot, tag: 0 int, 1 boolean, 2 final int, 3 reference)), method links (index, (method, arguments, kind: 0 static, 1 virtual, 2 special, 3 of a String; class)), ints, longs, texts, classes that are made -/
abbrev am_I : Type := MethodName × ByteArray × Nat × Option FieldType × List (Nat × Instr) × List (Nat × Nat × Nat × Nat) × List (Nat × Nat × Nat × Nat × Nat) × List (Nat × Int32) × List (Nat × Int64) × List (Nat × Nat) × List Nat
def am_y (I : am_I) : MethodName := I.1
def am_code (I : am_I) : ByteArray := I.2.1
def am_mx (I : am_I) : Nat := I.2.2.1
def am_rt (I : am_I) : Option FieldType := I.2.2.2.1
def am_in (I : am_I) : List (Nat × Instr) := I.2.2.2.2.1
def am_fl (I : am_I) : List (Nat × Nat × Nat × Nat) := I.2.2.2.2.2.1
def am_ml (I : am_I) : List (Nat × Nat × Nat × Nat × Nat) := I.2.2.2.2.2.2.1
def am_c32 (I : am_I) : List (Nat × Int32) := I.2.2.2.2.2.2.2.1
def am_c64 (I : am_I) : List (Nat × Int64) := I.2.2.2.2.2.2.2.2.1
def am_tx (I : am_I) : List (Nat × Nat) := I.2.2.2.2.2.2.2.2.2.1
def am_nw (I : am_I) : List Nat := I.2.2.2.2.2.2.2.2.2.2
def am_lk {α : Type} : Nat → List (Nat × α) → Option α
  | _, [] => none
  | k, (a, x) :: r => bif Nat.beq a k then some x else am_lk k r
theorem am_lk_mem {α : Type} {k : Nat} : ∀ {l : List (Nat × α)} {x : α}, am_lk k l = some x → (k, x) ∈ l
  | [], _, h => by cases h
  | (a, y) :: r, x, h => by
    unfold am_lk at h
    cases hb : Nat.beq a k with
    | true =>
      rw [hb] at h
      have e : a = k := Nat.eq_of_beq_eq_true hb
      subst e
      have e2 : y = x := Option.some.inj h
      subst e2
      exact List.mem_cons_self
    | false =>
      rw [hb] at h
      exact List.mem_cons_of_mem _ (am_lk_mem h)
def am_fd (Λ : am_Lay) (n ci k : Nat) : Option (Option Nat) := bif Nat.blt n Λ.1 then (match Λ.2 n with
    | .inl o => bif Nat.beq o.1 ci then o.2[k]? else none
    | .inr _ => none) else none
def am_fa (Λ : am_Lay) (n : Nat) : Option (Nat × Nat) := bif Nat.blt n Λ.1 then (match Λ.2 n with
    | .inl _ => none
    | .inr a => some a) else none
def am_ob (Λ : am_Lay) (n ci : Nat) : Bool := bif Nat.blt n Λ.1 then (match Λ.2 n with
    | .inl o => Nat.beq o.1 ci
    | .inr _ => false) else false
/-- it is a Term -/
def am_isT (Λ : am_Lay) (σ : am_S) (n : Nat) : Prop := Λ.1 ≤ n ∧ n < gn σ ∧ gk σ n = true
/-- it is an array of Terms -/
def am_isR (Λ : am_Lay) (σ : am_S) (n : Nat) : Prop := bif Nat.blt n Λ.1 then (am_fa Λ n).map (·.1) = some 4 else n < gn σ ∧ gk σ n = false
def am_isA (Λ : am_Lay) (σ : am_S) (n : Nat) : Prop := bif Nat.blt n Λ.1 then (am_fa Λ n).isSome = true else n < gn σ ∧ gk σ n = false
def am_rl (Λ : am_Lay) (σ : am_S) (n : Nat) : Nat := bif Nat.blt n Λ.1 then (match am_fa Λ n with
    | some a => a.2
    | none => 0) else gl σ n
def am_tg (pc : Nat) (off : Int) : Nat := match off with
  | .ofNat n => pc + n
  | .negSucc n => pc - (n + 1)
def am_cat : List Value → Nat
  | [] => 0
  | v :: r => v.category + am_cat r
def am_psh (r : Option Value) (st : List Value) : List Value := match r with
  | some v => v :: st
  | none => st
def am_rok (t : Option FieldType) (v : Int32) : Prop := match t with
  | some .int => True
  | some .boolean => v = 0 ∨ v = 1
  | some .char => narrow .char (.int v) = .int v
  | _ => False
/-- the length of an instruction (0: not told here) -/
def am_len (i : Instr) : Nat := match i with
  | .iconst _ => 1 | .bipush _ => 2 | .sipush _ => 3 | .lconst _ => 1 | .aconst_null => 1
  | .iload_n _ => 1 | .iload _ => 2 | .lload_n _ => 1 | .lload _ => 2 | .aload_n _ => 1 | .aload _ => 2
  | .istore_n _ => 1 | .istore _ => 2 | .lstore_n _ => 1 | .lstore _ => 2 | .astore_n _ => 1 | .astore _ => 2
  | .iinc _ _ => 3 | .iadd => 1 | .isub => 1 | .imul => 1 | .iand => 1 | .ior => 1 | .ixor => 1 | .ineg => 1
  | .ladd => 1 | .lsub => 1 | .land => 1 | .lor => 1 | .ishl => 1 | .ishr => 1 | .iushr => 1 | .lshl => 1 | .lshr => 1 | .lushr => 1
  | .i2l => 1 | .l2i => 1 | .i2b => 1 | .i2c => 1 | .lcmp => 1 | .dup => 1 | .dup2 => 1 | .pop => 1
  | .ifCond _ _ => 3 | .if_icmp _ _ => 3 | .goto _ => 3 | .ifnull _ => 3 | .ifnonnull _ => 3
  | .ldc _ => 2 | .ldc_w _ => 3 | .ldc2_w _ => 3
  | .getfield _ => 3 | .putfield _ => 3 | .iaload => 1 | .baload => 1 | .laload => 1 | .aaload => 1 | .iastore => 1 | .bastore => 1 | .lastore => 1 | .aastore => 1 | .arraylength => 1
  | .new _ => 3 | .anewarray _ => 3 | .invokestatic _ => 3 | .invokevirtual _ => 3 | .invokespecial _ => 3
  | .ireturn => 1 | .lreturn => 1 | .areturn => 1 | .return_ => 1
  | _ => 0
/-- one step: what must hold so that the machine goes on as K says (or comes to its end with r0 in σ0) -/
def am_st (Λ : am_Lay) (C : Nat → List Value → am_S → Option Value → am_S → Prop) (I : am_I) (i : Instr) (pc : Nat) (ls : List (Option Value)) (st : List Value) (σ : am_S) (r0 : Option Value) (σ0 : am_S) (K : Nat → List (Option Value) → List Value → am_S → Prop) : Prop :=
  match i with
  | .iconst n => K (pc + 1) ls (.int (Int32.ofInt n) :: st) σ
  | .bipush n => K (pc + 2) ls (.int (Int8.ofInt n).toInt32 :: st) σ
  | .sipush n => K (pc + 3) ls (.int (Int16.ofInt n).toInt32 :: st) σ
  | .lconst n => K (pc + 1) ls (.long (Int64.ofNat (n : Nat)) :: st) σ
  | .aconst_null => K (pc + 1) ls (.null :: st) σ
  | .iload_n k => (match ls[(k : Nat)]? with
    | some (some (.int x)) => K (pc + 1) ls (.int x :: st) σ
    | _ => False)
  | .iload k => (match ls[k]? with
    | some (some (.int x)) => K (pc + 2) ls (.int x :: st) σ
    | _ => False)
  | .lload_n k => (match ls[(k : Nat)]? with
    | some (some (.long x)) => K (pc + 1) ls (.long x :: st) σ
    | _ => False)
  | .lload k => (match ls[k]? with
    | some (some (.long x)) => K (pc + 2) ls (.long x :: st) σ
    | _ => False)
  | .aload_n k => (match ls[(k : Nat)]? with
    | some (some (.ref x)) => K (pc + 1) ls (.ref x :: st) σ
    | some (some .null) => K (pc + 1) ls (.null :: st) σ
    | _ => False)
  | .aload k => (match ls[k]? with
    | some (some (.ref x)) => K (pc + 2) ls (.ref x :: st) σ
    | some (some .null) => K (pc + 2) ls (.null :: st) σ
    | _ => False)
  | .istore_n k => (match st with
    | .int x :: r => bif Nat.blt (k : Nat) ls.length then K (pc + 1) (am_st1 ls (k : Nat) (.int x)) r σ else False
    | _ => False)
  | .istore k => (match st with
    | .int x :: r => bif Nat.blt k ls.length then K (pc + 2) (am_st1 ls k (.int x)) r σ else False
    | _ => False)
  | .lstore_n k => (match st with
    | .long x :: r => bif Nat.blt ((k : Nat) + 1) ls.length then K (pc + 1) (am_st2 ls (k : Nat) (.long x)) r σ else False
    | _ => False)
  | .lstore k => (match st with
    | .long x :: r => bif Nat.blt (k + 1) ls.length then K (pc + 2) (am_st2 ls k (.long x)) r σ else False
    | _ => False)
  | .astore_n k => (match st with
    | .ref x :: r => bif Nat.blt (k : Nat) ls.length then K (pc + 1) (am_st1 ls (k : Nat) (.ref x)) r σ else False
    | .null :: r => bif Nat.blt (k : Nat) ls.length then K (pc + 1) (am_st1 ls (k : Nat) .null) r σ else False
    | _ => False)
  | .astore k => (match st with
    | .ref x :: r => bif Nat.blt k ls.length then K (pc + 2) (am_st1 ls k (.ref x)) r σ else False
    | .null :: r => bif Nat.blt k ls.length then K (pc + 2) (am_st1 ls k .null) r σ else False
    | _ => False)
  | .iinc k n => (match ls[k]? with
    | some (some (.int x)) => K (pc + 3) (am_st1 ls k (.int (x + Int32.ofInt n))) st σ
    | _ => False)
  | .iadd => (match st with
    | .int y :: .int x :: r => K (pc + 1) ls (.int (x + y) :: r) σ
    | _ => False)
  | .isub => (match st with
    | .int y :: .int x :: r => K (pc + 1) ls (.int (x - y) :: r) σ
    | _ => False)
  | .imul => (match st with
    | .int y :: .int x :: r => K (pc + 1) ls (.int (x * y) :: r) σ
    | _ => False)
  | .iand => (match st with
    | .int y :: .int x :: r => K (pc + 1) ls (.int (x &&& y) :: r) σ
    | _ => False)
  | .ior => (match st with
    | .int y :: .int x :: r => K (pc + 1) ls (.int (x ||| y) :: r) σ
    | _ => False)
  | .ixor => (match st with
    | .int y :: .int x :: r => K (pc + 1) ls (.int (x ^^^ y) :: r) σ
    | _ => False)
  | .ineg => (match st with
    | .int x :: r => K (pc + 1) ls (.int (-x) :: r) σ
    | _ => False)
  | .ladd => (match st with
    | .long y :: .long x :: r => K (pc + 1) ls (.long (x + y) :: r) σ
    | _ => False)
  | .lsub => (match st with
    | .long y :: .long x :: r => K (pc + 1) ls (.long (x - y) :: r) σ
    | _ => False)
  | .land => (match st with
    | .long y :: .long x :: r => K (pc + 1) ls (.long (x &&& y) :: r) σ
    | _ => False)
  | .lor => (match st with
    | .long y :: .long x :: r => K (pc + 1) ls (.long (x ||| y) :: r) σ
    | _ => False)
  | .ishl => (match st with
    | .int y :: .int x :: r => K (pc + 1) ls (.int (x <<< (y &&& 31)) :: r) σ
    | _ => False)
  | .ishr => (match st with
    | .int y :: .int x :: r => K (pc + 1) ls (.int (x >>> (y &&& 31)) :: r) σ
    | _ => False)
  | .iushr => (match st with
    | .int y :: .int x :: r => K (pc + 1) ls (.int (x.toUInt32 >>> (y.toUInt32 &&& Int32.toUInt32 31)).toInt32 :: r) σ
    | _ => False)
  | .lshl => (match st with
    | .int y :: .long x :: r => K (pc + 1) ls (.long (x <<< (y.toInt64 &&& 63)) :: r) σ
    | _ => False)
  | .lshr => (match st with
    | .int y :: .long x :: r => K (pc + 1) ls (.long (x >>> (y.toInt64 &&& 63)) :: r) σ
    | _ => False)
  | .lushr => (match st with
    | .int y :: .long x :: r => K (pc + 1) ls (.long (x.toUInt64 >>> (y.toInt64.toUInt64 &&& Int64.toUInt64 63)).toInt64 :: r) σ
    | _ => False)
  | .i2l => (match st with
    | .int x :: r => K (pc + 1) ls (.long x.toInt64 :: r) σ
    | _ => False)
  | .l2i => (match st with
    | .long x :: r => K (pc + 1) ls (.int x.toInt32 :: r) σ
    | _ => False)
  | .i2b => (match st with
    | .int x :: r => K (pc + 1) ls (.int x.toInt8.toInt32 :: r) σ
    | _ => False)
  | .i2c => (match st with
    | .int x :: r => K (pc + 1) ls (.int (x.toUInt32 % 65536).toInt32 :: r) σ
    | _ => False)
  | .lcmp => (match st with
    | .long y :: .long x :: r => K (pc + 1) ls (.int (lg_cmp x y) :: r) σ
    | _ => False)
  | .dup => (match st with
    | .int x :: r => K (pc + 1) ls (.int x :: .int x :: r) σ
    | .ref x :: r => K (pc + 1) ls (.ref x :: .ref x :: r) σ
    | _ => False)
  | .dup2 => (match st with
    | .int x :: .ref y :: r => K (pc + 1) ls (.int x :: .ref y :: .int x :: .ref y :: r) σ
    | _ => False)
  | .pop => (match st with
    | .int _ :: r => K (pc + 1) ls r σ
    | .ref _ :: r => K (pc + 1) ls r σ
    | .null :: r => K (pc + 1) ls r σ
    | _ => False)
  | .ifCond .eq off => (match st with
    | .int x :: r => (x = 0 → K (am_tg pc off) ls r σ) ∧ (¬ x = 0 → K (pc + 3) ls r σ)
    | _ => False)
  | .ifCond .ne off => (match st with
    | .int x :: r => (¬ x = 0 → K (am_tg pc off) ls r σ) ∧ (x = 0 → K (pc + 3) ls r σ)
    | _ => False)
  | .ifCond .lt off => (match st with
    | .int x :: r => (x < 0 → K (am_tg pc off) ls r σ) ∧ (¬ x < 0 → K (pc + 3) ls r σ)
    | _ => False)
  | .ifCond .ge off => (match st with
    | .int x :: r => (0 ≤ x → K (am_tg pc off) ls r σ) ∧ (¬ 0 ≤ x → K (pc + 3) ls r σ)
    | _ => False)
  | .ifCond .gt off => (match st with
    | .int x :: r => (0 < x → K (am_tg pc off) ls r σ) ∧ (¬ 0 < x → K (pc + 3) ls r σ)
    | _ => False)
  | .ifCond .le off => (match st with
    | .int x :: r => (x ≤ 0 → K (am_tg pc off) ls r σ) ∧ (¬ x ≤ 0 → K (pc + 3) ls r σ)
    | _ => False)
  | .if_icmp .eq off => (match st with
    | .int y :: .int x :: r => (x = y → K (am_tg pc off) ls r σ) ∧ (¬ x = y → K (pc + 3) ls r σ)
    | _ => False)
  | .if_icmp .ne off => (match st with
    | .int y :: .int x :: r => (¬ x = y → K (am_tg pc off) ls r σ) ∧ (x = y → K (pc + 3) ls r σ)
    | _ => False)
  | .if_icmp .lt off => (match st with
    | .int y :: .int x :: r => (x < y → K (am_tg pc off) ls r σ) ∧ (¬ x < y → K (pc + 3) ls r σ)
    | _ => False)
  | .if_icmp .ge off => (match st with
    | .int y :: .int x :: r => (y ≤ x → K (am_tg pc off) ls r σ) ∧ (¬ y ≤ x → K (pc + 3) ls r σ)
    | _ => False)
  | .if_icmp .gt off => (match st with
    | .int y :: .int x :: r => (y < x → K (am_tg pc off) ls r σ) ∧ (¬ y < x → K (pc + 3) ls r σ)
    | _ => False)
  | .if_icmp .le off => (match st with
    | .int y :: .int x :: r => (x ≤ y → K (am_tg pc off) ls r σ) ∧ (¬ x ≤ y → K (pc + 3) ls r σ)
    | _ => False)
  | .goto off => K (am_tg pc off) ls st σ
  | .ifnull off => (match st with
    | .ref _ :: r => K (pc + 3) ls r σ
    | .null :: r => K (am_tg pc off) ls r σ
    | _ => False)
  | .ifnonnull off => (match st with
    | .ref _ :: r => K (am_tg pc off) ls r σ
    | .null :: r => K (pc + 3) ls r σ
    | _ => False)
  | .tableswitch dflt lo hi offs => (match st with
    | .int x :: r => (x.toInt < lo ∨ hi < x.toInt → K (am_tg pc dflt) ls r σ) ∧ ∀ k : Nat, k < offs.size → x = Int32.ofInt (lo + k) → K (am_tg pc (offs.getD k 0)) ls r σ
    | _ => False)
  | .ldc idx => (match am_lk idx (am_c32 I) with
    | some v => K (pc + 2) ls (.int v :: st) σ
    | none => match am_lk idx (am_tx I) with
      | some k => K (pc + 2) ls (.ref (am_sb + k) :: st) σ
      | none => False)
  | .ldc_w idx => (match am_lk idx (am_c32 I) with
    | some v => K (pc + 3) ls (.int v :: st) σ
    | none => False)
  | .ldc2_w idx => (match am_lk idx (am_c64 I) with
    | some v => K (pc + 3) ls (.long v :: st) σ
    | none => False)
  | .getfield idx => (match am_lk idx (am_fl I) with
    | some (ci, k, _) => (match st with
      | .ref n :: r => bif Nat.beq ci 7 then am_isT Λ σ n ∧ (bif Nat.beq k 2 then (gQ σ n = none → K (pc + 3) ls (.null :: r) σ) ∧ (∀ a, gQ σ n = some a → K (pc + 3) ls (.ref a :: r) σ) else K (pc + 3) ls (.int (gS σ n k) :: r) σ)
        else (match am_fd Λ n ci k with
          | some none => K (pc + 3) ls (.int (gS σ n k) :: r) σ
          | some (some a) => K (pc + 3) ls (.ref a :: r) σ
          | none => False)
      | _ => False)
    | none => False)
  | .putfield idx => (match am_lk idx (am_fl I) with
    | some (ci, k, tag) => (match st with
      | .int v :: .ref n :: r => bif Nat.beq ci 7 then am_isT Λ σ n ∧ (bif Nat.beq tag 2 then K (pc + 3) ls r (wS σ n k v) else False)
        else (match am_fd Λ n ci k with
          | some none => (match tag with
            | 0 => K (pc + 3) ls r (wS σ n k v)
            | 1 => (v = 0 ∨ v = 1) ∧ K (pc + 3) ls r (wS σ n k v)
            | _ => False)
          | _ => False)
      | .ref a :: .ref n :: r => bif Nat.beq ci 7 then am_isT Λ σ n ∧ (bif Nat.beq tag 3 then a < am_sb ∧ K (pc + 3) ls r (wQ σ n (some a)) else False) else False
      | _ => False)
    | none => False)
  | .iaload => (match st with
    | .int j :: .ref n :: r => (match am_fa Λ n with
      | some (0, len) => vp_in j len ∧ K (pc + 1) ls (.int (gA σ n j.toNatClampNeg) :: r) σ
      | _ => False)
    | _ => False)
  | .baload => (match st with
    | .int j :: .ref n :: r => (match am_fa Λ n with
      | some (2, len) => vp_in j len ∧ K (pc + 1) ls (.int (gA σ n j.toNatClampNeg) :: r) σ
      | some (3, len) => vp_in j len ∧ K (pc + 1) ls (.int (gA σ n j.toNatClampNeg) :: r) σ
      | _ => False)
    | _ => False)
  | .laload => (match st with
    | .int j :: .ref n :: r => (match am_fa Λ n with
      | some (1, len) => vp_in j len ∧ K (pc + 1) ls (.long (gJ σ n j.toNatClampNeg) :: r) σ
      | _ => False)
    | _ => False)
  | .aaload => (match st with
    | .int j :: .ref n :: r => am_isR Λ σ n ∧ vp_in j (am_rl Λ σ n) ∧ (gP σ n j.toNatClampNeg = none → K (pc + 1) ls (.null :: r) σ) ∧ (∀ t, gP σ n j.toNatClampNeg = some t → K (pc + 1) ls (.ref t :: r) σ)
    | _ => False)
  | .iastore => (match st with
    | .int x :: .int j :: .ref n :: r => (match am_fa Λ n with
      | some (0, len) => vp_in j len ∧ K (pc + 1) ls r (wA σ n j.toNatClampNeg x)
      | _ => False)
    | _ => False)
  | .bastore => (match st with
    | .int x :: .int j :: .ref n :: r => (match am_fa Λ n with
      | some (2, len) => vp_in j len ∧ K (pc + 1) ls r (wA σ n j.toNatClampNeg (vp_nar .byte x))
      | some (3, len) => vp_in j len ∧ K (pc + 1) ls r (wA σ n j.toNatClampNeg (vp_nar .boolean x))
      | _ => False)
    | _ => False)
  | .lastore => (match st with
    | .long x :: .int j :: .ref n :: r => (match am_fa Λ n with
      | some (1, len) => vp_in j len ∧ K (pc + 1) ls r (wJ σ n j.toNatClampNeg x)
      | _ => False)
    | _ => False)
  | .aastore => (match st with
    | .ref t :: .int j :: .ref n :: r => am_isR Λ σ n ∧ vp_in j (am_rl Λ σ n) ∧ am_isT Λ σ t ∧ K (pc + 1) ls r (wP σ n j.toNatClampNeg (some t))
    | .null :: .int j :: .ref n :: r => am_isR Λ σ n ∧ vp_in j (am_rl Λ σ n) ∧ K (pc + 1) ls r (wP σ n j.toNatClampNeg none)
    | _ => False)
  | .arraylength => (match st with
    | .ref n :: r => am_isA Λ σ n ∧ K (pc + 1) ls (.int (Int32.ofNat (am_rl Λ σ n)) :: r) σ
    | _ => False)
  | .new idx => bif (am_nw I).elem idx then 1 ≤ gc σ ∧ 5 ≤ gs σ ∧ K (pc + 3) ls (.ref (gn σ) :: st) (am_nT σ) else False
  | .anewarray idx => bif (am_nw I).elem idx then (match st with
    | .int n :: r => ¬ n < 0 ∧ n.toNatClampNeg ≤ 1000 ∧ 1 ≤ gc σ ∧ n.toNatClampNeg ≤ gs σ ∧ K (pc + 3) ls (.ref (gn σ) :: r) (am_nA σ n.toNatClampNeg)
    | _ => False) else False
  | .invokestatic idx => (match am_lk idx (am_ml I) with
    | some (mj, n, 0, _) => bif Nat.ble (am_cat (st.drop n)) 8 && Nat.ble n st.length then ∃ r σ', C mj (st.take n).reverse σ r σ' ∧ K (pc + 3) ls (am_psh r (st.drop n)) σ' else False
    | some (_, _, 4, _) => (match st with
      | .int n :: .int dp :: .ref b :: .int sp :: .ref a :: r => (match am_fa Λ a, am_fa Λ b with
        | some (0, la), some (0, lb) => ¬ sp < 0 ∧ ¬ dp < 0 ∧ ¬ n < 0 ∧ sp.toNatClampNeg + n.toNatClampNeg ≤ la ∧ dp.toNatClampNeg + n.toNatClampNeg ≤ lb ∧ (bif Nat.ble (am_cat r) 0 then K (pc + 3) ls r (wAf σ b (va_cpy (gA σ a) (gA σ b) sp.toNatClampNeg dp.toNatClampNeg n.toNatClampNeg)) else False)
        | some (1, la), some (1, lb) => ¬ sp < 0 ∧ ¬ dp < 0 ∧ ¬ n < 0 ∧ sp.toNatClampNeg + n.toNatClampNeg ≤ la ∧ dp.toNatClampNeg + n.toNatClampNeg ≤ lb ∧ (bif Nat.ble (am_cat r) 0 then K (pc + 3) ls r (wJf σ b (va_cpy (gJ σ a) (gJ σ b) sp.toNatClampNeg dp.toNatClampNeg n.toNatClampNeg)) else False)
        | _, _ => False)
      | _ => False)
    | some (_, _, 6, _) => (match st with
      | .int y :: .int x :: r => bif Nat.ble (am_cat r) 8 then K (pc + 3) ls (.int (if x < y then y else x) :: r) σ else False
      | _ => False)
    | some (_, _, 7, _) => (match st with
      | .int y :: .int x :: r => bif Nat.ble (am_cat r) 8 then K (pc + 3) ls (.int (if y < x then y else x) :: r) σ else False
      | _ => False)
    | _ => False)
  | .invokevirtual idx => (match am_lk idx (am_ml I) with
    | some (mj, n, 1, ci) => (match st.drop n with
      | .ref o :: r => bif am_ob Λ o ci && (Nat.ble (am_cat r) 8 && Nat.ble n st.length) then ∃ q σ', C mj (.ref o :: (st.take n).reverse) σ q σ' ∧ K (pc + 3) ls (am_psh q r) σ' else False
      | _ => False)
    | some (mj, n, 3, _) => (match st.drop n with
      | .ref o :: r => bif (Nat.ble am_sb o && Nat.blt o (am_sb + 3)) && (Nat.ble (am_cat r) 8 && Nat.ble n st.length) then ∃ q σ', C mj (.ref o :: (st.take n).reverse) σ q σ' ∧ K (pc + 3) ls (am_psh q r) σ' else False
      | _ => False)
    | _ => False)
  | .invokespecial idx => (match am_lk idx (am_ml I) with
    | some (mj, n, 2, _) => (match st.drop n with
      | .ref o :: r => bif Nat.ble (am_cat r) 8 && Nat.ble n st.length then ∃ q σ', C mj (.ref o :: (st.take n).reverse) σ q σ' ∧ K (pc + 3) ls (am_psh q r) σ' else False
      | _ => False)
    | some (_, _, 5, _) => (match st with
      | .ref _ :: r => bif Nat.ble (am_cat r) 8 then K (pc + 3) ls r σ else False
      | _ => False)
    | _ => False)
  | .ireturn => (match st with
    | [.int v] => am_rok (am_rt I) v ∧ r0 = some (.int v) ∧ σ0 = σ
    | _ => False)
  | .lreturn => (match st with
    | [.long v] => am_rt I = some .long ∧ r0 = some (.long v) ∧ σ0 = σ
    | _ => False)
  | .areturn => (match st with
    | [.ref n] => r0 = some (.ref n) ∧ σ0 = σ
    | [.null] => r0 = some .null ∧ σ0 = σ
    | _ => False)
  | .return_ => (match st with
    | [] => r0 = none ∧ σ0 = σ
    | _ => False)
  | _ => False
/-- k steps -/
def am_wp (Λ : am_Lay) (C : Nat → List Value → am_S → Option Value → am_S → Prop) (I : am_I) (r0 : Option Value) (σ0 : am_S) : Nat → Nat → List (Option Value) → List Value → am_S → (Nat → List (Option Value) → List Value → am_S → Prop) → Prop
  | 0, pc, ls, st, σ, K => K pc ls st σ
  | k + 1, pc, ls, st, σ, K => match am_lk pc (am_in I) with
    | some i => am_st Λ C I i pc ls st σ r0 σ0 (fun pc' ls' st' σ' => am_wp Λ C I r0 σ0 k pc' ls' st' σ' K)
    | none => False
