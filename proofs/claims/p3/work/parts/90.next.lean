/-! ===== reading: the next byte ===== -/
def chx (bs : List Nat) (q : Nat) : Int32 := match bs[q]? with
  | some b => nI b
  | none => 0
def chm (bs : List Nat) (q : Nat) : Int32 := match bs[q]? with
  | some b => nI b
  | none => -1
/-- the bytes of the text: blank to tilde -/
def tok (bs : List Nat) : Prop := bs.length ≤ 64 ∧ ∀ b ∈ bs, 32 ≤ b ∧ b ≤ 126
def Tx (bs : List Nat) (σ : am_S) : Prop := gS σ 7 2 = nI bs.length ∧ ∀ i b, bs[i]? = some b → gA σ 8 i = nI b
def Tm' (bs : List Nat) (σ : am_S) : Prop := gS σ 0 9 = nI bs.length ∧ ∀ i b, bs[i]? = some b → gA σ 6 i = nI b
theorem ch_nar : ∀ b, b < 127 → ((nI b).toUInt32 % 65536).toInt32 = nI b := by decide +kernel
theorem ch_nar2 {b : Nat} (h : b < 127) : narrow .char (.int (nI b)) = .int (nI b) := (pk_charN (by omega)).1
section NX
variable {bs : List Nat}
/-- where the next byte stands that is no blank -/
noncomputable def sk (bs : List Nat) : Nat → Nat → Nat
  | 0, p => p
  | m + 1, p => if bs[p]? = some 32 then sk bs m (p + 1) else p
noncomputable def skp (bs : List Nat) (p : Nat) : Nat := sk bs (bs.length - p) p
theorem sk_ok : ∀ (m p : Nat), p + m = bs.length → p ≤ sk bs m p ∧ sk bs m p ≤ bs.length ∧ bs[sk bs m p]? ≠ some 32
  | 0, p, h => by
    refine ⟨Nat.le_refl _, by show p ≤ _; omega, ?_⟩
    show bs[p]? ≠ _
    rw [List.getElem?_eq_none (by omega)]
    exact fun z => by cases z
  | m + 1, p, h => by
    unfold sk
    by_cases e : bs[p]? = some 32
    · rw [if_pos e]
      have := sk_ok m (p + 1) (by omega)
      exact ⟨by omega, this.2⟩
    · rw [if_neg e]
      exact ⟨Nat.le_refl _, by omega, e⟩
theorem skp_ok {p : Nat} (h : p ≤ bs.length) : p ≤ skp bs p ∧ skp bs p ≤ bs.length ∧ bs[skp bs p]? ≠ some 32 := sk_ok _ p (by omega)
theorem skp_self {p : Nat} (h : p ≤ bs.length) (g : bs[p]? ≠ some 32) : skp bs p = p := by
  unfold skp
  cases e : bs.length - p with
  | zero => rfl
  | succ m =>
    unfold sk
    rw [if_neg g]
theorem skp_skp {p : Nat} (h : p ≤ bs.length) : skp bs (skp bs p) = skp bs p := skp_self (skp_ok h).2.1 (skp_ok h).2.2
theorem x_next {σ : am_S} {p d : Nat} {Q : Int32 → am_S → Prop} (hb : tok bs) (ht : Tx bs σ) (hp : p ≤ bs.length) (h3 : gS σ 7 3 = nI p) (H : ∀ τ, fr [(7, 3)] [] [] [] σ τ → gS τ 7 3 = nI (skp bs p) → Q (chx bs (skp bs p)) τ) : am_K ri am_Lx IX6_next (d + 1) [.ref 7] σ Q := by
  obtain ⟨hb1, hb2⟩ := hb
  have loop : ∀ m p τ, p + m = bs.length → fr [(7, 3)] [] [] [] σ τ → gS τ 7 3 = nI p → sk bs m p = skp bs p → (∀ τ, fr [(7, 3)] [] [] [] σ τ → gS τ 7 3 = nI (skp bs p) → Q (chx bs (skp bs p)) τ) → am_X ri am_Lx IX6_next (d + 1) 0 [some (.ref 7)] [] τ Q := by
    intro m
    induction m with
    | zero =>
      intro p τ hpm g1 g2 g3 g4
      have e2 : gS τ 7 2 = nI bs.length := by rw [g1.1 7 2 (by simp)]; exact ht.1
      have es : skp bs p = p := g3.symm
      rw [es] at g4
      have := g4 τ g1 g2
      unfold chx at this
      rw [List.getElem?_eq_none (by omega)] at this
      refine wX6_next ?_
      rw [e2, g2]
      exact pk_le bs.length p (fun _ => pk_le bs.length p (fun _ => ⟨by decide, this⟩) (fun h => by omega)) (fun h => by omega)
    | succ m ih =>
      intro p τ hpm g1 g2 g3 g4
      have e2 : gS τ 7 2 = nI bs.length := by rw [g1.1 7 2 (by simp)]; exact ht.1
      have hpl : p < bs.length := by omega
      have eb : gA τ 8 p = nI bs[p] := by rw [g1.2.1 8 (by simp)]; exact ht.2 p _ (List.getElem?_eq_getElem hpl)
      have hbb := hb2 _ (List.getElem_mem hpl)
      refine wX6_next ?_
      rw [e2, g2, nI_clamp (n := p) (by omega), eb, ch_nar _ (by omega)]
      refine pk_le bs.length p (fun h => by omega) (fun _ => ⟨vp_in_nI (by omega) (by decide), And.symm (pk_eq bs[p] 32 (fun e => ?_) (fun e => ?_))⟩)
      · have eq32 : bs[p]? = some 32 := by rw [List.getElem?_eq_getElem hpl, e]
        unfold sk at g3
        rw [if_pos eq32] at g3
        have es : skp bs (p + 1) = sk bs m (p + 1) := by
          unfold skp
          rw [show bs.length - (p + 1) = m by omega]
        rw [nI_1]
        exact ih (p + 1) (wS τ 7 3 (nI (p + 1))) (by omega) (fr_wS g1 (by simp)) (wS_at _ _ _ _) es.symm (by rw [es, g3]; exact g4)
      · have ne32 : bs[p]? ≠ some 32 := by
          rw [List.getElem?_eq_getElem hpl]
          intro z
          exact e (Option.some.inj z)
        have es := skp_self (by omega) ne32
        rw [es] at g4
        have := g4 τ g1 g2
        unfold chx at this
        rw [List.getElem?_eq_getElem hpl] at this
        exact pk_le bs.length p (fun h => by omega) (fun _ => ⟨vp_in_nI (by omega) (by decide), ch_nar2 (by omega), this⟩)
  exact K_of am_owX6_next (Nat.le_of_ble_eq_true rfl) (loop (bs.length - p) p σ (by omega) fr_rfl h3 rfl H)
theorem m_next {σ : am_S} {p d : Nat} {Q : Int32 → am_S → Prop} (hb : tok bs) (ht : Tm' bs σ) (hp : p ≤ bs.length) (h3 : gS σ 0 10 = nI p) (H : ∀ τ, fr [(0, 10)] [] [] [] σ τ → gS τ 0 10 = nI (skp bs p) → Q (chm bs (skp bs p)) τ) : am_K ri am_Lm IX11_next (d + 1) [.ref 0] σ Q := by
  obtain ⟨hb1, hb2⟩ := hb
  have loop : ∀ m p τ, p + m = bs.length → fr [(0, 10)] [] [] [] σ τ → gS τ 0 10 = nI p → sk bs m p = skp bs p → (∀ τ, fr [(0, 10)] [] [] [] σ τ → gS τ 0 10 = nI (skp bs p) → Q (chm bs (skp bs p)) τ) → am_X ri am_Lm IX11_next (d + 1) 0 [some (.ref 0)] [] τ Q := by
    intro m
    induction m with
    | zero =>
      intro p τ hpm g1 g2 g3 g4
      have e2 : gS τ 0 9 = nI bs.length := by rw [g1.1 0 9 (by simp)]; exact ht.1
      have es : skp bs p = p := g3.symm
      rw [es] at g4
      have := g4 τ g1 g2
      unfold chm at this
      rw [List.getElem?_eq_none (by omega)] at this
      refine wX11_next ?_
      rw [e2, g2]
      exact pk_le bs.length p (fun _ => pk_le bs.length p (fun _ => this) (fun h => by omega)) (fun h => by omega)
    | succ m ih =>
      intro p τ hpm g1 g2 g3 g4
      have e2 : gS τ 0 9 = nI bs.length := by rw [g1.1 0 9 (by simp)]; exact ht.1
      have hpl : p < bs.length := by omega
      have eb : gA τ 6 p = nI bs[p] := by rw [g1.2.1 6 (by simp)]; exact ht.2 p _ (List.getElem?_eq_getElem hpl)
      have hbb := hb2 _ (List.getElem_mem hpl)
      refine wX11_next ?_
      rw [e2, g2, nI_clamp (n := p) (by omega), eb]
      refine pk_le bs.length p (fun h => by omega) (fun _ => ⟨vp_in_nI (by omega) (by decide), And.symm (pk_eq bs[p] 32 (fun e => ?_) (fun e => ?_))⟩)
      · have eq32 : bs[p]? = some 32 := by rw [List.getElem?_eq_getElem hpl, e]
        unfold sk at g3
        rw [if_pos eq32] at g3
        have es : skp bs (p + 1) = sk bs m (p + 1) := by
          unfold skp
          rw [show bs.length - (p + 1) = m by omega]
        rw [nI_1]
        exact ih (p + 1) (wS τ 0 10 (nI (p + 1))) (by omega) (fr_wS g1 (by simp)) (wS_at _ _ _ _) es.symm (by rw [es, g3]; exact g4)
      · have ne32 : bs[p]? ≠ some 32 := by
          rw [List.getElem?_eq_getElem hpl]
          intro z
          exact e (Option.some.inj z)
        have es := skp_self (by omega) ne32
        rw [es] at g4
        have := g4 τ g1 g2
        unfold chm at this
        rw [List.getElem?_eq_getElem hpl] at this
        exact pk_le bs.length p (fun h => by omega) (fun _ => ⟨vp_in_nI (by omega) (by decide), this⟩)
  exact K_of am_owX11_next (Nat.le_of_ble_eq_true rfl) (loop (bs.length - p) p σ (by omega) fr_rfl h3 rfl H)
theorem chx_c {q c : Nat} (hb : tok bs) (hc : 1 ≤ c) (hc2 : c < 2 ^ 31) : chx bs q = nI c ↔ bs[q]? = some c := by
  unfold chx
  cases h : bs[q]? with
  | none =>
    constructor
    · intro z
      have := (nI_eq (a := 0) (b := c) (by omega) (by omega)).mp z
      omega
    · intro z
      cases z
  | some b =>
    have hbb := hb.2 b (get_mem h)
    constructor
    · intro z
      rw [(nI_eq (a := b) (b := c) (by omega) (by omega)).mp z]
    · intro z
      cases z
      rfl
theorem chm_c {q c : Nat} (hb : tok bs) (hc2 : c < 2 ^ 31) : chm bs q = nI c ↔ bs[q]? = some c := by
  unfold chm
  cases h : bs[q]? with
  | none =>
    constructor
    · intro z
      have := congrArg Int32.toInt z
      rw [l_m1, nI_toInt (by omega)] at this
      omega
    · intro z
      cases z
  | some b =>
    have hbb := hb.2 b (get_mem h)
    constructor
    · intro z
      rw [(nI_eq (a := b) (b := c) (by omega) (by omega)).mp z]
    · intro z
      cases z
      rfl
/-- the next byte is this one, and is taken -/
theorem x_took {σ : am_S} {p c d : Nat} {Q : Int32 → am_S → Prop} (hb : tok bs) (ht : Tx bs σ) (hp : p ≤ bs.length) (h3 : gS σ 7 3 = nI p) (hc : 1 ≤ c) (hc2 : c < 2 ^ 31) (h1 : bs[skp bs p]? = some c → ∀ τ, fr [(7, 3)] [] [] [] σ τ → gS τ 7 3 = nI (skp bs p + 1) → Q 1 τ) (h0 : bs[skp bs p]? ≠ some c → ∀ τ, fr [(7, 3)] [] [] [] σ τ → gS τ 7 3 = nI (skp bs p) → Q 0 τ) : am_K ri am_Lx IX6_took (d + 2) [.ref 7, .int (nI c)] σ Q := by
  refine vX6_took (x_next (d := d) hb ht hp h3 (fun τ g1 g2 => ⟨fun z => ?_, fun z => ?_⟩))
  · rw [g2, nI_1]
    exact h1 ((chx_c hb hc hc2).mp z) _ (fr_wS g1 (by simp)) (wS_at _ _ _ _)
  · exact h0 (fun e => z ((chx_c hb hc hc2).mpr e)) τ g1 g2
end NX
