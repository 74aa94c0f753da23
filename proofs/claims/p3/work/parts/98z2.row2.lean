/-! ===== rows: less, divided, picked ===== -/
def mns : List Nat → List Nat → Option (List Nat)
  | l, [] => some l
  | l, b :: m => if b ∈ l then mns (l.erase b) m else none
def rO (k : Nat) : Option (List Nat) → Int64
  | some l => lN (rE k l)
  | none => -1
theorem rG_sub {l m : List Nat} (hl : rG l) (hs : m.Sublist l) : rG m := ⟨Nat.le_trans hs.length_le hl.1, fun a ha => hl.2 a (hs.subset ha)⟩
theorem rG_nil : rG [] := ⟨by decide, fun _ z => by cases z⟩
theorem rG_snoc {l : List Nat} {a : Nat} (hl : rG l) (h8 : l.length < 8) (ha : a < 64) : rG (l ++ [a]) := by
  refine ⟨by rw [List.length_append]; exact h8, fun x hx => ?_⟩
  rcases List.mem_append.mp hx with h | h
  · exact hl.2 x h
  · rw [List.mem_singleton.mp h]; exact ha
theorem mns_sub : ∀ {m l r : List Nat}, mns l m = some r → r.Sublist l
  | [], l, r, h => by cases h; exact List.Sublist.refl _
  | b :: m, l, r, h => by
    unfold mns at h
    split at h
    · exact (mns_sub h).trans List.erase_sublist
    · cases h
section ROW2
variable {σ : am_S} {d k k' : Nat} {l m : List Nat}
theorem r_atS {Q : Int32 → am_S → Prop} {p q : List Nat} {a : Nat} (hk : k ≤ 4) (hl : rG (p ++ a :: q)) (H : Q (nI a) σ) : am_K ri am_Lx IX7_at (d + 1) [.long (lN (rE k (p ++ a :: q))), .int (nI p.length)] σ Q := by
  refine r_at (i := p.length) hk hl (by simp) ?_
  have e : (p ++ a :: q)[p.length]'(by simp) = a := by simp
  rw [e]
  exact H
theorem r_ml {Q : Int64 → am_S → Prop} {l0 l2 : Int64} {l6 l7 : Int32} {b : Nat} (hk : k ≤ 4) (hb : b < 64) : ∀ (q p : List Nat), rG (p ++ q) → b ∉ p →
    (b ∈ p ++ q → am_X rj am_Lx IX7_minus (d + 2) 12 [some (.long l0), none, some (.long l2), none, some (.long (lN (rE k ((p ++ q).erase b)))), none, some (.int l6), some (.int (l7 + (1 : Int32))), none, none] [] σ Q) → (b ∉ p ++ q → Q (-1) σ) →
    am_X rj am_Lx IX7_minus (d + 2) 30 [some (.long l0), none, some (.long l2), none, some (.long (lN (rE k (p ++ q)))), none, some (.int l6), some (.int l7), some (.int (nI b)), some (.int (nI p.length))] [] σ Q
  | [], p, hl, hp, H1, H0 => by
    have h8 := hl.1
    rw [List.append_nil] at *
    refine vX7_minus_30 (r_size (d := d) hk hl ⟨fun _ => r_size (d := d) hk hl ⟨fun z => absurd z (nI_nlt (Nat.le_refl _) (by omega)), fun _ => H0 hp⟩, fun z => absurd (nI_le (Nat.le_refl _) (by omega)) z⟩)
  | a :: q, p, hl, hp, H1, H0 => by
    have h8 := hl.1
    have hlen : (p ++ a :: q).length = p.length + q.length + 1 := by simp; omega
    have ha := hl.2 a (List.mem_append_right _ List.mem_cons_self)
    refine vX7_minus_30 (r_size (d := d) hk hl ⟨fun z => absurd z (nI_ge (by omega) (by omega)), fun _ => r_atS (d := d) hk hl ⟨fun e => ?_, fun e => ?_⟩⟩)
    · have e2 : a = b := (nI_eq (by omega) (by omega)).mp e
      subst e2
      refine r_size (d := d) hk hl ⟨fun _ => r_without (d := d) hk hl ?_, fun z => absurd (nI_lt (by omega) (by omega)) z⟩
      have h1 := H1 (List.mem_append_right _ List.mem_cons_self)
      rw [List.erase_append_right _ hp, List.erase_cons_head] at h1
      exact h1
    · have e2 : a ≠ b := fun z => e (by rw [z])
      have h1 := r_ml hk hb q (p ++ [a]) (by rw [List.append_assoc]; exact hl) (fun z => by
        rcases List.mem_append.mp z with z | z
        · exact hp z
        · exact e2 (List.mem_singleton.mp z).symm) (by rw [List.append_assoc]; exact H1) (by rw [List.append_assoc]; exact H0)
      rw [List.append_assoc, List.length_append] at h1
      rw [nI_1]
      exact h1
theorem r_ml2 {Q : Int64 → am_S → Prop} {l0 : Int64} (hk : k ≤ 4) (hk' : k' ≤ 4) : ∀ (m pre cur : List Nat), rG cur → rG (pre ++ m) → Q (rO k (mns cur m)) σ →
    am_X rj am_Lx IX7_minus (d + 2) 12 [some (.long l0), none, some (.long (lN (rE k' (pre ++ m)))), none, some (.long (lN (rE k cur))), none, some (.int (nI (pre ++ m).length)), some (.int (nI pre.length)), none, none] [] σ Q
  | [], pre, cur, hc, hp, H => by
    have h8 := hp.1
    rw [List.append_nil] at *
    exact vX7_minus_12 ⟨fun _ => H, fun z => absurd (nI_le (Nat.le_refl _) (by omega)) z⟩
  | b :: m, pre, cur, hc, hp, H => by
    have h8 := hp.1
    have hlen : (pre ++ b :: m).length = pre.length + m.length + 1 := by simp; omega
    have hb := hp.2 b (List.mem_append_right _ List.mem_cons_self)
    refine vX7_minus_12 ⟨fun z => absurd z (nI_ge (by omega) (by omega)), fun _ => r_atS (d := d) hk' hp ?_⟩
    unfold mns at H
    refine r_ml (d := d) hk hb cur [] hc (by simp) (fun hm => ?_) (fun hm => ?_)
    · rw [if_pos (show b ∈ cur from hm)] at H
      have h1 := r_ml2 (l0 := l0) hk hk' m (pre ++ [b]) (cur.erase b) (rG_sub hc List.erase_sublist) (by rw [List.append_assoc]; exact hp) H
      rw [List.append_assoc, List.length_append (as := pre) (bs := [b])] at h1
      rw [nI_1]
      exact h1
    · rw [if_neg (show ¬ b ∈ cur from hm)] at H
      exact H
theorem r_minus {Q : Int64 → am_S → Prop} (hk : k ≤ 4) (hk' : k' ≤ 4) (hl : rG l) (hm : rG m) (H : Q (rO k (mns l m)) σ) : am_K rj am_Lx IX7_minus (d + 2) [.long (lN (rE k l)), .long (lN (rE k' m))] σ Q :=
  vX7_minus (r_size (d := d) hk' hm (r_ml2 (d := d) hk hk' m [] l hl hm H))
/-- a stands t times in l, as divided sees it -/
def dvP (t : Nat) (l : List Nat) (a : Nat) : Prop := ∃ j, j + t ≤ l.length ∧ l[j]? = some a ∧ l[j + t - 1]? = some a
theorem dvP_mem {t a : Nat} (h : dvP t l a) : a ∈ l := by
  obtain ⟨j, -, h2, -⟩ := h
  exact List.mem_of_getElem? h2
theorem r_dl {Q : Int64 → am_S → Prop} {t : Nat} (hk : k ≤ 4) (hl : rG l) (ht : 1 ≤ t) (ht2 : t ≤ 1000) (H : ∀ m, rG m → m.length * t ≤ l.length → (∀ a ∈ m, dvP t l a) → Q (lN (rE k m)) σ) : ∀ (N i : Nat) (m : List Nat), l.length - i ≤ N → i ≤ l.length → rG m → m.length * t ≤ i → (∀ a ∈ m, dvP t l a) →
    am_X rj am_Lx IX7_divided (d + 3) 17 [some (.long (lN (rE k l))), none, some (.int (nI t)), some (.long (lN (rE k m))), none, some (.int (nI l.length)), some (.int (nI i)), none] [] σ Q := by
  have h8 := hl.1
  intro N
  induction N with
  | zero =>
    intro i m hN hi hm h1 h2
    exact vX7_divided_17 ⟨fun _ => H m hm (by omega) h2, fun z => absurd (nI_le (by omega) (by omega)) z⟩
  | succ N ih =>
    intro i m hN hi hm h1 h2
    have step : i < l.length → am_X rj am_Lx IX7_divided (d + 3) 61 [some (.long (lN (rE k l))), none, some (.int (nI t)), some (.long (lN (rE k m))), none, some (.int (nI l.length)), some (.int (nI i)), none] [] σ Q := fun hlt => by
      have k1 := ih (i + 1) m (by omega) (by omega) hm (by omega) h2
      rw [← nI_1] at k1
      exact vX7_divided_61 k1
    refine vX7_divided_17 ⟨fun _ => H m hm (by omega) h2, fun z => ?_⟩
    have hlt : i < l.length := Nat.not_le.mp fun y => z (nI_le y (by omega))
    refine ⟨fun y => absurd y (nI_nlt (a := t) (b := 1) (by omega) (by omega)), fun _ => ?_⟩
    rw [nI_add]
    refine ⟨fun _ => step hlt, fun y => ?_⟩
    have hit : i + t ≤ l.length := Nat.not_lt.mp fun w => y (nI_lt w (by omega))
    obtain ⟨s, hs⟩ : ∃ s, i + t = s + 1 := ⟨i + t - 1, by omega⟩
    have hsl : s < l.length := by omega
    refine r_at (d := d + 1) hk hl hlt ?_
    rw [hs, nI_pred]
    refine r_at (d := d + 1) hk hl hsl ⟨fun _ => step hlt, fun e => r_at (d := d + 1) hk hl hlt ?_⟩
    have ei : l[i] < 64 := hl.2 _ (List.getElem_mem hlt)
    have es : l[s] < 64 := hl.2 _ (List.getElem_mem hsl)
    have e2 : l[i] = l[s] := (nI_eq (by omega) (by omega)).mp e
    have hm8 : m.length < 8 := by
      have : m.length * 1 ≤ m.length * t := Nat.mul_le_mul_left _ ht
      omega
    refine r_with (d := d) hk hm hm8 ei ?_
    rw [← hs]
    refine ih (i + t) (m ++ [l[i]]) (by omega) hit (rG_snoc hm hm8 ei) (by rw [List.length_append]; show (m.length + 1) * t ≤ i + t; rw [Nat.add_mul]; omega) (fun a ha => ?_)
    rcases List.mem_append.mp ha with ha | ha
    · exact h2 a ha
    · rw [List.mem_singleton.mp ha]
      refine ⟨i, hit, List.getElem?_eq_getElem hlt, ?_⟩
      rw [show i + t - 1 = s by omega, e2]
      exact List.getElem?_eq_getElem hsl
theorem r_divided {Q : Int64 → am_S → Prop} {t : Nat} (hk : k ≤ 4) (hl : rG l) (ht : 1 ≤ t) (ht2 : t ≤ 1000) (H : ∀ m, rG m → m.length * t ≤ l.length → (∀ a ∈ m, dvP t l a) → Q (lN (rE k m)) σ) : am_K rj am_Lx IX7_divided (d + 3) [.long (lN (rE k l)), .int (nI t)] σ Q :=
  vX7_divided (r_kind (d := d + 1) hk hl (r_empty (d := d + 1) hk (r_size (d := d + 1) hk hl (r_dl hk hl ht ht2 H l.length 0 [] (by omega) (by omega) rG_nil (by simp) (fun _ z => by cases z)))))
theorem r_pl {Q : Int64 → am_S → Prop} {bits : Int32} (hk : k ≤ 4) (hl : rG l) (H : ∀ m, rG m → (∀ a ∈ m, a ∈ l) → Q (lN (rE k m)) σ) (H0 : Q (-1) σ) : ∀ (n i : Nat) (m : List Nat), i + n = l.length → rG m → m.length ≤ i → (∀ a ∈ m, a ∈ l) →
    am_X rj am_Lx IX7_picked (d + 3) 17 [some (.long (lN (rE k l))), none, some (.int bits), some (.long (lN (rE k m))), none, some (.int (nI l.length)), some (.int (nI i))] [] σ Q := by
  have h8 := hl.1
  intro n
  induction n with
  | zero =>
    intro i m hN hm h1 h2
    exact vX7_picked_17 ⟨fun _ => H m hm h2, fun z => absurd (nI_le (by omega) (by omega)) z⟩
  | succ n ih =>
    intro i m hN hm h1 h2
    have hlt : i < l.length := by omega
    have ei : l[i] < 64 := hl.2 _ (List.getElem_mem hlt)
    have next := ih (i + 1) m (by omega) hm (by omega) h2
    rw [← nI_1] at next
    have took := ih (i + 1) (m ++ [l[i]]) (by omega) (rG_snoc hm (by omega) ei) (by rw [List.length_append]; show m.length + 1 ≤ i + 1; omega) (fun a ha => by
      rcases List.mem_append.mp ha with ha | ha
      · exact h2 a ha
      · rw [List.mem_singleton.mp ha]; exact List.getElem_mem hlt)
    rw [← nI_1] at took
    refine vX7_picked_17 ⟨fun z => absurd z (nI_ge hlt (by omega)), fun _ => ⟨fun _ => next, fun _ => ⟨fun _ => r_at (d := d + 1) hk hl hlt (r_with (d := d) hk hm (by omega) ei took), fun hi => ⟨fun _ => r_at (d := d + 1) hk hl hlt (r_with (d := d) hk hm (by omega) ei took), fun _ => ?_⟩⟩⟩⟩
    obtain ⟨s, rfl⟩ : ∃ s, i = s + 1 := ⟨i - 1, by
      have : 0 < i := Nat.pos_of_ne_zero fun z => hi (by rw [z]; decide)
      omega⟩
    have hsl : s < l.length := by omega
    refine r_at (d := d + 1) hk hl hlt ?_
    rw [nI_pred]
    exact r_at (d := d + 1) hk hl hsl ⟨fun _ => r_at (d := d + 1) hk hl hlt (r_with (d := d) hk hm (by omega) ei took), fun _ => H0⟩
theorem r_picked {Q : Int64 → am_S → Prop} {bits : Int32} (hk : k ≤ 4) (hl : rG l) (H : ∀ m, rG m → (∀ a ∈ m, a ∈ l) → Q (lN (rE k m)) σ) (H0 : Q (-1) σ) : am_K rj am_Lx IX7_picked (d + 3) [.long (lN (rE k l)), .int bits] σ Q :=
  vX7_picked (r_kind (d := d + 1) hk hl (r_empty (d := d + 1) hk (r_size (d := d + 1) hk hl (r_pl hk hl H H0 l.length 0 [] (by omega) rG_nil (by simp) (fun _ z => by cases z)))))
end ROW2
/-- what stands t times as divided sees it stands t times, in a row that ascends -/
theorem dvP_count {l : List Nat} (hs : l.Pairwise (· ≤ ·)) {t a : Nat} (h : dvP t l a) : t ≤ l.count a := by
  obtain ⟨j, h1, h2, h3⟩ := h
  by_cases ht : t = 0
  · omega
  have hsub : (List.replicate t a).Sublist l := by
    have e : (l.drop j).take t = List.replicate t a := by
      refine List.eq_replicate_iff.mpr ⟨by rw [List.length_take, List.length_drop]; omega, fun x hx => ?_⟩
      obtain ⟨i, hi, rfl⟩ := List.mem_iff_getElem.mp hx
      rw [List.length_take, List.length_drop] at hi
      rw [List.getElem_take, List.getElem_drop]
      have hp := List.pairwise_iff_getElem.mp hs
      obtain ⟨g2, e2⟩ := List.getElem?_eq_some_iff.mp h2
      obtain ⟨g3, e3⟩ := List.getElem?_eq_some_iff.mp h3
      have lo : a ≤ l[j + i] := by
        rcases Nat.eq_zero_or_pos i with rfl | z
        · exact Nat.le_of_eq e2.symm
        · have := hp j (j + i) g2 (by omega) (by omega)
          omega
      have hi' : l[j + i] ≤ a := by
        by_cases z : j + i = j + t - 1
        · have : l[j + i] = l[j + t - 1] := by simp only [z]
          omega
        · have := hp (j + i) (j + t - 1) (by omega) g3 (by omega)
          omega
      omega
    rw [← e]
    exact (List.take_sublist _ _).trans (List.drop_sublist _ _)
  have := hsub.count_le a
  rwa [List.count_replicate_self] at this
