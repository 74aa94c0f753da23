/-! ===== each call keeps the class ===== -/
section XC
variable {n : Nat} {bs : List Nat} {R U : Nat} {A0 : Nat → Nat → Int} {G : List (List Nat)} {σ τ : am_S}
theorem CI_go {S : List (Nat × Nat)} {A J P : List Nat} {c s : Nat} (h : CI (n + 1) bs R U A0 G σ) (g : gw S A J P c s σ τ) (hc : c ≤ 400) (hs : s ≤ 2600) (h4 : 4 ∉ P) (eT : Tx bs τ) (eS : bs28 R U A0 τ ∧ fs28 U G τ) (eV : ∃ V, Sx τ V) (e3 : gS τ 3 3 = nI 0) (eW : ∃ ws, Wx τ ws) (eU : ∃ u, Ux u τ) (eM : MG τ) : CI n bs R U A0 G τ := ⟨eT, eS, eV, lts_gw h.2.2.2.1 g h4, e3, eW, eU, eM, bud_dn h.2.2.2.2.2.2.2.2 g hc hs⟩
theorem xc_told (h : CI (n + 1) bs R U A0 G σ) (a b : Int32) : am_K ri am_Lx IX10_told 2000 [.ref 0, .int a, .int b] σ (fun _ τ => CI n bs R U A0 G τ) := by
  obtain ⟨V, hV⟩ := h.2.2.1
  exact x_told (d := 1998) hV (fun _ _ _ _ _ _ => CI_dn h) (fun _ => CI_dn h)
theorem xc_order (h : CI (n + 1) bs R U A0 G σ) (a b : Int32) : am_K ri am_Lx IX10_order 2000 [.ref 0, .int a, .int b] σ (fun _ τ => CI n bs R U A0 G τ) := by
  obtain ⟨V, hV⟩ := h.2.2.1
  exact x_order (d := 1958) hV (fun _ => CI_dn h) (fun _ _ _ _ _ _ _ => CI_dn h) (fun _ _ _ _ _ _ _ _ _ _ => ⟨fun _ => CI_dn h, fun _ => CI_dn h, fun _ => CI_dn h⟩)
theorem xc_print (h : CI (n + 1) bs R U A0 G σ) (a : Int32) : am_K ri am_Lx IX10_print 2000 [.ref 0, .int a] σ (fun _ τ => CI n bs R U A0 G τ) := by
  obtain ⟨V, hV⟩ := h.2.2.1
  refine x_print (d := 1949) hV (fun _ => CI_dn h) (fun _ _ _ _ => CI_dn h) (fun _ x τ _ _ _ g hW => ?_)
  obtain ⟨eT, eS, -, -, e3, -, ⟨u, eU⟩, eM, -⟩ := id h
  exact CI_go h g (by decide) (by decide) (by decide) (Tx_gw eT g (by decide) (by decide)) (sys_gw eS g (by decide) (by decide)) ⟨V, Sx_ext hV (gw_ext g) (gw_P g (by omega) (by decide))⟩ ((gw_S g (by omega) (by decide)).trans e3) ⟨_, hW⟩ ⟨u, Ux_gw eU g (by decide) (by decide) (by decide)⟩ (MG_gw eM g (by decide) (by decide) (by decide) (by decide) (by decide) (by decide))
theorem xc_out (h : CI (n + 1) bs R U A0 G σ) (a : Int32) : am_K ri am_Lx IX10_out 2000 [.ref 0, .int a] σ (fun _ τ => CI n bs R U A0 G τ) := by
  obtain ⟨ws, hW⟩ := h.2.2.2.2.2.1
  exact x_out (d := 1998) hW (fun _ => CI_dn h) (fun _ _ _ _ => CI_dn h)
/-- slots and what is made, no more -/
theorem CI_slot {S : List (Nat × Nat)} {A J P : List Nat} {c s : Nat} (h : CI (n + 1) bs R U A0 G σ) (g : gw S A J P c s σ τ) (hc : c ≤ 400) (hs : s ≤ 2600) (hS : ∀ x ∈ S, x = (3, 3)) (hA : ∀ x ∈ A, x = 47) (hJ : J = []) (hP : ∀ x ∈ P, x ∈ [1, 2, 5, 6]) (eV : ∃ V, Sx τ V) (e3 : gS τ 3 3 = nI 0) : CI n bs R U A0 G τ := by
  obtain ⟨eT, eS, -, -, -, ⟨ws, eW⟩, ⟨u, eU⟩, eM, -⟩ := id h
  have nS : ∀ a b, (a, b) ≠ (3, 3) → (a, b) ∉ S := fun a b e z => e (hS _ z)
  have nA : ∀ a, a ≠ 47 → a ∉ A := fun a e z => e (hA _ z)
  have nP : ∀ a, a ∉ [1, 2, 5, 6] → a ∉ P := fun a e z => e (hP _ z)
  refine CI_go h g hc hs (nP 4 (by decide)) (Tx_gw eT g (nS 7 2 (by decide)) (nA 8 (by decide))) (sys_gw eS g (fun x hx => ?_) (fun x hx => nA x (by simp at hx; omega))) eV e3 ⟨ws, Wx_gw eW g (nS 9 1 (by decide)) (nA 10 (by decide))⟩ ⟨u, Ux_gw eU g (fun x hx => by rw [hS x hx]; decide) (fun x hx => by rw [hA x hx]; decide) (nP 43 (by decide))⟩ (MG_gw eM g (nS 11 6 (by decide)) (nS 12 3 (by decide)) (nP 13 (by decide)) (by rw [hJ]; simp) (by rw [hJ]; simp) (by rw [hJ]; simp))
  intro z
  rw [hS x z] at hx
  exact absurd hx (by decide)
theorem xc_part (h : CI (n + 1) bs R U A0 G σ) (a b c : Int32) : am_K ri am_Lx IX10_part 2000 [.ref 0, .int a, .int b, .int c] σ (fun _ τ => CI n bs R U A0 G τ) := by
  obtain ⟨V, hV⟩ := h.2.2.1
  exact x_part (d := 1998) hV (fun _ => CI_dn h) (fun _ _ _ _ _ => CI_dn h) (fun _ _ _ _ _ _ _ => CI_dn h) (fun _ _ _ _ _ τ _ _ _ _ _ _ _ g hS => CI_slot h g (by decide) (by decide) (by simp) (by simp) rfl (by simp) ⟨_, hS⟩ ((gw_S g (by omega) (by simp)).trans h.2.2.2.2.1))
theorem xc_join (h : CI (n + 1) bs R U A0 G σ) (a b c e : Int32) : am_K ri am_Lx IX10_join 2000 [.ref 0, .int a, .int b, .int c, .int e] σ (fun _ τ => CI n bs R U A0 G τ) := by
  obtain ⟨V, hV⟩ := h.2.2.1
  have hb := h.2.2.2.2.2.2.2.2
  exact x_join (d := 1956) hV h.2.2.2.2.1 ⟨by have := hb.1; omega, by have := hb.2.1; omega, hb.2.2.1, hb.2.2.2⟩ (fun _ => CI_dn h) (fun _ _ _ _ _ _ _ _ _ => CI_dn h) (fun _ _ _ _ _ _ _ _ _ _ _ _ _ _ _ _ τ g g3 => ⟨fun _ hS => CI_slot h g (by decide) (by decide) (by simp) (by simp) rfl (by simp) ⟨_, hS⟩ g3, fun _ hS => CI_slot h g (by decide) (by decide) (by simp) (by simp) rfl (by simp) ⟨_, hS⟩ g3⟩)
theorem xc_match (h : CI (n + 1) bs R U A0 G σ) (a b : Int32) : am_K ri am_Lx IX10_match 2000 [.ref 0, .int a, .int b] σ (fun _ τ => CI n bs R U A0 G τ) := by
  obtain ⟨eT, eS, ⟨V, hV⟩, -, e3, ⟨ws, eW⟩, ⟨u, eU⟩, eM, -⟩ := id h
  refine x_match (d := 1871) hV eM fun r τ f hG => ?_
  have g := gw_fr f fF_S fF_P
  exact CI_go h g (by decide) (by decide) (by decide) (Tx_gw eT g (by decide) (by decide)) (sys_gw eS g (by decide) (by decide)) ⟨V, Sx_ext hV (gw_ext g) (gw_P g (by omega) (by decide))⟩ ((gw_S g (by omega) (by decide)).trans e3) ⟨ws, Wx_gw eW g (by decide) (by decide)⟩ ⟨u, Ux_gw eU g (by decide) (by decide) (by decide)⟩ hG
theorem xc_matched (h : CI (n + 1) bs R U A0 G σ) (a b c : Int32) : am_K ri am_Lx IX10_matched 2000 [.ref 0, .int a, .int b, .int c] σ (fun _ τ => CI n bs R U A0 G τ) := by
  obtain ⟨V, hV⟩ := h.2.2.1
  have hb := h.2.2.2.2.2.2.2.2
  exact x_matched (d := 1954) hV h.2.2.2.2.2.2.2.1 h.2.2.2.2.1 ⟨by have := hb.1; omega, by have := hb.2.1; omega, hb.2.2.1, hb.2.2.2⟩ fun r τ V' g g3 hS => CI_slot h g (by decide) (by decide) (by simp) (by simp) rfl (by simp) ⟨_, hS⟩ g3
theorem xc_instance (h : CI (n + 1) bs R U A0 G σ) (a b c : Int32) : am_K ri am_Lx IX10_instance 2000 [.ref 0, .int a, .int b, .int c] σ (fun _ τ => CI n bs R U A0 G τ) := by
  obtain ⟨V, hV⟩ := h.2.2.1
  have hb := h.2.2.2.2.2.2.2.2
  exact x_instance (d := 1910) hV h.2.2.2.2.2.2.2.1 h.2.2.2.1 h.2.2.2.2.1 ⟨by have := hb.1; omega, by have := hb.2.1; omega, hb.2.2.1, hb.2.2.2⟩ fun r τ V' g g3 hS => CI_slot h g (by decide) (by decide) (by simp) (by simp) rfl (by simp) ⟨_, hS⟩ g3
theorem xc_unify (h : CI (n + 1) bs R U A0 G σ) (a b c : Int32) : am_K ri am_Lx IX10_unify 2000 [.ref 0, .int a, .int b, .int c] σ (fun _ τ => CI n bs R U A0 G τ) := by
  obtain ⟨eT, eS, ⟨V, hV⟩, -, e3, ⟨ws, eW⟩, ⟨u, eU⟩, eM, -⟩ := id h
  have up : ∀ τ, ufW σ τ → (∃ u, Ux u τ) → CI n bs R U A0 G τ := fun τ g hU => CI_go h g (by decide) (by decide) (by decide) (Tx_gw eT g (by decide) (by decide)) (sys_gw eS g (by decide) (by decide)) ⟨V, Sx_ext hV (gw_ext g) (gw_P g (by omega) (by decide))⟩ ((gw_S g (by omega) (by decide)).trans e3) ⟨ws, Wx_gw eW g (by decide) (by decide)⟩ hU (MG_gw eM g (by decide) (by decide) (by decide) (by decide) (by decide) (by decide))
  exact x_unify (d := 1955) hV eU.1 eU.2.1 (fun _ => CI_dn h) (fun _ _ _ _ _ _ _ _ => CI_dn h) (fun _ _ _ _ _ _ _ _ _ _ _ _ _ _ => CI_dn h) (fun k l x y e _ _ _ _ _ _ _ _ _ _ _ τ g g1 => up τ g ⟨none, (gw_S g (by omega) (by decide)).trans eU.1, (gw_S g (by omega) (by decide)).trans eU.2.1, g1⟩) (fun k l x y e _ _ _ _ _ _ he _ _ _ _ τ g g1 g2 => up τ g ⟨some (3 + e, uN (uP (3 + e) x y)), (gw_S g (by omega) (by decide)).trans eU.1, (gw_S g (by omega) (by decide)).trans eU.2.1, by omega, g1, g2⟩)
theorem xc_bases (h : CI (n + 1) bs R U A0 G σ) (a : Int32) : am_K ri am_Lx IX10_bases 2000 [.ref 0, .int a] σ (fun _ τ => CI n bs R U A0 G τ) := by
  obtain ⟨u, eU⟩ := h.2.2.2.2.2.2.1
  exact x_bases (d := 1999) eU (fun _ => CI_dn h) (fun _ _ => CI_dn h) (fun _ _ _ => ⟨fun _ => CI_dn h, fun _ => CI_dn h, fun _ => CI_dn h⟩)
theorem xc_base (h : CI (n + 1) bs R U A0 G σ) (a b : Int32) : am_K ri am_Lx IX10_base 2000 [.ref 0, .int a, .int b] σ (fun _ τ => CI n bs R U A0 G τ) := by
  obtain ⟨u, eU⟩ := h.2.2.2.2.2.2.1
  exact x_base (d := 1998) eU (fun _ => CI_dn h) (fun _ _ _ _ => CI_dn h) (fun _ _ _ _ _ _ _ _ _ => CI_dn h)
theorem xc_set (h : CI (n + 1) bs R U A0 G σ) (a : Int32) : am_K ri am_Lx IX10_set 2000 [.ref 0, .int a] σ (fun _ τ => CI n bs R U A0 G τ) := by
  obtain ⟨u, eU⟩ := h.2.2.2.2.2.2.1
  obtain ⟨V, hV⟩ := h.2.2.1
  exact x_set (d := 1996) eU (fun _ => CI_dn h) (fun _ _ _ _ τ g => CI_slot h g (by decide) (by decide) (by simp) (by simp) rfl (by simp) ⟨V, Sx_ext hV (gw_ext g) (gw_P g (by omega) (by simp))⟩ ((gw_S g (by omega) (by simp)).trans h.2.2.2.2.1))
theorem xc_unified (h : CI (n + 1) bs R U A0 G σ) (a b c : Int32) : am_K ri am_Lx IX10_unified 2000 [.ref 0, .int a, .int b, .int c] σ (fun _ τ => CI n bs R U A0 G τ) := by
  obtain ⟨V, hV⟩ := h.2.2.1
  obtain ⟨u, eU⟩ := h.2.2.2.2.2.2.1
  have hb := h.2.2.2.2.2.2.2.2
  exact x_unified (d := 1916) hV eU h.2.2.2.1 h.2.2.2.2.1 ⟨by have := hb.1; omega, by have := hb.2.1; omega, hb.2.2.1, hb.2.2.2⟩ (fun _ => CI_dn h) (fun _ _ _ _ _ _ => CI_dn h) (fun _ _ _ _ _ _ _ _ _ _ _ _ _ _ τ g g3 => ⟨fun _ hS => CI_slot h g (by decide) (by decide) (by simp) (by simp) rfl (by simp) ⟨_, hS⟩ g3, fun _ hS => CI_slot h g (by decide) (by decide) (by simp) (by simp) rfl (by simp) ⟨_, hS⟩ g3⟩)
theorem xc_rd {V' : Sv} (h : CI (n + 1) bs R U A0 G σ) (g : rF σ τ) (g3 : gS τ 3 3 = nI 0) (g2 : gS τ 7 2 = nI 0) (hS : Sx τ V') : CI n [] R U A0 G τ := by
  obtain ⟨eT, eS, -, -, -, ⟨ws, eW⟩, ⟨u, eU⟩, eM, eb⟩ := id h
  exact ⟨⟨g2, fun i b z => by simp at z⟩, sys_gw eS g (by decide) (by decide), ⟨V', hS⟩, lts_gw h.2.2.2.1 g (by decide), g3, ⟨ws, Wx_gw eW g (by decide) (by decide)⟩, ⟨u, Ux_gw eU g (by decide) (by decide) (by decide)⟩, MG_gw eM g (by decide) (by decide) (by decide) (by decide) (by decide) (by decide), bud_dn eb g (by decide) (by decide)⟩
end XC
/-! ===== each call keeps the reference ===== -/
theorem Sm_cf {σ : am_S} {W : Sv} {k : Nat} {x : Tm} (h : Sm σ W) (hk : k < 16) (e : W k = some x) : Can x ∧ fits x := by
  rcases h k hk with ⟨a, -⟩ | ⟨y, a, -, c, d, -⟩
  · rw [e] at a; cases a
  · rw [e] at a; cases a; exact ⟨c, d⟩
section MCALLS
variable {bs : List Nat} {R U : Nat} {A0 : Nat → Nat → Int} {G : List (List Nat)} {σ τ : am_S}
def RQ (bs : List Nat) (R U : Nat) (A0 : Nat → Nat → Int) (G : List (List Nat)) (σ τ : am_S) : Prop := τ.2 = σ.2 ∧ RI bs R U A0 G τ
theorem RQ_rfl (h : RI bs R U A0 G σ) : RQ bs R U A0 G σ σ := ⟨rfl, h⟩
/-- slots alone -/
theorem RI_slot {A : List Nat} (h : RI bs R U A0 G σ) (g : mK [(0, 4), (0, 5), (0, 7)] A (fun i => 640 ≤ i ∧ i < 17280) σ τ) (hA : ∀ x ∈ A, x ∈ [5, 7, 17]) (eV : ∃ W, Sm τ W) : RQ bs R U A0 G σ τ := by
  obtain ⟨eT, eS, -, ⟨ws, eW⟩, ⟨u, eU⟩, eM⟩ := h
  have nA : ∀ a, a ∉ [5, 7, 17] → a ∉ A := fun a e z => e (hA _ z)
  exact ⟨g.2.2.2, Tm_mK eT g (by decide) (nA 6 (by decide)), sysm_mK eS g (by decide) (fun x hx => nA x (by simp at hx ⊢; omega)), eV, ⟨ws, Wm_mK eW g (by decide) (nA 8 (by decide))⟩, ⟨u, Um_mK eU g (by decide) (fun x hx => nA x (by simp at hx ⊢; omega)) (fun i a b => ⟨by omega, b⟩)⟩, MR_mK eM g (by decide) (fun x hx => nA x (by simp at hx ⊢; omega)) (fun i a b => ⟨a, by omega⟩)⟩
theorem RI_mW (h : RI bs R U A0 G σ) (g : mW σ τ) (eV : ∃ W, Sm τ W) : RQ bs R U A0 G σ τ := RI_slot h (mK_mW g) (by decide) eV
theorem mc_told (h : RI bs R U A0 G σ) (a b : Int32) : am_K ri am_Lm IX11_told 2000 [.ref 0, .int a, .int b] σ (fun _ τ => RQ bs R U A0 G σ τ) := by
  obtain ⟨W, hW⟩ := h.2.2.1
  exact m_told (d := 1997) hW (fun _ _ _ _ _ _ => RQ_rfl h) (fun _ => RQ_rfl h)
theorem mc_order (h : RI bs R U A0 G σ) (a b : Int32) : am_K ri am_Lm IX11_order 2000 [.ref 0, .int a, .int b] σ (fun _ τ => RQ bs R U A0 G σ τ) := by
  obtain ⟨W, hW⟩ := h.2.2.1
  exact m_order (d := 1958) hW (fun _ => RQ_rfl h) (fun _ _ _ _ _ _ _ => RQ_rfl h) (fun _ _ _ _ _ _ _ _ _ _ => ⟨fun _ => RQ_rfl h, fun _ => RQ_rfl h, fun _ => RQ_rfl h⟩)
theorem mc_print (h : RI bs R U A0 G σ) (a : Int32) : am_K ri am_Lm IX11_print 2000 [.ref 0, .int a] σ (fun _ τ => RQ bs R U A0 G σ τ) := by
  obtain ⟨eT, eS, ⟨W, hW⟩, -, ⟨u, eU⟩, eM⟩ := id h
  refine m_print (d := 1949) hW (fun _ => RQ_rfl h) (fun _ _ _ _ => RQ_rfl h) (fun _ x τ _ _ _ f hw => ?_)
  have g := mK_fr f (by decide)
  exact ⟨g.2.2.2, Tm_mK eT g (by decide) (by decide), sysm_mK eS g (by decide) (by decide), ⟨W, fun s hs => by
    rcases hW s hs with ⟨a, b⟩ | ⟨x, a, b, c, d, e⟩
    · exact Or.inl ⟨a, by rw [f.2.1 7 (by decide)]; exact b⟩
    · exact Or.inr ⟨x, a, by rw [f.2.1 7 (by decide)]; exact b, c, d, seg_move (fun q h1 h4 i hi => by rw [f.2.1 q (by simp; omega)]) e⟩⟩, ⟨_, hw⟩, ⟨u, Um_mK eU g (by decide) (by decide) (fun _ _ _ => trivial)⟩, MR_mK eM g (by decide) (by decide) (fun _ _ _ => trivial)⟩
theorem mc_out (h : RI bs R U A0 G σ) (a : Int32) : am_K ri am_Lm IX11_out 2000 [.ref 0, .int a] σ (fun _ τ => RQ bs R U A0 G σ τ) := by
  obtain ⟨ws, hW⟩ := h.2.2.2.1
  exact m_out (d := 1998) hW (fun _ => RQ_rfl h) (fun _ _ _ _ => RQ_rfl h)
theorem mc_part (h : RI bs R U A0 G σ) (a b c : Int32) : am_K ri am_Lm IX11_part 2000 [.ref 0, .int a, .int b, .int c] σ (fun _ τ => RQ bs R U A0 G σ τ) := by
  obtain ⟨W, hW⟩ := h.2.2.1
  exact m_part (d := 1997) hW (fun _ => RQ_rfl h) (fun _ _ _ _ _ => RQ_rfl h) (fun _ _ _ _ _ _ _ => RQ_rfl h) (fun _ _ _ _ _ τ _ _ _ _ _ _ _ g hS => RI_mW h g ⟨_, hS⟩)
theorem mc_join (h : RI bs R U A0 G σ) (a b c e : Int32) : am_K ri am_Lm IX11_join 2000 [.ref 0, .int a, .int b, .int c, .int e] σ (fun _ τ => RQ bs R U A0 G σ τ) := by
  obtain ⟨W, hW⟩ := h.2.2.1
  exact m_join (d := 1956) hW (fun _ => RQ_rfl h) (fun _ _ _ _ _ _ _ _ _ => RQ_rfl h) (fun _ _ _ _ _ _ _ _ _ _ _ _ _ _ _ _ τ g => ⟨fun _ hS => RI_mW h g ⟨_, hS⟩, fun _ hS => RI_mW h g ⟨_, hS⟩⟩)
theorem mc_match (h : RI bs R U A0 G σ) (a b : Int32) : am_K ri am_Lm IX11_match 2000 [.ref 0, .int a, .int b] σ (fun _ τ => RQ bs R U A0 G σ τ) := by
  obtain ⟨eT, eS, ⟨W, hW⟩, ⟨ws, eW⟩, ⟨u, eU⟩, eM⟩ := id h
  refine m_match (d := 1593) hW eM fun r τ f hS hR => ?_
  have g := mK_mMt f
  exact ⟨g.2.2.2, Tm_mK eT g (by decide) (by decide), sysm_mK eS g (by decide) (by decide), ⟨W, hS⟩, ⟨ws, Wm_mK eW g (by decide) (by decide)⟩, ⟨u, Um_mK eU g (by decide) (by decide) (fun _ a b => Or.inr ⟨a, b⟩)⟩, hR⟩
theorem mc_matched (h : RI bs R U A0 G σ) (a b c : Int32) : am_K ri am_Lm IX11_matched 2000 [.ref 0, .int a, .int b, .int c] σ (fun _ τ => RQ bs R U A0 G σ τ) := by
  obtain ⟨W, hW⟩ := h.2.2.1
  exact m_matched (d := 1996) hW h.2.2.2.2.2 fun r τ V' g hS => RI_mW h g ⟨_, hS⟩
theorem mc_instance (h : RI bs R U A0 G σ) (a b c : Int32) : am_K ri am_Lm IX11_instance 2000 [.ref 0, .int a, .int b, .int c] σ (fun _ τ => RQ bs R U A0 G σ τ) := by
  obtain ⟨W, hW⟩ := h.2.2.1
  exact m_instance (d := 1869) hW h.2.2.2.2.2 fun r τ V' g hS => RI_slot h (mK_mI g) (by decide) ⟨_, hS⟩
theorem mc_unify (h : RI bs R U A0 G σ) (a b c : Int32) : am_K ri am_Lm IX11_unify 2000 [.ref 0, .int a, .int b, .int c] σ (fun _ τ => RQ bs R U A0 G σ τ) := by
  obtain ⟨eT, eS, ⟨W, hW⟩, ⟨ws, eW⟩, ⟨u, eU⟩, eM⟩ := id h
  have up : ∀ τ, umW σ τ → (∃ u, Um u τ) → RQ bs R U A0 G σ τ := fun τ f hU => by
    have g := mK_mX f
    exact ⟨g.2.2.2, Tm_mK eT g (by decide) (by decide), sysm_mK eS g (by decide) (by decide), ⟨W, fun s hs => by
      rcases hW s hs with ⟨a, b⟩ | ⟨x, a, b, c, d, e⟩
      · exact Or.inl ⟨a, by rw [g.2.1 7 (by omega) (by decide)]; exact b⟩
      · exact Or.inr ⟨x, a, by rw [g.2.1 7 (by omega) (by decide)]; exact b, c, d, seg_move (fun q h1 h4 i hi => g.2.2.1 q h1 h4 _ (by have := d.1; omega)) e⟩⟩, ⟨ws, Wm_mK eW g (by decide) (by decide)⟩, hU, MR_mK eM g (by decide) (by decide) (fun i a b => by omega)⟩
  exact m_unify (d := 1955) hW (fun _ => RQ_rfl h) (fun _ _ _ _ _ _ _ _ => RQ_rfl h) (fun _ _ _ _ _ _ _ _ _ _ _ _ _ _ => RQ_rfl h) (fun k l x y e _ _ _ _ _ _ _ _ _ _ _ τ g g1 => up τ g ⟨none, g1⟩) (fun k l x y e hk hl _ _ hx hy he _ hp hq hB τ g g1 => up τ g ⟨some (3 + e, uN (uP (3 + e) x y)), by omega, uN_ok (by omega) (Sm_cf hW hk hx).1 (Sm_cf hW hk hx).2 (Sm_cf hW hl hy).1 (Sm_cf hW hl hy).2 hp hq, g1⟩)
theorem mc_bases (h : RI bs R U A0 G σ) (a : Int32) : am_K ri am_Lm IX11_bases 2000 [.ref 0, .int a] σ (fun _ τ => RQ bs R U A0 G σ τ) := by
  obtain ⟨u, eU⟩ := h.2.2.2.2.1
  exact m_bases (d := 1998) eU (fun _ => RQ_rfl h) (fun _ _ => RQ_rfl h) (fun _ _ _ => ⟨fun _ => RQ_rfl h, fun _ => RQ_rfl h, fun _ => RQ_rfl h⟩)
theorem mc_base (h : RI bs R U A0 G σ) (a b : Int32) : am_K ri am_Lm IX11_base 2000 [.ref 0, .int a, .int b] σ (fun _ τ => RQ bs R U A0 G σ τ) := by
  obtain ⟨u, eU⟩ := h.2.2.2.2.1
  exact m_base (d := 1998) eU (fun _ => RQ_rfl h) (fun _ _ _ _ => RQ_rfl h) (fun _ _ _ _ _ _ _ _ _ => RQ_rfl h)
theorem mc_set (h : RI bs R U A0 G σ) (a : Int32) : am_K ri am_Lm IX11_set 2000 [.ref 0, .int a] σ (fun _ τ => RQ bs R U A0 G σ τ) := by
  obtain ⟨u, eU⟩ := h.2.2.2.2.1
  exact m_set (d := 1998) eU (fun _ => RQ_rfl h) (fun _ _ _ _ => RQ_rfl h)
theorem mc_unified (h : RI bs R U A0 G σ) (a b c : Int32) : am_K ri am_Lm IX11_unified 2000 [.ref 0, .int a, .int b, .int c] σ (fun _ τ => RQ bs R U A0 G σ τ) := by
  obtain ⟨W, hW⟩ := h.2.2.1
  obtain ⟨u, eU⟩ := h.2.2.2.2.1
  exact m_unified (d := 1869) hW eU (fun _ => RQ_rfl h) (fun _ _ _ _ _ _ => RQ_rfl h) (fun _ _ _ _ _ _ _ _ _ _ _ _ _ _ τ g => ⟨fun _ hS => RI_slot h (mK_mI g) (by decide) ⟨_, hS⟩, fun _ hS => RI_slot h (mK_mI g) (by decide) ⟨_, hS⟩⟩)
theorem mc_rd {V' : Sv} (h : RI bs R U A0 G σ) (f : mRd σ τ) (g9 : gS τ 0 9 = nI 0) (hS : Sm τ V') : RQ [] R U A0 G σ τ := by
  obtain ⟨eT, eS, -, ⟨ws, eW⟩, ⟨u, eU⟩, eM⟩ := id h
  have g := mK_mRd f
  exact ⟨g.2.2.2, ⟨g9, fun i b z => by simp at z⟩, sysm_mK eS g (by decide) (by decide), ⟨V', hS⟩, ⟨ws, Wm_mK eW g (by decide) (by decide)⟩, ⟨u, Um_mK eU g (by decide) (by decide) (fun i a b => ⟨by omega, b⟩)⟩, MR_mK eM g (by decide) (by decide) (fun i a b => ⟨a, by omega⟩)⟩
end MCALLS
