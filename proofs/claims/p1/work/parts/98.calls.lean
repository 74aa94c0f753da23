/-! ===== each call on a new object ===== -/
theorem st_all {Inv : am_S → am_S → Prop} (hI : ∀ σx σm, Inv σx σm) : lw_all Inv am_x0 am_m0 := sorry
