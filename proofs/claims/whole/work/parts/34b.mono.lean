theorem mono_X_follows {T_count : Int32} {nT_heads : Nat} {T_heads : (Nat → Int32)} {nT_places : Nat} {T_places : (Nat → Int32)} {nT_olders : Nat} {T_olders : (Nat → Int32)} {nT_sizes : Nat} {T_sizes : (Nat → Int32)} {nT_withins : Nat} {T_withins : (Nat → Int64)} {T_newest : (Nat → Int32)} {S_count : Int32} {S_premises : (Nat → Int32)} {S_premiseCounts : (Nat → Int32)} {S_conclusions : (Nat → Int32)} {S_order : (Nat → Int32)} {M_images : (Nat → Int32)} {M_path : (Nat → Int32)} {E_level : Int32} {E_steps : Int32} {E_tries : Int32} {E_taken : Int32} {E_first : Int32} {E_goals : (Nat → Int32)} {E_marks : (Nat → Int32)} {E_looked : (Nat → Int32)} {E_underway : (Nat → Int32)} {E_met : (Nat → Int32)} {E_takenHere : (Nat → Int32)} {p0 : Int32} {p1 : Int32} {o : Nat × Int32 × Int32 × Nat × (Nat → Int32) × Nat × (Nat → Int32) × Nat × (Nat → Int32) × Nat × (Nat → Int32) × Nat × (Nat → Int64) × (Nat → Int32) × (Nat → Int32) × (Nat → Int32) × (Nat → Int32) × Int32 × Int32 × Int32 × Int32 × Int32 × (Nat → Int32) × (Nat → Int32) × (Nat → Int32) × (Nat → Int32) × (Nat → Int32) × (Nat → Int32)} (hf : f_X_follows T_count nT_heads T_heads nT_places T_places nT_olders T_olders nT_sizes T_sizes nT_withins T_withins T_newest S_count S_premises S_premiseCounts S_conclusions S_order M_images M_path E_level E_steps E_tries E_taken E_first E_goals E_marks E_looked E_underway E_met E_takenHere p0 p1 = some o) : nT_heads ≤ o.2.2.2.1 := by
  rw [f_X_follows] at hf
  obtain ⟨r1, hr1, hf⟩ := of_bd hf
  by_cases z : r1 = 0
  · have hf := ite_t z hf
    obtain ⟨r3, hr3, hf⟩ := of_bd hf
    have hm := mono_E_ends hr3
    by_cases z1 : r3.1 = 0
    · have hf := ite_t z1 hf
      obtain rfl := Option.some.inj hf
      exact hm
    · have hf := ite_f z1 hf
      obtain ⟨r9, hr9, hf⟩ := of_bd hf
      by_cases z2 : r9 ≤ 0
      · have hf := ite_t z2 hf
        obtain rfl := Option.some.inj hf
        exact hm
      · have hf := ite_f z2 hf
        obtain rfl := Option.some.inj hf
        exact hm
  · have hf := ite_f z hf
    obtain rfl := Option.some.inj hf
    exact Nat.le_refl _
theorem mono_L_follows {T_count : Int32} {nT_heads : Nat} {T_heads : (Nat → Int32)} {nT_places : Nat} {T_places : (Nat → Int32)} {nT_olders : Nat} {T_olders : (Nat → Int32)} {nT_sizes : Nat} {T_sizes : (Nat → Int32)} {nT_withins : Nat} {T_withins : (Nat → Int64)} {T_newest : (Nat → Int32)} {S_count : Int32} {S_premises : (Nat → Int32)} {S_premiseCounts : (Nat → Int32)} {S_conclusions : (Nat → Int32)} {S_order : (Nat → Int32)} {M_images : (Nat → Int32)} {M_path : (Nat → Int32)} {E_level : Int32} {E_steps : Int32} {E_tries : Int32} {E_taken : Int32} {E_first : Int32} {E_goals : (Nat → Int32)} {E_marks : (Nat → Int32)} {E_looked : (Nat → Int32)} {E_underway : (Nat → Int32)} {E_met : (Nat → Int32)} {E_takenHere : (Nat → Int32)} {O_out : (Nat → Int64)} {p0 : Int32} {p1 : Int32} {o : Int32 × Int32 × Nat × (Nat → Int32) × Nat × (Nat → Int32) × Nat × (Nat → Int32) × Nat × (Nat → Int32) × Nat × (Nat → Int64) × (Nat → Int32) × (Nat → Int32) × (Nat → Int32) × (Nat → Int32) × Int32 × Int32 × Int32 × Int32 × Int32 × (Nat → Int32) × (Nat → Int32) × (Nat → Int32) × (Nat → Int32) × (Nat → Int32) × (Nat → Int32) × (Nat → Int64)} (hf : f_L_follows T_count nT_heads T_heads nT_places T_places nT_olders T_olders nT_sizes T_sizes nT_withins T_withins T_newest S_count S_premises S_premiseCounts S_conclusions S_order M_images M_path E_level E_steps E_tries E_taken E_first E_goals E_marks E_looked E_underway E_met E_takenHere O_out p0 p1 = some o) : nT_heads ≤ o.2.2.1 := by
  rw [f_L_follows] at hf
  obtain ⟨r, hr, hf⟩ := of_bd hf
  have hm := mono_X_follows hr
  by_cases z0 : r.1 = 0
  · have hf := ite_t z0 hf
    by_cases z1 : r.2.1 = 0
    · have hf := ite_t z1 hf
      obtain ⟨_, hf⟩ := of_gd hf
      obtain rfl := Option.some.inj hf
      exact hm
    · have hf := ite_f z1 hf
      obtain ⟨_, hf⟩ := of_gd hf
      obtain rfl := Option.some.inj hf
      exact hm
  · have hf := ite_f z0 hf
    by_cases y1 : r.1 = 1
    · have hf := ite_t y1 hf
      obtain rfl := Option.some.inj hf
      exact hm
    have hf := ite_f y1 hf
    by_cases y2 : r.1 = 2
    · have hf := ite_t y2 hf
      obtain rfl := Option.some.inj hf
      exact hm
    have hf := ite_f y2 hf
    by_cases y4 : r.1 = 4
    · have hf := ite_t y4 hf
      obtain rfl := Option.some.inj hf
      exact hm
    have hf := ite_f y4 hf
    cases hf
