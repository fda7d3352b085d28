theorem fillM {M : Nat} (hM : M < 2 ^ 31) (v : Int32) : ∀ d, ∀ fuel, d < fuel → ∀ (A : Nat → Int32), d ≤ M → ∃ A', f_JA_fill_L5 M fuel A v (nI (M - d)) (nI M) = some A' ∧ (∀ x, x < M → M - d ≤ x → A' x = v) ∧ (∀ x, x < M - d → A' x = A x) := by
  intro d
  induction d with
  | zero =>
    intro fuel hf A _
    obtain ⟨f, rfl⟩ : ∃ f, fuel = f + 1 := ⟨fuel - 1, by omega⟩
    refine ⟨A, ?_, fun x h1 h2 => by omega, fun x _ => rfl⟩
    rw [f_JA_fill_L5, if_pos ((nI_leI (by omega) (by omega)).mpr (by omega))]
  | succ d ih =>
    intro fuel hf A hd
    obtain ⟨f, rfl⟩ : ∃ f, fuel = f + 1 := ⟨fuel - 1, by omega⟩
    obtain ⟨A', h1, h2, h3⟩ := ih f (by omega) (upd A (M - (d + 1)) v) (by omega)
    refine ⟨A', ?_, fun x h4 h5 => ?_, fun x h4 => ?_⟩
    · rw [f_JA_fill_L5, if_neg (nI_ge (by omega) (by omega)), gd_t (ixb_t (by omega) (by omega)), nmE, nmE, nI_clamp (by omega), nI_1, show M - (d + 1) + 1 = M - d by omega]
      exact h1
    · by_cases e : x = M - (d + 1)
      · rw [h3 x (by omega), e, up_s]
      · exact h2 x h4 (by omega)
    · rw [h3 x (by omega), up_n (by omega)]
theorem fillE {M : Nat} (hM : M < 10000) (A : Nat → Int32) : ∃ A', f_JA_fill M A (-1) = some A' ∧ ∀ x, x < M → A' x = -1 := by
  obtain ⟨A', h1, h2, -⟩ := fillM (M := M) (by omega) (-1) M FU (by unfold FU; omega) A (Nat.le_refl _)
  rw [Nat.sub_self, nI_0] at h1
  refine ⟨A', ?_, fun x hx => h2 x hx (by omega)⟩
  unfold f_JA_fill
  rw [nmE]
  exact h1
theorem qiH {Q_thrown : Int32} {Q_all : Int32} {Q_statements : Int32} {Q_hitKind : Int32} {Q_hits : Int32} {Q_tries : Int32} {Q_takenAll : Int32} {Q_takenFirst : Int32} {Q_kinds : (Nat → Int32)} {Q_which : (Nat → Int32)} {Q_firsts : (Nat → Int32)} {Q_seconds : (Nat → Int32)} {Q_thirds : (Nat → Int32)} {Q_nexts : (Nat → Int32)} {Q_names : (Nat → Int32)} {Q_variables : (Nat → Int32)} {Q_holes : (Nat → Int32)} {Q_sizes : (Nat → Int32)} {Q_places : (Nat → Int32)} {Q_conclusions : (Nat → Int32)} {Q_premises : (Nat → Int32)} {Q_counts : (Nat → Int32)} {Q_hitOf : (Nat → Int32)} {Q_hitOne : (Nat → Int32)} {Q_hitTwo : (Nat → Int32)} {Q_hitTerms : (Nat → Int32)} {Q_image : (Nat → Int32)} {Q_bound : (Nat → Int32)} {Q_waits : (Nat → Int32)} {Q_waitsFor : (Nat → Int32)} {Q_seen : (Nat → Int32)} {Q_goals : (Nat → Int32)} {Q_steps : (Nat → Int32)} {Q_looked : (Nat → Int32)} {Q_under : (Nat → Int32)} {Q_taken : (Nat → Int32)} {Q_news : (Nat → Int32)} {Q_order : (Nat → Int32)} {Q_there : (Nat → Int32)} {Q_back : (Nat → Int32)} : ∀ d, d ≤ 4096 → ∀ fuel, d < fuel → ∀ (A : Nat → Int32), ∃ A', f_Q_init_L306 fuel Q_thrown Q_all Q_statements Q_hitKind Q_hits Q_tries Q_takenAll Q_takenFirst Q_kinds Q_which Q_firsts Q_seconds Q_thirds Q_nexts A Q_names Q_variables Q_holes Q_sizes Q_places Q_conclusions Q_premises Q_counts Q_hitOf Q_hitOne Q_hitTwo Q_hitTerms Q_image Q_bound Q_waits Q_waitsFor Q_seen Q_goals Q_steps Q_looked Q_under Q_taken Q_news Q_order Q_there Q_back (nI (4096 - d)) = some (Q_thrown, Q_all, Q_statements, Q_hitKind, Q_hits, Q_tries, Q_takenAll, Q_takenFirst, Q_kinds, Q_which, Q_firsts, Q_seconds, Q_thirds, Q_nexts, A', Q_names, Q_variables, Q_holes, Q_sizes, Q_places, Q_conclusions, Q_premises, Q_counts, Q_hitOf, Q_hitOne, Q_hitTwo, Q_hitTerms, Q_image, Q_bound, Q_waits, Q_waitsFor, Q_seen, Q_goals, Q_steps, Q_looked, Q_under, Q_taken, Q_news, Q_order, Q_there, Q_back) ∧ (∀ x, x < 4096 → 4096 - d ≤ x → A' x = -1) ∧ (∀ x, x < 4096 - d → A' x = A x) := by
  generalize hFU : FU = G
  intro d
  induction d with
  | zero =>
    intro _ fuel hf A
    obtain ⟨f, rfl⟩ : ∃ f, fuel = f + 1 := ⟨fuel - 1, by omega⟩
    refine ⟨A, ?_, fun x h1 h2 => by omega, fun x _ => rfl⟩
    rw [f_Q_init_L306, if_pos (show (4096 : Int32) ≤ nI (4096 - 0) by decide)]
  | succ d ih =>
    intro hd fuel hf A
    obtain ⟨f, rfl⟩ : ∃ f, fuel = f + 1 := ⟨fuel - 1, by omega⟩
    obtain ⟨A', h1, h2, h3⟩ := ih (by omega) f (by omega) (upd A (4096 - (d + 1)) (-1))
    refine ⟨A', ?_, fun x h4 h5 => ?_, fun x h4 => ?_⟩
    · rw [f_Q_init_L306, if_neg (show ¬ (4096 : Int32) ≤ nI (4096 - (d + 1)) from (nI_ge (by omega) (by omega) : ¬ nI 4096 ≤ _)), gd_t (ixb_t (by omega) (by omega)), nmE, nmE, nI_clamp (by omega), nI_1, show 4096 - (d + 1) + 1 = 4096 - d by omega]
      exact h1
    · by_cases e : x = 4096 - (d + 1)
      · rw [h3 x (by omega), e, up_s]
      · exact h2 x h4 (by omega)
    · rw [h3 x (by omega), up_n (by omega)]
theorem qiP {Q_thrown : Int32} {Q_all : Int32} {Q_statements : Int32} {Q_hitKind : Int32} {Q_hits : Int32} {Q_tries : Int32} {Q_takenAll : Int32} {Q_takenFirst : Int32} {Q_kinds : (Nat → Int32)} {Q_which : (Nat → Int32)} {Q_firsts : (Nat → Int32)} {Q_seconds : (Nat → Int32)} {Q_thirds : (Nat → Int32)} {Q_nexts : (Nat → Int32)} {Q_heads : (Nat → Int32)} {Q_names : (Nat → Int32)} {Q_variables : (Nat → Int32)} {Q_holes : (Nat → Int32)} {Q_sizes : (Nat → Int32)} {Q_conclusions : (Nat → Int32)} {Q_premises : (Nat → Int32)} {Q_counts : (Nat → Int32)} {Q_hitOf : (Nat → Int32)} {Q_hitOne : (Nat → Int32)} {Q_hitTwo : (Nat → Int32)} {Q_hitTerms : (Nat → Int32)} {Q_image : (Nat → Int32)} {Q_bound : (Nat → Int32)} {Q_waits : (Nat → Int32)} {Q_waitsFor : (Nat → Int32)} {Q_seen : (Nat → Int32)} {Q_goals : (Nat → Int32)} {Q_steps : (Nat → Int32)} {Q_looked : (Nat → Int32)} {Q_under : (Nat → Int32)} {Q_taken : (Nat → Int32)} {Q_news : (Nat → Int32)} {Q_order : (Nat → Int32)} {Q_there : (Nat → Int32)} {Q_back : (Nat → Int32)} : ∀ d, d ≤ 30 → ∀ fuel, d < fuel → ∀ (A : Nat → Int32), ∃ A', f_Q_init_L285 fuel Q_thrown Q_all Q_statements Q_hitKind Q_hits Q_tries Q_takenAll Q_takenFirst Q_kinds Q_which Q_firsts Q_seconds Q_thirds Q_nexts Q_heads Q_names Q_variables Q_holes Q_sizes A Q_conclusions Q_premises Q_counts Q_hitOf Q_hitOne Q_hitTwo Q_hitTerms Q_image Q_bound Q_waits Q_waitsFor Q_seen Q_goals Q_steps Q_looked Q_under Q_taken Q_news Q_order Q_there Q_back (nI (30 - d)) = f_Q_init_L306 FU Q_thrown Q_all Q_statements Q_hitKind Q_hits Q_tries Q_takenAll Q_takenFirst Q_kinds Q_which Q_firsts Q_seconds Q_thirds Q_nexts Q_heads Q_names Q_variables Q_holes Q_sizes A' Q_conclusions Q_premises Q_counts Q_hitOf Q_hitOne Q_hitTwo Q_hitTerms Q_image Q_bound Q_waits Q_waitsFor Q_seen Q_goals Q_steps Q_looked Q_under Q_taken Q_news Q_order Q_there Q_back 0 ∧ (∀ x, x < 30 → 30 - d ≤ x → A' x = -1) ∧ (∀ x, x < 30 - d → A' x = A x) := by
  generalize hFU : FU = G
  intro d
  induction d with
  | zero =>
    intro _ fuel hf A
    obtain ⟨f, rfl⟩ : ∃ f, fuel = f + 1 := ⟨fuel - 1, by omega⟩
    refine ⟨A, ?_, fun x h1 h2 => by omega, fun x _ => rfl⟩
    rw [f_Q_init_L285, if_pos (show (30 : Int32) ≤ nI (30 - 0) by decide), hFU]
  | succ d ih =>
    intro hd fuel hf A
    obtain ⟨f, rfl⟩ : ∃ f, fuel = f + 1 := ⟨fuel - 1, by omega⟩
    obtain ⟨A', h1, h2, h3⟩ := ih (by omega) f (by omega) (upd A (30 - (d + 1)) (-1))
    refine ⟨A', ?_, fun x h4 h5 => ?_, fun x h4 => ?_⟩
    · rw [f_Q_init_L285, if_neg (show ¬ (30 : Int32) ≤ nI (30 - (d + 1)) from (nI_ge (by omega) (by omega) : ¬ nI 30 ≤ _)), gd_t (ixb_t (by omega) (by omega)), nmE, nmE, nI_clamp (by omega), nI_1, show 30 - (d + 1) + 1 = 30 - d by omega]
      exact h1
    · by_cases e : x = 30 - (d + 1)
      · rw [h3 x (by omega), e, up_s]
      · exact h2 x h4 (by omega)
    · rw [h3 x (by omega), up_n (by omega)]
theorem qinit_eq : ∃ H' P' : Nat → Int32, f_Q_init = some (0, 0, 0, 0, 0, 0, 0, (-1), (fun _ => (0 : Int32)), (fun _ => (0 : Int32)), (fun _ => (0 : Int32)), (fun _ => (0 : Int32)), (fun _ => (0 : Int32)), (fun _ => (0 : Int32)), H', (fun _ => (0 : Int32)), (fun _ => (0 : Int32)), (fun _ => (0 : Int32)), (fun _ => (0 : Int32)), P', (fun _ => (0 : Int32)), (fun _ => (0 : Int32)), (fun _ => (0 : Int32)), (fun _ => (0 : Int32)), (fun _ => (0 : Int32)), (fun _ => (0 : Int32)), (fun _ => (0 : Int32)), (fun _ => (0 : Int32)), (fun _ => (0 : Int32)), (fun _ => (0 : Int32)), (fun _ => (0 : Int32)), (fun _ => (0 : Int32)), (fun _ => (0 : Int32)), (fun _ => (0 : Int32)), (fun _ => (0 : Int32)), (fun _ => (0 : Int32)), (fun _ => (0 : Int32)), (fun _ => (0 : Int32)), (fun _ => (0 : Int32)), (fun _ => (0 : Int32)), (fun _ => (0 : Int32))) ∧ (∀ x, x < 4096 → H' x = -1) ∧ ∀ x, x < 30 → P' x = -1 := by
  obtain ⟨P', p1, p2, -⟩ := qiP (Q_thrown := 0) (Q_all := 0) (Q_statements := 0) (Q_hitKind := 0) (Q_hits := 0) (Q_tries := 0) (Q_takenAll := 0) (Q_takenFirst := (-1)) (Q_kinds := (fun _ => (0 : Int32))) (Q_which := (fun _ => (0 : Int32))) (Q_firsts := (fun _ => (0 : Int32))) (Q_seconds := (fun _ => (0 : Int32))) (Q_thirds := (fun _ => (0 : Int32))) (Q_nexts := (fun _ => (0 : Int32))) (Q_heads := (fun _ => (0 : Int32))) (Q_names := (fun _ => (0 : Int32))) (Q_variables := (fun _ => (0 : Int32))) (Q_holes := (fun _ => (0 : Int32))) (Q_sizes := (fun _ => (0 : Int32))) (Q_conclusions := (fun _ => (0 : Int32))) (Q_premises := (fun _ => (0 : Int32))) (Q_counts := (fun _ => (0 : Int32))) (Q_hitOf := (fun _ => (0 : Int32))) (Q_hitOne := (fun _ => (0 : Int32))) (Q_hitTwo := (fun _ => (0 : Int32))) (Q_hitTerms := (fun _ => (0 : Int32))) (Q_image := (fun _ => (0 : Int32))) (Q_bound := (fun _ => (0 : Int32))) (Q_waits := (fun _ => (0 : Int32))) (Q_waitsFor := (fun _ => (0 : Int32))) (Q_seen := (fun _ => (0 : Int32))) (Q_goals := (fun _ => (0 : Int32))) (Q_steps := (fun _ => (0 : Int32))) (Q_looked := (fun _ => (0 : Int32))) (Q_under := (fun _ => (0 : Int32))) (Q_taken := (fun _ => (0 : Int32))) (Q_news := (fun _ => (0 : Int32))) (Q_order := (fun _ => (0 : Int32))) (Q_there := (fun _ => (0 : Int32))) (Q_back := (fun _ => (0 : Int32))) 30 (Nat.le_refl _) FU (by unfold FU; omega) (fun _ => (0 : Int32))
  obtain ⟨H', h1, h2, -⟩ := qiH (Q_thrown := 0) (Q_all := 0) (Q_statements := 0) (Q_hitKind := 0) (Q_hits := 0) (Q_tries := 0) (Q_takenAll := 0) (Q_takenFirst := (-1)) (Q_kinds := (fun _ => (0 : Int32))) (Q_which := (fun _ => (0 : Int32))) (Q_firsts := (fun _ => (0 : Int32))) (Q_seconds := (fun _ => (0 : Int32))) (Q_thirds := (fun _ => (0 : Int32))) (Q_nexts := (fun _ => (0 : Int32))) (Q_names := (fun _ => (0 : Int32))) (Q_variables := (fun _ => (0 : Int32))) (Q_holes := (fun _ => (0 : Int32))) (Q_sizes := (fun _ => (0 : Int32))) (Q_places := P') (Q_conclusions := (fun _ => (0 : Int32))) (Q_premises := (fun _ => (0 : Int32))) (Q_counts := (fun _ => (0 : Int32))) (Q_hitOf := (fun _ => (0 : Int32))) (Q_hitOne := (fun _ => (0 : Int32))) (Q_hitTwo := (fun _ => (0 : Int32))) (Q_hitTerms := (fun _ => (0 : Int32))) (Q_image := (fun _ => (0 : Int32))) (Q_bound := (fun _ => (0 : Int32))) (Q_waits := (fun _ => (0 : Int32))) (Q_waitsFor := (fun _ => (0 : Int32))) (Q_seen := (fun _ => (0 : Int32))) (Q_goals := (fun _ => (0 : Int32))) (Q_steps := (fun _ => (0 : Int32))) (Q_looked := (fun _ => (0 : Int32))) (Q_under := (fun _ => (0 : Int32))) (Q_taken := (fun _ => (0 : Int32))) (Q_news := (fun _ => (0 : Int32))) (Q_order := (fun _ => (0 : Int32))) (Q_there := (fun _ => (0 : Int32))) (Q_back := (fun _ => (0 : Int32))) 4096 (Nat.le_refl _) FU (by unfold FU; omega) (fun _ => (0 : Int32))
  rw [Nat.sub_self, nI_0] at p1 h1
  exact ⟨H', P', p1.trans h1, fun x hx => h2 x hx (by omega), fun x hx => p2 x hx (by omega)⟩
