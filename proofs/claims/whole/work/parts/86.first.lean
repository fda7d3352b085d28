def un (sn : Nat → Int32) : Nat := cnt (fun x => decide (sn x = 0)) 100
def snR (sn qs : Nat → Int32) : Prop := ∀ x, x < 100 → sn x = qs x ∧ (sn x = 0 ∨ sn x = 1)
def wtR (n : Nat) (wt ql : Nat → Int32) (k : Nat) : Prop := ∀ i, i < k → ∃ t, t < n ∧ wt i = nI t ∧ ql i = nI t
theorem nar1 : vp_nar .boolean (1 : Int32) = 1 := by decide
theorem nar0 : vp_nar .boolean (0 : Int32) = 0 := by decide
section
variable {tt : Nat → Tm} {n N m : Nat} {ar : Nat → Int32} {sz : Nat → Nat} {cc pc : Nat → Nat} {pp : Nat → Nat → Nat} {T_count : Int32} {T_heads T_places T_olders T_sizes : Nat → Int32} {T_withins : Nat → Int64} {T_newest : Nat → Int32} {Q_all Q_thrown : Int32} {Q_kinds Q_which Q_firsts Q_seconds Q_thirds Q_nexts Q_heads Q_names Q_variables Q_holes Q_sizes : Nat → Int32}
variable {S_count : Int32} {S_premises S_premiseCounts S_conclusions : Nat → Int32} {Q_statements : Int32} {Q_premises Q_counts Q_conclusions : Nat → Int32} {H_kind H_subject H_count : Int32} {H_statementRow H_firstRow H_secondRow : Nat → Int32} {Q_hitKind Q_hits : Int32} {Q_hitOf Q_hitOne Q_hitTwo Q_hitTerms : Nat → Int32} {O_out : Nat → Int64}
variable {Q_places : Nat → Int32}
theorem push_both (w : WF tt n ar) (ct : CT tt n N sz T_count T_heads T_places T_olders T_sizes T_withins T_newest) (qt : QTb tt n Q_all Q_kinds Q_which Q_firsts Q_seconds Q_thirds Q_nexts Q_heads) (hn : n ≤ 100) {t : Nat} (ht : t < n) (F_shape x1 : Int32) (K11 : (Nat → Int32) → (Nat → Int32) → (Nat → Int32) → Int32 → Int32 → Option (Int32 × (Nat → Int32) × (Nat → Int32) × (Nat → Int32))) (K12 : (Nat → Int32) → (Nat → Int32) → (Nat → Int32) → (Nat → Int32) → (Nat → Int32) → (Nat → Int32) → Int32 → Int32 → Option (Int32 × (Nat → Int32) × (Nat → Int32) × (Nat → Int32) × (Nat → Int32) × (Nat → Int32) × (Nat → Int32)))
    (im sn qi qb qw qv qs : Nat → Int32) (step : Int32) : ∀ d, d ≤ 3 → ∀ fuel fuel', d < fuel → d < fuel' → ∀ wt ql k, k + d ≤ 301 → wtR n wt ql k → ∃ wt' ql' k',
    f_F_firstIn_L91 T_count N T_heads (3*N) T_places N T_withins F_shape K11 fuel im sn wt (nI k) step (nI t) (nI d - 1) = K11 im sn wt' (nI k') (step + 1) ∧
    f_Q_firstMatch_L65 Q_kinds Q_which Q_firsts Q_seconds Q_thirds Q_variables Q_holes Q_places K12 fuel' qi qb qw qv qs ql x1 (nI k) (nI t) (nI d - 1) = K12 qi qb qw qv qs ql' x1 (nI k') ∧ k' ≤ k + d ∧ wtR n wt' ql' k' := by
  intro d
  induction d with
  | zero =>
    intro _ fuel fuel' hf hf' wt ql k hk hR
    obtain ⟨f, rfl⟩ : ∃ f, fuel = f + 1 := ⟨fuel - 1, by omega⟩
    obtain ⟨f', rfl⟩ : ∃ f, fuel' = f + 1 := ⟨fuel' - 1, by omega⟩
    refine ⟨wt, ql, k, ?_, ?_, by omega, hR⟩
    · rw [f_F_firstIn_L91, if_pos (show nI 0 - 1 < 0 by decide), nmE]
    · rw [f_Q_firstMatch_L65, if_pos (show nI 0 - 1 < 0 by decide)]
  | succ d ih =>
    intro hd fuel fuel' hf hf' wt ql k hk hR
    obtain ⟨f, rfl⟩ : ∃ f, fuel = f + 1 := ⟨fuel - 1, by omega⟩
    obtain ⟨f', rfl⟩ : ∃ f, fuel' = f + 1 := ⟨fuel' - 1, by omega⟩
    have hpc := place_v ct ht (show d < 3 by omega)
    obtain ⟨x, hx, rx⟩ := qpart qt ht ⟨d, by omega⟩
    have hx' : f_Q_part Q_firsts Q_seconds Q_thirds (nI t) (nI d) = some x := hx
    have hrc := ct.2.2.2.2.2.2.1 t ht ⟨d, by omega⟩
    have exy : T_places (3 * t + d) = x := rf_uni w (rf_mono (by omega) hrc) (rf_mono (by omega) rx)
    rw [nI_pred, f_F_firstIn_L91, f_Q_firstMatch_L65, if_neg (nI_pos (by omega)), if_neg (nI_pos (by omega)), hpc, hx', bd_s, bd_s, exy]
    rcases rx with ⟨e, -⟩ | ⟨u, hu, e, -⟩
    · rw [e, if_pos rfl, if_pos rfl, nmE, nmE, ← Int32.sub_eq_add_neg]
      obtain ⟨wt', ql', k', h1, h2, h3, h4⟩ := ih (by omega) f f' (by omega) (by omega) wt ql k (by omega) hR
      exact ⟨wt', ql', k', h1, h2, by omega, h4⟩
    · rw [e, if_neg (nI_nm1 (by omega)), if_neg (nI_nm1 (by omega)), if_neg (show ¬ (301 : Int32) ≤ nI k from (nI_ge (by omega) (by omega) : ¬ nI 301 ≤ nI k)), gd_t (ixb_t (by omega) (by omega)), gd_t (ixb_t (by omega) (by omega)), nmE, nmE, nmE, nmE, nmE, nmE, nI_clamp (by omega), nI_1, ← Int32.sub_eq_add_neg]
      have hR' : wtR n (upd wt k (nI u)) (upd ql k (nI u)) (k + 1) := by
        intro i hi
        by_cases ei : i = k
        · rw [ei, up_s, up_s]; exact ⟨u, by omega, rfl, rfl⟩
        · rw [up_n ei, up_n ei]; exact hR i (by omega)
      obtain ⟨wt', ql', k', h1, h2, h3, h4⟩ := ih (by omega) f f' (by omega) (by omega) _ _ (k + 1) (by omega) hR'
      exact ⟨wt', ql', k', h1, h2, by omega, h4⟩
theorem first_loop (R : RT tt n N sz ar T_count T_heads T_places T_olders T_sizes T_withins T_newest Q_all Q_kinds Q_which Q_firsts Q_seconds Q_thirds Q_nexts Q_heads Q_names Q_variables Q_holes Q_sizes) (har : ∀ h, h < 30 → Q_places h = ar h) {p : Nat} (hp : p < n) : ∀ M, ∀ fuel fuel', M < fuel → M < fuel' → ∀ im sn wt qi qb qw qv qs ql k step, k + 4 * un sn ≤ M → step + k + 3 * un sn ≤ 301 → wtR n wt ql k → snR sn qs →
    ∃ r im' sn' wt' qi' qb' qw' qv' qs' ql', f_F_firstIn_L11 T_count N T_heads (3*N) T_places N T_withins (nI p) fuel im sn wt (nI k) (nI step) = some (r, im', sn', wt') ∧
      f_Q_firstMatch_L12 Q_kinds Q_which Q_firsts Q_seconds Q_thirds Q_variables Q_holes Q_places fuel' qi qb qw qv qs ql (nI p) (nI k) = some (r, qi', qb', qw', qv', qs', ql') ∧ snR sn' qs' ∧
      (r = -1 ∨ ∃ t, t < n ∧ r = nI t ∧ ∃ σ, Mt true σ (tt p) (tt t) ∧ ∀ v, v < 8 → rf tt n (qb' v) (oT (σ (38 + v)))) := by
  obtain ⟨w, hn, ct, qt, hq⟩ := R
  intro M
  induction M with
  | zero =>
    intro fuel fuel' hf hf' im sn wt qi qb qw qv qs ql k step hM h3 hR hS
    obtain ⟨f, rfl⟩ : ∃ f, fuel = f + 1 := ⟨fuel - 1, by omega⟩
    obtain ⟨f', rfl⟩ : ∃ f, fuel' = f + 1 := ⟨fuel' - 1, by omega⟩
    refine ⟨-1, im, sn, wt, qi, qb, qw, qv, qs, ql, ?_, ?_, hS, Or.inl rfl⟩
    · rw [f_F_firstIn_L11, show k = 0 by omega]
      by_cases c : (301 : Int32) ≤ nI step
      · rw [if_pos c]
      · rw [if_neg c, if_pos (show nI 0 ≤ 0 by decide)]
    · rw [f_Q_firstMatch_L12, show k = 0 by omega, if_pos (show nI 0 ≤ 0 by decide)]
  | succ M ih =>
    intro fuel fuel' hf hf' im sn wt qi qb qw qv qs ql k step hM h3 hR hS
    obtain ⟨f, rfl⟩ : ∃ f, fuel = f + 1 := ⟨fuel - 1, by omega⟩
    obtain ⟨f', rfl⟩ : ∃ f, fuel' = f + 1 := ⟨fuel' - 1, by omega⟩
    cases k with
    | zero =>
      refine ⟨-1, im, sn, wt, qi, qb, qw, qv, qs, ql, ?_, ?_, hS, Or.inl rfl⟩
      · rw [f_F_firstIn_L11]
        by_cases c : (301 : Int32) ≤ nI step
        · rw [if_pos c]
        · rw [if_neg c, if_pos (show nI 0 ≤ 0 by decide)]
      · rw [f_Q_firstMatch_L12, if_pos (show nI 0 ≤ 0 by decide)]
    | succ k =>
      obtain ⟨t, ht, e1, e2⟩ := hR k (by omega)
      obtain ⟨hs1, hs2⟩ := hS t (by omega)
      have hRk : wtR n wt ql k := fun i hi => hR i (by omega)
      have hC : f_F_firstIn_L11 T_count N T_heads (3*N) T_places N T_withins (nI p) (f + 1) im sn wt (nI (k + 1)) (nI step) = if sn t = 0 then (f_M_matches T_count N T_heads (3*N) T_places N T_withins im (nI p) (nI t) (4123168604160 : Int64)).bind (fun r16 => if r16.1 = 0 then f_F_firstIn_L91 T_count N T_heads (3*N) T_places N T_withins (nI p) (f_F_firstIn_L11 T_count N T_heads (3*N) T_places N T_withins (nI p) f) FU r16.2 (upd sn t 1) wt (nI k) (nI step) (nI t) 2 else some (nI t, r16.2, upd sn t 1, wt)) else f_F_firstIn_L11 T_count N T_heads (3*N) T_places N T_withins (nI p) f im sn wt (nI k) (nI (step + 1)) := by
        rw [f_F_firstIn_L11, if_neg (show ¬ (301 : Int32) ≤ nI step from (nI_ge (by omega) (by omega) : ¬ nI 301 ≤ nI step)), if_neg (nI_nle (by omega) (by omega)), nmE, nI_m1, gd_t (ixb_t (by omega) (by omega)), nmE, nI_clamp (by omega), e1, if_neg (nI_pos (by omega)), if_neg (show ¬ (100 : Int32) ≤ nI t from (nI_ge (by omega) (by omega) : ¬ nI 100 ≤ nI t)), gd_t (ixb_t (by omega) (by omega)), nI_clamp (show t < 2 ^ 31 by omega), gd_t (ixb_t (by omega) (by omega)), nmE, nar1, nmE, nI_1]
      have hD : f_Q_firstMatch_L12 Q_kinds Q_which Q_firsts Q_seconds Q_thirds Q_variables Q_holes Q_places (f' + 1) qi qb qw qv qs ql (nI p) (nI (k + 1)) = if qs t = 0 then (f_Q_matches Q_kinds Q_which Q_firsts Q_seconds Q_thirds Q_variables Q_holes Q_places qi qb qw qv (nI p) (nI t) 1).bind (fun r11 => if r11.1 = 0 then f_Q_firstMatch_L65 Q_kinds Q_which Q_firsts Q_seconds Q_thirds Q_variables Q_holes Q_places (f_Q_firstMatch_L12 Q_kinds Q_which Q_firsts Q_seconds Q_thirds Q_variables Q_holes Q_places f') FU r11.2.1 r11.2.2.1 r11.2.2.2.1 r11.2.2.2.2 (upd qs t 1) ql (nI p) (nI k) (nI t) 2 else some (nI t, r11.2.1, r11.2.2.1, r11.2.2.2.1, r11.2.2.2.2, upd qs t 1, ql)) else f_Q_firstMatch_L12 Q_kinds Q_which Q_firsts Q_seconds Q_thirds Q_variables Q_holes Q_places f' qi qb qw qv qs ql (nI p) (nI k) := by
        rw [f_Q_firstMatch_L12, if_neg (nI_nle (by omega) (by omega)), nmE, nI_m1, gd_t (ixb_t (by omega) (by omega)), nmE, nI_clamp (by omega), e2, gd_t (ixb_t (by omega) (by omega)), nI_clamp (show t < 2 ^ 31 by omega), gd_t (ixb_t (by omega) (by omega)), nmE, nar1]
      rw [hC, hD]
      by_cases cs : sn t = 0
      · rw [if_pos cs, if_pos (by rw [← hs1]; exact cs)]
        have hS' : snR (upd sn t 1) (upd qs t 1) := by
          intro x hx
          by_cases ex : x = t
          · rw [ex, up_s, up_s]; exact ⟨rfl, Or.inr rfl⟩
          · rw [up_n ex, up_n ex]; exact hS x hx
        have hun : un (upd sn t 1) + 1 = un sn := cnt_drop (show t < 100 by omega) (decide_eq_true cs) (decide_eq_false (by rw [up_s]; decide)) (fun x _ hne => by simp only [up_n hne])
        have hmc := matches_eq w ct true hp (by omega) ht im
        have hmq := qmatches_eq w (Nat.le_refl n) hn qt hq har true hp ht qi qb qw qv
        rw [show bitsOf true = (4123168604160 : Int64) from rfl] at hmc
        rw [show zI true = 1 from rfl] at hmq
        rcases hmc with ⟨im1, σ, c1, c2, c3⟩ | ⟨im1, c1, c2⟩
        · rcases hmq with ⟨i1, b1, w1, v1, τ, d1, d2, d3⟩ | ⟨i1, b1, w1, v1, d1, d2⟩
          · rw [c1, bd_s, d1, bd_s]
            simp only [show ¬ ((1 : Int32) = 0) by decide, if_false]
            exact ⟨nI t, im1, _, wt, i1, b1, w1, v1, _, ql, rfl, rfl, hS', Or.inr ⟨t, ht, rfl, τ, d2, d3⟩⟩
          · exact absurd c2 (d2 σ)
        · rcases hmq with ⟨i1, b1, w1, v1, τ, d1, d2, d3⟩ | ⟨i1, b1, w1, v1, d1, d2⟩
          · exact absurd d2 (c2 τ)
          · rw [c1, bd_s, d1, bd_s]
            generalize hFU : FU = F
            obtain ⟨wt', ql', k', l1, l2, l3, l4⟩ := push_both (Q_places := Q_places) w ct qt hn ht (nI p) (nI p) (f_F_firstIn_L11 T_count N T_heads (3*N) T_places N T_withins (nI p) f) (f_Q_firstMatch_L12 Q_kinds Q_which Q_firsts Q_seconds Q_thirds Q_variables Q_holes Q_places f') im1 (upd sn t 1) i1 b1 w1 v1 (upd qs t 1) (nI step) 3 (by omega) F F (by rw [← hFU]; unfold FU; omega) (by rw [← hFU]; unfold FU; omega) wt ql k (by omega) hRk
            rw [show (nI 3 - 1 : Int32) = 2 by decide] at l1 l2
            simp only [if_true]
            rw [l1, l2, nI_1]
            exact ih f f' (by omega) (by omega) im1 _ wt' i1 b1 w1 v1 _ ql' k' (step + 1) (by omega) (by omega) l4 hS'
      · rw [if_neg cs, if_neg (by rw [← hs1]; exact cs)]
        exact ih f f' (by omega) (by omega) im sn wt qi qb qw qv qs ql k (step + 1) (by omega) (by omega) hRk hS
theorem first_both (R : RT tt n N sz ar T_count T_heads T_places T_olders T_sizes T_withins T_newest Q_all Q_kinds Q_which Q_firsts Q_seconds Q_thirds Q_nexts Q_heads Q_names Q_variables Q_holes Q_sizes) (har : ∀ h, h < 30 → Q_places h = ar h) {p : Nat} (hp : p < n) {c : Nat} (hc : c < n) (im sn wt qi qb qw qv qs ql : Nat → Int32) (hS : snR sn qs) :
    ∃ r im' sn' wt' qi' qb' qw' qv' qs' ql', f_F_firstIn T_count N T_heads (3*N) T_places N T_withins im (nI p) sn wt (nI c) = some (r, im', sn', wt') ∧
      f_Q_firstMatch Q_kinds Q_which Q_firsts Q_seconds Q_thirds Q_variables Q_holes Q_places qi qb qw qv qs ql (nI p) (nI c) = some (r, qi', qb', qw', qv', qs', ql') ∧ snR sn' qs' ∧
      (r = -1 ∨ ∃ t, t < n ∧ r = nI t ∧ ∃ σ, Mt true σ (tt p) (tt t) ∧ ∀ v, v < 8 → rf tt n (qb' v) (oT (σ (38 + v)))) := by
  have hun : un sn ≤ 100 := cnt_le _ _
  have hR : wtR n (upd wt 0 (nI c)) (upd ql 0 (nI c)) 1 := by
    intro i hi
    rw [show i = 0 by omega, up_s, up_s]
    exact ⟨c, hc, rfl, rfl⟩
  have h := first_loop R har hp 401 FU FU (by unfold FU; omega) (by unfold FU; omega) im sn (upd wt 0 (nI c)) qi qb qw qv qs (upd ql 0 (nI c)) 1 0 (by omega) (by omega) hR hS
  rw [nI_0, show nI 1 = 1 by decide] at h
  have a1 : ixb (0 : Int32) 301 = true := by decide
  have a2 : ixb (0 : Int32) 1002 = true := by decide
  unfold f_F_firstIn f_Q_firstMatch
  rw [gd_t a1, gd_t a2, nmE, nmE, clamp0]
  exact h
end
