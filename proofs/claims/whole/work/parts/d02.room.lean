section
variable {tt : Nat → Tm} {n N : Nat} {ar : Nat → Int32} {sz : Nat → Nat} {T_count : Int32} {T_heads T_places T_olders T_sizes : Nat → Int32} {T_withins : Nat → Int64} {T_newest : Nat → Int32}
theorem cpy_lt {α : Type} (A B : Nat → α) (k : Nat) {i : Nat} (h : i < k) : va_cpy A B 0 0 k i = A i := by
  unfold va_cpy
  rw [if_pos (by omega)]
  exact congrArg A (by omega)
theorem CT.cells (ct : CT tt n N sz T_count T_heads T_places T_olders T_sizes T_withins T_newest) {M : Nat} (hM : N ≤ M) (hM2 : M ≤ 10000) {A B C D : Nat → Int32} {E : Nat → Int64} (h1 : ∀ i, i < N → A i = T_heads i) (h2 : ∀ i, i < 3 * N → B i = T_places i) (h3 : ∀ i, i < N → C i = T_olders i) (h4 : ∀ i, i < N → D i = T_sizes i) (h5 : ∀ i, i < N → E i = T_withins i) :
    CT tt n M sz T_count A B C D E T_newest := by
  obtain ⟨a1, a2, a3, a4, a5, a6, a7, a8, a9⟩ := ct
  have hbk : ∀ u, u < n → bkA A B u = bkA T_heads T_places u := by
    intro u hu
    unfold bkA
    rw [h1 u (by omega), h2 _ (by omega), h2 _ (by omega), h2 _ (by omega)]
  refine ⟨a1, by omega, by omega, hM2, ⟨fun b hb => ?_, fun t ht => ?_⟩, fun t ht h e => ?_, fun t ht k => ?_, fun t ht => ?_, fun t ht => ?_⟩
  · rw [a5.1 b hb]
    exact congrArg oI (lst_congr (fun u hu => by rw [hbk u hu]))
  · rw [h3 t (by omega), a5.2 t ht, hbk t ht]
    exact congrArg oI (lst_congr (fun u hu => by rw [hbk u (by omega)]))
  · rw [h1 t (by omega)]; exact a6 t ht h e
  · have := k.isLt
    rw [h2 _ (by omega)]; exact a7 t ht k
  · rw [h4 t (by omega)]; exact a8 t ht
  · rw [h5 t (by omega)]; exact a9 t ht
theorem room_eq (ct : CT tt n N sz T_count T_heads T_places T_olders T_sizes T_withins T_newest) (hn : n ≤ 9900) : ∃ (N' : Nat) (T_heads' T_places' T_olders' T_sizes' : Nat → Int32) (T_withins' : Nat → Int64), f_T_makeRoom T_count N T_heads (3*N) T_places N T_olders N T_sizes N T_withins = some (N', T_heads', 3*N', T_places', N', T_olders', N', T_sizes', N', T_withins') ∧
    CT tt n N' sz T_count T_heads' T_places' T_olders' T_sizes' T_withins' T_newest ∧ n + 100 ≤ N' ∧ N ≤ N' := by
  have hcnt := ct.1
  have hnN := ct.2.1
  have h256 := ct.2.2.1
  have hN := ct.2.2.2.1
  unfold f_T_makeRoom
  rw [hcnt, show nI n + (100 : Int32) = nI (n + 100) from nI_add n 100, show Int32.ofNat N = nI N from rfl]
  by_cases c : n + 100 ≤ N
  · rw [if_pos ((nI_leI (by omega) (by omega)).mpr c)]
    exact ⟨N, _, _, _, _, _, rfl, by rw [← hcnt]; exact ct, c, Nat.le_refl _⟩
  · rw [if_neg (nI_ge (by omega) (by omega))]
    by_cases c2 : N < 10000
    · obtain ⟨M, hM⟩ : ∃ M, M = min (2 * N) 10000 := ⟨_, rfl⟩
      have hx : (if (10000 : Int32) < (2 : Int32) * nI N then (10000 : Int32) else (2 : Int32) * nI N) = nI M := by
        rw [show (2 : Int32) * nI N = nI (2 * N) from nI_mul 2 N]
        by_cases c3 : 10000 < 2 * N
        · rw [if_pos (show (10000 : Int32) < nI (2 * N) from (nI_lt c3 (by omega) : nI 10000 < _)), show M = 10000 by omega]
          rfl
        · rw [if_neg (show ¬ (10000 : Int32) < nI (2 * N) from (nI_nlt (by omega) (by omega) : ¬ nI 10000 < _)), show M = 2 * N by omega]
      have hPC : 5 ≤ PC N - PC M := by
        unfold PC
        rw [if_neg (by omega)]
        split <;> omega
      have hPS : M + 3 * M + M + M + M ≤ PS N - PS M := by
        unfold PS
        rw [if_neg (by omega)]
        split <;> omega
      rw [if_pos (show nI N < (10000 : Int32) from (nI_lt c2 (by omega) : _ < nI 10000)), nmE, hx, nI_x3, nI_clamp (show M < 2 ^ 31 by omega), nI_clamp (show 3 * M < 2 ^ 31 by omega)]
      have k1 : cpk (nI M) N = true := by
        unfold cpk
        rw [nI_clamp (by omega)]
        exact decide_eq_true ⟨nI_pos (by omega), by omega, by omega⟩
      have k2 : cpk (nI (3 * M)) (3 * N) = true := by
        unfold cpk
        rw [nI_clamp (by omega)]
        exact decide_eq_true ⟨nI_pos (by omega), by omega, by omega⟩
      rw [k1, k2, gd_tt, gd_tt, gd_tt, gd_tt, gd_tt, gd_t (decide_eq_true ⟨hPC, hPS⟩), gd_t (decide_eq_true (show N ≤ M by omega))]
      refine ⟨M, _, _, _, _, _, rfl, ?_, by omega, by omega⟩
      rw [← hcnt]
      exact ct.cells (by omega) (by omega) (fun i hi => cpy_lt _ _ _ hi) (fun i hi => cpy_lt _ _ _ hi) (fun i hi => cpy_lt _ _ _ hi) (fun i hi => cpy_lt _ _ _ hi) (fun i hi => cpy_lt _ _ _ hi)
    · omega
end
