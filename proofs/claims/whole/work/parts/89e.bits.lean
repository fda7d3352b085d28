theorem shr1 (p : Int32) : ∀ i, i < 30 → (p >>> (nI i &&& 31)) &&& 1 = nI (if p.toBitVec.getLsbD i = true then 1 else 0) := by
  intro i hi
  have hs : ((nI i &&& 31 : Int32).toBitVec.smod 32).toNat = i := (show ∀ i : Nat, i < 30 → ((nI i &&& 31 : Int32).toBitVec.smod 32).toNat = i by decide +kernel) i hi
  apply Int32.toBitVec_inj.mp
  rw [Int32.toBitVec_and, Int32.toBitVec_shiftRight]
  have hb : ∀ j, j < 32 → (p.toBitVec.sshiftRight' ((nI i &&& 31 : Int32).toBitVec.smod 32) &&& (1 : Int32).toBitVec).getLsbD j = (decide (j = 0) && p.toBitVec.getLsbD i) := by
    intro j hj
    rw [BitVec.getLsbD_and, show p.toBitVec.sshiftRight' ((nI i &&& 31 : Int32).toBitVec.smod 32) = p.toBitVec.sshiftRight ((nI i &&& 31 : Int32).toBitVec.smod 32).toNat from rfl, hs, BitVec.getLsbD_sshiftRight]
    have h1 : (1 : Int32).toBitVec.getLsbD j = decide (j = 0) := (show ∀ j : Nat, j < 32 → (1 : Int32).toBitVec.getLsbD j = decide (j = 0) by decide +kernel) j hj
    rw [h1]
    by_cases e : j = 0
    · subst e
      simp [show i < 32 by omega]
    · simp [e]
  apply BitVec.eq_of_getLsbD_eq
  intro j hj
  rw [hb j hj]
  by_cases e : p.toBitVec.getLsbD i = true
  · rw [if_pos e, e, Bool.and_true]
    exact ((show ∀ j : Nat, j < 32 → (nI 1).toBitVec.getLsbD j = decide (j = 0) by decide +kernel) j hj).symm
  · rw [if_neg e, Bool.eq_false_iff.mpr e, Bool.and_false]
    exact ((show ∀ j : Nat, j < 32 → (nI 0).toBitVec.getLsbD j = false by decide +kernel) j hj).symm
theorem many_loop (p : Int32) : ∀ d, d ≤ 30 → ∀ fuel, d < fuel → f_Q_many_L4 fuel p (nI (cnt (fun i => p.toBitVec.getLsbD i) (30 - d))) (nI (30 - d)) = some (nI (cnt (fun i => p.toBitVec.getLsbD i) 30)) := by
  intro d
  induction d with
  | zero =>
    intro _ fuel hf
    obtain ⟨f, rfl⟩ : ∃ f, fuel = f + 1 := ⟨fuel - 1, by omega⟩
    unfold f_Q_many_L4
    rw [if_pos (by decide)]
  | succ d ih =>
    intro hd fuel hf
    obtain ⟨f, rfl⟩ : ∃ f, fuel = f + 1 := ⟨fuel - 1, by omega⟩
    unfold f_Q_many_L4
    have h1 : ¬ (30 : Int32) ≤ nI (30 - (d + 1)) := by
      exact (nI_ge (by omega) (by omega) : ¬ nI 30 ≤ nI (30 - (d + 1)))
    rw [if_neg h1, nmE, nmE, shr1 p _ (by omega), nI_add, nI_1, show 30 - (d + 1) + 1 = 30 - d by omega]
    have e : cnt (fun i => p.toBitVec.getLsbD i) (30 - (d + 1)) + (if p.toBitVec.getLsbD (30 - (d + 1)) = true then 1 else 0) = cnt (fun i => p.toBitVec.getLsbD i) (30 - d) := by
      rw [show 30 - d = (30 - (d + 1)) + 1 by omega, cnt_succ]
      exact Nat.add_comm _ _
    rw [e]
    exact ih (by omega) f (by omega)
theorem many_eq (p : Int32) : f_Q_many p = some (nI (cnt (fun i => p.toBitVec.getLsbD i) 30)) := by
  unfold f_Q_many
  have h := many_loop p 30 (Nat.le_refl _) FU (by unfold FU; omega)
  rw [Nat.sub_self] at h
  rw [show cnt (fun i => p.toBitVec.getLsbD i) 0 = 0 from rfl, nI_0] at h
  exact h
