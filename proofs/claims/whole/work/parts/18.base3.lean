/-! Rows that are made longer: what they may cost in all, by the length that there is. -/
def PC (n : Nat) : Nat := if 10000 ≤ n then 0 else 5 * (10000 - n)
def PS (n : Nat) : Nat := if 10000 ≤ n then 0 else 7 * (40000 - 2 * n)
theorem PC_anti {a b : Nat} (h : a ≤ b) : PC b ≤ PC a := by
  unfold PC
  split <;> split <;> omega
theorem PS_anti {a b : Nat} (h : a ≤ b) : PS b ≤ PS a := by
  unfold PS
  split <;> split <;> omega
/-- a length that a row may be copied to -/
def cpk (k : Int32) (n : Nat) : Bool := decide (¬ k < 0 ∧ k.toNatClampNeg ≤ 60000 ∧ n < k.toNatClampNeg)
/-- an answer that is a new cell -/
def WQr (D : va_G) (cl : List vw_C) (w1 : Nat → va_W) (A : Nat → Prop) : Array Value → State → Outcome → State → Prop := fun _ st oc t => ∃ q : Nat, oc = .returned (some (.ref q)) ∧ va_P D cl (w1 q) t.heap ∧ va_D A (w1 q) ∧ va_F A st t
section OWN5
variable {p : Program} {l : Launch} {e : Env} {R : Room} {s : State} {m : MethodId} {args : Array Value} {below : List Frame} {meth : Method} {c : Code} {H : Heap} {locs : List Loc} {cells slots : Nat} {Q : State → Prop}
variable {D : va_G} {cl : List vw_C} {cc : ByteArray} {pc : Nat} {ls : Array Slot} {rest st0 : List Value} {a : Array Value} {A0 : Nat → Prop} {H0 : Heap} {ws : va_W}
theorem wr_callr {wc : va_W} {w1 ws' : Nat → va_W} {mc ms : Nat} (hr : va_Run p l e R s m args below meth c H locs cells slots mc ms (F0 m pc ls st0) rest (WQr D cl w1 (va_A wc H.size) a) (va_A wc H.size))
    (hP : va_P D cl ws H) (hD : va_D A0 ws) (hS : va_S A0 H0 H locs) (hA : ∀ q : Nat, H0.size ≤ q → A0 q) (isC isR : List Nat) (hC : isC.map (fun i => ws[i]?) = wc.map some) (hR : isR.all (fun i => Nat.blt i ws.length) = true) (hn : va_nd isR = true) (hdis : ∀ i ∈ isR, i ∉ isC)
    (pm : List Nat) (hpn : va_nd pm = true) (hpm : ∀ q, pm.map (fun i => (isR.filterMap (fun i => ws[i]?) ++ w1 q)[i]?) = (ws' q).map some)
    (kk : ∀ (q : Nat) (H1 : Heap) (locs1 : List Loc), va_P D cl (ws' q) H1 → va_D A0 (ws' q) → va_S A0 H0 H1 locs1 → W p l e R s m args below meth c H1 locs1 (cells + mc) (slots + ms) Q (F0 m (pc + 3) ls (.ref q :: rest))) : W p l e R s m args below meth c H locs cells slots Q (F0 m pc ls st0) := by
  have hF := va_free (wc := wc) hD hS hA isC hC
  obtain ⟨wr, hwr⟩ : ∃ w, w = isR.filterMap (fun i => ws[i]?) := ⟨_, rfl⟩
  have hR2 : isR.map (fun i => ws[i]?) = wr.map some := by rw [hwr]; exact map_fm hR
  intro T hT X
  obtain ⟨v', st₀, t, T', L, h0, X', hL, e1, e2, ⟨q, hv, hP1, hD1, hz, hk⟩, st⟩ := hr T hT X
  cases hv
  rw [h0] at hz hk
  have hpm := hpm q
  rw [← hwr] at hpm
  obtain ⟨hPj, hDj⟩ := va_join hP hD isC isR hC hR2 hn hdis (fun q h1 h2 => by exact hk q h1 h2) hF hP1 hD1
  have h2 : pm.filterMap (fun i => (wr ++ w1 q)[i]?) = ws' q := by
    have h3 : pm.filterMap (fun i => (wr ++ w1 q)[i]?) = (pm.map (fun i => (wr ++ w1 q)[i]?)).filterMap id := by rw [List.filterMap_map]; rfl
    rw [h3, hpm, List.filterMap_map]
    exact List.filterMap_some
  obtain ⟨t2, a1, b1⟩ := kk q T'.heap (locs ++ L) (by rw [e1]; exact hPj.sub pm h2) (hDj.sub pm hpn hpm)
    ⟨Nat.le_trans hS.1 (by rw [e1]; exact hz), fun q h1 h2 => by rw [e1, hk q (Nat.lt_of_lt_of_le h1 hS.1) (fun z => h2 (hF q z))]; exact hS.2.1 q h1 h2, fun q hq => by
      rcases List.mem_append.mp hq with h | h
      · exact hS.2.2 q h
      · exact hF _ (hL q h)⟩ T' rfl X'
  exact ⟨t2, st t2 a1, b1⟩
end OWN5
theorem cpk_min {k : Int32} {n : Nat} (h : cpk k n = true) : (if k < Int32.ofNat n then k else Int32.ofNat n) = nI n ∧ ¬ nI n < 0 ∧ (nI n).toNatClampNeg = n ∧ n ≤ k.toNatClampNeg ∧ ¬ k < 0 ∧ k.toNatClampNeg ≤ 60000 ∧ ¬ k = Int32.ofNat n := by
  obtain ⟨h1, h2, h3⟩ := of_decide_eq_true h
  have hn : n < 2 ^ 31 := by omega
  obtain ⟨j, hj, e⟩ := nI_of h1
  subst e
  rw [nI_clamp hj] at h3
  refine ⟨?_, nI_pos hn, nI_clamp hn, by rw [nI_clamp hj]; omega, h1, h2, fun q => ?_⟩
  · show (if nI j < nI n then nI j else nI n) = nI n
    rw [if_neg (fun q => nI_nlt (Nat.le_of_lt h3) hj q)]
  · have := (nI_eq hj hn).mp q
    omega
