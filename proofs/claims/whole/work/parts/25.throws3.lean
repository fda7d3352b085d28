/-- the classes of what is thrown, by number -/
def exn (k : Nat) : String := if k = 1 then "java/lang/IndexOutOfBoundsException" else if k = 2 then "java/lang/IllegalArgumentException" else if k = 3 then "java/lang/IllegalStateException" else "java/lang/UnsupportedOperationException"
/-- the texts of the class's throws -/
def strs : List (Nat × String) := [(81, "no such name or term"), (88, "the name was used with more or fewer terms"), (97, "there are 100 terms"), (100, "no such variable or hole"), (117, "no such term"), (128, "a hole stands in it"), (134, "there are 30 statements"), (263, "a hole stands in the goal"), (227, "no such new goal"), (237, "there would be more than 100 terms"), (239, "no such statement"), (251, "more than 1000 tries")]
def SR (U : State) : Prop := ∀ q ∈ strs, ∃ a, vk_R "ShapeSearch" q.1 q.2 a U
theorem SR.warm {s U : State} (hW : s.WarmedH U.vm) (h : SR s) : SR U := fun q hq => by
  obtain ⟨a, ha⟩ := h q hq
  exact ⟨a, vk_R.warm hW ha⟩
/-- what a throw rests on, beside the tables: Throwable's statics in the cell aS, which nobody writes; the texts -/
def XE (aS : Nat) (cS : Cell) (U : State) : Prop := U.heap[aS]? = some cS ∧ EW aS cS U ∧ SR U
/-- the start of a method that may throw -/
def XPc (D : va_G) (cl : List vw_C) (cI cJ cZ : ClassId) (aS : Nat) (cS : Cell) (av : List Value) (ws : va_W) (sz : Nat) : Array Value → State → Prop := va_Pc av (fun U => U.heap.size = sz ∧ va_P D cl ws U.heap ∧ KK D cl cI cJ cZ U ∧ va_D (fun _ => True) ws ∧ XE aS cS U ∧ ¬ va_A ws sz aS)
/-- its ends -/
def QN (D : va_G) (cl : List vw_C) (tag : Nat) (v : Option Value) (w1 : (Nat → Nat) → va_W) (A : Nat → Prop) : Option Value → State → State → Prop := fun v' st t => tag = 0 ∧ v' = v ∧ ∃ as : Nat → Nat, va_P D cl (w1 as) t.heap ∧ va_D A (w1 as) ∧ va_F A st t
def QT (D : va_G) (cl : List vw_C) (tag : Nat) (w1 : (Nat → Nat) → va_W) (A : Nat → Prop) : String → State → State → Prop := fun E st t => ¬ tag = 0 ∧ E = exn tag ∧ ∃ as : Nat → Nat, va_P D cl (w1 as) t.heap ∧ va_D A (w1 as) ∧ va_F A st t
theorem XPc_blind {D : va_G} {cl : List vw_C} {cI cJ cZ : ClassId} {aS : Nat} {cS : Cell} {av : List Value} {ws : va_W} {sz : Nat} : FrameBlind (XPc D cl cI cJ cZ aS cS av ws sz) := fun a U g mk h => by
  obtain ⟨h1, h2, h3, h4, h5, ⟨h6, h7, h8⟩, h9⟩ := h
  have hW : U.WarmedH (U.calling g mk a).vm := State.WarmedH.refl U
  exact ⟨h1, h2, h3, KK.moved (u := U) (U := U.calling g mk a) (Vm.Alike.refl U.vm) h4, h5, ⟨h6, EW.warm hW h7, SR.warm hW h8⟩, h9⟩
section XC
variable {p : Program} {l : Launch} {e : Env} {R : Room} {s : State} {m : MethodId} {args : Array Value} {below : List Frame} {meth : Method} {c : Code} {H : Heap} {locs : List Loc} {cells slots : Nat} {Q : State → Prop}
variable {D : va_G} {cl : List vw_C} {cI cJ cZ : ClassId} {W0 wc : va_W} {As : List Value} {b : Nat} {cc : ByteArray} {pc : Nat} {ls : Array Slot} {rest st0 : List Value} {a : Array Value} {A0 : Nat → Prop} {H0 : Heap} {ws : va_W} {aS : Nat} {cS : Cell}
theorem x_preV {A : Nat → Prop} {C : String} {ci sz : Nat} {fs : List Value} {q : vw_C} (hK : KK D cl cI cJ cZ s) (hP : va_P D cl W0 H) (hD : va_D A W0) (hE : EW aS cS s) (hSR : SR s) (hcS : H[aS]? = some cS) (hnA : ¬ A aS) (is : List Nat) (his : is.map (fun i => W0[i]?) = wc.map some) (hnd : va_nd is = true) (hsz : H.size = sz) (q0 : Nat) (hr : W0[q0]? = some (b, .inr (ci, fs))) (hcl : cl[ci]? = some q) (hq : q.1 = C) : PreV s H C b (XPc D cl cI cJ cZ aS cS (.ref b :: As) wc sz) As := by
  subst hq
  have h2 : is.filterMap (fun i => W0[i]?) = wc := by
    have h3 : is.filterMap (fun i => W0[i]?) = (is.map (fun i => W0[i]?)).filterMap id := by rw [List.filterMap_map]; rfl
    rw [h3, his, List.filterMap_map]
    exact List.filterMap_some
  have hno : ¬ va_A wc sz aS := by
    intro z
    rcases z with ⟨k, e9, z⟩ | z
    · exact hnA ((hD.sub is hnd his).2 k _ z)
    · have := (Array.getElem?_eq_some_iff.mp hcS).1
      omega
  exact ⟨XPc_blind, va_recv hK.1 hP hcl hr, fun U hU hW => ⟨rfl, by rw [hU]; exact hsz, by rw [hU]; exact hP.sub is h2, hK.moved hW.alike, (hD.sub is hnd his).weaken (fun _ _ _ _ => trivial), ⟨by rw [hU]; exact hcS, hE.warm hW, hSR.warm hW⟩, hno⟩⟩
/-- a call of a method that may throw: behind it, or on the way out -/
theorem x_call {tag : Nat} {v : Option Value} {w1 ws' : (Nat → Nat) → va_W} {mc ms : Nat} (hr : XRun p l e R s m args below meth c H locs cells slots mc ms (F0 m pc ls st0) rest (QN D cl tag v w1 (va_A wc H.size)) (QT D cl tag w1 (va_A wc H.size)) (va_A wc H.size))
    (hP : va_P D cl ws H) (hD : va_D A0 ws) (hS : va_S A0 H0 H locs) (hA : ∀ q : Nat, H0.size ≤ q → A0 q) (isC isR : List Nat) (hC : isC.map (fun i => ws[i]?) = wc.map some) (hR : isR.all (fun i => Nat.blt i ws.length) = true) (hn : va_nd isR = true) (hdis : ∀ i ∈ isR, i ∉ isC)
    (pm : List Nat) (hpn : va_nd pm = true) (hpm : ∀ as, pm.map (fun i => (isR.filterMap (fun i => ws[i]?) ++ w1 as)[i]?) = (ws' as).map some)
    (kn : tag = 0 → ∀ (as : Nat → Nat) (H1 : Heap) (locs1 : List Loc), va_P D cl (ws' as) H1 → va_D A0 (ws' as) → va_S A0 H0 H1 locs1 → W p l e R s m args below meth c H1 locs1 (cells + mc) (slots + ms) Q (F0 m (pc + 3) ls (v.toList ++ rest)))
    (kt : ¬ tag = 0 → ∀ (as : Nat → Nat) (H1 : Heap) (locs1 : List Loc) (q : Addr) (ce : Cell), va_P D cl (ws' as) H1 → va_D A0 (ws' as) → va_S A0 H0 H1 locs1 → H1[q]? = some ce → ce.vm = .none → s.vm.findClass (exn tag) = some ce.cls → Wx p l e R s m args below meth c H1 locs1 (cells + mc) (slots + ms) Q (F0 m pc ls rest) q) :
    W p l e R s m args below meth c H locs cells slots Q (F0 m pc ls st0) := by
  have hF := va_free (wc := wc) hD hS hA isC hC
  obtain ⟨wr, hwr⟩ : ∃ w, w = isR.filterMap (fun i => ws[i]?) := ⟨_, rfl⟩
  have hR2 : isR.map (fun i => ws[i]?) = wr.map some := by rw [hwr]; exact map_fm hR
  have hgo : ∀ (st₀ t T' : State) (L : List Loc), st₀.heap = H → (∀ z ∈ L, va_A wc H.size z.base) → T'.heap = t.heap → (∃ as : Nat → Nat, va_P D cl (w1 as) t.heap ∧ va_D (va_A wc H.size) (w1 as) ∧ va_F (va_A wc H.size) st₀ t) →
      ∃ as : Nat → Nat, va_P D cl (ws' as) T'.heap ∧ va_D A0 (ws' as) ∧ va_S A0 H0 T'.heap (locs ++ L) := by
    intro st₀ t T' L h0 hL e1 ⟨as, hP1, hD1, hz, hk⟩
    rw [h0] at hz hk
    have hpm := hpm as
    rw [← hwr] at hpm
    obtain ⟨hPj, hDj⟩ := va_join hP hD isC isR hC hR2 hn hdis (fun q h1 h2 => by exact hk q h1 h2) hF hP1 hD1
    have h2 : pm.filterMap (fun i => (wr ++ w1 as)[i]?) = ws' as := by
      have h3 : pm.filterMap (fun i => (wr ++ w1 as)[i]?) = (pm.map (fun i => (wr ++ w1 as)[i]?)).filterMap id := by rw [List.filterMap_map]; rfl
      rw [h3, hpm, List.filterMap_map]
      exact List.filterMap_some
    exact ⟨as, by rw [e1]; exact hPj.sub pm h2, hDj.sub pm hpn hpm, Nat.le_trans hS.1 (by rw [e1]; exact hz), fun q h1 h2 => by rw [e1, hk q (Nat.lt_of_lt_of_le h1 hS.1) (fun z => h2 (hF q z))]; exact hS.2.1 q h1 h2, fun q hq => by
      rcases List.mem_append.mp hq with h | h
      · exact hS.2.2 q h
      · exact hF _ (hL q h)⟩
  intro T hT X
  obtain ⟨st₀, t, T', L, h0, X', hL, e1, e2, hcase⟩ := hr T hT X
  rcases hcase with ⟨v', ⟨ht, rfl, hw⟩, st⟩ | ⟨q, E, ce, ⟨ht, rfl, hw⟩, hce, hcv, hcl, st⟩
  · obtain ⟨as, q1, q2, q3⟩ := hgo st₀ t T' L h0 hL e1 hw
    obtain ⟨t2, a1, b1⟩ := kn ht as T'.heap (locs ++ L) q1 q2 q3 T' rfl X'
    exact ⟨t2, st t2 a1, b1⟩
  · obtain ⟨as, q1, q2, q3⟩ := hgo st₀ t T' L h0 hL e1 hw
    obtain ⟨t2, a1, b1⟩ := kt ht as T'.heap (locs ++ L) q ce q1 q2 q3 (by rw [e1]; exact hce) hcv hcl T' rfl X'
    exact ⟨t2, st.trans a1, b1⟩
/-- it isn't caught here -/
theorem wx_out {Qn : Option Value → State → State → Prop} {Qt : String → State → State → Prop} {free : Addr → Prop} {E : String} {ce : Cell} {q : Addr} {mc ms : Nat} (hno : ∀ x ∈ c.exceptionTable.toList, False) (hlocks : meth.locks = false) (hcell : H[q]? = some ce) (hv : ce.vm = .none) (hcl : s.vm.findClass E = some ce.cls)
    (hx : ∀ t : State, t.heap = H → Qt E s t) (hf : ∀ z ∈ locs, free z.base) (hc : cells ≤ mc) (hs : slots ≤ ms) :
    Wx p l e R s m args below meth c H locs cells slots (XM below Qn Qt args s mc ms free) (F0 m pc ls rest) q := by
  intro T hT X
  obtain ⟨st1, hrun, hend, hW, hsm⟩ := X.leaveThrown q (g := F0 m pc ls rest) rfl rfl rfl (fun x hx => (hno x hx).elim) hlocks
  have hcell9 : (T.setFrames (.throwing q :: below)).heap[q]? = some ce := by
    show T.heap[q]? = some ce
    rw [hT]; exact hcell
  exact ⟨_, st1, .threw q, hrun, hend, hW, ⟨locs, hsm.mono hc hs, hf⟩, Or.inr ⟨q, E, ce, rfl, hx _ hT, hcell9, hv, hcl⟩⟩
end XC
