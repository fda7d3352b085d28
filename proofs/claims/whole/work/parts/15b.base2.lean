/-- a writer's end where cells were made: their addresses come with it -/
def WQx (D : va_G) (cl : List vw_C) (v : Option Value) (w1 : (Nat → Nat) → va_W) (A : Nat → Prop) : Array Value → State → Outcome → State → Prop := fun _ st oc t => oc = .returned v ∧ ∃ as : Nat → Nat, va_P D cl (w1 as) t.heap ∧ va_D A (w1 as) ∧ va_F A st t
section OWN3
variable {p : Program} {l : Launch} {e : Env} {R : Room} {s : State} {m : MethodId} {args : Array Value} {below : List Frame} {meth : Method} {c : Code} {H : Heap} {locs : List Loc} {cells slots : Nat} {Q : State → Prop}
variable {D : va_G} {cl : List vw_C} {cc : ByteArray} {pc : Nat} {ls : Array Slot} {rest st0 : List Value} {a : Array Value} {A0 : Nat → Prop} {H0 : Heap} {ws : va_W}
theorem wr_callx {v : Option Value} {wc : va_W} {w1 ws' : (Nat → Nat) → va_W} {mc ms : Nat} (hr : va_Run p l e R s m args below meth c H locs cells slots mc ms (F0 m pc ls st0) rest (WQx D cl v w1 (va_A wc H.size) a) (va_A wc H.size))
    (hP : va_P D cl ws H) (hD : va_D A0 ws) (hS : va_S A0 H0 H locs) (hA : ∀ q : Nat, H0.size ≤ q → A0 q) (isC isR : List Nat) (hC : isC.map (fun i => ws[i]?) = wc.map some) (hR : isR.all (fun i => Nat.blt i ws.length) = true) (hn : va_nd isR = true) (hdis : ∀ i ∈ isR, i ∉ isC)
    (pm : List Nat) (hpn : va_nd pm = true) (hpm : ∀ as, pm.map (fun i => (isR.filterMap (fun i => ws[i]?) ++ w1 as)[i]?) = (ws' as).map some)
    (kk : ∀ (as : Nat → Nat) (H1 : Heap) (locs1 : List Loc), va_P D cl (ws' as) H1 → va_D A0 (ws' as) → va_S A0 H0 H1 locs1 → W p l e R s m args below meth c H1 locs1 (cells + mc) (slots + ms) Q (F0 m (pc + 3) ls (v.toList ++ rest))) : W p l e R s m args below meth c H locs cells slots Q (F0 m pc ls st0) := by
  have hF := va_free (wc := wc) hD hS hA isC hC
  obtain ⟨wr, hwr⟩ : ∃ w, w = isR.filterMap (fun i => ws[i]?) := ⟨_, rfl⟩
  have hR2 : isR.map (fun i => ws[i]?) = wr.map some := by rw [hwr]; exact map_fm hR
  intro T hT X
  obtain ⟨v', st₀, t, T', L, h0, X', hL, e1, e2, ⟨hv, as, hP1, hD1, hz, hk⟩, st⟩ := hr T hT X
  cases hv
  rw [h0] at hz hk
  have hpm := hpm as
  rw [← hwr] at hpm
  obtain ⟨hPj, hDj⟩ := va_join hP hD isC isR hC hR2 hn hdis (fun q h1 h2 => by exact hk q h1 h2) hF hP1 hD1
  have h2 : pm.filterMap (fun i => (wr ++ w1 as)[i]?) = ws' as := by
    have h3 : pm.filterMap (fun i => (wr ++ w1 as)[i]?) = (pm.map (fun i => (wr ++ w1 as)[i]?)).filterMap id := by rw [List.filterMap_map]; rfl
    rw [h3, hpm, List.filterMap_map]
    exact List.filterMap_some
  obtain ⟨t2, a1, b1⟩ := kk as T'.heap (locs ++ L) (by rw [e1]; exact hPj.sub pm h2) (hDj.sub pm hpn hpm)
    ⟨Nat.le_trans hS.1 (by rw [e1]; exact hz), fun q h1 h2 => by rw [e1, hk q (Nat.lt_of_lt_of_le h1 hS.1) (fun z => h2 (hF q z))]; exact hS.2.1 q h1 h2, fun q hq => by
      rcases List.mem_append.mp hq with h | h
      · exact hS.2.2 q h
      · exact hF _ (hL q h)⟩ T' rfl X'
  exact ⟨t2, st t2 a1, b1⟩
/-- a new array, of the class that is known -/
theorem my_newa {atype : ArrayType} (hexec : p.tables.exec = Jvm.exec) (hb : c.code = cc) {ty : FieldType} (harr : (Cond.arrayClass ty).before args s = true) (hty : newarray.typeOf atype = ty) {cA : ClassId} (hcl : s.vm.findClass ("[" ++ ty.toString) = some cA)
    (hP : va_P D cl ws H) (hD : va_D A0 ws) (hS : va_S A0 H0 H locs) (hA : ∀ q, H0.size ≤ q → A0 q)
    {n : Int32} {N' : Nat} {a0 : vp_A} (ha : ∀ cA : ClassId, vp_cell cA a0 = arrV cA N' (fun _ => defaultValue ty)) (hn : ¬ n < 0) (hN : n.toNatClampNeg = N') (hbytes : N' * componentBytes ty ≤ 536870912) (hcells : cells + 1 ≤ R.cells) (hslots : slots + N' ≤ R.slots) (hdg : decode cc pc = .ok (.newarray atype, 2))
    (kk : ∀ (q : Nat) (H1 : Heap), va_P D cl (ws ++ [(q, .inl (cA, a0))]) H1 → va_D A0 (ws ++ [(q, .inl (cA, a0))]) → va_S A0 H0 H1 locs →
      W p l e R s m args below meth c H1 locs (cells + 1) (slots + N') Q (F0 m (pc + 2) ls (.ref q :: rest))) : W p l e R s m args below meth c H locs cells slots Q (F0 m pc ls (.int n :: rest)) := by
  subst hty
  refine va_newaK hexec hb harr rfl hdg rfl hn hN hbytes hcells hslots rfl fun H1 cB e1 z1 o1 hAr hNm => ?_
  have hcc : cB = cA := Option.some.inj (hNm.symm.trans hcl)
  subst hcc
  have hk : ∀ (k : Nat) (x : Nat × va_E), ws[k]? = some x → H1[x.1]? = H[x.1]? := fun k x hx => o1 x.1 ((hP k x hx).lt)
  refine kk H.size H1 ((hP.kept hk).app (fun k x hx => ?_)) (hD.push hP rfl (hA _ hS.1)) ⟨Nat.le_trans hS.1 (by omega), fun x h1 h2 => (o1 x (Nat.lt_of_lt_of_le h1 hS.1)).trans (hS.2.1 x h1 h2), hS.2.2⟩
  have hz : k < 1 := (List.getElem?_eq_some_iff.mp hx).1
  rw [show k = 0 by omega] at hx
  cases hx
  show H1[H.size]? = some (vp_cell _ _)
  rw [ha]
  exact e1
end OWN3
section OWN4
variable {R : Room} {s : State} {args : Array Value} {own C : String} {index maxL mc ms : Nat} {y : MethodName} {bytes : ByteArray} {rm : Room}
theorem bigI (n : Nat) (ht : ∀ w ∈ BG, w.before args s = true) (k1 : Cond.methodLink own index y ∈ BG) (k2 : Cond.instanceMethod y ∈ BG) (k4 : Cond.initialized y.cls ∈ BG) (k5 : Cond.code y bytes maxL none ∈ BG) (hrc : rm.cells = mc) (hrs : rm.slots = ms)
    (hd : y.cls ≠ "java/lang/invoke/MethodHandle" ∧ y.cls ≠ "java/lang/invoke/VarHandle" ∧ (parseMethodDescriptor y.desc).map (fun d => d.parameters.length) = some n) (hi : y.name = "<init>") (hR : rm.frames + 1 ≤ R.frames ∧ 8 + (maxL + 11) + rm.locals ≤ R.locals) :
    CallB R s args own index y bytes maxL none (Cond.code y bytes maxL none :: BG) rm mc ms n ∧ y.name = "<init>" ∧ (Cond.instanceMethod y).before args s = true :=
  ⟨callB_of n ht (GB k5) rfl hrc hrs (ht _ k4) (ht _ k1) hd hR, hi, ht _ k2⟩
end OWN4
