/-! What the law's entry gives: the classes, the arrays' classes, Throwable's statics, the texts. -/
theorem ff_class {s : State} {cls name desc : String} {c i : Nat} {k : Class} {f : Field} (h : s.fieldFound? cls name desc = some (c, k, i, f)) : s.vm.classes[c]? = some k := by
  simp only [State.fieldFound?, Bind.bind, Pure.pure, Option.bind_eq_some_iff, Option.some.injEq, Prod.mk.injEq] at h
  obtain ⟨_, _, _, _, ⟨c', i'⟩, _, k', hk, _, _, rfl, rfl, _, _⟩ := h
  exact hk
theorem arr_of {s : State} {A : Array Value} {ty : FieldType} (h : (Cond.arrayClass ty).before A s = true) : ∃ cA, s.vm.findClass ("[" ++ ty.toString) = some cA ∧ ArrOfT s cA ty := by
  obtain ⟨c, k, comp, h1, h2, h3⟩ := Cond.arrayClass_spec h
  exact ⟨c, h1, fun n z => ⟨fun k h => (by cases h), k, h2, comp, h3⟩⟩
theorem ew_of {s : State} {A : Array Value} (hd : ∀ w ∈ XWs, w.before A s = true) : ∃ (aS : Nat) (cS : Cell), s.heap[aS]? = some cS ∧ EW aS cS s := by
  have hu := hd (.laysStatic Bundle.tN "UNASSIGNED_STACK" Bundle.steD) (by simp [XWs])
  have hs := hd (.laysStatic Bundle.tN "SUPPRESSED_SENTINEL" Bundle.listD) (by simp [XWs])
  have hur := hd (.isRef (.static Bundle.tN "UNASSIGNED_STACK" Bundle.steD)) (by simp [XWs])
  have hsr := hd (.isRef (.static Bundle.tN "SUPPRESSED_SENTINEL" Bundle.listD)) (by simp [XWs])
  obtain ⟨c1, k1, i1, f1, a1, e1, p1, p2, p3, p4, p5, p6, p7, p8, p9⟩ := Cond.laysStatic_spec hu
  obtain ⟨c2, k2, i2, f2, a2, e2, q1, q2, q3, q4, q5, q6, q7, q8, q9⟩ := Cond.laysStatic_spec hs
  cases Option.some.inj (p1.symm.trans q1)
  cases Option.some.inj ((ff_class p2).symm.trans (ff_class q2))
  cases Option.some.inj (p4.symm.trans q4)
  cases Option.some.inj (p5.symm.trans q5)
  refine ⟨a1, e1, p5, fun U' hW hc A' w hw => ?_⟩
  have tr : ∀ {c : Cond}, c.onTables = true → c.before A (s.setVm U'.vm) = true → c.before A' U' = true := by
    intro c hc h
    have e := Cond.onTables_vm (A := A) (A' := A') (U := s) (U' := U') U'.vm c hc
    have hU : U'.setVm U'.vm = U' := rfl
    rw [hU] at e
    rw [← e]
    exact h
  have hD : ∀ x : MethodName, Cond.declares x ∈ XWs → (Cond.declares x).before A' U' = true := fun x hx => tr rfl (by rw [Cond.declares_setVm hW.alike]; exact hd _ hx)
  have hC : ∀ x y : String, Cond.castable x y ∈ XWs → (Cond.castable x y).before A' U' = true := fun x y hx => tr rfl (by rw [Cond.castable_setVm hW.alike]; exact hd _ hx)
  have hL : ∀ {n d : String} {i : Nat} {f : Field}, s.fieldFound? Bundle.tN n d = some (c1, k1, i, f) → f.isStatic = true → f.slot < e1.slots.size → k1.staticTypes[f.slot]? = some f.type → (Cond.laysStatic Bundle.tN n d).before A' U' = true ∧ ((Cond.isRef (.static Bundle.tN n d)).before A s = true → (Cond.isRef (.static Bundle.tN n d)).before A' U' = true) := by
    intro n d i f h1 h2 h3 h4
    obtain ⟨k', hi', he⟩ := State.fieldFound?_setVm hW.alike h1
    have hi2 : U'.fieldFound? Bundle.tN n d = some (c1, k', i, f) := hi'
    have hst : k'.statics = some a1 := by rw [he]; exact p4
    refine ⟨Cond.laysStatic_of (by rw [hW.alike.findClass]; exact p1) hi2 h2 hst hc p6 p7 h3 (by rw [he]; exact h4), fun hr => ?_⟩
    have es : (Term.static Bundle.tN n d).eval A s none [] s = e1.slots[f.slot]? := by simp [Term.eval, State.fieldNamed?, h1, h2, p4, p5, p6]
    have eu : (Term.static Bundle.tN n d).eval A' U' none [] U' = e1.slots[f.slot]? := by simp [Term.eval, State.fieldNamed?, hi2, h2, hst, hc, p6]
    simp only [Cond.before, Cond.holds, Cond.value] at hr ⊢
    rw [es] at hr
    rw [eu]
    exact hr
  simp only [XWs, List.mem_cons, List.not_mem_nil, or_false] at hw
  rcases hw with rfl | rfl | rfl | rfl | rfl | rfl | rfl | rfl | rfl | rfl | rfl | rfl | rfl | rfl
  · exact hD _ (by simp [XWs])
  · exact hD _ (by simp [XWs])
  · exact hD _ (by simp [XWs])
  · exact hD _ (by simp [XWs])
  · exact hD _ (by simp [XWs])
  · exact hD _ (by simp [XWs])
  · exact hC _ _ (by simp [XWs])
  · exact hC _ _ (by simp [XWs])
  · exact hC _ _ (by simp [XWs])
  · exact hC _ _ (by simp [XWs])
  · exact (hL p2 p3 p8 p9).1
  · exact (hL q2 q3 q8 q9).1
  · exact (hL p2 p3 p8 p9).2 hur
  · exact (hL q2 q3 q8 q9).2 hsr
theorem sr_of {s : State} {A : Array Value} {cX : ClassId} (hX : s.vm.findClass "ShapeSearch" = some cX) (h : ∀ q ∈ strs, (Cond.stringRef "ShapeSearch" q.1 q.2).before A s = true) : SR s := fun q hq => by
  obtain ⟨k, cf, i, a, hk, hcf, hcp, -, hr, hev⟩ := Cond.stringRef_spec hX (h q hq)
  exact ⟨a, vk_R.of (A := A) (h q hq) hev⟩
theorem nc_of {s : State} {A : Array Value} (h : ∀ i j : Nat, i ∈ [1, 2, 3, 4] → j ∈ [1, 2, 3, 4] → i ≠ j → (Cond.not (.castable (exn i) (exn j))).before A s = true) : NC s := fun i j hi hj hn => va_Nc.of (h i j hi hj hn)
theorem flat_nc {s : State} {A : Array Value} (h : (Jvm.Cond.and given_1 narrow_1).before A s = true) : NC s := by
  have hs := flat_of_before _ h
  refine nc_of (A := A) (fun i j hi hj hn => ?_)
  simp only [List.mem_cons, List.not_mem_nil, or_false] at hi hj
  rcases hi with rfl | rfl | rfl | rfl <;> rcases hj with rfl | rfl | rfl | rfl <;> first | exact absurd rfl hn | exact hs _ (by decide +kernel)
theorem xws_of {s : State} {A : Array Value} (ht : ∀ w ∈ lw_tbl, w.before A s = true) (h : (Jvm.Cond.and given_1 narrow_1).before A s = true) : ∀ w ∈ XWs, w.before A s = true := by
  have hs := flat_of_before _ h
  intro w hw
  simp only [XWs, List.mem_cons, List.not_mem_nil, or_false] at hw
  rcases hw with rfl | rfl | rfl | rfl | rfl | rfl | rfl | rfl | rfl | rfl | rfl | rfl | rfl | rfl
  · exact ht _ (by decide +kernel)
  · exact ht _ (by decide +kernel)
  · exact ht _ (by decide +kernel)
  · exact ht _ (by decide +kernel)
  · exact ht _ (by decide +kernel)
  · exact ht _ (by decide +kernel)
  · exact ht _ (by decide +kernel)
  · exact ht _ (by decide +kernel)
  · exact ht _ (by decide +kernel)
  · exact ht _ (by decide +kernel)
  · exact ht _ (by decide +kernel)
  · exact ht _ (by decide +kernel)
  · exact hs _ (by decide +kernel)
  · exact hs _ (by decide +kernel)
theorem strs_of {s : State} {A : Array Value} (ht : ∀ w ∈ lw_tbl, w.before A s = true) : ∀ q ∈ strs, (Cond.stringRef "ShapeSearch" q.1 q.2).before A s = true := by
  have h : ∀ q ∈ strs, Cond.stringRef "ShapeSearch" q.1 q.2 ∈ lw_tbl := by decide +kernel
  exact fun q hq => ht _ (h q hq)
theorem st_of {l : Launch} (h : l.flags = flags0) : l.stackTraces = false := by
  unfold Launch.stackTraces
  rw [h]
  decide +kernel
