/-! The law's own helpers: static methods with a table. -/
theorem tab_cons {α β : Type} {f : α → β} {L : List α} {b : β} {t : List β} (h : L.map f = b :: t) : ∃ x L', L = x :: L' ∧ f x = b ∧ L'.map f = t := by
  cases L with
  | nil => cases h
  | cons x L' =>
    rw [List.map_cons] at h
    injection h with h1 h2
    exact ⟨x, L', rfl, h1, h2⟩
theorem tab_nil {α β : Type} {f : α → β} {L : List α} (h : L.map f = []) : L = [] := List.map_eq_nil_iff.mp h
theorem tab_cov {x : ExceptionTableEntry} {a b c d pc : Nat} (h : (x.startPc, x.endPc, x.handlerPc, x.catchType) = (a, b, c, d)) (h1 : a ≤ pc) (h2 : pc < b) : covers x pc = true := by
  injection h with e1 h
  injection h with e2 h
  simp [covers, e1, e2, h1, h2]
theorem tab_pc {x : ExceptionTableEntry} {a b c d : Nat} (h : (x.startPc, x.endPc, x.handlerPc, x.catchType) = (a, b, c, d)) : x.handlerPc = c ∧ x.catchType = d := by
  injection h with e1 h
  injection h with e2 h
  injection h with e3 e4
  exact ⟨e3, e4⟩
theorem tab_of {p : Program} {l : Launch} {y : MethodName} {S : Spec} {cc : ByteArray} {maxL : Nat} {ret : Option FieldType} {e : Env} {s s₁ : State} {m : MethodId} {args : Array Value} {below : List Frame} {meth : Method} {c : Code} {hh : List (Nat × Nat × Nat × Nat)} (B : BodyLoose p l y S cc maxL ret e s m args below meth c s₁) (h : (Cond.codeWith y cc maxL ret hh).before args s = true) : c.exceptionTable.toList.map (fun h => (h.startPc, h.endPc, h.handlerPc, h.catchType)) = hh := by
  obtain ⟨m', meth', c', h1, h2, h3, -, -, h4, -, -, -⟩ := Cond.codeWith_spec h
  cases h1.symm.trans B.named
  cases h2.symm.trans B.method
  cases h3.symm.trans (Stand.of_body B).code
  exact h4
theorem row_yes {pl : Platform} (hpl : pl.magicAccessors = ({} : Platform).magicAccessors) {s : State} {args A : Array Value} {d : ClassId} {x : ExceptionTableEntry} {own E : String} {o : ClassId} (hown : s.vm.findClass own = some d) (h0 : x.catchType ≠ 0) (hl : (Cond.classLink own x.catchType E).before args s = true) (hc : (Cond.castable E E).before A s = true) (ho : s.vm.findClass E = some o) : RowIs pl s d o true x := by
  obtain ⟨c3, c4, hc3, hc4, hasg⟩ := Cond.castable_spec hc
  cases Option.some.inj (hc3.symm.trans ho)
  exact RowIs.of hpl hown h0 hl hc4 hasg
theorem row_no {pl : Platform} (hpl : pl.magicAccessors = ({} : Platform).magicAccessors) {s : State} {args : Array Value} {d : ClassId} {x : ExceptionTableEntry} {own E nm : String} {o : ClassId} (hown : s.vm.findClass own = some d) (h0 : x.catchType ≠ 0) (hl : (Cond.classLink own x.catchType nm).before args s = true) (hn : va_Nc E nm s) (ho : s.vm.findClass E = some o) : RowIs pl s d o false x := by
  obtain ⟨a, b, h1, h2, h3⟩ := hn
  cases Option.some.inj (h1.symm.trans ho)
  exact RowIs.of hpl hown h0 hl h2 h3
/-- none of the classes of what is thrown is one of another's -/
def NC (U : State) : Prop := ∀ i j : Nat, i ∈ [1, 2, 3, 4] → j ∈ [1, 2, 3, 4] → i ≠ j → va_Nc (exn i) (exn j) U
theorem NC.moved {u U : State} (hvm : u.vm.Alike U.vm) (h : NC u) : NC U := fun i j hi hj hn => va_Nc.moved hvm (h i j hi hj hn)
def LPc (D : va_G) (cl : List vw_C) (cI cJ cZ : ClassId) (aS : Nat) (cS : Cell) (av : List Value) (ws : va_W) (sz : Nat) : Array Value → State → Prop := fun v U => XPc D cl cI cJ cZ aS cS av ws sz v U ∧ NC U
theorem LPc_blind {D : va_G} {cl : List vw_C} {cI cJ cZ : ClassId} {aS : Nat} {cS : Cell} {av : List Value} {ws : va_W} {sz : Nat} : FrameBlind (LPc D cl cI cJ cZ aS cS av ws sz) := fun a U g mk h => ⟨XPc_blind a U g mk h.1, NC.moved (u := U) (U := U.calling g mk a) (Vm.Alike.refl U.vm) h.2⟩
section XL
variable {p : Program} {l : Launch} {e : Env} {R : Room} {s : State} {m : MethodId} {args : Array Value} {below : List Frame} {meth : Method} {c : Code} {H : Heap} {locs : List Loc} {cells slots : Nat} {Q : State → Prop}
variable {D : va_G} {cl : List vw_C} {cI cJ cZ : ClassId} {W0 wc : va_W} {As : List Value} {aS : Nat} {cS : Cell}
theorem l_preS {A : Nat → Prop} {sz : Nat} (hK : KK D cl cI cJ cZ s) (hP : va_P D cl W0 H) (hD : va_D A W0) (hE : EW aS cS s) (hSR : SR s) (hNC : NC s) (hcS : H[aS]? = some cS) (hnA : ¬ A aS) (is : List Nat) (his : is.map (fun i => W0[i]?) = wc.map some) (hnd : va_nd is = true) (hsz : H.size = sz) : PreS s H (LPc D cl cI cJ cZ aS cS As wc sz) As := by
  have h2 : is.filterMap (fun i => W0[i]?) = wc := by
    have h3 : is.filterMap (fun i => W0[i]?) = (is.map (fun i => W0[i]?)).filterMap id := by rw [List.filterMap_map]; rfl
    rw [h3, his, List.filterMap_map]
    exact List.filterMap_some
  have hno : ¬ va_A wc sz aS := by
    intro z
    rcases z with ⟨k, e9, z⟩ | z
    · exact hnA ((hD.sub is hnd his).2 k _ z)
    · have := (Array.getElem?_eq_some_iff.mp hcS).1
      omega
  exact ⟨LPc_blind, fun U hU hW => ⟨⟨rfl, by rw [hU]; exact hsz, by rw [hU]; exact hP.sub is h2, hK.moved hW.alike, (hD.sub is hnd his).weaken (fun _ _ _ _ => trivial), ⟨by rw [hU]; exact hcS, hE.warm hW, hSR.warm hW⟩, hno⟩, hNC.moved hW.alike⟩⟩
/-- a static method with a table, called -/
theorem runSH {y : MethodName} {bytes cc : ByteArray} {maxL nL mc ms n index : Nat} {ret : Option FieldType} {hh : List (Nat × Nat × Nat × Nat)} {rm : Room} {Pc : Array Value → State → Prop} {Qc : Array Value → State → Outcome → State → Prop} {free : Addr → Prop} {own : String} {rest : List Value} {g : JFrame}
    (S : CallFix p m c cc nL s args BG own) (hM : Met l y (Cond.codeWith y bytes maxL ret hh :: BG) rm Pc Qc mc ms free) (k1 : Cond.methodLink own index y ∈ BG) (k2 : Cond.static y ∈ BG) (k4 : Cond.initialized y.cls ∈ BG) (k5 : Cond.codeWith y bytes maxL ret hh ∈ BG) (hrc : rm.cells = mc) (hrs : rm.slots = ms)
    (hd : y.cls ≠ "java/lang/invoke/MethodHandle" ∧ y.cls ≠ "java/lang/invoke/VarHandle" ∧ (parseMethodDescriptor y.desc).map (fun d => d.parameters.length) = some n) (hR : rm.frames + 1 ≤ R.frames ∧ 8 + (maxL + 11) + rm.locals ≤ R.locals) (hp : PreS s H Pc As)
    (hg : g.method = m) (hn : As.length = n) (hsize : g.locals.size = nL) (hstack : g.stack = As.reverse ++ rest) (hW : 2 * g.monitorRoom + (rest.map fun v => v.category).sum ≤ 8) (hdg : decode cc g.pc = .ok (.invokestatic index, 3)) (hf : cells + mc ≤ R.cells ∧ slots + ms ≤ R.slots) :
    va_Run p l e R s m args below meth c H locs cells slots mc ms g rest (Qc As.toArray) free := by
  obtain ⟨hx, hb, hml, ho, ht⟩ := S
  have hG := GB k5
  have hws : ∀ w ∈ (Cond.codeWith y bytes maxL ret hh :: BG), ∀ a' U, s.WarmedH U.vm → w.before a' U = true := pay_in ht hG
  have hini := ht _ k4
  have hK : Back l R p e below s args y 3 8 (PreOf R mc ms Pc) (PostOf Qc mc ms free) := va_backW (hh := hh) (bytes := bytes) (maxL := maxL) (ret := ret) hM hp.1 hrc hrs hR.1 hR.2 hws List.mem_cons_self (fun a' U hW => word_at hW (Or.inl (by first | rfl | simp [Cond.onTables, Cond.keeps, Cond.steady])) hini)
  intro T hT X
  obtain ⟨mk, methM, cM, hnamed, hmethM, -, -, -, -, -, -, hsigM⟩ := Cond.codeWith_spec (ht _ k5)
  have hstatic : methM.isStatic = true := Cond.static_spec hnamed hmethM (ht _ k2)
  obtain ⟨kP, hkP, -⟩ := className_of_methodNamed hnamed
  have hinitP : kP.init = .initialized := Cond.initialized_spec (findClass_of_methodNamed hnamed) hkP hini
  have hlen : As.length = methM.sig.parameters.length := by
    have h2 := hd.2.2
    rw [hsigM] at h2
    rw [hn]
    exact (Option.some.inj h2).symm
  obtain ⟨vm₁, X₁, hstep₁⟩ := X.invokestatic hx ho (ht _ k1) hnamed hmethM hstatic hkP hinitP ⟨hd.1, hd.2.1⟩ (g := g) hg (argsL := As) (rest := rest) hlen hstack (by rw [hb]; exact hdg)
  obtain ⟨v, B, X', hpost, hsteps⟩ := hK m meth c ⟨T.setVm vm₁, locs, cells, slots⟩ { g with stack := rest } (.invokestatic index) mk As.toArray X₁ hg (hsize.trans hml.symm) (by rw [hb]; exact hdg) hW (X₁.named hnamed) ⟨hf.1, hf.2, hp.2 (T.setVm vm₁) hT X₁.warmed⟩
  obtain ⟨g', mk', t, L, e1, e2, hq, h1, hL, h2, h3⟩ := hpost
  obtain ⟨U', l2, c2, s2⟩ := B
  dsimp only [Pt.U, Pt.locs, Pt.cells, Pt.slots] at X' e1 e2 h1 h2 h3 hsteps
  subst h1; subst h2; subst h3
  exact ⟨v, (T.setVm vm₁).calling g' mk' As.toArray, t, U', L, hT, X', hL, e1, e2, hq, fun target h => hstep₁ _ fun acts => by rw [doInvoke_state]; exact hsteps.trans h⟩
end XL
