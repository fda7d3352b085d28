/-! Methods that may throw: their contracts, a call of one, the throw itself, and what becomes of it in the caller. -/
/-- how a method ends that may throw: by returning v (Qn), or by throwing an object of the class E (Qt) -/
def XQ (Qn : Option Value → State → State → Prop) (Qt : String → State → State → Prop) (mc ms : Nat) (free : Addr → Prop) : Array Value → State → Outcome → State → Prop := fun _ st o t =>
  st.WarmedH t.vm ∧ (∃ L, st.sameButNew ({ t with vm := st.vm } : State) L mc ms ∧ ∀ z ∈ L, free z.base) ∧
    ((∃ v, o = .returned v ∧ Qn v st t) ∨ ∃ (q : Addr) (E : String) (ce : Cell), o = .threw q ∧ Qt E st t ∧ t.heap[q]? = some ce ∧ ce.vm = .none ∧ st.vm.findClass E = some ce.cls)
def XMet (l : Launch) (y : MethodName) (ws : List Cond) (rm : Room) (Pc : Array Value → State → Prop) (Qn : Option Value → State → State → Prop) (Qt : String → State → State → Prop) (mc ms : Nat) (free : Addr → Prop) : Prop :=
  MetFree l y (headSpec ws rm) Pc (fun _ _ _ _ _ => True) (XQ Qn Qt mc ms free)
/-- where the walk of such a method ends -/
def XM (below : List Frame) (Qn : Option Value → State → State → Prop) (Qt : String → State → State → Prop) (a : Array Value) (s : State) (mc ms : Nat) (free : Addr → Prop) : State → Prop := fun t =>
  ∃ o, t.status = .running ∧ Ended t below o ∧ XQ Qn Qt mc ms free a s o t
theorem XMet.ofW {l : Launch} {y : MethodName} {ws ws' : List Cond} {rm : Room} {Pc : Array Value → State → Prop} {Qn : Option Value → State → State → Prop} {Qt : String → State → State → Prop} {mc ms : Nat} {free : Addr → Prop} {cc : ByteArray} {maxL : Nat} {ret : Option FieldType}
    (hy : plainName y.cls = true) (hw : ws = Cond.code y cc maxL ret :: ws')
    (body : ∀ p e s m args below meth c s₁, BodyLoose p l y (headSpec ws rm) cc maxL ret e s m args below meth c s₁ → c.maxLocals = maxL → (∀ x ∈ c.exceptionTable.toList, False) → Pc args s →
      W p l e (headSpec ws rm).room s m args below meth c s.heap [] 0 0 (XM below Qn Qt args s mc ms free) (entryFrame m args maxL)) : XMet l y ws rm Pc Qn Qt mc ms free := by
  refine MetFree.of_bodyS (code := cc) (maxLocals := maxL) (ret := ret) hy ?_ ?_
  · intro args s m h hn
    obtain ⟨meth, c, h1, h2, h3, h4, h5, h6, -, -⟩ := Cond.code_spec hn (atoms_spec (ws := ws) h _ (by rw [hw]; exact List.mem_cons_self))
    exact ⟨meth, c, h1, h2, h3, h4, h5, h6⟩
  · intro p e s m args below meth c s₁ B hml hP _
    have hc : (Cond.code y cc maxL ret).before args s = true := atoms_spec (ws := ws) B.pre _ (by rw [hw]; exact List.mem_cons_self)
    have hno : ∀ x ∈ c.exceptionTable.toList, False := by
      have h1 := B.noHandlers hc
      intro x hx
      have h2 : c.exceptionTable.toList = [] := by
        have h3 : c.exceptionTable = #[] := Array.isEmpty_iff.mp h1
        rw [h3]
      rw [h2] at hx
      cases hx
    have hh0 : s₁.heap = s.heap := by rw [B.state]; rfl
    obtain ⟨t, a1, o, b1, b2, b3⟩ := body p e s m args below meth c s₁ B hml hno hP s₁ hh0 (Stand.of_body B)
    exact ⟨t, o, a1, b1, b2, b3⟩
section XR
variable {p : Program} {l : Launch} {e : Env} {R : Room} {s : State} {m : MethodId} {args : Array Value} {below : List Frame} {meth : Method} {c : Code} {H : Heap} {locs : List Loc} {cells slots : Nat} {Q : State → Prop}
/-- an exception q is on its way out of the frame g -/
def Wx (p : Program) (l : Launch) (e : Env) (R : Room) (s : State) (m : MethodId) (args : Array Value) (below : List Frame) (meth : Method) (c : Code) (H : Heap) (locs : List Loc) (cells slots : Nat) (Q : State → Prop) (g : JFrame) (q : Addr) : Prop :=
  ∀ T : State, T.heap = H → Stand p l e R s m args below meth c T locs cells slots → ∃ t, Steps p.tables e below ((T.setTop g).pushFrame (.throwing q)) t ∧ Q t
/-- a call of a method that may throw, as the caller sees it -/
def XRun (p : Program) (l : Launch) (e : Env) (R : Room) (s : State) (m : MethodId) (args : Array Value) (below : List Frame) (meth : Method) (c : Code) (H : Heap) (locs : List Loc) (cells slots mc ms : Nat) (g : JFrame) (rest : List Value) (Qn : Option Value → State → State → Prop) (Qt : String → State → State → Prop) (free : Addr → Prop) : Prop :=
  ∀ T : State, T.heap = H → Stand p l e R s m args below meth c T locs cells slots → ∃ (st₀ t T' : State) (L : List Loc), st₀.heap = H ∧ Stand p l e R s m args below meth c T' (locs ++ L) (cells + mc) (slots + ms) ∧ (∀ z ∈ L, free z.base) ∧ T'.heap = t.heap ∧ T'.vm = t.vm ∧
    ((∃ v, Qn v st₀ t ∧ ∀ target, Steps p.tables e below (T'.setTop { g with pc := g.pc + 3, stack := v.toList ++ rest }) target → Steps p.tables e below (T.setTop g) target) ∨
      ∃ (q : Addr) (E : String) (ce : Cell), Qt E st₀ t ∧ t.heap[q]? = some ce ∧ ce.vm = .none ∧ s.vm.findClass E = some ce.cls ∧ Steps p.tables e below (T.setTop g) ((T'.setTop { g with stack := rest }).pushFrame (.throwing q)))
variable {y : MethodName} {bytes cc : ByteArray} {maxL nL mc ms n index : Nat} {ret : Option FieldType} {ws : List Cond} {rm : Room} {Pc : Array Value → State → Prop} {Qn : Option Value → State → State → Prop} {Qt : String → State → State → Prop} {free : Addr → Prop} {Ts : List Cond} {own C : String} {b : Addr} {As rest : List Value} {g : JFrame}
theorem xrunV (S : CallFix p m c cc nL s args Ts own) (hM : XMet l y ws rm Pc Qn Qt mc ms free) (cw : CallW R s args own C index y bytes maxL ret ws rm mc ms n) (hp : PreV s H C b Pc As)
    (hg : g.method = m) (hn : As.length = n) (hsize : g.locals.size = nL) (hstack : g.stack = As.reverse ++ .ref b :: rest) (hW : 2 * g.monitorRoom + (rest.map fun v => v.category).sum ≤ 8) (hdg : decode cc g.pc = .ok (.invokevirtual index, 3)) (hf : cells + mc ≤ R.cells ∧ slots + ms ≤ R.slots) :
    XRun p l e R s m args below meth c H locs cells slots mc ms g rest Qn Qt free := by
  obtain ⟨⟨hrc, hrs, hfr, hlo, hws, hcw, hcode, hini, hy, hlen, hl⟩, hin, hse⟩ := cw
  obtain ⟨hx, hb, hml, ho, -⟩ := S
  obtain ⟨hbl, ⟨cellB, hcB, hoB, hclB⟩, hPc⟩ := hp
  subst hb
  intro T hT X
  obtain ⟨mk, methM, hnamed, hmethM, hstM, habM⟩ := Cond.instanceMethod_spec hin
  obtain ⟨methM', cM, hmethM', -, -, -, -, -, -, hsigM⟩ := Cond.code_spec hnamed hcode
  cases hmethM.symm.trans hmethM'
  obtain ⟨c2, r2, m2, q1, q2, q3, q4, kP, hkP, hkPi⟩ := Cond.selects_spec hse
  cases hclB.symm.trans q1
  cases (State.methodFound?_of_named hnamed hy).symm.trans q2
  cases hnamed.symm.trans q3
  have hselP : selectMethod e.platform s.vm cellB.cls mk = .method mk := by rw [Launch.admits_selectMethod X.admits]; exact q4
  obtain ⟨vm₁, X₁, hstep₁⟩ := X.invokevirtual hx ho hl hnamed hmethM hstM hkP hkPi hy (a := b) (cell := cellB) (by rw [hT]; exact hcB)
    (fun z h => by rw [h] at hoB; cases hoB) hselP hmethM habM hkP hkPi (g := g) hg (argsL := As) (rest := rest) (hn.trans (hlen _ hsigM)) hstack hdg
  have hUh : (T.setVm vm₁).heap = H := hT
  generalize T.setVm vm₁ = U at X₁ hstep₁ hUh
  obtain ⟨gr, hgr⟩ : ∃ z : JFrame, z = { g with stack := rest } := ⟨_, rfl⟩
  have hgm : gr.method = m := by rw [hgr]; exact hg
  have hgs : gr.locals.size = c.maxLocals := by rw [hgr]; exact hsize.trans hml.symm
  have hgd : decode c.code gr.pc = .ok (.invokevirtual index, 3) := by rw [hgr]; exact hdg
  have hgW : 2 * gr.monitorRoom + (gr.stack.map fun v => v.category).sum ≤ 8 := by rw [hgr]; exact hW
  have hnU : U.methodNamed? y = some mk := X₁.named hnamed
  have hiniU : ∀ a', (Cond.initialized y.cls).before a' U = true := fun a' => word_at X₁.warmed (Or.inl (by first | rfl | simp [Cond.onTables, Cond.keeps, Cond.steady])) hini
  obtain ⟨methY, cY, hmY, hcY, -, hlY, -, -, -, -⟩ := Cond.code_spec hnU (hws _ hcw (Value.ref b :: As).toArray U X₁.warmed)
  obtain ⟨kY, hkY, -⟩ := className_of_methodNamed hnU
  have hinitY : kY.init = .initialized := Cond.initialized_spec (findClass_of_methodNamed hnU) hkY (hiniU (Value.ref b :: As).toArray)
  have h : At U gr.method c below := by rw [hgm]; exact X₁.here
  have happ : (headSpec ws rm).appliesLoose y e.platform (U.calling gr mk (Value.ref b :: As).toArray) = true :=
    Spec.appliesLoose_calling (g := gr) h hgd hnU hkY hinitY
      (X₁.room_calling (g := gr) (R' := rm) hgs hmY hcY hfr (by rw [hlY]; omega) (by rw [hrc]; exact hf.1) (by rw [hrs]; exact hf.2)) (atoms_intro fun w hw => hws w hw _ _ X₁.warmed)
  obtain ⟨mid, hmid⟩ := h.above
  have hfr2 : (U.setTop gr).frames = (.java gr :: mid) ++ below := by rw [State.frames_setTop' gr h.top, hmid]; rfl
  obtain ⟨o, s₂, hsteps, -, hend, hq⟩ := Steps.callFree hM p X₁.admits X₁.cas X₁.clock (acts := []) hfr2 happ (hbl _ _ _ _ (hPc U hUh X₁.warmed)) trivial
  have hq' : XQ Qn Qt mc ms free (Value.ref b :: As).toArray (U.calling gr mk (Value.ref b :: As).toArray) o s₂ := hq
  obtain ⟨hW₂, ⟨L, ⟨e2, k2, k3, k4, k5, k6⟩, hL⟩, hcase⟩ := hq'
  rw [State.frames_setTop' gr h.top] at hend
  have e3 : s₂ = ({ (U.calling gr mk (Value.ref b :: As).toArray).setFrames s₂.frames with heap := s₂.heap, slotsUsed := s₂.slotsUsed } : State).setVm s₂.vm := by
    have z : s₂ = ({ s₂ with vm := (U.calling gr mk (Value.ref b :: As).toArray).vm } : State).setVm s₂.vm := rfl
    rw [e2] at z
    exact z
  have hW' : U.WarmedH s₂.vm := hW₂
  obtain ⟨g₀, hg0⟩ := Option.isSome_iff_exists.mp h.top
  obtain ⟨r, hr⟩ := State.topJava?_eq_some.mp hg0
  have hsame : U.sameButNew ({ U with heap := s₂.heap, slotsUsed := s₂.slotsUsed } : State) L mc ms := by
    refine ⟨?_, k2, k3, k4, k5, k6⟩
    obtain ⟨t, ht, -⟩ := State.frames_cons hr
    show ({ U with heap := s₂.heap, slotsUsed := s₂.slotsUsed } : State) = { U.setFrames U.frames with heap := s₂.heap, slotsUsed := s₂.slotsUsed }
    rw [State.setFrames_self ht]
  have hr' : (({ U with heap := s₂.heap, slotsUsed := s₂.slotsUsed } : State).setVm s₂.vm).frames = .java g₀ :: r := hr
  have X' : Stand p l e R s m args below meth c (({ U with heap := s₂.heap, slotsUsed := s₂.slotsUsed } : State).setVm s₂.vm) (locs ++ L) (cells + mc) (slots + ms) :=
    ⟨X₁.admits, X₁.cas, X₁.clock, X₁.frames, X₁.room, X₁.hears, X₁.method, X₁.code, (X₁.here.setHeapUsed s₂.heap s₂.slotsUsed).setVm hW'.alike, X₁.tail, State.WarmedH.trans X₁.warmed hW', X₁.limits, X₁.bytes, X₁.same.trans (hsame.setVm s.vm)⟩
  refine ⟨U.calling gr mk (Value.ref b :: As).toArray, s₂, _, L, hUh, X', hL, rfl, rfl, ?_⟩
  rcases hcase with ⟨v, rfl, hn⟩ | ⟨q, E, ce, rfl, ht, hce, hcv, hcl⟩
  · refine Or.inl ⟨v, hn, fun target hgo => hstep₁ _ fun acts => ?_⟩
    obtain ⟨c₂, i₂, len₂, hc₂, hd₂, hf₂⟩ := hend
    have hcc : c₂ = c := by
      have h1 : s₂.code? gr.method = U.code? gr.method := by
        rw [State.code?_eq, State.code?_eq, hW'.alike.method?]
      exact Option.some.inj (hc₂.symm.trans (h1.trans h.code))
    subst hcc
    have hlen2 : len₂ = 3 := by rw [hgd] at hd₂; cases hd₂; rfl
    subst hlen2
    have hs₂ : s₂ = (({ U with heap := s₂.heap, slotsUsed := s₂.slotsUsed } : State).setVm s₂.vm).setTop { g with pc := g.pc + 3, stack := v.toList ++ rest } := by
      refine e3.trans ?_
      rw [hf₂, State.calling_eq h.top, State.setFrames_setFrames, State.setTop_of_frames _ hr', hr]
      rw [hgr]
      rfl
    rw [← hs₂] at hgo
    rw [doInvoke_state, ← hgr]
    exact hsteps.trans hgo
  · refine Or.inr ⟨q, E, ce, ht, hce, hcv, ?_, ?_⟩
    · have z : U.vm.findClass E = some ce.cls := hcl
      rw [X₁.warmed.alike.findClass] at z
      exact z
    · refine hstep₁ _ fun acts => ?_
      rw [doInvoke_state, ← hgr]
      have hs₂ : s₂ = ((({ U with heap := s₂.heap, slotsUsed := s₂.slotsUsed } : State).setVm s₂.vm).setTop gr).pushFrame (.throwing q) := by
        have hf₂ : s₂.frames = .throwing q :: (.java gr :: U.frames.tail) := hend
        refine e3.trans ?_
        rw [hf₂, State.calling_eq h.top, State.setFrames_setFrames, State.setTop_of_frames _ hr', hr]
        have hcur := State.cur_lt_of_frames hr'
        show _ = (State.setFrames _ _).setFrames (.throwing q :: (State.setFrames _ _).frames)
        rw [State.frames_setFrames _ hcur, State.setFrames_setFrames]
        rfl
      rw [← hs₂]
      exact hsteps
end XR
