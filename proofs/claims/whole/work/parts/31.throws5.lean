/-! An exception that this method's own table takes: the rows ahead name other classes, and a row's class may be looked up here for the first time. -/
/-- the row y names the class k, and an object of the class o is one of k's (b) or isn't -/
def RowIs (pl : Platform) (s : State) (d : ClassId) (o : ClassId) (b : Bool) (y : ExceptionTableEntry) : Prop := y.catchType ≠ 0 ∧ ∃ k, s.vm.ClassLinks pl d y.catchType k ∧ s.vm.assignable o k = b
theorem RowIs.of {pl : Platform} (hpl : pl.magicAccessors = ({} : Platform).magicAccessors) {s : State} {args : Array Value} {d o : ClassId} {b : Bool} {y : ExceptionTableEntry} {own nm : String} {k : ClassId} (hown : s.vm.findClass own = some d) (h0 : y.catchType ≠ 0) (hl : (Cond.classLink own y.catchType nm).before args s = true) (hk : s.vm.findClass nm = some k) (ha : s.vm.assignable o k = b) : RowIs pl s d o b y := by
  obtain ⟨k', h1, h2⟩ := Cond.classLink_spec hown hl pl hpl
  cases Option.some.inj (hk.symm.trans h1)
  exact ⟨h0, k, h2, ha⟩
section SR1
variable {Q : Handler → Pre} {E : CtlPost} {e : Env} {d : Bool} {acts : List Action} {S : State} {f : JFrame} {a : Addr}
theorem row_go {x : ExceptionTableEntry} {t : List ExceptionTableEntry} {k : ClassId} {cell : Cell} {b : Bool} (hx : covers x f.pc = true) (h0 : x.catchType ≠ 0)
    (hl : S.vm.ClassLinks e.platform f.method.cls x.catchType k) (hcell : S.heap[a]? = some cell) (hobj : ∀ z, cell.vm ≠ .statics z) (hk1 : ∃ z, S.vm.classes[cell.cls]? = some z) (hk2 : ∃ z, S.vm.classes[k]? = some z) (ha : S.vm.assignable cell.cls k = b) :
    wp (findHandler.go f a (x :: t)) Q E e d acts S ↔ if b = true then Q (.found x.handlerPc) d acts (S.setVm (S.vm.noted f.method.cls x.catchType (.cls k))) else wp (findHandler.go f a t) Q E e d acts (S.setVm (S.vm.noted f.method.cls x.catchType (.cls k))) := by
  have hal : S.vm.Alike (S.vm.noted f.method.cls x.catchType (.cls k)) := (Vm.Alike.refl S.vm).noted _ _ _
  have hop := (resolveClass_links e.toSetting hl).op (op := VmOp.resolveClass f.method.cls x.catchType) rfl
  obtain ⟨z1, hz1⟩ := hk1
  obtain ⟨z2, hz2⟩ := hk2
  obtain ⟨y1, hy1, -⟩ := hal.2.2 _ _ hz1
  obtain ⟨y2, hy2, -⟩ := hal.2.2 _ _ hz2
  have ha' : (S.vm.noted f.method.cls x.catchType (.cls k)).assignable cell.cls k = b := by rw [hal.assignable]; exact ha
  simp only [covers] at hx
  cases b with
  | true => simp [findHandler.go, hx, h0, hop.1, hop.2, hcell, hobj, hy1, hy2, ha', VmOp.dirties, VmOp.acts]
  | false => simp [findHandler.go, hx, h0, hop.1, hop.2, hcell, hobj, hy1, hy2, ha', VmOp.dirties, VmOp.acts]
end SR1
theorem rows_go {e : Env} {s : State} {f : JFrame} {a : Addr} {cell : Cell} (hobj : ∀ z, cell.vm ≠ .statics z) (hk1 : ∃ z, s.vm.classes[cell.cls]? = some z) {x : ExceptionTableEntry} {suf : List ExceptionTableEntry} (hx : covers x f.pc = true) (hrow : RowIs e.platform s f.method.cls cell.cls true x) :
    ∀ (pre : List ExceptionTableEntry) (S : State), s.WarmedH S.vm → S.heap[a]? = some cell → (∀ y ∈ pre, covers y f.pc = true ∧ RowIs e.platform s f.method.cls cell.cls false y) →
      ∃ vm', s.WarmedH vm' ∧ ∀ (Q : Handler → Pre) (E : CtlPost) (d : Bool) (acts : List Action), wp (findHandler.go f a (pre ++ x :: suf)) Q E e d acts S ↔ Q (.found x.handlerPc) d acts (S.setVm vm') := by
  have step : ∀ {y : ExceptionTableEntry} {b : Bool}, RowIs e.platform s f.method.cls cell.cls b y → ∀ S : State, s.WarmedH S.vm → ∃ k, S.vm.ClassLinks e.platform f.method.cls y.catchType k ∧ (∃ z, S.vm.classes[cell.cls]? = some z) ∧ (∃ z, S.vm.classes[k]? = some z) ∧ S.vm.assignable cell.cls k = b ∧ s.WarmedH (S.vm.noted f.method.cls y.catchType (.cls k)) := by
    intro y b ⟨_, k, hl, ha⟩ S hW
    obtain ⟨z1, hz1⟩ := hk1
    obtain ⟨y1, hy1, -⟩ := hW.alike.2.2 _ _ hz1
    obtain ⟨dk, _, _, kt, hd, _, _, _, _, hkt, _, hopen⟩ := hl.here
    obtain ⟨y2, hy2, -⟩ := hW.alike.2.2 _ _ hkt
    exact ⟨k, hW.classLinks hl, ⟨y1, hy1⟩, ⟨y2, hy2⟩, by rw [hW.alike.assignable]; exact ha, hW.noted hd hopen (State.rightAt_cls hl)⟩
  intro pre
  induction pre with
  | nil =>
    intro S hW hcell _
    obtain ⟨k, h1, h2, h3, h4, h5⟩ := step hrow S hW
    refine ⟨_, h5, fun Q E d acts => ?_⟩
    rw [List.nil_append, row_go hx hrow.1 h1 hcell hobj h2 h3 h4, if_pos rfl]
  | cons y ys ih =>
    intro S hW hcell hpre
    obtain ⟨hc, hr⟩ := hpre y List.mem_cons_self
    obtain ⟨k, h1, h2, h3, h4, h5⟩ := step hr S hW
    obtain ⟨vm', hW', hq⟩ := ih (S.setVm (S.vm.noted f.method.cls y.catchType (.cls k))) h5 hcell (fun z hz => hpre z (List.mem_cons_of_mem _ hz))
    refine ⟨vm', hW', fun Q E d acts => ?_⟩
    rw [List.cons_append, row_go hc hr.1 h1 hcell hobj h2 h3 h4, if_neg (by decide)]
    exact hq Q E d acts
section XK
variable {p : Program} {l : Launch} {e : Env} {R : Room} {s : State} {m : MethodId} {args : Array Value} {below : List Frame} {meth : Method} {c : Code} {H : Heap} {locs : List Loc} {cells slots : Nat} {Q : State → Prop} {pc : Nat} {ls : Array Slot} {rest : List Value}
theorem wx_catch {E : String} {ce : Cell} {q : Addr} (pre : List ExceptionTableEntry) (x : ExceptionTableEntry) (suf : List ExceptionTableEntry) (hsplit : c.exceptionTable.toList = pre ++ x :: suf)
    (hpre : ∀ pl : Platform, pl.magicAccessors = ({} : Platform).magicAccessors → ∀ y ∈ pre, covers y pc = true ∧ RowIs pl s m.cls ce.cls false y) (hx : covers x pc = true) (hrow : ∀ pl : Platform, pl.magicAccessors = ({} : Platform).magicAccessors → RowIs pl s m.cls ce.cls true x)
    (hcell : H[q]? = some ce) (hv : ce.vm = .none) (hcl : s.vm.findClass E = some ce.cls)
    (kk : W p l e R s m args below meth c H locs cells slots Q (F0 m x.handlerPc ls [.ref q])) : Wx p l e R s m args below meth c H locs cells slots Q (F0 m pc ls rest) q := by
  intro T hT X
  have hpl : e.platform.magicAccessors = ({} : Platform).magicAccessors := by rw [X.admits.platform]
  obtain ⟨g, hg⟩ : ∃ g, g = F0 m pc ls rest := ⟨_, rfl⟩
  have hgm : g.method = m := by rw [hg]
  have hgp : g.pc = pc := by rw [hg]
  obtain ⟨k9, h9, -⟩ := Vm.findClass_spec hcl
  obtain ⟨N, hN⟩ : ∃ N, N = (T.setTop g).pushFrame (.throwing q) := ⟨_, rfl⟩
  have hNv : N.vm = T.vm := by rw [hN]; exact Stand.throwing_vm T g q
  have hNh : N.heap = T.heap := by rw [hN]; exact Stand.throwing_heap T g q
  obtain ⟨vm', hW', hgo⟩ := rows_go (e := e) (s := s) (f := g) (a := q) (cell := ce) (fun z hz => by rw [hv] at hz; cases hz) ⟨k9, h9⟩ (x := x) (suf := suf) (by rw [hgp]; exact hx) (by rw [hgm]; exact hrow _ hpl) pre N (by rw [hNv]; exact X.warmed) (by rw [hNh, hT]; exact hcell) (fun y hy => by rw [hgp, hgm]; exact hpre _ hpl y hy)
  have hfind : ∀ (Q : Handler → Pre) (E : CtlPost) (d : Bool) (acts : List Action), wp (findHandler g q) Q E e d acts N ↔ Q (.found x.handlerPc) d acts (N.setVm vm') := by
    intro Q E d acts
    rw [Jvm.W.findHandler_eq (meth := meth) (code := c) (by rw [hNv, hgm]; exact X.method') X.code, hsplit]
    exact hgo Q E d acts
  obtain ⟨t, a1, b1⟩ := kk (T.setVm vm') hT (X.noted hW')
  refine ⟨t, ?_, b1⟩
  have h : At T g.method c below := by rw [hgm]; exact X.here
  obtain ⟨hgo1, hw1⟩ := h.throwing q
  rw [← hg]
  refine Steps.head hgo1 hw1 ?_
  have hstep : (stepThrowing e N q (.java g :: T.frames.tail)).Is ((N.setVm vm').setFrames (.java { g with pc := x.handlerPc, stack := [.ref q] } :: T.frames.tail)) [] := by
    simp only [stepThrowing, searchFrame, vmDo]
    generalize hr : Sem.go _ e false [] N = res
    obtain ⟨as, rfl, ha⟩ := Sem.eq_ok_of hr (a := Handler.found x.handlerPc) (s' := N.setVm vm') (acts' := []) (by simp [hfind _ _ _ _])
    exact ⟨rfl, ha⟩
  rw [stepThread_throwing (frames_entered h.top _), ← hN, hstep.1]
  obtain ⟨g₀, hg0⟩ := Option.isSome_iff_exists.mp h.top
  obtain ⟨r, hr⟩ := State.topJava?_eq_some.mp hg0
  have hr' : (T.setVm vm').frames = .java g₀ :: r := hr
  rw [State.setTop_of_frames _ hr'] at a1
  have hfin : (N.setVm vm').setFrames (.java { g with pc := x.handlerPc, stack := [.ref q] } :: T.frames.tail) = (T.setVm vm').setFrames (.java (F0 m x.handlerPc ls [.ref q]) :: r) := by
    have hc2 : ∀ (u : State) (F G : List Frame), ((u.setFrames F).setVm vm').setFrames G = (u.setVm vm').setFrames G := fun u F G => by
      have h1 : (u.setFrames F).setVm vm' = (u.setVm vm').setFrames F := rfl
      rw [h1, State.setFrames_setFrames]
    rw [hN, State.pushFrame, hc2, State.setTop_of_frames _ hr, hc2, hr, hg]
    rfl
  rw [hfin]
  exact a1
end XK
