section XT
variable {p : Program} {l : Launch} {e : Env} {R : Room} {s : State} {m : MethodId} {args : Array Value} {below : List Frame} {meth : Method} {c : Code} {H : Heap} {locs : List Loc} {cells slots : Nat} {Q : State → Prop}
/-- a walk that has come to T may be taken as one that begins there -/
theorem later {T : State} (X : Stand p l e R s m args below meth c T locs cells slots) (R' : Room) (hf : R'.frames ≤ R.frames) (hl : R'.locals ≤ R.locals) (hc : cells + R'.cells ≤ R.cells) (hs : slots + R'.slots ≤ R.slots) :
    Stand p l e R' ((T.setVm s.vm).setFrames (.invoking m args :: below)) m args below meth c T [] 0 0 := by
  have htop : (T.setVm s.vm).topJava?.isSome := X.here.top
  obtain ⟨g₀, hg0⟩ := Option.isSome_iff_exists.mp htop
  obtain ⟨r, hr⟩ := State.topJava?_eq_some.mp hg0
  obtain ⟨B, hB⟩ : ∃ B, B = (T.setVm s.vm).setFrames (.invoking m args :: below) := ⟨_, rfl⟩
  have hF : B.frames = .invoking m args :: below := by rw [hB]; exact State.frames_setFrames _ (State.cur_lt_of_top htop)
  have hLim : e.platform.stackLimits B.me = e.platform.stackLimits s.me := by rw [hB, State.stackLimits_setFrames]; exact X.limits
  have hByt : B.me.stackBytes = s.me.stackBytes := by rw [hB, State.stackBytes_setFrames]; exact X.bytes
  have hVm : B.vm = s.vm := by rw [hB]; rfl
  have hHp : B.heap = T.heap := by rw [hB]; rfl
  have hUsed : B.slotsUsed = T.slotsUsed := by rw [hB]; rfl
  have hMeth : B.vm.method? m = some meth := by rw [hVm]; exact X.method
  have hLoc : B.localsInUse = s.localsInUse := by
    rw [State.localsInUse_invoking hF hMeth X.code, State.localsInUse_invoking X.frames X.method X.code]
  have hroom : B.hasRoom e.platform R' = true := by
    have h := X.room
    have q1 := X.heapSize
    have q2 := X.used
    have q3 : B.slotsTrue = true := by rw [hB]; exact X.book
    simp only [State.hasRoom, Bool.and_eq_true, decide_eq_true_eq] at h ⊢
    obtain ⟨⟨⟨⟨h1, h2, h3, h4, h5, h6⟩, h7⟩, h8⟩, -⟩ := h
    rw [X.frames, List.length_cons] at h2 h3
    simp only [hF, hLoc, List.length_cons, hLim, hByt, hHp, hUsed]
    exact ⟨⟨⟨⟨by omega, by omega, by omega, by omega, by omega, h6⟩, by omega⟩, by omega⟩, q3⟩
  have hnil : T.heap.toList.drop T.heap.size = [] := List.drop_eq_nil_of_le (Nat.le_of_eq Array.length_toList)
  have hsame : B.sameButNew (T.setVm B.vm) [] 0 0 := by
    refine ⟨?_, by rw [hHp]; exact Nat.le_refl _, by rw [hHp]; exact Nat.le_refl _, ?_, ?_, fun a c9 h9 => ⟨c9, by rw [hHp] at h9; exact h9, rfl, rfl, fun _ _ => rfl⟩⟩
    · obtain ⟨t, ht, -⟩ := State.frames_cons hr
      rw [hVm, hB]
      show T.setVm s.vm = { ((T.setVm s.vm).setFrames (.invoking m args :: below)).setFrames (T.setVm s.vm).frames with heap := T.heap, slotsUsed := T.slotsUsed }
      rw [State.setFrames_setFrames, State.setFrames_self ht]
      rfl
    · show T.slotsUsed = B.slotsUsed + ((T.heap.toList.drop B.heap.size).map (·.slots.size)).sum
      rw [hHp, hUsed, hnil]
      rfl
    · show ((T.heap.toList.drop B.heap.size).map (·.slots.size)).sum ≤ 0
      rw [hHp, hnil]
      exact Nat.le_refl _
  have hW : B.WarmedH T.vm := by
    have h9 := X.warmed
    rw [hB]
    exact h9
  have hHears : B.hears m below = true := by rw [hB]; exact X.hears
  rw [← hB]
  exact ⟨X.admits, X.cas, X.clock, hF, hroom, hHears, hMeth, X.code, X.here, X.tail, hW, hLim.symm ▸ X.limits, hByt.symm ▸ X.bytes, hsame⟩
/-- a return, in a method that may throw -/
theorem xm_ret {Qn : Option Value → State → State → Prop} {Qt : String → State → State → Prop} {free : Addr → Prop} {g : JFrame} {mc ms : Nat} (k : W p l e R s m args below meth c H locs cells slots (MQ below (fun _ st o t => ∃ v, o = .returned v ∧ Qn v st t) args s mc ms free) g) : W p l e R s m args below meth c H locs cells slots (XM below Qn Qt args s mc ms free) g := by
  intro T hT X
  obtain ⟨t, a1, o, b1, b2, ⟨v, rfl, hq⟩, L, ⟨-, hW, hs⟩, hL⟩ := k T hT X
  exact ⟨t, a1, .returned v, b1, b2, hW, ⟨L, hs, hL⟩, Or.inl ⟨v, rfl, hq⟩⟩
end XT
/-- the words that a throw asks for and that no list of good words carries: of the classes, and of Throwable's statics (in the cell aS) -/
def XWs : List Cond := [.declares ⟨"java/lang/RuntimeException", "<init>", "()V"⟩, .declares ⟨"java/lang/RuntimeException", "<init>", "(Ljava/lang/String;)V"⟩, .declares ⟨"java/lang/Exception", "<init>", "()V"⟩, .declares ⟨"java/lang/Exception", "<init>", "(Ljava/lang/String;)V"⟩, .declares ⟨"java/lang/Throwable", "<init>", "()V"⟩, .declares ⟨"java/lang/Throwable", "<init>", "(Ljava/lang/String;)V"⟩,
  .castable "java/lang/IndexOutOfBoundsException" "java/lang/IndexOutOfBoundsException", .castable "java/lang/IllegalArgumentException" "java/lang/IllegalArgumentException", .castable "java/lang/IllegalStateException" "java/lang/IllegalStateException", .castable "java/lang/UnsupportedOperationException" "java/lang/UnsupportedOperationException",
  .laysStatic Bundle.tN "UNASSIGNED_STACK" Bundle.steD, .laysStatic Bundle.tN "SUPPRESSED_SENTINEL" Bundle.listD, .isRef (.static Bundle.tN "UNASSIGNED_STACK" Bundle.steD), .isRef (.static Bundle.tN "SUPPRESSED_SENTINEL" Bundle.listD)]
/-- they hold in every later state in which the cell aS is still cS -/
def EW (aS : Nat) (cS : Cell) (U : State) : Prop := ∀ U' : State, U.WarmedH U'.vm → U'.heap[aS]? = some cS → ∀ (A : Array Value), ∀ w ∈ XWs, w.before A U' = true
theorem EW.warm {aS : Nat} {cS : Cell} {s U : State} (hW : s.WarmedH U.vm) (h : EW aS cS s) : EW aS cS U := fun U' h1 h2 => h U' (State.WarmedH.trans hW h1) h2
section XT2
variable {p : Program} {l : Launch} {e : Env} {R : Room} {s : State} {m : MethodId} {args : Array Value} {below : List Frame} {meth : Method} {c : Code} {H : Heap} {locs : List Loc} {cells slots : Nat} {Q : State → Prop}
variable {Qn : Option Value → State → State → Prop} {Qt : String → State → State → Prop} {free : Addr → Prop} {cc : ByteArray} {pc : Nat} {ls : Array Slot} {rest : List Value}
/-- 'throw new E("text")' -/
theorem xthrow (hexec : p.tables.exec = Jvm.exec) (hb : c.code = cc) (hl : l.stackTraces = false) {own cls text : String} {names : List String} {ik is ic mc ms sa aS : Nat} {cS : Cell}
    (hown : s.vm.findClass own = some m.cls) (hcls : Bundle.fit cls = true) (hnames : ∀ n ∈ names, Bundle.fit n = true)
    (hts : ∀ w ∈ BG, w.before args s = true) (kk : Cond.classLink own ik cls ∈ BG) (ki : Cond.initialized cls ∈ BG) (kn : Cond.instantiable cls 6 ∈ BG) (hat : ∀ w ∈ Bundle.ownAtoms own ic cls names, w ∈ BG ∨ w ∈ XWs)
    (hstr : vk_R own is text sa s) (hE : EW aS cS s) (hcS : H[aS]? = some cS) (hsize : ls.size = c.maxLocals) {len : Nat}
    (d0 : decode cc pc = .ok (.new ik, 3)) (d3 : decode cc (pc + 3) = .ok (.dup, 1)) (hpush : (decode cc (pc + 4) = .ok (.ldc is, 2) ∧ len = 2) ∨ (decode cc (pc + 4) = .ok (.ldc_w is, 3) ∧ len = 3)) (d6 : decode cc (pc + 4 + len) = .ok (.invokespecial ic, 3)) (d9 : decode cc (pc + 4 + len + 3) = .ok (.athrow, 1))
    (hno : ∀ x ∈ c.exceptionTable.toList, False)
    (hRf : names.length + 3 < R.frames) (hRl : (rest.map fun v => v.category).sum + (13 * (names.length + 1) + 43) ≤ R.locals) (hRc : cells + 1 ≤ R.cells) (hRs : slots + 6 ≤ R.slots) (hlocks : meth.locks = false)
    (hx : ∀ t : State, H.size ≤ t.heap.size → (∀ q : Nat, q < H.size → t.heap[q]? = H[q]?) → Qt cls s t)
    (hf : ∀ z ∈ locs, free z.base) (hc : cells + 1 ≤ mc) (hs : slots + 6 ≤ ms) :
    W p l e R s m args below meth c H locs cells slots (XM below Qn Qt args s mc ms free) (F0 m pc ls rest) := by
  intro T hT X
  have htr : e.platform.stackTraces = false := (show e.platform.stackTraces = l.stackTraces by rw [X.admits.platform]).trans hl
  have Y := later X { frames := R.frames, locals := R.locals, cells := 1, slots := 6 } (Nat.le_refl _) (Nat.le_refl _) hRc hRs
  obtain ⟨B, hB⟩ : ∃ B, B = (T.setVm s.vm).setFrames (.invoking m args :: below) := ⟨_, rfl⟩
  rw [← hB] at Y
  have hvm : B.vm = s.vm := by rw [hB]; rfl
  have hhp : B.heap = H := by rw [hB]; exact hT
  have hW0 : s.WarmedH B.vm := by rw [hvm]; exact State.WarmedH.refl s
  have hgood : ∀ w ∈ BG, w.before args B = true := fun w hw => word_at hW0 (good_of_word (List.mem_filter.mp hw).2) (hts w hw)
  have h : ∀ w ∈ Bundle.ownAtoms own ic cls names, w.before args B = true := fun w hw => by
    rcases hat w hw with q | q
    · exact hgood w q
    · exact hE B hW0 (by rw [hhp]; exact hcS) args w q
  have hown' : B.vm.findClass own = some m.cls := by rw [hvm]; exact hown
  obtain ⟨vm₁, cX, kX, hfX, hkX, -, -, X₁, st1⟩ := Y.newCold hexec (own := own) (C := cls) (index := ik) (n := 6) hown' (hgood _ kk) (hgood _ kn) (hgood _ ki)
    (g := F0 m pc ls rest) rfl (by rw [hb]; exact d0) (Nat.le_refl _) (Nat.le_refl _)
  generalize hT1 : (T.setVm vm₁).pushCell { cls := cX, slots := kX.instanceTypes.map defaultValue, vm := .none } = T1 at X₁ st1
  have hcat : (Value.ref T.heap.size).category = 1 := rfl
  have hcellA : T1.heap[T.heap.size]? = some (freshCell cX kX) := by rw [← hT1]; exact State.heap_pushCell_size _ _
  have d3' : decode c.code (pc + 3) = .ok (.dup, 1) := by rw [hb]; exact d3
  have hstr' : vk_R own is text sa B := vk_R.warm hW0 hstr
  obtain ⟨U, hsteps, hrun, hend, hW, hsame, ce, hce, hO⟩ := X₁.ctorThrowS hexec htr (own := own) (cls := cls) (names := names) (ic := ic) hown' hcls hnames h (fun x hx => nomatch hx) hfX hkX hcellA (by rw [hhp, hT]; exact Nat.le_refl _) (msg := .ref sa) rfl
    (g := { method := m, pc := pc + 4 + len, locals := ls, stack := .ref sa :: .ref T.heap.size :: .ref T.heap.size :: rest, locked := none }) rfl hsize rfl rfl (rest := rest) rfl
    (by rw [hb]; exact d6) (by rw [hb]; exact d9) (fun x hx => (hno x hx).elim) hRf (by simp only [List.map_cons, List.sum_cons, hcat]; show 2 * 0 + _ + _ ≤ R.locals; omega) hlocks
  have hkeep : B.heap.size ≤ U.heap.size ∧ ∀ q : Nat, q < B.heap.size → U.heap[q]? = B.heap[q]? := by
    obtain ⟨-, k2, -, -, -, k6⟩ := hsame
    refine ⟨k2, fun q hq => ?_⟩
    obtain ⟨c9, h9⟩ : ∃ c9, B.heap[q]? = some c9 := ⟨_, Array.getElem?_eq_getElem hq⟩
    obtain ⟨c8, g1, g2, g3, g4⟩ := k6 q c9 h9
    rw [h9]
    have g1' : U.heap[q]? = some c8 := g1
    rw [g1']
    have hsl : c8.slots = c9.slots := Array.ext_getElem? fun i => g4 i (fun hm => nomatch hm)
    have h8 : c8 = c9 := by
      rw [hsl] at g2
      exact g2
    rw [h8]
  rw [hhp] at hkeep
  have hWs : s.WarmedH U.vm := State.WarmedH.trans hW0 hW
  have hcl : s.vm.findClass cls = some ce.cls := by
    have h9 := hO.cls
    rw [hvm] at h9
    exact h9
  have hall : s.sameButNew ({ U with vm := s.vm } : State) locs mc ms := by
    subst hB
    obtain ⟨e1, e2⟩ := hsame
    rw [State.setFrames_setFrames] at e1
    have h2 : (T.setVm s.vm).sameButNew ({ U with vm := s.vm } : State) [] (0 + 1) (0 + 6) := ⟨e1, e2⟩
    have h3 := X.same.trans h2
    rw [List.append_nil] at h3
    exact h3.mono hc hs
  refine ⟨U, ?_, .threw T.heap.size, hrun, hend, hWs, ⟨locs, hall, hf⟩, Or.inr ⟨T.heap.size, cls, ce, rfl, hx U hkeep.1 hkeep.2, hce, hO.vm, hcl⟩⟩
  refine st1 _ ?_
  show Steps p.tables e below (T1.setTop { method := m, pc := pc + 3, locals := ls, stack := .ref T.heap.size :: rest, locked := none }) _
  jvm_step X₁.here [X₁.here.top, hexec, d3', Value.category]
  rcases hpush with ⟨d4, hlen⟩ | ⟨d4, hlen⟩
  · subst hlen
    exact X₁.ldcString hexec (own := own) (text := text) (index := is) (a := sa) hown' hstr'.1 hstr'.2
      (g := { method := m, pc := pc + 4, locals := ls, stack := .ref T.heap.size :: .ref T.heap.size :: rest, locked := none }) rfl (by rw [hb]; exact d4) _ hsteps
  · subst hlen
    obtain ⟨k, cf, i, a', hk, hcf, hcp, -, hr, hev'⟩ := Cond.stringRef_spec hown' hstr'.1
    cases hstr'.2.symm.trans hev'
    obtain ⟨k', hk', he⟩ := X₁.warmed.alike.2.2 _ _ hk
    have hr' : k'.resolved[is]? = some (some (.string sa)) := by
      rcases X₁.warmed.entry hk hk' is with h | ⟨h, -⟩
      · rw [h]; exact hr
      · rw [hr] at h; cases h
    have d4' : decode c.code (pc + 4) = .ok (.ldc_w is, 3) := by rw [hb]; exact d4
    show Steps p.tables e below (T1.setTop { method := m, pc := pc + 4, locals := ls, stack := .ref T.heap.size :: .ref T.heap.size :: rest, locked := none }) _
    jvm_step X₁.here [hexec, d4', ldc_w.wp_string (e := e) (s := T1) (f := { method := m, pc := pc + 4, locals := ls, stack := .ref T.heap.size :: .ref T.heap.size :: rest, locked := none }) X₁.here.top hk' (by rw [he]; exact hcf) hcp hr']
    exact hsteps
end XT2
