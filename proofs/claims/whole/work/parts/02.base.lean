/-! What the printed functions are made of, and rows that join a call's contract to the caller's world. -/
/-- how many turns a loop of a printed function may take: more than any run needs -/
def FU : Nat := 1000000000
/-- an index that lies in an array of n places -/
def ixb (i : Int32) (n : Nat) : Bool := decide (¬ (i < 0 ∨ n ≤ i.toNatClampNeg))
theorem ixb_in {i : Int32} {n : Nat} (h : ixb i n = true) : vp_in i n := by
  have h2 : ¬ (i < 0 ∨ n ≤ i.toNatClampNeg) := of_decide_eq_true h
  exact h2
/-- a number that is a boolean -/
def zb (v : Int32) : Bool := decide (v = 0 ∨ v = 1)
theorem zb_nar {v : Int32} (h : zb v = true) : narrow .boolean (.int v) = .int v := by
  rcases of_decide_eq_true h with h | h <;> (rw [h]; rfl)
/-- on only if b holds -/
def gd {α : Type} (b : Bool) (x : Option α) : Option α := if b = true then x else none
theorem of_gd {α : Type} {b : Bool} {x : Option α} {o : α} (h : gd b x = some o) : b = true ∧ x = some o := by
  unfold gd at h
  by_cases hb : b = true
  · rw [if_pos hb] at h
    exact ⟨hb, h⟩
  · rw [if_neg hb] at h
    cases h
theorem of_bd {α β : Type} {x : Option α} {g : α → Option β} {o : β} (h : x.bind g = some o) : ∃ r, x = some r ∧ g r = some o := by
  cases x with
  | none => cases h
  | some r => exact ⟨r, rfl, h⟩
theorem ite_t {α : Type} {c : Prop} [Decidable c] {a b o : α} (hc : c) (h : (if c then a else b) = o) : a = o := by
  rw [if_pos hc] at h
  exact h
theorem ite_f {α : Type} {c : Prop} [Decidable c] {a b o : α} (hc : ¬ c) (h : (if c then a else b) = o) : b = o := by
  rw [if_neg hc] at h
  exact h
/-- a value with a name -/
def nm {α β : Type} (e : α) (k : α → β) : β := k e
theorem of_nm {α β : Type} {e x : α} {k : α → β} {o : β} (ex : x = e) (h : nm e k = o) : k x = o := by
  subst ex
  exact h
/-- the classes and the three classes of arrays -/
def KK (D : va_G) (cl : List vw_C) (cI cJ cZ : ClassId) (U : State) : Prop := va_K D cl [(cI, .int), (cJ, .long), (cZ, .boolean)] U ∧ U.vm.findClass "[I" = some cI ∧ U.vm.findClass "[J" = some cJ ∧ U.vm.findClass "[Z" = some cZ
theorem KK.moved {D : va_G} {cl : List vw_C} {cI cJ cZ : ClassId} {u U : State} (hvm : u.vm.Alike U.vm) (h : KK D cl cI cJ cZ u) : KK D cl cI cJ cZ U :=
  ⟨va_K.moved hvm h.1, by rw [hvm.findClass]; exact h.2.1, by rw [hvm.findClass]; exact h.2.2.1, by rw [hvm.findClass]; exact h.2.2.2⟩
/-- a reader's start and end -/
def RPc (D : va_G) (cl : List vw_C) (cI cJ cZ : ClassId) (av : List Value) (ws : va_W) : Array Value → State → Prop := va_Pc av (fun U => va_P D cl ws U.heap ∧ KK D cl cI cJ cZ U)
def RQ (v : Option Value) : Array Value → State → Outcome → State → Prop := fun _ st oc t => oc = .returned v ∧ t.heap = st.heap
/-- a writer's start and end -/
def WPc (D : va_G) (cl : List vw_C) (cI cJ cZ : ClassId) (av : List Value) (ws : va_W) (sz : Nat) : Array Value → State → Prop := va_Pc av (fun U => U.heap.size = sz ∧ va_P D cl ws U.heap ∧ KK D cl cI cJ cZ U ∧ va_D (fun _ => True) ws)
def WQ (D : va_G) (cl : List vw_C) (v : Option Value) (w1 : va_W) (A : Nat → Prop) : Array Value → State → Outcome → State → Prop := fun _ st oc t => oc = .returned v ∧ va_P D cl w1 t.heap ∧ va_D A w1 ∧ va_F A st t
theorem RPc_blind {D : va_G} {cl : List vw_C} {cI cJ cZ : ClassId} {av : List Value} {ws : va_W} : FrameBlind (RPc D cl cI cJ cZ av ws) := fun a U g mk h => ⟨h.1, h.2.1, KK.moved (u := U) (U := U.calling g mk a) (Vm.Alike.refl U.vm) h.2.2⟩
theorem WPc_blind {D : va_G} {cl : List vw_C} {cI cJ cZ : ClassId} {av : List Value} {ws : va_W} {sz : Nat} : FrameBlind (WPc D cl cI cJ cZ av ws sz) := fun a U g mk h => ⟨h.1, h.2.1, h.2.2.1, KK.moved (u := U) (U := U.calling g mk a) (Vm.Alike.refl U.vm) h.2.2.2.1, h.2.2.2.2⟩
section OWN1
variable {p : Program} {l : Launch} {e : Env} {R : Room} {s : State} {m : MethodId} {args : Array Value} {below : List Frame} {meth : Method} {c : Code} {H : Heap} {locs : List Loc} {cells slots : Nat} {Q : State → Prop}
variable {D : va_G} {cl : List vw_C} {cI cJ cZ : ClassId} {W0 wc : va_W} {As : List Value} {b : Nat}
theorem rd_preV {C : String} {ci : Nat} {fs : List Value} {q : vw_C} (hK : KK D cl cI cJ cZ s) (hP : va_P D cl W0 H) (is : List Nat) (his : is.filterMap (fun i => W0[i]?) = wc) (q0 : Nat) (hr : W0[q0]? = some (b, .inr (ci, fs))) (hcl : cl[ci]? = some q) (hq : q.1 = C) : PreV s H C b (RPc D cl cI cJ cZ (.ref b :: As) wc) As := by
  subst hq
  exact ⟨RPc_blind, va_recv hK.1 hP hcl hr, fun U hU hW => ⟨rfl, by rw [hU]; exact hP.sub is his, hK.moved hW.alike⟩⟩
theorem rd_preS (hK : KK D cl cI cJ cZ s) (hP : va_P D cl W0 H) (is : List Nat) (his : is.filterMap (fun i => W0[i]?) = wc) : PreS s H (RPc D cl cI cJ cZ As wc) As :=
  ⟨RPc_blind, fun U hU hW => ⟨rfl, by rw [hU]; exact hP.sub is his, hK.moved hW.alike⟩⟩
theorem wr_preV {A : Nat → Prop} {C : String} {ci sz : Nat} {fs : List Value} {q : vw_C} (hK : KK D cl cI cJ cZ s) (hP : va_P D cl W0 H) (hD : va_D A W0) (is : List Nat) (his : is.map (fun i => W0[i]?) = wc.map some) (hnd : va_nd is = true) (hsz : H.size = sz) (q0 : Nat) (hr : W0[q0]? = some (b, .inr (ci, fs))) (hcl : cl[ci]? = some q) (hq : q.1 = C) : PreV s H C b (WPc D cl cI cJ cZ (.ref b :: As) wc sz) As := by
  subst hq
  have h2 : is.filterMap (fun i => W0[i]?) = wc := by
    have h3 : is.filterMap (fun i => W0[i]?) = (is.map (fun i => W0[i]?)).filterMap id := by rw [List.filterMap_map]; rfl
    rw [h3, his, List.filterMap_map]
    exact List.filterMap_some
  exact ⟨WPc_blind, va_recv hK.1 hP hcl hr, fun U hU hW => ⟨rfl, by rw [hU]; exact hsz, by rw [hU]; exact hP.sub is h2, hK.moved hW.alike, (hD.sub is hnd his).weaken (fun _ _ _ _ => trivial)⟩⟩
theorem wr_preS {A : Nat → Prop} {sz : Nat} (hK : KK D cl cI cJ cZ s) (hP : va_P D cl W0 H) (hD : va_D A W0) (is : List Nat) (his : is.map (fun i => W0[i]?) = wc.map some) (hnd : va_nd is = true) (hsz : H.size = sz) : PreS s H (WPc D cl cI cJ cZ As wc sz) As := by
  have h2 : is.filterMap (fun i => W0[i]?) = wc := by
    have h3 : is.filterMap (fun i => W0[i]?) = (is.map (fun i => W0[i]?)).filterMap id := by rw [List.filterMap_map]; rfl
    rw [h3, his, List.filterMap_map]
    exact List.filterMap_some
  exact ⟨WPc_blind, fun U hU hW => ⟨rfl, by rw [hU]; exact hsz, by rw [hU]; exact hP.sub is h2, hK.moved hW.alike, (hD.sub is hnd his).weaken (fun _ _ _ _ => trivial)⟩⟩
variable {pc : Nat} {ls : Array Slot} {rest st0 : List Value} {a : Array Value}
/-- behind a reader's call nothing has changed -/
theorem rd_call {v : Option Value} (hr : va_Run p l e R s m args below meth c H locs cells slots 0 0 (F0 m pc ls st0) rest (RQ v a) (fun _ => False))
    (kk : W p l e R s m args below meth c H locs cells slots Q (F0 m (pc + 3) ls (v.toList ++ rest))) : W p l e R s m args below meth c H locs cells slots Q (F0 m pc ls st0) := by
  intro T hT X
  obtain ⟨v', st₀, t, T', L, h0, X', hL, e1, e2, ⟨hv, hh⟩, st⟩ := hr T hT X
  cases hv
  cases L with
  | cons q L => exact (hL q List.mem_cons_self).elim
  | nil =>
    rw [List.append_nil] at X'
    obtain ⟨t2, a1, b1⟩ := kk T' (by rw [e1, hh, h0]) X'
    exact ⟨t2, st t2 a1, b1⟩
theorem map_fm {α : Type} {ws : List α} {is : List Nat} (h : is.all (fun i => Nat.blt i ws.length) = true) : is.map (fun i => ws[i]?) = (is.filterMap (fun i => ws[i]?)).map some := by
  induction is with
  | nil => rfl
  | cons i is ih =>
    rw [List.all_cons, Bool.and_eq_true] at h
    have hi : i < ws.length := Nat.le_of_ble_eq_true h.1
    rw [List.map_cons, List.filterMap_cons, List.getElem?_eq_getElem hi, List.map_cons, ih h.2]
/-- behind a writer's call: its cells anew, the others as they were, all in their order -/
theorem wr_call {v : Option Value} {A0 : Nat → Prop} {H0 : Heap} {ws wc w1 ws' : va_W} {mc ms : Nat} (hr : va_Run p l e R s m args below meth c H locs cells slots mc ms (F0 m pc ls st0) rest (WQ D cl v w1 (va_A wc H.size) a) (va_A wc H.size))
    (hP : va_P D cl ws H) (hD : va_D A0 ws) (hS : va_S A0 H0 H locs) (hA : ∀ q : Nat, H0.size ≤ q → A0 q) (isC isR : List Nat) (hC : isC.map (fun i => ws[i]?) = wc.map some) (hR : isR.all (fun i => Nat.blt i ws.length) = true) (hn : va_nd isR = true) (hdis : ∀ i ∈ isR, i ∉ isC)
    (pm : List Nat) (hpn : va_nd pm = true) (hpm : pm.map (fun i => (isR.filterMap (fun i => ws[i]?) ++ w1)[i]?) = ws'.map some)
    (kk : ∀ (H1 : Heap) (locs1 : List Loc), va_P D cl ws' H1 → va_D A0 ws' → va_S A0 H0 H1 locs1 → W p l e R s m args below meth c H1 locs1 (cells + mc) (slots + ms) Q (F0 m (pc + 3) ls (v.toList ++ rest))) : W p l e R s m args below meth c H locs cells slots Q (F0 m pc ls st0) := by
  have hF := va_free (wc := wc) hD hS hA isC hC
  obtain ⟨wr, hwr⟩ : ∃ w, w = isR.filterMap (fun i => ws[i]?) := ⟨_, rfl⟩
  have hR2 : isR.map (fun i => ws[i]?) = wr.map some := by rw [hwr]; exact map_fm hR
  rw [← hwr] at hpm
  intro T hT X
  obtain ⟨v', st₀, t, T', L, h0, X', hL, e1, e2, ⟨hv, hP1, hD1, hz, hk⟩, st⟩ := hr T hT X
  cases hv
  rw [h0] at hz hk
  obtain ⟨hPj, hDj⟩ := va_join hP hD isC isR hC hR2 hn hdis (fun q h1 h2 => by exact hk q h1 h2) hF hP1 hD1
  have h2 : pm.filterMap (fun i => (wr ++ w1)[i]?) = ws' := by
    have h3 : pm.filterMap (fun i => (wr ++ w1)[i]?) = (pm.map (fun i => (wr ++ w1)[i]?)).filterMap id := by rw [List.filterMap_map]; rfl
    rw [h3, hpm, List.filterMap_map]
    exact List.filterMap_some
  obtain ⟨t2, a1, b1⟩ := kk T'.heap (locs ++ L) (by rw [e1]; exact hPj.sub pm h2) (hDj.sub pm hpn hpm)
    ⟨Nat.le_trans hS.1 (by rw [e1]; exact hz), fun q h1 h2 => by rw [e1, hk q (Nat.lt_of_lt_of_le h1 hS.1) (fun z => h2 (hF q z))]; exact hS.2.1 q h1 h2, fun q hq => by
      rcases List.mem_append.mp hq with h | h
      · exact hS.2.2 q h
      · exact hF _ (hL q h)⟩ T' rfl X'
  exact ⟨t2, st t2 a1, b1⟩
end OWN1
theorem GB {z : Cond} (hz : z ∈ BG) : GoodIn BG (z :: BG) := fun w h => by
  rcases List.mem_cons.mp h with h | h
  · rw [h]
    exact ⟨hz, good_of_word (List.mem_filter.mp hz).2⟩
  · exact ⟨h, good_of_word (List.mem_filter.mp h).2⟩
section OWN2
variable {R : Room} {s : State} {args : Array Value} {own C : String} {index maxL mc ms : Nat} {y : MethodName} {bytes : ByteArray} {ret : Option FieldType} {rm : Room}
theorem bigV (n : Nat) (ht : ∀ w ∈ BG, w.before args s = true) (k1 : Cond.methodLink own index y ∈ BG) (k2 : Cond.instanceMethod y ∈ BG) (k3 : Cond.selects C y y ∈ BG) (k4 : Cond.initialized y.cls ∈ BG) (k5 : Cond.code y bytes maxL ret ∈ BG) (hrc : rm.cells = mc) (hrs : rm.slots = ms)
    (hd : y.cls ≠ "java/lang/invoke/MethodHandle" ∧ y.cls ≠ "java/lang/invoke/VarHandle" ∧ (parseMethodDescriptor y.desc).map (fun d => d.parameters.length) = some n) (hR : rm.frames + 1 ≤ R.frames ∧ 8 + (maxL + 11) + rm.locals ≤ R.locals) :
    CallW R s args own C index y bytes maxL ret (Cond.code y bytes maxL ret :: BG) rm mc ms n :=
  ⟨callB_of n ht (GB k5) rfl hrc hrs (ht _ k4) (ht _ k1) hd hR, ht _ k2, ht _ k3⟩
theorem bigS (n : Nat) (ht : ∀ w ∈ BG, w.before args s = true) (k1 : Cond.methodLink own index y ∈ BG) (k2 : Cond.static y ∈ BG) (k4 : Cond.initialized y.cls ∈ BG) (k5 : Cond.code y bytes maxL ret ∈ BG) (hrc : rm.cells = mc) (hrs : rm.slots = ms)
    (hd : y.cls ≠ "java/lang/invoke/MethodHandle" ∧ y.cls ≠ "java/lang/invoke/VarHandle" ∧ (parseMethodDescriptor y.desc).map (fun d => d.parameters.length) = some n) (hR : rm.frames + 1 ≤ R.frames ∧ 8 + (maxL + 11) + rm.locals ≤ R.locals) :
    CallB R s args own index y bytes maxL ret (Cond.code y bytes maxL ret :: BG) rm mc ms n ∧ (Cond.static y).before args s = true :=
  ⟨callB_of n ht (GB k5) rfl hrc hrs (ht _ k4) (ht _ k1) hd hR, ht _ k2⟩
end OWN2
theorem mth_min {s : State} {args : Array Value} (ht : ∀ w ∈ BG, w.before args s = true) (k : Cond.code ⟨"java/lang/Math", "min", "(II)I"⟩ prog_16_method_69_code 2 (some .int) ∈ BG) : (Cond.code Lib.Math.min.name Lib.Math.min.code 2 (some .int)).before args s = true := by
  rw [show Lib.Math.min.code = prog_16_method_69_code by decide +kernel]
  exact ht _ k
theorem mth_max {s : State} {args : Array Value} (ht : ∀ w ∈ BG, w.before args s = true) (k : Cond.code ⟨"java/lang/Math", "max", "(II)I"⟩ prog_16_method_65_code 2 (some .int) ∈ BG) : (Cond.code Lib.Math.max.name Lib.Math.max.code 2 (some .int)).before args s = true := by
  rw [show Lib.Math.max.code = prog_16_method_65_code by decide +kernel]
  exact ht _ k
