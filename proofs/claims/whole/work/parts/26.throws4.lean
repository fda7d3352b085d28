/-- a cell that isn't the method's own stays -/
theorem keepS {A : Nat → Prop} {H0 H : Heap} {locs : List Loc} {aS : Nat} {cS : Cell} (hS : va_S A H0 H locs) (h : H0[aS]? = some cS) (hn : ¬ A aS) : H[aS]? = some cS := by
  rw [hS.2.1 aS (Array.getElem?_eq_some_iff.mp h).1 hn]
  exact h
theorem qt_of {D : va_G} {cl : List vw_C} {tag : Nat} {w1 : (Nat → Nat) → va_W} {A : Nat → Prop} {E : String} {s t : State} {H : Heap} {locs : List Loc} (h0 : ¬ tag = 0) (hE : E = exn tag) (as : Nat → Nat) (hP : va_P D cl (w1 as) H) (hD : va_D A (w1 as)) (hS : va_S A s.heap H locs) (h1 : H.size ≤ t.heap.size) (h2 : ∀ q : Nat, q < H.size → t.heap[q]? = H[q]?) : QT D cl tag w1 A E s t :=
  ⟨h0, hE, as, hP.kept (fun k q hk => h2 q.1 (hP k q hk).lt), hD, Nat.le_trans hS.1 h1, fun q g1 g2 => (h2 q (Nat.lt_of_lt_of_le g1 hS.1)).trans (hS.2.1 q g1 g2)⟩
/-- a throw's words are there -/
theorem ats_of {own cls : String} {ic : Nat} {names : List String} (h : (Bundle.ownAtoms own ic cls names).all (fun w => decide (w ∈ BG) || decide (w ∈ XWs)) = true) : ∀ w ∈ Bundle.ownAtoms own ic cls names, w ∈ BG ∨ w ∈ XWs := fun w hw => by
  have h2 := List.all_eq_true.mp h w hw
  rw [Bool.or_eq_true] at h2
  rcases h2 with h2 | h2
  · exact Or.inl (of_decide_eq_true h2)
  · exact Or.inr (of_decide_eq_true h2)
set_option maxRecDepth 100000 in
theorem at_1 : ∀ w ∈ Bundle.ownAtoms "ShapeSearch" 83 "java/lang/IndexOutOfBoundsException" ["java/lang/RuntimeException", "java/lang/Exception"], w ∈ BG ∨ w ∈ XWs := ats_of (by decide +kernel)
set_option maxRecDepth 100000 in
theorem at_2 : ∀ w ∈ Bundle.ownAtoms "ShapeSearch" 90 "java/lang/IllegalArgumentException" ["java/lang/RuntimeException", "java/lang/Exception"], w ∈ BG ∨ w ∈ XWs := ats_of (by decide +kernel)
set_option maxRecDepth 100000 in
theorem at_3 : ∀ w ∈ Bundle.ownAtoms "ShapeSearch" 99 "java/lang/IllegalStateException" ["java/lang/RuntimeException", "java/lang/Exception"], w ∈ BG ∨ w ∈ XWs := ats_of (by decide +kernel)
set_option maxRecDepth 100000 in
theorem at_4 : ∀ w ∈ Bundle.ownAtoms "ShapeSearch" 253 "java/lang/UnsupportedOperationException" ["java/lang/RuntimeException", "java/lang/Exception"], w ∈ BG ∨ w ∈ XWs := ats_of (by decide +kernel)
