def kd (h : Nat) : Nat := if h < 30 then 0 else if h < 38 then 1 else 2
def wh (h : Nat) : Nat := if h < 30 then h else if h < 38 then h - 30 else h - 38
theorem kd_wh {g h : Nat} (e1 : kd g = kd h) (e2 : wh g = wh h) : g = h := by
  unfold kd at e1
  unfold wh at e2
  by_cases a : g < 30 <;> by_cases b : h < 30 <;> by_cases c : g < 38 <;> by_cases d : h < 38 <;> simp only [a, b, c, d, if_true, if_false] at e1 e2 <;> omega
theorem kd_lt (h : Nat) : kd h < 3 := by
  unfold kd
  split
  · omega
  · split <;> omega
theorem wh_lt {h : Nat} (hh : h < 42) : wh h < 30 := by
  unfold wh
  split
  · omega
  · split <;> omega
def hdQ (k w a b c : Int32) : Int32 := ((((((((k + ((3 : Int32) * w)) + ((97 : Int32) * a)) + ((1021 : Int32) * b)) + ((3571 : Int32) * c))) - ((((k + ((3 : Int32) * w)) + ((97 : Int32) * a)) + ((1021 : Int32) * b)) + ((3571 : Int32) * c)) / (4096 : Int32) * (4096 : Int32)) + (4096 : Int32)) &&& (4095 : Int32))
theorem headOf_eq (k w a b c : Int32) : f_Q_headOf k w a b c = some (hdQ k w a b c) := rfl
theorem hdQ_in (k w a b c : Int32) : ∃ j, j < 4096 ∧ hdQ k w a b c = nI j := pk_andE _ 12 (by decide)
def hdA (Q_kinds Q_which Q_firsts Q_seconds Q_thirds : Nat → Int32) (u : Nat) : Int32 := hdQ (Q_kinds u) (Q_which u) (Q_firsts u) (Q_seconds u) (Q_thirds u)
def keyQ (Q_kinds Q_which Q_firsts Q_seconds Q_thirds : Nat → Int32) (k w a b c : Int32) (u : Nat) : Bool := decide (Q_kinds u = k ∧ Q_which u = w ∧ Q_firsts u = a ∧ Q_seconds u = b ∧ Q_thirds u = c)
def chnQ (n : Nat) (Q_kinds Q_which Q_firsts Q_seconds Q_thirds Q_nexts Q_heads : Nat → Int32) : Prop :=
  (∀ b : Nat, b < 4096 → Q_heads b = oI (lst (fun u => decide (hdA Q_kinds Q_which Q_firsts Q_seconds Q_thirds u = nI b)) n)) ∧
  (∀ t, t < n → Q_nexts t = oI (lst (fun u => decide (hdA Q_kinds Q_which Q_firsts Q_seconds Q_thirds u = hdA Q_kinds Q_which Q_firsts Q_seconds Q_thirds t)) t))
/-- the reference's cells hold the table -/
def QTb (tt : Nat → Tm) (n : Nat) (Q_all : Int32) (Q_kinds Q_which Q_firsts Q_seconds Q_thirds Q_nexts Q_heads : Nat → Int32) : Prop :=
  Q_all = nI n ∧ n ≤ 101100 ∧ chnQ n Q_kinds Q_which Q_firsts Q_seconds Q_thirds Q_nexts Q_heads ∧
  (∀ t, t < n → ∀ h, tt t [] = h + 1 → Q_kinds t = nI (kd h) ∧ Q_which t = nI (wh h)) ∧
  (∀ t, t < n → rf tt t (Q_firsts t) (chT 0 (tt t)) ∧ rf tt t (Q_seconds t) (chT 1 (tt t)) ∧ rf tt t (Q_thirds t) (chT 2 (tt t)))
theorem ite5 {α : Type} {c1 c2 c3 c4 c5 : Prop} [Decidable c1] [Decidable c2] [Decidable c3] [Decidable c4] [Decidable c5] {x y : α} : (if c1 then (if c2 then (if c3 then (if c4 then (if c5 then x else y) else y) else y) else y) else y) = if c1 ∧ c2 ∧ c3 ∧ c4 ∧ c5 then x else y := by
  by_cases h1 : c1 <;> by_cases h2 : c2 <;> by_cases h3 : c3 <;> by_cases h4 : c4 <;> by_cases h5 : c5 <;> simp [h1, h2, h3, h4, h5]
section
variable {tt : Nat → Tm} {n : Nat} {ar : Nat → Int32} {sz : Nat → Nat} {Q_all : Int32} {Q_kinds Q_which Q_firsts Q_seconds Q_thirds Q_nexts Q_heads Q_names Q_variables Q_holes Q_sizes : Nat → Int32}
/-- down a chain of the reference: it comes to the first that has the key, or to the chain's end -/
theorem qmake_loop (hn : n ≤ 101100) (hch : chnQ n Q_kinds Q_which Q_firsts Q_seconds Q_thirds Q_nexts Q_heads) (k w a b c most h : Int32) : ∀ m, m ≤ n → ∀ fuel, m < fuel → ∃ f,
    f_Q_make_L21 fuel Q_all Q_kinds Q_which Q_firsts Q_seconds Q_thirds Q_nexts Q_heads Q_names Q_variables Q_holes Q_sizes k w a b c most h (oI (lst (fun u => decide (hdA Q_kinds Q_which Q_firsts Q_seconds Q_thirds u = hdQ k w a b c)) m)) =
    match lst (keyQ Q_kinds Q_which Q_firsts Q_seconds Q_thirds k w a b c) m with
    | some u => some (nI u, Q_all, Q_kinds, Q_which, Q_firsts, Q_seconds, Q_thirds, Q_nexts, Q_heads, Q_names, Q_variables, Q_holes, Q_sizes)
    | none => f_Q_make_L21 (f + 1) Q_all Q_kinds Q_which Q_firsts Q_seconds Q_thirds Q_nexts Q_heads Q_names Q_variables Q_holes Q_sizes k w a b c most h (-1) := by
  intro m
  induction m using Nat.strongRecOn with
  | ind m ih =>
    intro hm fuel hf
    obtain ⟨f, rfl⟩ : ∃ f, fuel = f + 1 := ⟨fuel - 1, by omega⟩
    have hKP : ∀ v, (fun u => decide (hdA Q_kinds Q_which Q_firsts Q_seconds Q_thirds u = hdQ k w a b c)) v = false → keyQ Q_kinds Q_which Q_firsts Q_seconds Q_thirds k w a b c v = false := by
      intro v hv
      have hv2 := of_decide_eq_false hv
      refine decide_eq_false (fun hk => hv2 ?_)
      obtain ⟨e1, e2, e3, e4, e5⟩ := hk
      unfold hdA
      rw [e1, e2, e3, e4, e5]
    cases hl : lst (fun u => decide (hdA Q_kinds Q_which Q_firsts Q_seconds Q_thirds u = hdQ k w a b c)) m with
    | none =>
      have hk : lst (keyQ Q_kinds Q_which Q_firsts Q_seconds Q_thirds k w a b c) m = none := by
        rw [lst_skip (u := 0) (by omega) (fun v _ h2 => hKP v (lst_none hl v h2))]
        rfl
      rw [hk]
      exact ⟨f, rfl⟩
    | some u =>
      obtain ⟨hu, hpu, hgt⟩ := lst_some hl
      have hpu2 : hdA Q_kinds Q_which Q_firsts Q_seconds Q_thirds u = hdQ k w a b c := of_decide_eq_true hpu
      rw [show oI (some u) = nI u from rfl]
      by_cases hk : (Q_kinds u = k ∧ Q_which u = w ∧ Q_firsts u = a ∧ Q_seconds u = b ∧ Q_thirds u = c)
      · rw [lst_at hu (decide_eq_true hk) (fun v h1 h2 => hKP v (hgt v h1 h2))]
        refine ⟨f, ?_⟩
        rw [f_Q_make_L21, if_neg (nI_nm1 (by omega))]
        simp (disch := omega) only [ixb_t, gd_tt, nI_clamp]
        rw [ite5, if_pos hk]
      · obtain ⟨f', hf'⟩ := ih u hu (by omega) f (by omega)
        refine ⟨f', ?_⟩
        rw [f_Q_make_L21, if_neg (nI_nm1 (by omega))]
        simp (disch := omega) only [ixb_t, gd_tt, nI_clamp]
        rw [ite5, if_neg hk]
        simp (disch := omega) only [f_Q_make_B87, nmE, ixb_t, gd_tt, nI_clamp]
        rw [hch.2 u (by omega), hpu2, hf']
        rw [lst_skip (m := m) (u := u) (by omega) (fun v h1 h2 => ?_)]
        by_cases he : v = u
        · rw [he]; exact decide_eq_false hk
        · exact hKP v (hgt v (by omega) h2)
theorem qkey_iff (w : WF tt n ar) (qt : QTb tt n Q_all Q_kinds Q_which Q_firsts Q_seconds Q_thirds Q_nexts Q_heads) {h : Nat} {C : Fin 3 → Tm} {a b c : Int32} (hh : h < 42) (ha : rf tt n a (C 0)) (hb : rf tt n b (C 1)) (hc : rf tt n c (C 2)) {u : Nat} (hu : u < n) :
    keyQ Q_kinds Q_which Q_firsts Q_seconds Q_thirds (nI (kd h)) (nI (wh h)) a b c u = true ↔ tt u = mkT h C := by
  obtain ⟨-, hn, -, hhd, hpl⟩ := qt
  have p0 : rf tt n (Q_firsts u) (chT 0 (tt u)) := rf_mono (by omega) (hpl u hu).1
  have p1 : rf tt n (Q_seconds u) (chT 1 (tt u)) := rf_mono (by omega) (hpl u hu).2.1
  have p2 : rf tt n (Q_thirds u) (chT 2 (tt u)) := rf_mono (by omega) (hpl u hu).2.2
  obtain ⟨g, hg, eg, -, -⟩ := w.2.1 u hu
  have hhu := hhd u hu g eg
  have := kd_lt g
  have := kd_lt h
  have := wh_lt hg
  have := wh_lt hh
  constructor
  · intro hk
    obtain ⟨e0, e1, e2, e3, e4⟩ := of_decide_eq_true hk
    have egh : g = h := kd_wh (nI_inj (by omega) (by omega) (hhu.1.symm.trans e0)) (nI_inj (by omega) (by omega) (hhu.2.symm.trans e1))
    refine Tm_ext (by rw [eg, egh]; rfl) (fin3 ?_ ?_ ?_)
    · rw [e2] at p0; exact rf_val (by omega) p0 ha
    · rw [e3] at p1; exact rf_val (by omega) p1 hb
    · rw [e4] at p2; exact rf_val (by omega) p2 hc
  · intro e
    rw [e] at p0 p1 p2 eg
    have egh : g = h := by rw [mkT_nil] at eg; omega
    exact decide_eq_true ⟨by rw [hhu.1, egh], by rw [hhu.2, egh], rf_uni w p0 ha, rf_uni w p1 hb, rf_uni w p2 hc⟩
theorem qmake_old (w : WF tt n ar) (qt : QTb tt n Q_all Q_kinds Q_which Q_firsts Q_seconds Q_thirds Q_nexts Q_heads) {h : Nat} {C : Fin 3 → Tm} {a b c : Int32} (hh : h < 42) (ha : rf tt n a (C 0)) (hb : rf tt n b (C 1)) (hc : rf tt n c (C 2)) (most : Int32) {u : Nat} (hu : u < n) (hT : tt u = mkT h C) :
    f_Q_make Q_all Q_kinds Q_which Q_firsts Q_seconds Q_thirds Q_nexts Q_heads Q_names Q_variables Q_holes Q_sizes (nI (kd h)) (nI (wh h)) a b c most = some (nI u, Q_all, Q_kinds, Q_which, Q_firsts, Q_seconds, Q_thirds, Q_nexts, Q_heads, Q_names, Q_variables, Q_holes, Q_sizes) := by
  obtain ⟨j, hj, ej⟩ := hdQ_in (nI (kd h)) (nI (wh h)) a b c
  obtain ⟨f, hf⟩ := qmake_loop (Q_all := Q_all) (Q_names := Q_names) (Q_variables := Q_variables) (Q_holes := Q_holes) (Q_sizes := Q_sizes) qt.2.1 qt.2.2.1 (nI (kd h)) (nI (wh h)) a b c most (nI j) n (by omega) FU (by have := qt.2.1; unfold FU; omega)
  unfold f_Q_make
  rw [headOf_eq, bd_s, ej]
  simp (disch := omega) only [nmE, ixb_t, gd_tt, nI_clamp]
  rw [ej] at hf
  rw [qt.2.2.1.1 j hj, hf, lst_at hu ((qkey_iff w qt hh ha hb hc hu).mpr hT) (fun v h1 h2 => ?_)]
  cases hv : keyQ Q_kinds Q_which Q_firsts Q_seconds Q_thirds (nI (kd h)) (nI (wh h)) a b c v with
  | false => rfl
  | true =>
    have := (qkey_iff w qt hh ha hb hc h2).mp hv
    have := w.1 v h2 u hu (this.trans hT.symm)
    omega
end
