def bB (lo len : Nat) (x : Int32) (T : Tm) : Prop := ∀ i, i < 32 → (x.toBitVec.getLsbD i = true ↔ (i < len ∧ std T (lo + i)))
/-- the rows that tell of each term -/
def QK (tt : Nat → Tm) (n : Nat) (sz : Nat → Nat) (Q_names Q_variables Q_holes Q_sizes : Nat → Int32) : Prop :=
  ∀ t, t < n → bB 0 30 (Q_names t) (tt t) ∧ bB 30 8 (Q_variables t) (tt t) ∧ bB 38 4 (Q_holes t) (tt t) ∧ Q_sizes t = nI (sz t) ∧ sz t ≤ 1000000
def pB (lo len : Nat) (x : Int32) (h : Nat) (C : Fin 3 → Tm) (k : Nat) : Prop := ∀ i, i < 32 → (x.toBitVec.getLsbD i = true ↔ (i < len ∧ (lo + i = h ∨ ∃ j : Fin 3, j.val < k ∧ std (C j) (lo + i))))
def zsum (sz : Nat → Nat) (xp : Nat → Int32) : Nat → Nat
  | 0 => 1
  | k + 1 => min 1000000 (zsum sz xp k + szo sz (xp k))
theorem zsum_le (sz : Nat → Nat) (xp : Nat → Int32) (k : Nat) : zsum sz xp k ≤ 1000000 := by
  cases k with
  | zero => simp [zsum]
  | succ k => simp only [zsum]; omega
theorem shl32 : ∀ w : Nat, w < 30 → ∀ i : Nat, i < 32 → ((1 : Int32) <<< ((nI w) &&& (31 : Int32))).toBitVec.getLsbD i = decide (i = w) := by decide +kernel
theorem pB_or {lo len : Nat} {x y : Int32} {h : Nat} {C : Fin 3 → Tm} {k : Fin 3} (hx : pB lo len x h C k.val) (hy : bB lo len y (C k)) : pB lo len (x ||| y) h C (k.val + 1) := by
  intro i hi
  rw [Int32.toBitVec_or, BitVec.getLsbD_or, Bool.or_eq_true, hx i hi, hy i hi]
  constructor
  · rintro (⟨h1, h2 | ⟨j, h3, h4⟩⟩ | ⟨h1, h2⟩)
    · exact ⟨h1, Or.inl h2⟩
    · exact ⟨h1, Or.inr ⟨j, by omega, h4⟩⟩
    · exact ⟨h1, Or.inr ⟨k, by omega, h2⟩⟩
  · rintro ⟨h1, h2 | ⟨j, h3, h4⟩⟩
    · exact Or.inl ⟨h1, Or.inl h2⟩
    · by_cases e : j.val = k.val
      · have e2 : j = k := Fin.ext e
        rw [e2] at h4
        exact Or.inr ⟨h1, h4⟩
      · exact Or.inl ⟨h1, Or.inr ⟨j, by omega, h4⟩⟩
theorem pB_nil {lo len : Nat} {x : Int32} {h : Nat} {C : Fin 3 → Tm} {k : Fin 3} (hx : pB lo len x h C k.val) (hy : C k = nilT) : pB lo len x h C (k.val + 1) := by
  intro i hi
  rw [hx i hi]
  constructor
  · rintro ⟨h1, h2 | ⟨j, h3, h4⟩⟩
    · exact ⟨h1, Or.inl h2⟩
    · exact ⟨h1, Or.inr ⟨j, by omega, h4⟩⟩
  · rintro ⟨h1, h2 | ⟨j, h3, h4⟩⟩
    · exact ⟨h1, Or.inl h2⟩
    · by_cases e : j.val = k.val
      · have e2 : j = k := Fin.ext e
        rw [e2, hy] at h4
        exact absurd h4 (std_nil _)
      · exact ⟨h1, Or.inr ⟨j, by omega, h4⟩⟩
theorem pB_end {lo len : Nat} {x : Int32} {h : Nat} {C : Fin 3 → Tm} (hx : pB lo len x h C 3) : bB lo len x (mkT h C) := by
  intro i hi
  rw [hx i hi, std_mk]
  constructor
  · rintro ⟨h1, h2 | ⟨j, -, h4⟩⟩
    · exact ⟨h1, Or.inl h2⟩
    · exact ⟨h1, Or.inr ⟨j, h4⟩⟩
  · rintro ⟨h1, h2 | ⟨j, h4⟩⟩
    · exact ⟨h1, Or.inl h2⟩
    · exact ⟨h1, Or.inr ⟨j, j.isLt, h4⟩⟩
theorem pB_0 {lo len h : Nat} {C : Fin 3 → Tm} (hn : ∀ i, i < len → lo + i ≠ h) : pB lo len 0 h C 0 := by
  intro i hi
  constructor
  · intro e; simp at e
  · rintro ⟨h1, h2 | ⟨j, h3, -⟩⟩
    · exact absurd h2 (hn i h1)
    · omega
theorem pB_1 {lo len h w : Nat} {C : Fin 3 → Tm} (hw : w < 30) (hl : w < len) (e : lo + w = h) : pB lo len ((1 : Int32) <<< ((nI w) &&& (31 : Int32))) h C 0 := by
  intro i hi
  rw [shl32 w hw i hi, decide_eq_true_eq]
  constructor
  · intro e2; exact ⟨by omega, Or.inl (by omega)⟩
  · rintro ⟨h1, h2 | ⟨j, h3, -⟩⟩
    · omega
    · omega
def tlS (tt : Nat → Tm) (n : Nat) (sz : Nat → Nat) (h : Nat) (C : Fin 3 → Tm) (xp : Nat → Int32) (k : Nat) (Q_names Q_variables Q_holes Q_sizes : Nat → Int32) : Prop :=
  QK tt n sz Q_names Q_variables Q_holes Q_sizes ∧ pB 0 30 (Q_names n) h C k ∧ pB 30 8 (Q_variables n) h C k ∧ pB 38 4 (Q_holes n) h C k ∧ Q_sizes n = nI (zsum sz xp k)
section
variable {tt : Nat → Tm} {n : Nat} {ar : Nat → Int32} {sz : Nat → Nat} {Q_all : Int32} {Q_kinds Q_which Q_firsts Q_seconds Q_thirds Q_nexts Q_heads Q_names Q_variables Q_holes Q_sizes : Nat → Int32}
theorem tell_step (hn : n < 100) {h : Nat} {C : Fin 3 → Tm} {xp : Nat → Int32} {k : Fin 3} (hpart : f_Q_part Q_firsts Q_seconds Q_thirds (nI n) (nI k.val) = some (xp k.val)) (hr : rf tt n (xp k.val) (C k)) (hs : tlS tt n sz h C xp k.val Q_names Q_variables Q_holes Q_sizes) (f : Nat) :
    ∃ Q_names' Q_variables' Q_holes' Q_sizes', f_Q_tell_L92 Q_kinds Q_which Q_firsts Q_seconds Q_thirds (f + 1) Q_names Q_variables Q_holes Q_sizes (nI n) (nI k.val) = f_Q_tell_L92 Q_kinds Q_which Q_firsts Q_seconds Q_thirds f Q_names' Q_variables' Q_holes' Q_sizes' (nI n) (nI (k.val + 1)) ∧ tlS tt n sz h C xp (k.val + 1) Q_names' Q_variables' Q_holes' Q_sizes' := by
  obtain ⟨hq, h1, h2, h3, h4⟩ := hs
  have hk := k.isLt
  have hz := zsum_le sz xp k.val
  rw [f_Q_tell_L92, if_neg (show ¬ (3 : Int32) ≤ nI k.val from (nI_ge hk (by omega) : ¬ nI 3 ≤ nI k.val)), hpart, bd_s]
  rcases hr with ⟨e, e2⟩ | ⟨u, hu, e, e2⟩
  · rw [e, if_pos rfl, nmE, nI_1]
    refine ⟨_, _, _, _, rfl, hq, pB_nil h1 e2, pB_nil h2 e2, pB_nil h3 e2, ?_⟩
    rw [h4, zsum, szo, e, if_pos rfl, Nat.add_zero, Nat.min_eq_right hz]
  · obtain ⟨q1, q2, q3, q4, q5⟩ := hq u hu
    rw [e2] at q1 q2 q3
    rw [e, if_neg (nI_nm1 (by omega))]
    simp (disch := omega) only [nmE, nI_1, ixb_t, gd_tt, nI_clamp]
    rw [h4, q4, nI_add]
    have hun : ∀ t, t < n → t ≠ n := fun t ht => by omega
    have hzs : zsum sz xp (k.val + 1) = min 1000000 (zsum sz xp k.val + sz u) := by
      rw [zsum, szo, e, if_neg (nI_nm1 (by omega)), nI_clamp (by omega)]
    by_cases c : zsum sz xp k.val + sz u ≤ 1000000
    · rw [if_pos (show nI (zsum sz xp k.val + sz u) ≤ (1000000 : Int32) from ((nI_leI (by omega) (by omega)).mpr c : _ ≤ nI 1000000))]
      refine ⟨_, _, _, _, rfl, ?_, ?_, ?_, ?_, ?_⟩
      · intro t ht
        rw [up_n (hun t ht), up_n (hun t ht), up_n (hun t ht), up_n (hun t ht)]
        exact hq t ht
      · rw [up_s]; exact pB_or h1 q1
      · rw [up_s]; exact pB_or h2 q2
      · rw [up_s]; exact pB_or h3 q3
      · rw [up_s, hzs, Nat.min_eq_right c]
    · rw [if_neg (show ¬ nI (zsum sz xp k.val + sz u) ≤ (1000000 : Int32) from (nI_ge (by omega) (by omega) : ¬ _ ≤ nI 1000000))]
      refine ⟨_, _, _, _, rfl, ?_, ?_, ?_, ?_, ?_⟩
      · intro t ht
        rw [up_n (hun t ht), up_n (hun t ht), up_n (hun t ht), up_n (hun t ht)]
        exact hq t ht
      · rw [up_s]; exact pB_or h1 q1
      · rw [up_s]; exact pB_or h2 q2
      · rw [up_s]; exact pB_or h3 q3
      · rw [up_s, hzs, Nat.min_eq_left (by omega)]; rfl
theorem tell_eq (hn : n < 100) {h : Nat} (hh : h < 42) {C : Fin 3 → Tm} {a b c : Int32} (ek : Q_kinds n = nI (kd h)) (ew : Q_which n = nI (wh h)) (e0 : Q_firsts n = a) (e1 : Q_seconds n = b) (e2 : Q_thirds n = c)
    (ha : rf tt n a (C 0)) (hb : rf tt n b (C 1)) (hc : rf tt n c (C 2)) (hq : QK tt n sz Q_names Q_variables Q_holes Q_sizes) :
    ∃ Q_names' Q_variables' Q_holes' Q_sizes', f_Q_tell Q_kinds Q_which Q_firsts Q_seconds Q_thirds Q_names Q_variables Q_holes Q_sizes (nI n) = some (Q_names', Q_variables', Q_holes', Q_sizes') ∧ QK (ext tt n (mkT h C)) (n + 1) (szn sz n (min 1000000 (1 + szo sz a + szo sz b + szo sz c))) Q_names' Q_variables' Q_holes' Q_sizes' := by
  have hloop : ∀ {Q_names1 Q_variables1 Q_holes1 Q_sizes1 : Nat → Int32}, tlS tt n sz h C (fun k => if k = 0 then a else if k = 1 then b else c) 0 Q_names1 Q_variables1 Q_holes1 Q_sizes1 →
      ∃ Q_names' Q_variables' Q_holes' Q_sizes', f_Q_tell_L92 Q_kinds Q_which Q_firsts Q_seconds Q_thirds FU Q_names1 Q_variables1 Q_holes1 Q_sizes1 (nI n) 0 = some (Q_names', Q_variables', Q_holes', Q_sizes') ∧ QK (ext tt n (mkT h C)) (n + 1) (szn sz n (min 1000000 (1 + szo sz a + szo sz b + szo sz c))) Q_names' Q_variables' Q_holes' Q_sizes' := by
    intro Q_names1 Q_variables1 Q_holes1 Q_sizes1 h0
    have p0 : f_Q_part Q_firsts Q_seconds Q_thirds (nI n) (nI 0) = some a := by
      unfold f_Q_part
      rw [if_pos nI_0]
      simp (disch := omega) only [ixb_t, gd_tt, nI_clamp]
      rw [e0]
    have p1 : f_Q_part Q_firsts Q_seconds Q_thirds (nI n) (nI 1) = some b := by
      unfold f_Q_part
      rw [if_neg (show ¬ nI 1 = 0 by decide), if_pos (show nI 1 = 1 by decide)]
      simp (disch := omega) only [ixb_t, gd_tt, nI_clamp]
      rw [e1]
    have p2 : f_Q_part Q_firsts Q_seconds Q_thirds (nI n) (nI 2) = some c := by
      unfold f_Q_part
      rw [if_neg (show ¬ nI 2 = 0 by decide), if_neg (show ¬ nI 2 = 1 by decide)]
      simp (disch := omega) only [ixb_t, gd_tt, nI_clamp]
      rw [e2]
    obtain ⟨N1, V1, H1, S1, s1, t1⟩ := tell_step (k := 0) (Q_kinds := Q_kinds) (Q_which := Q_which) hn p0 ha h0 999999999
    obtain ⟨N2, V2, H2, S2, s2, t2⟩ := tell_step (k := 1) (Q_kinds := Q_kinds) (Q_which := Q_which) hn p1 hb t1 999999998
    obtain ⟨N3, V3, H3, S3, s3, t3⟩ := tell_step (k := 2) (Q_kinds := Q_kinds) (Q_which := Q_which) hn p2 hc t2 999999997
    have s1' : f_Q_tell_L92 Q_kinds Q_which Q_firsts Q_seconds Q_thirds FU Q_names1 Q_variables1 Q_holes1 Q_sizes1 (nI n) 0 = f_Q_tell_L92 Q_kinds Q_which Q_firsts Q_seconds Q_thirds 999999999 N1 V1 H1 S1 (nI n) (nI 1) := s1
    have s2' : f_Q_tell_L92 Q_kinds Q_which Q_firsts Q_seconds Q_thirds 999999999 N1 V1 H1 S1 (nI n) (nI 1) = f_Q_tell_L92 Q_kinds Q_which Q_firsts Q_seconds Q_thirds 999999998 N2 V2 H2 S2 (nI n) (nI 2) := s2
    have s3' : f_Q_tell_L92 Q_kinds Q_which Q_firsts Q_seconds Q_thirds 999999998 N2 V2 H2 S2 (nI n) (nI 2) = f_Q_tell_L92 Q_kinds Q_which Q_firsts Q_seconds Q_thirds (999999996 + 1) N3 V3 H3 S3 (nI n) (nI 3) := s3
    refine ⟨N3, V3, H3, S3, ?_, ?_⟩
    · rw [s1', s2', s3', f_Q_tell_L92, if_pos (show (3 : Int32) ≤ nI 3 by decide)]
    · obtain ⟨hq3, b1, b2, b3, b4⟩ := t3
      intro t ht
      by_cases e : t = n
      · rw [e, ext_s, szn, if_pos rfl]
        refine ⟨pB_end b1, pB_end b2, pB_end b3, ?_, by omega⟩
        rw [b4]
        have z : zsum sz (fun k => if k = 0 then a else if k = 1 then b else c) ((2 : Fin 3).val + 1) = min 1000000 (min 1000000 (min 1000000 (1 + szo sz a) + szo sz b) + szo sz c) := rfl
        rw [z]
        congr 1
        omega
      · rw [ext_n e, szn, if_neg e]
        exact hq3 t (by omega)
  have hkd : kd h = 0 ∧ h < 30 ∧ wh h = h ∨ kd h = 1 ∧ 30 ≤ h ∧ h < 38 ∧ 30 + wh h = h ∨ kd h = 2 ∧ 38 ≤ h ∧ 38 + wh h = h := by
    unfold kd wh
    by_cases c1 : h < 30
    · left; simp [c1]
    · by_cases c2 : h < 38
      · right; left; simp [c1, c2]; omega
      · right; right; simp [c1, c2]; omega
  have hq' : ∀ (v1 v2 v3 v4 : Int32), QK tt n sz (upd Q_names n v1) (upd Q_variables n v2) (upd Q_holes n v3) (upd Q_sizes n v4) := by
    intro v1 v2 v3 v4 t ht
    rw [up_n (by omega), up_n (by omega), up_n (by omega), up_n (by omega)]
    exact hq t ht
  unfold f_Q_tell f_Q_tell_B26 f_Q_tell_B54 f_Q_tell_B82
  simp (disch := omega) only [nmE, ixb_t, gd_tt, nI_clamp]
  rw [ek, ew]
  rcases hkd with ⟨k1, k2, k3⟩ | ⟨k1, k2, k3, k4⟩ | ⟨k1, k2, k3⟩
  · rw [k1, if_pos nI_0, if_neg (show ¬ nI 0 = 1 by decide), if_neg (show ¬ nI 0 = 2 by decide)]
    refine hloop ⟨hq' _ _ _ _, ?_, ?_, ?_, by rw [up_s]; rfl⟩
    · rw [up_s]; exact pB_1 (by omega) (by omega) (by omega)
    · rw [up_s]; exact pB_0 (fun i hi => by omega)
    · rw [up_s]; exact pB_0 (fun i hi => by omega)
  · rw [k1, if_neg (show ¬ nI 1 = 0 by decide), if_pos (show nI 1 = 1 by decide), if_neg (show ¬ nI 1 = 2 by decide)]
    refine hloop ⟨hq' _ _ _ _, ?_, ?_, ?_, by rw [up_s]; rfl⟩
    · rw [up_s]; exact pB_0 (fun i hi => by omega)
    · rw [up_s]; exact pB_1 (by omega) (by omega) (by omega)
    · rw [up_s]; exact pB_0 (fun i hi => by omega)
  · rw [k1, if_neg (show ¬ nI 2 = 0 by decide), if_neg (show ¬ nI 2 = 1 by decide), if_pos (show nI 2 = 2 by decide)]
    refine hloop ⟨hq' _ _ _ _, ?_, ?_, ?_, by rw [up_s]; rfl⟩
    · rw [up_s]; exact pB_0 (fun i hi => by omega)
    · rw [up_s]; exact pB_0 (fun i hi => by omega)
    · rw [up_s]; exact pB_1 (by omega) (by omega) (by omega)
theorem hdA_old {a b c k w : Int32} {u : Nat} (hu : u < n) : hdA (upd Q_kinds n k) (upd Q_which n w) (upd Q_firsts n a) (upd Q_seconds n b) (upd Q_thirds n c) u = hdA Q_kinds Q_which Q_firsts Q_seconds Q_thirds u := by
  unfold hdA
  rw [up_n (by omega), up_n (by omega), up_n (by omega), up_n (by omega), up_n (by omega)]
theorem hdA_new {a b c k w : Int32} : hdA (upd Q_kinds n k) (upd Q_which n w) (upd Q_firsts n a) (upd Q_seconds n b) (upd Q_thirds n c) n = hdQ k w a b c := by
  unfold hdA
  rw [up_s, up_s, up_s, up_s, up_s]
theorem QTb.grow (qt : QTb tt n Q_all Q_kinds Q_which Q_firsts Q_seconds Q_thirds Q_nexts Q_heads) {h : Nat} {C : Fin 3 → Tm} {a b c : Int32} (ha : rf tt n a (C 0)) (hb : rf tt n b (C 1)) (hc : rf tt n c (C 2)) (hlt : n < 101100) {j : Nat} (hj : j < 4096) (ej : hdQ (nI (kd h)) (nI (wh h)) a b c = nI j) :
    QTb (ext tt n (mkT h C)) (n + 1) (nI (n + 1)) (upd Q_kinds n (nI (kd h))) (upd Q_which n (nI (wh h))) (upd Q_firsts n a) (upd Q_seconds n b) (upd Q_thirds n c) (upd Q_nexts n (Q_heads j)) (upd Q_heads j (nI n)) := by
  obtain ⟨hcnt, hn, hch, hhd, hpl⟩ := qt
  have E : ∀ t, t < n → ext tt n (mkT h C) t = tt t := ext_lt
  refine ⟨rfl, by omega, ⟨fun b' hb' => ?_, fun t ht => ?_⟩, fun t ht g hg => ?_, fun t ht => ?_⟩
  · rw [lst_succ]
    by_cases e : b' = j
    · rw [e, up_s, if_pos (decide_eq_true (by rw [hdA_new, ej]))]
      rfl
    · rw [up_n e, if_neg (by rw [hdA_new, ej]; simp only [decide_eq_true_eq]; exact fun e2 => e (nI_inj (by omega) (by omega) e2).symm), hch.1 b' hb']
      exact congrArg oI (lst_congr (fun u hu => by simp only [hdA_old hu]))
  · by_cases e : t = n
    · rw [e, up_s, hdA_new, ej, hch.1 j hj]
      exact congrArg oI (lst_congr (fun u hu => by simp only [hdA_old hu]))
    · rw [up_n e, hdA_old (by omega), hch.2 t (by omega)]
      exact congrArg oI (lst_congr (fun u hu => by simp only [hdA_old (show u < n by omega)]))
  · by_cases e : t = n
    · rw [e, up_s, up_s]
      rw [e, ext_s, mkT_nil] at hg
      rw [show h = g by omega]
      exact ⟨rfl, rfl⟩
    · rw [up_n e, up_n e]
      rw [E t (by omega)] at hg
      exact hhd t (by omega) g hg
  · by_cases e : t = n
    · rw [e, ext_s, up_s, up_s, up_s]
      exact ⟨rf_congr (tt := tt) E ha, rf_congr (tt := tt) E hb, rf_congr (tt := tt) E hc⟩
    · rw [up_n e, up_n e, up_n e, E t (by omega)]
      obtain ⟨h1, h2, h3⟩ := hpl t (by omega)
      exact ⟨rf_congr (fun u hu => E u (by omega)) h1, rf_congr (fun u hu => E u (by omega)) h2, rf_congr (fun u hu => E u (by omega)) h3⟩
theorem qseek_none (w : WF tt n ar) (qt : QTb tt n Q_all Q_kinds Q_which Q_firsts Q_seconds Q_thirds Q_nexts Q_heads) {h : Nat} {C : Fin 3 → Tm} {a b c : Int32} (hh : h < 42) (ha : rf tt n a (C 0)) (hb : rf tt n b (C 1)) (hc : rf tt n c (C 2)) (most : Int32) (hnew : ∀ u, u < n → tt u ≠ mkT h C) {j : Nat} (hj : j < 4096) (ej : hdQ (nI (kd h)) (nI (wh h)) a b c = nI j) :
    ∃ f, f_Q_make Q_all Q_kinds Q_which Q_firsts Q_seconds Q_thirds Q_nexts Q_heads Q_names Q_variables Q_holes Q_sizes (nI (kd h)) (nI (wh h)) a b c most = f_Q_make_L21 (f + 1) Q_all Q_kinds Q_which Q_firsts Q_seconds Q_thirds Q_nexts Q_heads Q_names Q_variables Q_holes Q_sizes (nI (kd h)) (nI (wh h)) a b c most (nI j) (-1) := by
  obtain ⟨f, hf⟩ := qmake_loop (Q_all := Q_all) (Q_names := Q_names) (Q_variables := Q_variables) (Q_holes := Q_holes) (Q_sizes := Q_sizes) qt.2.1 qt.2.2.1 (nI (kd h)) (nI (wh h)) a b c most (nI j) n (by omega) FU (by have := qt.2.1; unfold FU; omega)
  refine ⟨f, ?_⟩
  unfold f_Q_make
  rw [headOf_eq, bd_s, ej]
  simp (disch := omega) only [nmE, ixb_t, gd_tt, nI_clamp]
  rw [ej] at hf
  rw [qt.2.2.1.1 j hj, hf, lst_skip (u := 0) (by omega) (fun v _ h2 => ?_)]
  · rfl
  · cases hv : keyQ Q_kinds Q_which Q_firsts Q_seconds Q_thirds (nI (kd h)) (nI (wh h)) a b c v with
    | false => rfl
    | true => exact absurd ((qkey_iff w qt hh ha hb hc h2).mp hv) (hnew v h2)
theorem qmake_full (w : WF tt n ar) (qt : QTb tt n Q_all Q_kinds Q_which Q_firsts Q_seconds Q_thirds Q_nexts Q_heads) {h : Nat} {C : Fin 3 → Tm} {a b c : Int32} (hh : h < 42) (ha : rf tt n a (C 0)) (hb : rf tt n b (C 1)) (hc : rf tt n c (C 2)) (hnew : ∀ u, u < n → tt u ≠ mkT h C) :
    f_Q_make Q_all Q_kinds Q_which Q_firsts Q_seconds Q_thirds Q_nexts Q_heads Q_names Q_variables Q_holes Q_sizes (nI (kd h)) (nI (wh h)) a b c (nI n) = some (-1, Q_all, Q_kinds, Q_which, Q_firsts, Q_seconds, Q_thirds, Q_nexts, Q_heads, Q_names, Q_variables, Q_holes, Q_sizes) := by
  obtain ⟨j, hj, ej⟩ := hdQ_in (nI (kd h)) (nI (wh h)) a b c
  obtain ⟨f, hf⟩ := qseek_none (Q_names := Q_names) (Q_variables := Q_variables) (Q_holes := Q_holes) (Q_sizes := Q_sizes) w qt hh ha hb hc (nI n) hnew hj ej
  rw [hf, f_Q_make_L21, if_pos rfl, if_pos qt.1]
theorem qmake_pool (w : WF tt n ar) (qt : QTb tt n Q_all Q_kinds Q_which Q_firsts Q_seconds Q_thirds Q_nexts Q_heads) {h : Nat} {C : Fin 3 → Tm} {a b c : Int32} (hh : h < 42) (ha : rf tt n a (C 0)) (hb : rf tt n b (C 1)) (hc : rf tt n c (C 2)) (hlt : n < 101100) (hnew : ∀ u, u < n → tt u ≠ mkT h C) :
    ∃ Q_all' Q_kinds' Q_which' Q_firsts' Q_seconds' Q_thirds' Q_nexts' Q_heads', f_Q_make Q_all Q_kinds Q_which Q_firsts Q_seconds Q_thirds Q_nexts Q_heads Q_names Q_variables Q_holes Q_sizes (nI (kd h)) (nI (wh h)) a b c (101100 : Int32) = some (nI n, Q_all', Q_kinds', Q_which', Q_firsts', Q_seconds', Q_thirds', Q_nexts', Q_heads', Q_names, Q_variables, Q_holes, Q_sizes) ∧ QTb (ext tt n (mkT h C)) (n + 1) Q_all' Q_kinds' Q_which' Q_firsts' Q_seconds' Q_thirds' Q_nexts' Q_heads' := by
  obtain ⟨j, hj, ej⟩ := hdQ_in (nI (kd h)) (nI (wh h)) a b c
  obtain ⟨f, hf⟩ := qseek_none (Q_names := Q_names) (Q_variables := Q_variables) (Q_holes := Q_holes) (Q_sizes := Q_sizes) w qt hh ha hb hc (101100 : Int32) hnew hj ej
  refine ⟨_, _, _, _, _, _, _, _, ?_, qt.grow ha hb hc hlt hj ej⟩
  rw [hf, f_Q_make_L21, if_pos rfl, qt.1, if_neg (show ¬ nI n = (101100 : Int32) from (fun e => by have := nI_inj (b := 101100) (by omega) (by omega) e; omega))]
  simp (disch := omega) only [nmE, ixb_t, gd_tt, nI_clamp, f_Q_make_B213, nI_1, nI_pred]
  by_cases c1 : (100 : Int32) ≤ nI n
  · rw [if_pos c1]
  · rw [if_neg c1, if_neg (show ¬ (101100 : Int32) = 100 by decide)]
theorem qmake_new (w : WF tt n ar) (qt : QTb tt n Q_all Q_kinds Q_which Q_firsts Q_seconds Q_thirds Q_nexts Q_heads) (hq : QK tt n sz Q_names Q_variables Q_holes Q_sizes) {h : Nat} {C : Fin 3 → Tm} {a b c : Int32} (hh : h < 42) (ha : rf tt n a (C 0)) (hb : rf tt n b (C 1)) (hc : rf tt n c (C 2)) (hlt : n < 100) (hnew : ∀ u, u < n → tt u ≠ mkT h C) :
    ∃ Q_all' Q_kinds' Q_which' Q_firsts' Q_seconds' Q_thirds' Q_nexts' Q_heads' Q_names' Q_variables' Q_holes' Q_sizes', f_Q_make Q_all Q_kinds Q_which Q_firsts Q_seconds Q_thirds Q_nexts Q_heads Q_names Q_variables Q_holes Q_sizes (nI (kd h)) (nI (wh h)) a b c (100 : Int32) = some (nI n, Q_all', Q_kinds', Q_which', Q_firsts', Q_seconds', Q_thirds', Q_nexts', Q_heads', Q_names', Q_variables', Q_holes', Q_sizes') ∧ QTb (ext tt n (mkT h C)) (n + 1) Q_all' Q_kinds' Q_which' Q_firsts' Q_seconds' Q_thirds' Q_nexts' Q_heads' ∧
      QK (ext tt n (mkT h C)) (n + 1) (szn sz n (min 1000000 (1 + szo sz a + szo sz b + szo sz c))) Q_names' Q_variables' Q_holes' Q_sizes' := by
  obtain ⟨j, hj, ej⟩ := hdQ_in (nI (kd h)) (nI (wh h)) a b c
  obtain ⟨f, hf⟩ := qseek_none (Q_names := Q_names) (Q_variables := Q_variables) (Q_holes := Q_holes) (Q_sizes := Q_sizes) w qt hh ha hb hc (100 : Int32) hnew hj ej
  obtain ⟨N1, V1, H1, S1, ht, hk⟩ := tell_eq (Q_kinds := upd Q_kinds n (nI (kd h))) (Q_which := upd Q_which n (nI (wh h))) (Q_firsts := upd Q_firsts n a) (Q_seconds := upd Q_seconds n b) (Q_thirds := upd Q_thirds n c) hlt hh (up_s _ _ _) (up_s _ _ _) (up_s _ _ _) (up_s _ _ _) (up_s _ _ _) ha hb hc hq
  refine ⟨_, _, _, _, _, _, _, _, N1, V1, H1, S1, ?_, qt.grow ha hb hc (by omega) hj ej, hk⟩
  rw [hf, f_Q_make_L21, if_pos rfl, qt.1, if_neg (show ¬ nI n = (100 : Int32) from (fun e => by have := nI_inj (b := 100) (by omega) (by omega) e; omega))]
  simp (disch := omega) only [nmE, ixb_t, gd_tt, nI_clamp, f_Q_make_B213, nI_1, nI_pred]
  rw [if_neg (show ¬ (100 : Int32) ≤ nI n from (nI_ge hlt (by omega) : ¬ nI 100 ≤ nI n)), if_pos trivial, ht, bd_s]
end
