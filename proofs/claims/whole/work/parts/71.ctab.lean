/-- a row of bits holds the heads that stand in a tree -/
def wm (w : Int64) (T : Tm) : Prop := ∀ i : Nat, i < 64 → (w.toBitVec.getLsbD i = true ↔ std T i)
def bkC (h a b c : Int32) : Int32 := ((((h + ((37 : Int32) * a)) + ((101 : Int32) * b)) + ((171 : Int32) * c)) &&& (255 : Int32))
def bkA (T_heads T_places : Nat → Int32) (u : Nat) : Int32 := bkC (T_heads u) (T_places (3 * u)) (T_places (3 * u + 1)) (T_places (3 * u + 2))
def keyC (T_heads T_places : Nat → Int32) (h a b c : Int32) (u : Nat) : Bool := decide (T_heads u = h ∧ T_places (3 * u) = a ∧ T_places (3 * u + 1) = b ∧ T_places (3 * u + 2) = c)
def chnC (n : Nat) (T_heads T_places T_olders T_newest : Nat → Int32) : Prop :=
  (∀ b : Nat, b < 256 → T_newest b = oI (lst (fun u => decide (bkA T_heads T_places u = nI b)) n)) ∧
  (∀ t, t < n → T_olders t = oI (lst (fun u => decide (bkA T_heads T_places u = bkA T_heads T_places t)) t))
theorem bkC_in (h a b c : Int32) : ∃ j, j < 256 ∧ bkC h a b c = nI j := pk_andE _ 8 (by decide)
section
variable {n N : Nat} {T_heads T_places T_olders T_newest : Nat → Int32}
theorem seek_loop (hnN : n ≤ N) (hN : N ≤ 10000) (hch : chnC n T_heads T_places T_olders T_newest) (h a b c : Int32) : ∀ m, m ≤ n → ∀ fuel, m < fuel → ∀ step, step + m ≤ n →
    f_T_seek_L11 (nI n) N T_heads (3 * N) T_places N T_olders T_newest fuel h a b c (oI (lst (fun u => decide (bkA T_heads T_places u = bkC h a b c)) m)) (nI step) = some (oI (lst (keyC T_heads T_places h a b c) m)) := by
  intro m
  induction m using Nat.strongRecOn with
  | ind m ih =>
    intro hm fuel hf step hs
    obtain ⟨f, rfl⟩ : ∃ f, fuel = f + 1 := ⟨fuel - 1, by omega⟩
    have hKP : ∀ v, (fun u => decide (bkA T_heads T_places u = bkC h a b c)) v = false → keyC T_heads T_places h a b c v = false := by
      intro v hv
      have hv2 := of_decide_eq_false hv
      refine decide_eq_false (fun hk => hv2 ?_)
      obtain ⟨e1, e2, e3, e4⟩ := hk
      unfold bkA
      rw [e1, e2, e3, e4]
    rw [f_T_seek_L11]
    cases hl : lst (fun u => decide (bkA T_heads T_places u = bkC h a b c)) m with
    | none =>
      have hk : lst (keyC T_heads T_places h a b c) m = none := by
        rw [lst_skip (u := 0) (by omega) (fun v _ h2 => hKP v (lst_none hl v h2))]
        rfl
      rw [hk]
      by_cases c1 : nI n ≤ nI step
      · rw [if_pos c1]; rfl
      · rw [if_neg c1, if_pos (show oI none < 0 from m1_lt)]; rfl
    | some u =>
      obtain ⟨hu, hpu, hgt⟩ := lst_some hl
      have hpu2 : bkA T_heads T_places u = bkC h a b c := of_decide_eq_true hpu
      rw [show oI (some u) = nI u from rfl]
      rw [if_neg (nI_ge (by omega) (by omega)), if_neg (nI_pos (by omega)), if_neg (nI_ge (by omega) (by omega))]
      simp (disch := omega) only [nmE, nI_x3, nI_1, nI_2, ixb_t, gd_tt, nI_clamp]
      rw [ite4]
      by_cases hk : (T_heads u = h ∧ T_places (3 * u) = a ∧ T_places (3 * u + 1) = b ∧ T_places (3 * u + 2) = c)
      · rw [if_pos hk, lst_at hu (decide_eq_true hk) (fun v h1 h2 => hKP v (hgt v h1 h2))]
        rfl
      · rw [if_neg hk]
        simp (disch := omega) only [f_T_seek_B93, nmE, ixb_t, gd_tt, nI_clamp, nI_1]
        rw [hch.2 u (by omega), hpu2, ih u hu (by omega) f (by omega) (step + 1) (by omega)]
        rw [lst_skip (m := m) (u := u) (by omega) (fun v h1 h2 => ?_)]
        by_cases he : v = u
        · rw [he]; exact decide_eq_false hk
        · exact hKP v (hgt v (by omega) h2)
theorem seek_eq (hnN : n ≤ N) (hN : N ≤ 10000) (hch : chnC n T_heads T_places T_olders T_newest) (h a b c : Int32) :
    f_T_seek (nI n) N T_heads (3 * N) T_places N T_olders T_newest (bkC h a b c) h a b c = some (oI (lst (keyC T_heads T_places h a b c) n)) := by
  obtain ⟨j, hj, ej⟩ := bkC_in h a b c
  have hs := seek_loop hnN hN hch h a b c n (by omega) FU (by unfold FU; omega) 0 (by omega)
  rw [nI_0, ej] at hs
  unfold f_T_seek
  rw [ej]
  simp (disch := omega) only [nmE, ixb_t, gd_tt, nI_clamp]
  rw [hch.1 j hj]
  exact hs
end
/-- the class's cells hold the table -/
def CT (tt : Nat → Tm) (n N : Nat) (sz : Nat → Nat) (T_count : Int32) (T_heads T_places T_olders T_sizes : Nat → Int32) (T_withins : Nat → Int64) (T_newest : Nat → Int32) : Prop :=
  T_count = nI n ∧ n ≤ N ∧ 256 ≤ N ∧ N ≤ 10000 ∧ chnC n T_heads T_places T_olders T_newest ∧
  (∀ t, t < n → ∀ h, tt t [] = h + 1 → T_heads t = nI h) ∧
  (∀ t, t < n → ∀ k : Fin 3, rf tt t (T_places (3 * t + k.val)) (chT k (tt t))) ∧
  (∀ t, t < n → T_sizes t = nI (sz t) ∧ sz t ≤ 1000000) ∧
  (∀ t, t < n → wm (T_withins t) (tt t))
def szo (sz : Nat → Nat) (x : Int32) : Nat := if x = -1 then 0 else sz x.toNatClampNeg
section
variable {tt : Nat → Tm} {n N : Nat} {ar : Nat → Int32} {sz : Nat → Nat} {T_count : Int32} {T_heads T_places T_olders T_sizes : Nat → Int32} {T_withins : Nat → Int64} {T_newest : Nat → Int32}
theorem key_iff (w : WF tt n ar) (ct : CT tt n N sz T_count T_heads T_places T_olders T_sizes T_withins T_newest) {h : Nat} {C : Fin 3 → Tm} {a b c : Int32} (hh : h < 42) (ha : rf tt n a (C 0)) (hb : rf tt n b (C 1)) (hc : rf tt n c (C 2)) {u : Nat} (hu : u < n) :
    keyC T_heads T_places (nI h) a b c u = true ↔ tt u = mkT h C := by
  obtain ⟨-, hnN, -, hN, -, hhd, hpl, -, -⟩ := ct
  have p0 : rf tt n (T_places (3 * u)) (chT 0 (tt u)) := rf_mono (by omega) (hpl u hu 0)
  have p1 : rf tt n (T_places (3 * u + 1)) (chT 1 (tt u)) := rf_mono (by omega) (hpl u hu 1)
  have p2 : rf tt n (T_places (3 * u + 2)) (chT 2 (tt u)) := rf_mono (by omega) (hpl u hu 2)
  obtain ⟨g, hg, eg, -, -⟩ := w.2.1 u hu
  have hhu := hhd u hu g eg
  constructor
  · intro hk
    obtain ⟨e1, e2, e3, e4⟩ := of_decide_eq_true hk
    have egh : g = h := nI_inj (by omega) (by omega) (hhu.symm.trans e1)
    refine Tm_ext (by rw [eg, egh]; rfl) (fin3 ?_ ?_ ?_)
    · rw [e2] at p0; exact rf_val (by omega) p0 ha
    · rw [e3] at p1; exact rf_val (by omega) p1 hb
    · rw [e4] at p2; exact rf_val (by omega) p2 hc
  · intro e
    rw [e] at p0 p1 p2 eg
    have egh : g = h := by rw [mkT_nil] at eg; omega
    exact decide_eq_true ⟨by rw [hhu, egh], rf_uni w p0 ha, rf_uni w p1 hb, rf_uni w p2 hc⟩
theorem seek_in (w : WF tt n ar) (ct : CT tt n N sz T_count T_heads T_places T_olders T_sizes T_withins T_newest) {h : Nat} {C : Fin 3 → Tm} {a b c : Int32} (hh : h < 42) (ha : rf tt n a (C 0)) (hb : rf tt n b (C 1)) (hc : rf tt n c (C 2)) {u : Nat} (hu : u < n) (hT : tt u = mkT h C) :
    f_T_seek T_count N T_heads (3 * N) T_places N T_olders T_newest (bkC (nI h) a b c) (nI h) a b c = some (nI u) := by
  have ct2 := ct
  obtain ⟨hcnt, hnN, -, hN, hch, -⟩ := ct2
  rw [hcnt, seek_eq hnN hN hch, lst_at hu ((key_iff w ct hh ha hb hc hu).mpr hT) (fun v h1 h2 => ?_)]
  · rfl
  · cases hv : keyC T_heads T_places (nI h) a b c v with
    | false => rfl
    | true =>
      have := (key_iff w ct hh ha hb hc h2).mp hv
      have := w.1 v h2 u hu (this.trans hT.symm)
      omega
theorem seek_out (w : WF tt n ar) (ct : CT tt n N sz T_count T_heads T_places T_olders T_sizes T_withins T_newest) {h : Nat} {C : Fin 3 → Tm} {a b c : Int32} (hh : h < 42) (ha : rf tt n a (C 0)) (hb : rf tt n b (C 1)) (hc : rf tt n c (C 2)) (hnew : ∀ u, u < n → tt u ≠ mkT h C) :
    f_T_seek T_count N T_heads (3 * N) T_places N T_olders T_newest (bkC (nI h) a b c) (nI h) a b c = some (-1) := by
  have ct2 := ct
  obtain ⟨hcnt, hnN, -, hN, hch, -⟩ := ct2
  rw [hcnt, seek_eq hnN hN hch, lst_skip (u := 0) (by omega) (fun v _ h2 => ?_)]
  · rfl
  · cases hv : keyC T_heads T_places (nI h) a b c v with
    | false => rfl
    | true => exact absurd ((key_iff w ct hh ha hb hc h2).mp hv) (hnew v h2)
theorem bucket_eq (h a b c : Int32) : f_T_bucket h a b c = some (bkC h a b c) := rfl
theorem make_old (w : WF tt n ar) (ct : CT tt n N sz T_count T_heads T_places T_olders T_sizes T_withins T_newest) {h : Nat} {C : Fin 3 → Tm} {a b c : Int32} (hh : h < 42) (ha : rf tt n a (C 0)) (hb : rf tt n b (C 1)) (hc : rf tt n c (C 2)) (most : Int32) {u : Nat} (hu : u < n) (hT : tt u = mkT h C) :
    f_T_make T_count N T_heads (3*N) T_places N T_olders N T_sizes N T_withins T_newest (nI h) a b c most = some (nI u, T_count, T_heads, T_places, T_olders, T_sizes, T_withins, T_newest) := by
  have hN : N ≤ 10000 := ct.2.2.2.1
  have hnN : n ≤ N := ct.2.1
  unfold f_T_make
  rw [bucket_eq, bd_s, seek_in w ct hh ha hb hc hu hT, bd_s, if_neg (nI_nm1 (by omega))]
theorem make_full (w : WF tt n ar) (ct : CT tt n N sz T_count T_heads T_places T_olders T_sizes T_withins T_newest) {h : Nat} {C : Fin 3 → Tm} {a b c : Int32} (hh : h < 42) (ha : rf tt n a (C 0)) (hb : rf tt n b (C 1)) (hc : rf tt n c (C 2)) {most : Nat} (hm : most ≤ n) (hnew : ∀ u, u < n → tt u ≠ mkT h C) :
    f_T_make T_count N T_heads (3*N) T_places N T_olders N T_sizes N T_withins T_newest (nI h) a b c (nI most) = some (-1, T_count, T_heads, T_places, T_olders, T_sizes, T_withins, T_newest) := by
  have hN : N ≤ 10000 := ct.2.2.2.1
  have hnN : n ≤ N := ct.2.1
  unfold f_T_make
  rw [bucket_eq, bd_s, seek_out w ct hh ha hb hc hnew, bd_s, if_pos rfl, if_pos]
  rw [ct.1]
  exact (nI_leI (by omega) (by omega)).mpr hm
theorem size_eq (ct : CT tt n N sz T_count T_heads T_places T_olders T_sizes T_withins T_newest) {x : Int32} {T : Tm} (hr : rf tt n x T) : f_T_size T_count N T_sizes x = some (nI (szo sz x)) ∧ szo sz x ≤ 1000000 := by
  obtain ⟨hcnt, hnN, -, hN, -, -, -, hsz, -⟩ := ct
  unfold f_T_size szo
  rcases hr with ⟨e, -⟩ | ⟨u, hu, e, -⟩
  · rw [e, if_pos m1_lt, if_pos rfl]
    exact ⟨by rw [nI_0], by omega⟩
  · rw [e, hcnt, if_neg (nI_pos (by omega)), if_neg (nI_ge hu (by omega)), if_neg (nI_nm1 (by omega))]
    simp (disch := omega) only [ixb_t, gd_tt, nI_clamp]
    exact ⟨by rw [(hsz u hu).1], (hsz u hu).2⟩
theorem within_eq (ct : CT tt n N sz T_count T_heads T_places T_olders T_sizes T_withins T_newest) {x : Int32} {T : Tm} (hr : rf tt n x T) : ∃ v, f_T_within T_count N T_withins x = some v ∧ wm v T := by
  obtain ⟨hcnt, hnN, -, hN, -, -, -, -, hw⟩ := ct
  unfold f_T_within
  rcases hr with ⟨e, e2⟩ | ⟨u, hu, e, e2⟩
  · rw [e, if_pos m1_lt]
    refine ⟨0, rfl, fun i hi => ?_⟩
    rw [e2]
    constructor
    · intro h; simp at h
    · intro h; exact absurd h (std_nil i)
  · rw [e, hcnt, if_neg (nI_pos (by omega)), if_neg (nI_ge hu (by omega))]
    simp (disch := omega) only [ixb_t, gd_tt, nI_clamp]
    exact ⟨_, rfl, by rw [← e2]; exact hw u hu⟩
theorem shl1_bit : ∀ h : Nat, h < 42 → ∀ i : Nat, i < 64 → ((1 : Int64) <<< ((nI h).toInt64 &&& 63)).toBitVec.getLsbD i = decide (i = h) := by decide +kernel
theorem wm_mk {h : Nat} (hh : h < 42) {C : Fin 3 → Tm} {x y z : Int64} (hx : wm x (C 0)) (hy : wm y (C 1)) (hz : wm z (C 2)) : wm (((((1 : Int64) <<< ((nI h).toInt64 &&& 63)) ||| x) ||| y) ||| z) (mkT h C) := by
  intro i hi
  rw [Int64.toBitVec_or, Int64.toBitVec_or, Int64.toBitVec_or, BitVec.getLsbD_or, BitVec.getLsbD_or, BitVec.getLsbD_or, shl1_bit h hh i hi]
  rw [std_mk]
  simp only [Bool.or_eq_true, decide_eq_true_eq, hx i hi, hy i hi, hz i hi]
  constructor
  · rintro (((e | e) | e) | e)
    · exact Or.inl e
    · exact Or.inr ⟨0, e⟩
    · exact Or.inr ⟨1, e⟩
    · exact Or.inr ⟨2, e⟩
  · rintro (e | ⟨k, e⟩)
    · exact Or.inl (Or.inl (Or.inl e))
    · revert e
      revert k
      exact fin3 (fun e => Or.inl (Or.inl (Or.inr e))) (fun e => Or.inl (Or.inr e)) (fun e => Or.inr e)
def szn (sz : Nat → Nat) (n z : Nat) : Nat → Nat := fun t => if t = n then z else sz t
theorem bkA_old {a b c x : Int32} {u : Nat} (hu : u < n) : bkA (upd T_heads n x) (upd (upd (upd T_places (3 * n) a) (3 * n + 1) b) (3 * n + 2) c) u = bkA T_heads T_places u := by
  unfold bkA
  rw [up_n (by omega), up_n (by omega), up_n (by omega), up_n (by omega), up_n (by omega), up_n (by omega), up_n (by omega), up_n (by omega), up_n (by omega), up_n (by omega)]
theorem bkA_new {a b c x : Int32} : bkA (upd T_heads n x) (upd (upd (upd T_places (3 * n) a) (3 * n + 1) b) (3 * n + 2) c) n = bkC x a b c := by
  unfold bkA
  rw [up_s, up_s, up_n (j := 3 * n) (by omega), up_n (j := 3 * n) (by omega), up_s, up_n (j := 3 * n + 1) (by omega), up_s]
theorem chn_grow {a b c x : Int32} {j : Nat} (hj : j < 256) (ej : bkC x a b c = nI j) (hch : chnC n T_heads T_places T_olders T_newest) :
    chnC (n + 1) (upd T_heads n x) (upd (upd (upd T_places (3 * n) a) (3 * n + 1) b) (3 * n + 2) c) (upd T_olders n (T_newest j)) (upd T_newest j (nI n)) := by
  constructor
  · intro b' hb'
    rw [lst_succ]
    by_cases e : b' = j
    · rw [e, up_s, if_pos (decide_eq_true (by rw [bkA_new, ej]))]
      rfl
    · rw [up_n e, if_neg (by rw [bkA_new, ej]; simp only [decide_eq_true_eq]; exact fun e2 => e (nI_inj (by omega) (by omega) e2).symm), hch.1 b' hb']
      exact congrArg oI (lst_congr (fun u hu => by simp only [bkA_old hu]))
  · intro t ht
    by_cases e : t = n
    · rw [e, up_s, bkA_new, ej, hch.1 j hj]
      exact congrArg oI (lst_congr (fun u hu => by simp only [bkA_old hu]))
    · rw [up_n e, bkA_old (by omega), hch.2 t (by omega)]
      exact congrArg oI (lst_congr (fun u hu => by simp only [bkA_old (show u < n by omega)]))
theorem CT.grow (ct : CT tt n N sz T_count T_heads T_places T_olders T_sizes T_withins T_newest) {h : Nat} {C : Fin 3 → Tm} {a b c : Int32} (hh : h < 42) (ha : rf tt n a (C 0)) (hb : rf tt n b (C 1)) (hc : rf tt n c (C 2)) (hlt : n < N) {j z : Nat} (hj : j < 256) (ej : bkC (nI h) a b c = nI j) (hz : z ≤ 1000000) {w : Int64} (hw : wm w (mkT h C)) :
    CT (ext tt n (mkT h C)) (n + 1) N (szn sz n z) (nI (n + 1)) (upd T_heads n (nI h)) (upd (upd (upd T_places (3 * n) a) (3 * n + 1) b) (3 * n + 2) c) (upd T_olders n (T_newest j)) (upd T_sizes n (nI z)) (vp_updL T_withins n w) (upd T_newest j (nI n)) := by
  obtain ⟨hcnt, hnN, h256, hN, hch, hhd, hpl, hsz, hwi⟩ := ct
  have E : ∀ t, t < n → ext tt n (mkT h C) t = tt t := ext_lt
  refine ⟨rfl, by omega, h256, hN, chn_grow hj ej hch, fun t ht g hg => ?_, fun t ht k => ?_, fun t ht => ?_, fun t ht => ?_⟩
  · by_cases e : t = n
    · rw [e, up_s]
      rw [e, ext_s, mkT_nil] at hg
      rw [show h = g by omega]
    · rw [up_n e]
      rw [E t (by omega)] at hg
      exact hhd t (by omega) g hg
  · by_cases e : t = n
    · rw [e, ext_s]
      refine rf_congr (tt := tt) E ?_
      revert k
      refine fin3 ?_ ?_ ?_
      · rw [show 3 * n + (0 : Fin 3).val = 3 * n from rfl, up_n (by omega), up_n (by omega), up_s]; exact ha
      · rw [show 3 * n + (1 : Fin 3).val = 3 * n + 1 from rfl, up_n (by omega), up_s]; exact hb
      · rw [show 3 * n + (2 : Fin 3).val = 3 * n + 2 from rfl, up_s]; exact hc
    · have hk : k.val < 3 := k.isLt
      rw [up_n (by omega), up_n (by omega), up_n (by omega), E t (by omega)]
      exact rf_congr (fun u hu => E u (by omega)) (hpl t (by omega) k)
  · by_cases e : t = n
    · rw [e, up_s]
      exact ⟨by rw [szn, if_pos rfl], by rw [szn, if_pos rfl]; exact hz⟩
    · rw [up_n e, szn, if_neg e]
      exact hsz t (by omega)
  · by_cases e : t = n
    · rw [e, upL_s, ext_s]; exact hw
    · rw [upL_n e, E t (by omega)]; exact hwi t (by omega)
theorem make_new (w : WF tt n ar) (ct : CT tt n N sz T_count T_heads T_places T_olders T_sizes T_withins T_newest) {h : Nat} {C : Fin 3 → Tm} {a b c : Int32} (hh : h < 42) (ha : rf tt n a (C 0)) (hb : rf tt n b (C 1)) (hc : rf tt n c (C 2)) {most : Nat} (hm : n < most) (hmm : most < 2 ^ 31) (hlt : n < N) (hnew : ∀ u, u < n → tt u ≠ mkT h C) :
    ∃ (T_count' : Int32) (T_heads' T_places' T_olders' T_sizes' : Nat → Int32) (T_withins' : Nat → Int64) (T_newest' : Nat → Int32), f_T_make T_count N T_heads (3*N) T_places N T_olders N T_sizes N T_withins T_newest (nI h) a b c (nI most) = some (nI n, T_count', T_heads', T_places', T_olders', T_sizes', T_withins', T_newest') ∧
      CT (ext tt n (mkT h C)) (n + 1) N (szn sz n (min 1000000 (1 + szo sz a + szo sz b + szo sz c))) T_count' T_heads' T_places' T_olders' T_sizes' T_withins' T_newest' := by
  have ct2 := ct
  obtain ⟨hcnt, hnN, -, hN, hch, -⟩ := ct2
  obtain ⟨j, hj, ej⟩ := bkC_in (nI h) a b c
  obtain ⟨s0, z0⟩ := size_eq ct ha
  obtain ⟨s1, z1⟩ := size_eq ct hb
  obtain ⟨s2, z2⟩ := size_eq ct hc
  obtain ⟨v0, w0, m0⟩ := within_eq ct ha
  obtain ⟨v1, w1, m1⟩ := within_eq ct hb
  obtain ⟨v2, w2, m2⟩ := within_eq ct hc
  refine ⟨_, _, _, _, _, _, _, ?_, ct.grow hh ha hb hc hlt hj ej (z := min 1000000 (1 + szo sz a + szo sz b + szo sz c)) (by omega) (wm_mk hh m0 m1 m2)⟩
  unfold f_T_make
  rw [bucket_eq, bd_s, seek_out w ct hh ha hb hc hnew, bd_s, if_pos rfl, s0, s1, s2, w0, w1, w2, ej, hcnt, if_neg (nI_ge hm hmm), if_pos (show nI n < Int32.ofNat N from nI_lt hlt (by omega))]
  simp (disch := omega) only [nmE, nI_x3, nI_1, nI_2, ixb_t, gd_tt, nI_clamp, bd_s]
  have e1 : ((((1 : Int32) + nI (szo sz a)) + nI (szo sz b)) + nI (szo sz c)) = nI (1 + szo sz a + szo sz b + szo sz c) := by
    rw [show ((1 : Int32) + nI (szo sz a)) = nI (1 + szo sz a) from nI_add 1 _, nI_add, nI_add]
  rw [e1]
  have e2 : (if nI (1 + szo sz a + szo sz b + szo sz c) < (1000000 : Int32) then nI (1 + szo sz a + szo sz b + szo sz c) else (1000000 : Int32)) = nI (min 1000000 (1 + szo sz a + szo sz b + szo sz c)) := by
    by_cases hlt2 : 1 + szo sz a + szo sz b + szo sz c < 1000000
    · rw [if_pos (show nI (1 + szo sz a + szo sz b + szo sz c) < (1000000 : Int32) from (nI_lt hlt2 (by omega) : _ < nI 1000000)), Nat.min_eq_right (by omega)]
    · rw [if_neg (show ¬ nI (1 + szo sz a + szo sz b + szo sz c) < (1000000 : Int32) from (nI_nlt (by omega) (by omega) : ¬ _ < nI 1000000)), Nat.min_eq_left (by omega)]
      rfl
  rw [e2]
end
