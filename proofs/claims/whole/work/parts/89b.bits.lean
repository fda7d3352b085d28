theorem dv1 {y r w : Nat} (h : r < 256) (e : y = r + 256 * w) : y / 256 = w := by
  rw [e, Nat.add_mul_div_left _ _ (by decide), Nat.div_eq_of_lt h, Nat.zero_add]
theorem dv2 {y r s w : Nat} (h : r < 256) (h2 : s < 256) (e : y = r + 256 * (s + 256 * w)) : y / 65536 = w := by
  rw [show 65536 = 256 * 256 from rfl, ← Nat.div_div_eq_div_mul, dv1 h e, dv1 h2 rfl]
theorem dv4 {y r s t u w : Nat} (h : r < 256) (h2 : s < 256) (h3 : t < 256) (h4 : u < 256) (e : y = r + 256 * (s + 256 * (t + 256 * (u + 256 * w)))) : y / 4294967296 = w := by
  rw [show 4294967296 = 65536 * 65536 from rfl, ← Nat.div_div_eq_div_mul, dv2 h h2 e, dv2 h3 h4 rfl]
theorem dvm {v q a b e d : Nat} (h1 : v = a + 256 * b) (h2 : q = e + 256 * d) (h : a + e < 128) : (v + q) % 128 = a + e := by omega
theorem zp2 {a b p q w : Nat} (e1 : a = p + 256 * b) (e2 : b = q + 256 * w) : a + b = (p + q) + 256 * (b + w) := by omega
theorem fold_64 {y p0 p1 p2 p3 p4 p5 p6 p7 : Nat} (h0 : p0 ≤ 8) (h1 : p1 ≤ 8) (h2 : p2 ≤ 8) (h3 : p3 ≤ 8) (h4 : p4 ≤ 8) (h5 : p5 ≤ 8) (h6 : p6 ≤ 8) (h7 : p7 ≤ 8)
    (e : y = p0 + 256 * (p1 + 256 * (p2 + 256 * (p3 + 256 * (p4 + 256 * (p5 + 256 * (p6 + 256 * p7))))))) :
    ((y + y / 256) + (y + y / 256) / 65536 + ((y + y / 256) + (y + y / 256) / 65536) / 4294967296) % 128 = p0 + (p1 + (p2 + (p3 + (p4 + (p5 + (p6 + p7)))))) := by
  obtain ⟨w7, e7⟩ : ∃ w, w = p7 + 256 * 0 := ⟨_, rfl⟩
  obtain ⟨w6, e6⟩ : ∃ w, w = p6 + 256 * w7 := ⟨_, rfl⟩
  obtain ⟨w5, e5⟩ : ∃ w, w = p5 + 256 * w6 := ⟨_, rfl⟩
  obtain ⟨w4, e4⟩ : ∃ w, w = p4 + 256 * w5 := ⟨_, rfl⟩
  obtain ⟨w3, e3⟩ : ∃ w, w = p3 + 256 * w4 := ⟨_, rfl⟩
  obtain ⟨w2, e2⟩ : ∃ w, w = p2 + 256 * w3 := ⟨_, rfl⟩
  obtain ⟨w1, e1⟩ : ∃ w, w = p1 + 256 * w2 := ⟨_, rfl⟩
  have e0 : y = p0 + 256 * w1 := by
    rw [e, e1, e2, e3, e4, e5, e6, e7, Nat.mul_zero, Nat.add_zero]
  clear e
  have a : y / 256 = w1 := dv1 (Nat.lt_of_le_of_lt h0 (by decide)) e0
  rw [a]
  have z0 := zp2 e0 e1
  have z1 := zp2 e1 e2
  have z2 := zp2 e2 e3
  have z3 := zp2 e3 e4
  have z4 := zp2 e4 e5
  have z5 := zp2 e5 e6
  have z6 := zp2 e6 e7
  clear e0 e1 e2 e3 e4 e5 e6 a
  generalize y + w1 = Z0 at *
  generalize w1 + w2 = Z1 at *
  generalize w2 + w3 = Z2 at *
  generalize w3 + w4 = Z3 at *
  generalize w4 + w5 = Z4 at *
  generalize w5 + w6 = Z5 at *
  generalize w6 + w7 = Z6 at *
  have hp : ∀ {a b : Nat}, a ≤ 8 → b ≤ 8 → a + b ≤ 16 := fun h h' => Nat.add_le_add h h'
  have b : Z0 / 65536 = Z2 := dv2 (Nat.lt_of_le_of_lt (hp h0 h1) (by decide)) (Nat.lt_of_le_of_lt (hp h1 h2) (by decide)) (by rw [← z1]; exact z0)
  rw [b]
  have v0 : Z0 + Z2 = ((p0 + p1) + (p2 + p3)) + 256 * (Z1 + Z3) := by clear z1 z3 z4 z5 z6 b; omega
  have v1 : Z1 + Z3 = ((p1 + p2) + (p3 + p4)) + 256 * (Z2 + Z4) := by clear z0 z2 z4 z5 z6 b v0; omega
  have v2 : Z2 + Z4 = ((p2 + p3) + (p4 + p5)) + 256 * (Z3 + Z5) := by clear z0 z1 z3 z5 z6 b v0 v1; omega
  have v3 : Z3 + Z5 = ((p3 + p4) + (p5 + p6)) + 256 * (Z4 + Z6) := by clear z0 z1 z2 z4 z6 b v0 v1 v2; omega
  have v4 : Z4 + Z6 = ((p4 + p5) + (p6 + p7)) + 256 * (Z5 + (w7 + 0)) := by clear z0 z1 z2 z3 z5 b v0 v1 v2 v3; omega
  generalize Z0 + Z2 = V0 at *
  generalize Z1 + Z3 = V1 at *
  generalize Z2 + Z4 = V2 at *
  generalize Z3 + Z5 = V3 at *
  generalize Z4 + Z6 = V4 at *
  have hq : ∀ {a b : Nat}, a ≤ 16 → b ≤ 16 → a + b < 256 := fun h h' => Nat.lt_of_le_of_lt (Nat.add_le_add h h') (by decide)
  have c : V0 / 4294967296 = V4 := dv4 (hq (hp h0 h1) (hp h2 h3)) (hq (hp h1 h2) (hp h3 h4)) (hq (hp h2 h3) (hp h4 h5)) (hq (hp h3 h4) (hp h5 h6)) (by rw [← v3, ← v2, ← v1]; exact v0)
  rw [c, dvm v0 v4 (Nat.lt_of_le_of_lt (Nat.add_le_add (Nat.add_le_add (hp h0 h1) (hp h2 h3)) (Nat.add_le_add (hp h4 h5) (hp h6 h7))) (by decide))]
  clear v0 v1 v2 v3 v4 z0 z1 z2 z3 z4 z5 z6 b c
  omega
