def repB (b : Nat) : Nat → Nat
  | 0 => 0
  | k + 1 => b + 256 * repB b k
def sT1 (k x : Nat) : Nat := x - ((x / 2) &&& repB 85 k)
def sT2 (k y : Nat) : Nat := (y &&& repB 51 k) + ((y / 4) &&& repB 51 k)
def sT3 (k z : Nat) : Nat := (z + z / 16) &&& repB 15 k
theorem and_rep {b : Nat} (hb : b < 256) (x r : Nat) : (x &&& (b + 256 * r)) = ((x % 256) &&& b) + 256 * ((x / 256) &&& r) := by
  have h1 := Nat.and_mod_two_pow (a := x) (b := b + 256 * r) (n := 8)
  have h2 := Nat.and_div_two_pow (a := x) (b := b + 256 * r) (n := 8)
  simp only [show 2 ^ 8 = 256 from rfl] at h1 h2
  rw [show (b + 256 * r) % 256 = b by omega] at h1
  rw [show (b + 256 * r) / 256 = r by omega] at h2
  omega
theorem st1_b : ∀ c, c < 128 → ∀ e, e < 2 → ((c + 128 * e) &&& 85) = (c &&& 85) := by decide +kernel
theorem st2_b : ∀ c, c < 64 → ∀ e, e < 4 → ((c + 64 * e) &&& 51) = (c &&& 51) := by decide +kernel
theorem st3_b : ∀ c, c < 16 → ∀ e, e < 16 → ((c + 16 * e) &&& 15) = c := by decide +kernel
def sb1 (b : Nat) : Nat := b - ((b / 2) &&& 85)
def sb2 (b : Nat) : Nat := (b &&& 51) + ((b / 4) &&& 51)
def sb3 (b : Nat) : Nat := (b + b / 16) % 16
theorem st1_s (k x : Nat) : sT1 (k + 1) x = sb1 (x % 256) + 256 * sT1 k (x / 256) := by
  unfold sT1 sb1
  rw [show repB 85 (k + 1) = 85 + 256 * repB 85 k from rfl, and_rep (by omega)]
  have h1 := st1_b (x % 256 / 2) (by omega) (x / 256 % 2) (by omega)
  rw [show x % 256 / 2 + 128 * (x / 256 % 2) = x / 2 % 256 by omega] at h1
  rw [h1, show x / 2 / 256 = x / 256 / 2 by omega]
  have h2 : ((x % 256 / 2) &&& 85) ≤ x % 256 / 2 := Nat.and_le_left
  have h3 : ((x / 256 / 2) &&& repB 85 k) ≤ x / 256 / 2 := Nat.and_le_left
  omega
theorem st2_s (k : Nat) {c : Nat} (hc : c < 256) (y : Nat) : sT2 (k + 1) (c + 256 * y) = sb2 c + 256 * sT2 k y := by
  unfold sT2 sb2
  rw [show repB 51 (k + 1) = 51 + 256 * repB 51 k from rfl, and_rep (by omega), and_rep (by omega)]
  have h1 := st2_b (c / 4) (by omega) (y % 4) (by omega)
  rw [show (c + 256 * y) / 4 % 256 = c / 4 + 64 * (y % 4) by omega, h1, show (c + 256 * y) % 256 = c by omega, show (c + 256 * y) / 256 = y by omega, show (c + 256 * y) / 4 / 256 = y / 4 by omega]
  omega
theorem st3_s (k : Nat) {d z : Nat} (hd : d ≤ 68) (hz : z % 16 ≤ 4) : sT3 (k + 1) (d + 256 * z) = sb3 d + 256 * sT3 k z := by
  unfold sT3 sb3
  rw [show repB 15 (k + 1) = 15 + 256 * repB 15 k from rfl, and_rep (by omega)]
  have h1 := st3_b ((d + d / 16) % 16) (by omega) ((d + d / 16) / 16 + z % 16) (by omega)
  rw [show (d + 256 * z + (d + 256 * z) / 16) % 256 = (d + d / 16) % 16 + 16 * ((d + d / 16) / 16 + z % 16) by omega, h1, show (d + 256 * z + (d + 256 * z) / 16) / 256 = z + z / 16 by omega]
def pc8 (b : Nat) : Nat := cnt (fun i => b.testBit i) 8
theorem sb_all : ∀ b, b < 256 → sb1 b < 256 ∧ sb2 (sb1 b) ≤ 68 ∧ sb2 (sb1 b) % 16 ≤ 4 ∧ sb3 (sb2 (sb1 b)) = pc8 b ∧ pc8 b ≤ 8 := by decide +kernel
theorem sA_s (k x : Nat) : sT2 (k + 1) (sT1 (k + 1) x) = sb2 (sb1 (x % 256)) + 256 * sT2 k (sT1 k (x / 256)) := by
  rw [st1_s, st2_s k (sb_all _ (by omega)).1]
theorem sA_low (k x : Nat) : sT2 k (sT1 k x) % 16 ≤ 4 := by
  cases k with
  | zero => unfold sT2; simp [repB]
  | succ k =>
    rw [sA_s]
    have h := (sb_all (x % 256) (by omega)).2.2.1
    omega
def sC (k x : Nat) : Nat := sT3 k (sT2 k (sT1 k x))
theorem sC_s (k x : Nat) : sC (k + 1) x = pc8 (x % 256) + 256 * sC k (x / 256) := by
  unfold sC
  have h := sb_all (x % 256) (by omega)
  rw [sA_s, st3_s k h.2.1 (sA_low k _), h.2.2.2.1]
theorem sC_0 (x : Nat) : sC 0 x = 0 := by
  unfold sC sT3
  simp [repB]
theorem cnt_add (P : Nat → Bool) (a b : Nat) : cnt P (a + b) = cnt P a + cnt (fun i => P (a + i)) b := by
  induction b with
  | zero => rfl
  | succ b ih =>
    rw [show a + (b + 1) = (a + b) + 1 from rfl, cnt_succ, cnt_succ, ih]
    omega
theorem pc_step (x k : Nat) : cnt (fun i => x.testBit i) (8 + k) = pc8 (x % 256) + cnt (fun i => (x / 256).testBit i) k := by
  rw [cnt_add]
  have h1 : cnt (fun i => x.testBit i) 8 = pc8 (x % 256) := by
    unfold pc8
    refine cnt_congr fun i hi => ?_
    show x.testBit i = (x % 2 ^ 8).testBit i
    rw [Nat.testBit_mod_two_pow]
    simp [hi]
  have h2 : (fun i => x.testBit (8 + i)) = fun i => (x / 256).testBit i := by
    funext i
    show _ = (x / 2 ^ 8).testBit i
    rw [Nat.testBit_div_two_pow, Nat.add_comm]
  rw [h1]
  show _ + cnt (fun i => x.testBit (8 + i)) k = _
  rw [h2]
theorem pc_64 (x : Nat) : ∃ p0 p1 p2 p3 p4 p5 p6 p7 : Nat, p0 ≤ 8 ∧ p1 ≤ 8 ∧ p2 ≤ 8 ∧ p3 ≤ 8 ∧ p4 ≤ 8 ∧ p5 ≤ 8 ∧ p6 ≤ 8 ∧ p7 ≤ 8 ∧ sC 8 x = p0 + 256 * (p1 + 256 * (p2 + 256 * (p3 + 256 * (p4 + 256 * (p5 + 256 * (p6 + 256 * p7)))))) ∧ cnt (fun i => x.testBit i) 64 = p0 + (p1 + (p2 + (p3 + (p4 + (p5 + (p6 + p7)))))) := by
  have L : ∀ y, pc8 (y % 256) ≤ 8 := fun y => (sb_all _ (by omega)).2.2.2.2
  refine ⟨pc8 (x % 256), pc8 (x / 256 % 256), pc8 (x / 256 / 256 % 256), pc8 (x / 256 / 256 / 256 % 256), pc8 (x / 256 / 256 / 256 / 256 % 256), pc8 (x / 256 / 256 / 256 / 256 / 256 % 256), pc8 (x / 256 / 256 / 256 / 256 / 256 / 256 % 256), pc8 (x / 256 / 256 / 256 / 256 / 256 / 256 / 256 % 256), L _, L _, L _, L _, L _, L _, L _, L _, ?_, ?_⟩
  · rw [sC_s, sC_s, sC_s, sC_s, sC_s, sC_s, sC_s, sC_s, sC_0]; simp only [Nat.mul_zero, Nat.add_zero]
  · rw [show 64 = 8 + (8 + (8 + (8 + (8 + (8 + (8 + (8 + 0))))))) from rfl, pc_step, pc_step, pc_step, pc_step, pc_step, pc_step, pc_step, pc_step]
    show _ = _
    simp only [cnt, Nat.add_zero]
