/-! whole numbers: bounds, products, and directions around a point -/
theorem bm32 {x : Int} (h1 : -2147483648 ≤ x) (h2 : x < 2147483648) : x.bmod (2 ^ 32) = x := by
  have e : ((2 ^ 32 : Nat) : Int) = 4294967296 := rfl
  rw [Int.bmod_eq_emod, e]
  split
  · rw [e]; omega
  · show x % 4294967296 - 0 = x
    omega
theorem bm64 {x : Int} (h1 : -9223372036854775808 ≤ x) (h2 : x < 9223372036854775808) : x.bmod (2 ^ 64) = x := by
  have e : ((2 ^ 64 : Nat) : Int) = 18446744073709551616 := rfl
  rw [Int.bmod_eq_emod, e]
  split
  · rw [e]; omega
  · show x % 18446744073709551616 - 0 = x
    omega
def inB (a : Int32) : Prop := -16000 ≤ a.toInt ∧ a.toInt ≤ 16000
theorem sub32 {a b : Int32} (ha : inB a) (hb : inB b) : (a - b).toInt = a.toInt - b.toInt := by
  unfold inB at ha hb
  rw [Int32.toInt_sub, bm32 (by omega) (by omega)]
theorem mul32 {p q : Int} (hp : -32000 ≤ p ∧ p ≤ 32000) (hq : -32000 ≤ q ∧ q ≤ 32000) : -1024000000 ≤ p * q ∧ p * q ≤ 1024000000 := by
  have h : (p * q).natAbs ≤ 32000 * 32000 := by
    rw [Int.natAbs_mul]
    exact Nat.mul_le_mul (by omega) (by omega)
  omega
theorem mulL {a b c d : Int32} (ha : inB a) (hb : inB b) (hc : inB c) (hd : inB d) : ((a - b).toInt64 * (c - d).toInt64).toInt = (a.toInt - b.toInt) * (c.toInt - d.toInt) := by
  have h := mul32 (p := a.toInt - b.toInt) (q := c.toInt - d.toInt) (by unfold inB at ha hb; omega) (by unfold inB at hc hd; omega)
  rw [Int64.toInt_mul, Int32.toInt_toInt64, Int32.toInt_toInt64, sub32 ha hb, sub32 hc hd, bm64 (by omega) (by omega)]
theorem mulB {a b c d : Int32} (ha : inB a) (hb : inB b) (hc : inB c) (hd : inB d) : -1024000000 ≤ (a.toInt - b.toInt) * (c.toInt - d.toInt) ∧ (a.toInt - b.toInt) * (c.toInt - d.toInt) ≤ 1024000000 :=
  mul32 (by unfold inB at ha hb; omega) (by unfold inB at hc hd; omega)
theorem subL {p q : Int64} {i j : Int} (hp : p.toInt = i) (hq : q.toInt = j) (h1 : -1024000000 ≤ i ∧ i ≤ 1024000000) (h2 : -1024000000 ≤ j ∧ j ≤ 1024000000) : (p - q).toInt = i - j := by
  rw [Int64.toInt_sub, hp, hq, bm64 (by omega) (by omega)]
theorem addL {p q : Int64} {i j : Int} (hp : p.toInt = i) (hq : q.toInt = j) (h1 : -1024000000 ≤ i ∧ i ≤ 1024000000) (h2 : -1024000000 ≤ j ∧ j ≤ 1024000000) : (p + q).toInt = i + j := by
  rw [Int64.toInt_add, hp, hq, bm64 (by omega) (by omega)]
theorem lt0L {p : Int64} {i : Int} (hp : p.toInt = i) : (p < 0 ↔ i < 0) ∧ (0 < p ↔ 0 < i) ∧ (p = 0 ↔ i = 0) ∧ (p ≤ 0 ↔ i ≤ 0) ∧ (0 ≤ p ↔ 0 ≤ i) := by
  rw [Int64.lt_iff_toInt_lt, Int64.lt_iff_toInt_lt, Int64.le_iff_toInt_le, Int64.le_iff_toInt_le, ← Int64.toInt_inj, hp]
  exact ⟨Iff.rfl, Iff.rfl, Iff.rfl, Iff.rfl, Iff.rfl⟩
/-! directions: two of three turns are clockwise -/
def cw3 (A B C : Int) : Prop := (A < 0 ∧ B < 0) ∨ (B < 0 ∧ C < 0) ∨ (C < 0 ∧ A < 0)
def pp (a1 a2 b1 b2 : Int) : Prop := a1 * b2 - a2 * b1 = 0 ∧ 0 < a1 * b1 + a2 * b2
def nz (a1 a2 : Int) : Prop := a1 ≠ 0 ∨ a2 ≠ 0
theorem sq_pos {a1 a2 : Int} (h : nz a1 a2) : 0 < a1 * a1 + a2 * a2 := by
  have h1 : 0 ≤ a1 * a1 := by
    rcases Int.le_total 0 a1 with q | q
    · exact Int.mul_nonneg q q
    · have := Int.mul_nonneg (show 0 ≤ -a1 by omega) (show 0 ≤ -a1 by omega)
      rw [Int.neg_mul_neg] at this; exact this
  have h2 : 0 ≤ a2 * a2 := by
    rcases Int.le_total 0 a2 with q | q
    · exact Int.mul_nonneg q q
    · have := Int.mul_nonneg (show 0 ≤ -a2 by omega) (show 0 ≤ -a2 by omega)
      rw [Int.neg_mul_neg] at this; exact this
  rcases h with h | h
  · have : a1 * a1 ≠ 0 := fun e => by rcases Int.mul_eq_zero.mp e with q | q <;> exact h q
    omega
  · have : a2 * a2 ≠ 0 := fun e => by rcases Int.mul_eq_zero.mp e with q | q <;> exact h q
    omega
/-- A c + B a = 0 with A < 0 < B: then a and c go the same way -/
theorem pp_of {A B D S : Int} (hA : A < 0) (hB : 0 < B) (hS : 0 < S) (e : A * D + B * S = 0) : 0 < D := by
  rcases Int.lt_or_le 0 D with q | q
  · exact q
  · have h1 : 0 ≤ A * D := Int.mul_nonneg_of_nonpos_of_nonpos (by omega) q
    have h2 : 0 < B * S := Int.mul_pos hB hS
    omega
theorem third {a1 a2 b1 b2 c1 c2 : Int} (ha : nz a1 a2) (hc : nz c1 c2) (hn : ¬ pp a1 a2 c1 c2) (hC : c1 * a2 - c2 * a1 = 0) : (a1 * b2 - a2 * b1 < 0 → b1 * c2 - b2 * c1 < 0) ∧ (0 < a1 * b2 - a2 * b1 → 0 < b1 * c2 - b2 * c1) := by
  have e : (a1 * b2 - a2 * b1) * (a1 * c1 + a2 * c2) + (b1 * c2 - b2 * c1) * (a1 * a1 + a2 * a2) = (c1 * a2 - c2 * a1) * (-(a1 * b1 + a2 * b2)) := by grind
  rw [hC, Int.zero_mul] at e
  have hs := sq_pos ha
  have hz : ¬ 0 < a1 * c1 + a2 * c2 := fun q => hn ⟨by grind, q⟩
  have hne : a1 * c1 + a2 * c2 ≠ 0 := by
    intro q
    have e2 : (a1 * c1 + a2 * c2) * (a1 * c1 + a2 * c2) + (c1 * a2 - c2 * a1) * (c1 * a2 - c2 * a1) = (a1 * a1 + a2 * a2) * (c1 * c1 + c2 * c2) := by grind
    rw [q, hC] at e2
    have := Int.mul_pos hs (sq_pos hc)
    omega
  have hneg : a1 * c1 + a2 * c2 < 0 := by omega
  generalize a1 * b2 - a2 * b1 = A at *
  generalize b1 * c2 - b2 * c1 = B at *
  generalize a1 * c1 + a2 * c2 = D at *
  generalize a1 * a1 + a2 * a2 = S at *
  constructor
  · intro hA
    have h1 : 0 < A * D := Int.mul_pos_of_neg_of_neg hA hneg
    rcases Int.lt_or_le B 0 with q | q
    · exact q
    · have := Int.mul_nonneg q (Int.le_of_lt hs)
      omega
  · intro hA
    have h1 : A * D < 0 := Int.mul_neg_of_pos_of_neg hA hneg
    rcases Int.lt_or_le 0 B with q | q
    · exact q
    · have h2 : B * S ≤ 0 := Int.mul_nonpos_of_nonpos_of_nonneg q (Int.le_of_lt hs)
      omega
/-- of three directions, no two the same: two turns go one way -/
theorem cw_total {a1 a2 b1 b2 c1 c2 : Int} (ha : nz a1 a2) (hb : nz b1 b2) (hc : nz c1 c2) (h1 : ¬ pp a1 a2 b1 b2) (h2 : ¬ pp b1 b2 c1 c2) (h3 : ¬ pp a1 a2 c1 c2) :
    cw3 (a1 * b2 - a2 * b1) (b1 * c2 - b2 * c1) (c1 * a2 - c2 * a1) ∨ cw3 (-(a1 * b2 - a2 * b1)) (-(b1 * c2 - b2 * c1)) (-(c1 * a2 - c2 * a1)) := by
  have t1 := third (b1 := b1) (b2 := b2) ha hc h3
  have t2 := third (b1 := c1) (b2 := c2) hb ha (fun q => h1 ⟨by have := q.1; grind, by have := q.2; grind⟩)
  have t3 := third (b1 := a1) (b2 := a2) hc hb (fun q => h2 ⟨by have := q.1; grind, by have := q.2; grind⟩)
  have z1 : ¬ (a1 * b2 - a2 * b1 = 0 ∧ b1 * c2 - b2 * c1 = 0) := by
    rintro ⟨e1, e2⟩
    have d1 : a1 * b1 + a2 * b2 < 0 := by
      have i1 : (a1 * b1 + a2 * b2) * (a1 * b1 + a2 * b2) + (a1 * b2 - a2 * b1) * (a1 * b2 - a2 * b1) = (a1 * a1 + a2 * a2) * (b1 * b1 + b2 * b2) := by grind
      have p1 := Int.mul_pos (sq_pos ha) (sq_pos hb)
      rcases Int.lt_trichotomy (a1 * b1 + a2 * b2) 0 with q | q | q
      · exact q
      · rw [e1, q] at i1; omega
      · exact absurd ⟨e1, q⟩ h1
    have d2 : b1 * c1 + b2 * c2 < 0 := by
      have i1 : (b1 * c1 + b2 * c2) * (b1 * c1 + b2 * c2) + (b1 * c2 - b2 * c1) * (b1 * c2 - b2 * c1) = (b1 * b1 + b2 * b2) * (c1 * c1 + c2 * c2) := by grind
      have p1 := Int.mul_pos (sq_pos hb) (sq_pos hc)
      rcases Int.lt_trichotomy (b1 * c1 + b2 * c2) 0 with q | q | q
      · exact q
      · rw [e2, q] at i1; omega
      · exact absurd ⟨e2, q⟩ h2
    have i2 : (b1 * b1 + b2 * b2) * (a1 * c1 + a2 * c2) = (a1 * b1 + a2 * b2) * (b1 * c1 + b2 * c2) - (a1 * b2 - a2 * b1) * (b1 * c2 - b2 * c1) := by grind
    have i3 : (b1 * b1 + b2 * b2) * (a1 * c2 - a2 * c1) = (a1 * b1 + a2 * b2) * (b1 * c2 - b2 * c1) + (a1 * b2 - a2 * b1) * (b1 * c1 + b2 * c2) := by grind
    rw [e1, e2] at i2 i3
    have hs := sq_pos hb
    refine h3 ⟨?_, ?_⟩
    · rcases Int.mul_eq_zero.mp (show (b1 * b1 + b2 * b2) * (a1 * c2 - a2 * c1) = 0 by rw [i3]; omega) with q | q
      · omega
      · exact q
    · have := Int.mul_pos_of_neg_of_neg d1 d2
      rcases Int.lt_or_le 0 (a1 * c1 + a2 * c2) with q | q
      · exact q
      · have h9 := Int.mul_nonpos_of_nonneg_of_nonpos (Int.le_of_lt hs) q
        omega
  unfold cw3
  generalize a1 * b2 - a2 * b1 = A at *
  generalize b1 * c2 - b2 * c1 = B at *
  generalize c1 * a2 - c2 * a1 = C at *
  have u1 := t1
  have u2 : B = B := rfl
  by_cases hC : C = 0
  · have := t1 hC
    omega
  · by_cases hA : A = 0
    · have := t2 hA
      omega
    · by_cases hB : B = 0
      · have := t3 hB
        omega
      · omega
