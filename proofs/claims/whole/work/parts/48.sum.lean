/-! sums over the halves that have a property -/
noncomputable def pif (P : Prop) (v : Int) : Int := @ite _ P (Classical.propDecidable P) v 0
theorem pif_t {P : Prop} {v : Int} (h : P) : pif P v = v := by unfold pif; exact if_pos h
theorem pif_f {P : Prop} {v : Int} (h : ¬ P) : pif P v = 0 := by unfold pif; exact if_neg h
theorem pif_c {P Q : Prop} {v : Int} (h : P ↔ Q) : pif P v = pif Q v := by
  by_cases q : Q
  · rw [pif_t q, pif_t (h.mpr q)]
  · rw [pif_f q, pif_f (fun p => q (h.mp p))]
theorem pif_0 {P : Prop} : pif P 0 = 0 := by by_cases q : P <;> simp [pif_t, pif_f, q]
theorem pif_nn {P : Prop} {v : Int} (h : P → 0 ≤ v) : 0 ≤ pif P v := by
  by_cases q : P
  · rw [pif_t q]; exact h q
  · rw [pif_f q]; exact Int.le_refl 0
noncomputable def pifL (P : Prop) (v : Int64) : Int64 := @ite _ P (Classical.propDecidable P) v 0
theorem pifL_t {P : Prop} {v : Int64} (h : P) : pifL P v = v := by unfold pifL; exact if_pos h
theorem pifL_f {P : Prop} {v : Int64} (h : ¬ P) : pifL P v = 0 := by unfold pifL; exact if_neg h
theorem pifL_c {P Q : Prop} {v : Int64} (h : P ↔ Q) : pifL P v = pifL Q v := by
  by_cases q : Q
  · rw [pifL_t q, pifL_t (h.mpr q)]
  · rw [pifL_f q, pifL_f (fun p => q (h.mp p))]
def su (f : Nat → Int) : Nat → Int
  | 0 => 0
  | n + 1 => su f n + f n
def suL (f : Nat → Int64) : Nat → Int64
  | 0 => 0
  | n + 1 => suL f n + f n
theorem su_c {f g : Nat → Int} : ∀ {n : Nat}, (∀ i, i < n → f i = g i) → su f n = su g n := by
  intro n
  induction n with
  | zero => intro _; rfl
  | succ n ih => intro h; show su f n + f n = su g n + g n; rw [ih fun i hi => h i (by omega), h n (by omega)]
theorem suL_c {f g : Nat → Int64} : ∀ {n : Nat}, (∀ i, i < n → f i = g i) → suL f n = suL g n := by
  intro n
  induction n with
  | zero => intro _; rfl
  | succ n ih => intro h; show suL f n + f n = suL g n + g n; rw [ih fun i hi => h i (by omega), h n (by omega)]
theorem su_add {f g : Nat → Int} : ∀ {n : Nat}, su (fun i => f i + g i) n = su f n + su g n := by
  intro n
  induction n with
  | zero => rfl
  | succ n ih => show su (fun i => f i + g i) n + (f n + g n) = (su f n + f n) + (su g n + g n); rw [ih]; omega
theorem su_sub {f g : Nat → Int} : ∀ {n : Nat}, su (fun i => f i - g i) n = su f n - su g n := by
  intro n
  induction n with
  | zero => rfl
  | succ n ih => show su (fun i => f i - g i) n + (f n - g n) = (su f n + f n) - (su g n + g n); rw [ih]; omega
theorem su_neg {f : Nat → Int} : ∀ {n : Nat}, su (fun i => - f i) n = - su f n := by
  intro n
  induction n with
  | zero => rfl
  | succ n ih => show su (fun i => - f i) n + - f n = -(su f n + f n); rw [ih]; omega
theorem su_mul {f : Nat → Int} {c : Int} : ∀ {n : Nat}, su (fun i => c * f i) n = c * su f n := by
  intro n
  induction n with
  | zero => show 0 = c * 0; omega
  | succ n ih => show su (fun i => c * f i) n + c * f n = c * (su f n + f n); rw [ih, Int.mul_add]
theorem su_0 {f : Nat → Int} : ∀ {n : Nat}, (∀ i, i < n → f i = 0) → su f n = 0 := by
  intro n
  induction n with
  | zero => intro _; rfl
  | succ n ih => intro h; show su f n + f n = 0; rw [ih fun i hi => h i (by omega), h n (by omega)]; rfl
theorem su_nn {f : Nat → Int} : ∀ {n : Nat}, (∀ i, i < n → 0 ≤ f i) → 0 ≤ su f n := by
  intro n
  induction n with
  | zero => intro _; exact Int.le_refl 0
  | succ n ih => intro h; show 0 ≤ su f n + f n; have := ih fun i hi => h i (by omega); have := h n (by omega); omega
theorem su_le {f g : Nat → Int} : ∀ {n : Nat}, (∀ i, i < n → f i ≤ g i) → su f n ≤ su g n := by
  intro n
  induction n with
  | zero => intro _; exact Int.le_refl 0
  | succ n ih => intro h; show su f n + f n ≤ su g n + g n; have := ih fun i hi => h i (by omega); have := h n (by omega); omega
theorem su_one {v : Int} {k : Nat} : ∀ {n : Nat}, k < n → su (fun i => pif (i = k) v) n = v := by
  intro n
  induction n with
  | zero => intro h; exact absurd h (Nat.not_lt_zero k)
  | succ n ih =>
    intro h
    show su (fun i => pif (i = k) v) n + pif (n = k) v = v
    rcases Nat.lt_or_ge k n with q | q
    · rw [ih q, pif_f (by omega)]; omega
    · rw [pif_t (show n = k by omega), su_0 fun i hi => pif_f (by omega)]; omega
theorem su_pos {f : Nat → Int} {n k : Nat} (h : ∀ i, i < n → 0 ≤ f i) (hk : k < n) : f k ≤ su f n := by
  have e : su (fun i => f i - pif (i = k) (f k)) n = su f n - f k := by rw [su_sub, su_one hk]
  have p : 0 ≤ su (fun i => f i - pif (i = k) (f k)) n := su_nn fun i hi => by
    by_cases q : i = k
    · rw [pif_t q, q]; omega
    · rw [pif_f q]; have := h i hi; omega
  omega
/-- sums of sums, the other way round -/
theorem su_sw {f : Nat → Nat → Int} {m : Nat} : ∀ {n : Nat}, su (fun i => su (fun j => f i j) m) n = su (fun j => su (fun i => f i j) n) m := by
  intro n
  induction n with
  | zero => exact (su_0 fun j _ => rfl).symm
  | succ n ih =>
    show su (fun i => su (fun j => f i j) m) n + su (fun j => f n j) m = su (fun j => su (fun i => f i j) n + f n j) m
    rw [ih, su_add]
/-- one more that has the property -/
theorem suL_put {P Q : Nat → Prop} {f : Nat → Int64} {k : Nat} (hk : ¬ P k) (hq : ∀ i, Q i ↔ P i ∨ i = k) : ∀ {n : Nat}, (k < n → suL (fun i => pifL (Q i) (f i)) n = suL (fun i => pifL (P i) (f i)) n + f k) ∧ (n ≤ k → suL (fun i => pifL (Q i) (f i)) n = suL (fun i => pifL (P i) (f i)) n) := by
  intro n
  induction n with
  | zero => exact ⟨fun h => absurd h (Nat.not_lt_zero k), fun _ => rfl⟩
  | succ n ih =>
    constructor
    · intro h
      show suL (fun i => pifL (Q i) (f i)) n + pifL (Q n) (f n) = suL (fun i => pifL (P i) (f i)) n + pifL (P n) (f n) + f k
      rcases Nat.lt_or_ge k n with q | q
      · have e : pifL (Q n) (f n) = pifL (P n) (f n) := pifL_c ⟨fun z => ((hq n).mp z).elim id fun z => absurd z (by omega), fun z => (hq n).mpr (Or.inl z)⟩
        rw [ih.1 q, e, Int64.add_assoc, Int64.add_assoc, Int64.add_comm (f k)]
      · have e : n = k := by omega
        subst e
        rw [ih.2 (by omega), pifL_t ((hq n).mpr (Or.inr rfl)), pifL_f hk, Int64.add_zero]
    · intro h
      show suL (fun i => pifL (Q i) (f i)) n + pifL (Q n) (f n) = suL (fun i => pifL (P i) (f i)) n + pifL (P n) (f n)
      have e : pifL (Q n) (f n) = pifL (P n) (f n) := pifL_c ⟨fun z => ((hq n).mp z).elim id fun z => absurd z (by omega), fun z => (hq n).mpr (Or.inl z)⟩
      rw [ih.2 (by omega), e]
/-! how many have a property -/
noncomputable def cn (P : Nat → Prop) : Nat → Nat
  | 0 => 0
  | n + 1 => @ite _ (P n) (Classical.propDecidable _) (cn P n + 1) (cn P n)
theorem cn_t {P : Nat → Prop} {n : Nat} (h : P n) : cn P (n + 1) = cn P n + 1 := by rw [cn]; exact if_pos h
theorem cn_f {P : Nat → Prop} {n : Nat} (h : ¬ P n) : cn P (n + 1) = cn P n := by rw [cn]; exact if_neg h
theorem cn_le {P : Nat → Prop} : ∀ {n : Nat}, cn P n ≤ n := by
  intro n
  induction n with
  | zero => exact Nat.le_refl 0
  | succ n ih => by_cases q : P n
                 · rw [cn_t q]; omega
                 · rw [cn_f q]; omega
theorem cn_c {P Q : Nat → Prop} : ∀ {n : Nat}, (∀ i, i < n → (P i ↔ Q i)) → cn P n = cn Q n := by
  intro n
  induction n with
  | zero => intro _; rfl
  | succ n ih =>
    intro h
    have e := ih fun i hi => h i (by omega)
    by_cases q : P n
    · rw [cn_t q, cn_t ((h n (by omega)).mp q), e]
    · rw [cn_f q, cn_f (fun z => q ((h n (by omega)).mpr z)), e]
theorem cn_full {P : Nat → Prop} : ∀ {n : Nat}, cn P n = n → ∀ i, i < n → P i := by
  intro n
  induction n with
  | zero => intro _ i h; exact absurd h (Nat.not_lt_zero i)
  | succ n ih =>
    intro h i hi
    have hl := cn_le (P := P) (n := n)
    by_cases q : P n
    · rw [cn_t q] at h
      rcases Nat.lt_or_ge i n with z | z
      · exact ih (by omega) i z
      · have : i = n := by omega
        rw [this]; exact q
    · rw [cn_f q] at h; omega
theorem cn_0 {P : Nat → Prop} : ∀ {n : Nat}, (∀ i, i < n → ¬ P i) → cn P n = 0 := by
  intro n
  induction n with
  | zero => intro _; rfl
  | succ n ih => intro h; rw [cn_f (h n (by omega))]; exact ih fun i hi => h i (by omega)
theorem cn_mono {P Q : Nat → Prop} : ∀ {n : Nat}, (∀ i, i < n → P i → Q i) → cn P n ≤ cn Q n := by
  intro n
  induction n with
  | zero => intro _; exact Nat.le_refl 0
  | succ n ih =>
    intro h
    have := ih fun i hi => h i (by omega)
    by_cases q : P n
    · rw [cn_t q, cn_t (h n (by omega) q)]; omega
    · rw [cn_f q]
      by_cases q2 : Q n
      · rw [cn_t q2]; omega
      · rw [cn_f q2]; omega
theorem cn_put {P Q : Nat → Prop} {k : Nat} (hk : ¬ P k) (hq : ∀ i, Q i ↔ P i ∨ i = k) : ∀ {n : Nat}, (k < n → cn Q n = cn P n + 1) ∧ (n ≤ k → cn Q n = cn P n) := by
  intro n
  induction n with
  | zero => exact ⟨fun h => absurd h (Nat.not_lt_zero k), fun _ => rfl⟩
  | succ n ih =>
    have same : n ≠ k → (Q n ↔ P n) := fun z => ⟨fun w => ((hq n).mp w).elim id fun w => absurd w z, fun w => (hq n).mpr (Or.inl w)⟩
    constructor
    · intro h
      by_cases e : n = k
      · subst e
        rw [cn_t ((hq n).mpr (Or.inr rfl)), cn_f hk, ih.2 (Nat.le_refl _)]
      · by_cases q : P n
        · rw [cn_t q, cn_t ((same e).mpr q), ih.1 (by omega)]
        · rw [cn_f q, cn_f (fun z => q ((same e).mp z)), ih.1 (by omega)]
    · intro h
      have e : n ≠ k := by omega
      by_cases q : P n
      · rw [cn_t q, cn_t ((same e).mpr q), ih.2 (by omega)]
      · rw [cn_f q, cn_f (fun z => q ((same e).mp z)), ih.2 (by omega)]
/-- a one-to-one way from one row into another: no fewer there -/
theorem cn_su {P : Nat → Prop} : ∀ {n : Nat}, (cn P n : Int) = su (fun i => pif (P i) 1) n := by
  intro n
  induction n with
  | zero => rfl
  | succ n ih =>
    show _ = su (fun i => pif (P i) 1) n + pif (P n) 1
    by_cases q : P n
    · rw [cn_t q, pif_t q, ← ih]; omega
    · rw [cn_f q, pif_f q, ← ih]; omega
/-- sums over a row that a one-to-one way maps into itself -/
theorem su_perm {n : Nat} {S : Nat → Prop} {p : Nat → Nat} (h1 : ∀ i, i < n → S i → p i < n ∧ S (p i)) (h2 : ∀ i j, i < n → j < n → S i → S j → p i = p j → i = j) (F : Nat → Int) : su (fun i => pif (S i) (F (p i))) n = su (fun i => pif (S i) (F i)) n := by
  have cnt : ∀ k, k < n → su (fun i => pif (S i ∧ p i = k) 1) n ≤ pif (S k) 1 := by
    intro k hk
    by_cases hs : ∃ i, i < n ∧ S i ∧ p i = k
    · obtain ⟨i, hi, si, e⟩ := hs
      rw [pif_t (e ▸ (h1 i hi si).2)]
      have e2 : su (fun j => pif (S j ∧ p j = k) 1) n = su (fun j => pif (j = i) 1) n := su_c fun j hj => pif_c ⟨fun q => h2 j i hj hi q.1 si (q.2.trans e.symm), fun q => by rw [q]; exact ⟨si, e⟩⟩
      rw [e2, su_one hi]
      exact Int.le_refl 1
    · rw [su_0 fun i hi => pif_f fun q => hs ⟨i, hi, q⟩]
      exact pif_nn fun _ => by decide
  have tot : su (fun k => su (fun i => pif (S i ∧ p i = k) 1) n) n = su (fun k => pif (S k) 1) n := by
    rw [← su_sw (f := fun i k => pif (S i ∧ p i = k) 1)]
    refine su_c fun i hi => ?_
    by_cases si : S i
    · rw [pif_t si]
      have : su (fun k => pif (S i ∧ p i = k) 1) n = su (fun k => pif (k = p i) 1) n := su_c fun k hk => pif_c ⟨fun q => q.2.symm, fun q => ⟨si, q.symm⟩⟩
      rw [this, su_one (h1 i hi si).1]
    · rw [pif_f si, su_0 fun k hk => pif_f fun q => si q.1]
  have each : ∀ k, k < n → su (fun i => pif (S i ∧ p i = k) 1) n = pif (S k) 1 := by
    intro k hk
    have d : su (fun k => pif (S k) 1 - su (fun i => pif (S i ∧ p i = k) 1) n) n = 0 := by rw [su_sub, tot]; omega
    have := su_pos (f := fun k => pif (S k) 1 - su (fun i => pif (S i ∧ p i = k) 1) n) (fun i hi => by have := cnt i hi; show 0 ≤ _ - _; omega) hk
    have := cnt k hk
    rw [d] at *
    have h9 : pif (S k) 1 - su (fun i => pif (S i ∧ p i = k) 1) n ≤ 0 := by assumption
    omega
  have left : su (fun i => pif (S i) (F (p i))) n = su (fun i => su (fun k => F k * pif (S i ∧ p i = k) 1) n) n := su_c fun i hi => by
    by_cases si : S i
    · rw [pif_t si]
      have : su (fun k => F k * pif (S i ∧ p i = k) 1) n = su (fun k => pif (k = p i) (F (p i))) n := su_c fun k hk => by
        by_cases q : k = p i
        · rw [pif_t q, pif_t ⟨si, q.symm⟩, q]; omega
        · rw [pif_f q, pif_f (fun z => q z.2.symm)]; omega
      rw [this, su_one (h1 i hi si).1]
    · rw [pif_f si, su_0 fun k hk => by rw [pif_f (fun z => si z.1)]; omega]
  rw [left, su_sw]
  refine su_c fun k hk => ?_
  rw [su_mul, each k hk]
  by_cases q : S k
  · rw [pif_t q, pif_t q]; omega
  · rw [pif_f q, pif_f q]; omega
