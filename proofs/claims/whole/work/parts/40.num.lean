/-! numbers: halves, their ways back, booleans -/
def bk (h : Nat) : Nat := if h % 2 = 0 then h + 1 else h - 1
theorem bk_lt {h : Nat} (hh : h < 120) : bk h < 120 := by unfold bk; split <;> omega
theorem bk_bk (h : Nat) : bk (bk h) = h := by unfold bk; split <;> split <;> omega
theorem bk_half (h : Nat) : bk h / 2 = h / 2 := by unfold bk; split <;> omega
theorem bk_ne (h : Nat) : bk h ≠ h := by unfold bk; split <;> omega
theorem bk_ev (s : Nat) : bk (2 * s) = 2 * s + 1 := by unfold bk; split <;> omega
theorem bk_od (s : Nat) : bk (2 * s + 1) = 2 * s := by unfold bk; split <;> omega
theorem bk_inj {g h : Nat} (e : bk g = bk h) : g = h := by rw [← bk_bk g, e, bk_bk]
theorem hf_lt {h : Nat} (hh : h < 120) : h / 2 < 60 := by omega
theorem xor_bk0 : ∀ h, h < 120 → nI h ^^^ 1 = nI (if h % 2 = 0 then h + 1 else h - 1) := by decide +kernel
theorem xor_bk {h : Nat} (hh : h < 120) : nI h ^^^ (1 : Int32) = nI (bk h) := xor_bk0 h hh
theorem shr_half0 : ∀ h, h < 120 → nI h >>> ((1 : Int32) &&& 31) = nI (h / 2) := by decide +kernel
theorem shr_half {h : Nat} (hh : h < 120) : nI h >>> ((1 : Int32) &&& 31) = nI (h / 2) := shr_half0 h hh
theorem div_half0 : ∀ h, h < 120 → nI h / (2 : Int32) = nI (h / 2) := by decide +kernel
theorem div_half {h : Nat} (hh : h < 120) : nI h / (2 : Int32) = nI (h / 2) := div_half0 h hh
theorem rem_par0 : ∀ h, h < 120 → nI h - nI h / (2 : Int32) * (2 : Int32) = nI (h % 2) := by decide +kernel
theorem rem_par {h : Nat} (hh : h < 120) : nI h - nI h / (2 : Int32) * (2 : Int32) = nI (h % 2) := rem_par0 h hh
theorem dbl {s : Nat} : (2 : Int32) * nI s = nI (2 * s) := pk_mul 2 s
theorem dbl1 {s : Nat} : nI (2 * s) + (1 : Int32) = nI (2 * s + 1) := nI_1 _
theorem cl {h : Nat} (hh : h < 1000) : (nI h).toNatClampNeg = h := nI_clamp (by omega)
theorem vin {h N : Nat} (hh : h < N) (hN : N < 1000) : vp_in (nI h) N := vp_in_nI hh (by omega)
theorem lt60 {i : Nat} (h : i < 1000) : (60 : Int32) ≤ nI i ↔ 60 ≤ i := nI_leI (a := 60) (by decide) (by omega)
theorem lt120 {i : Nat} (h : i < 1000) : (120 : Int32) ≤ nI i ↔ 120 ≤ i := nI_leI (a := 120) (by decide) (by omega)
theorem nneg {i : Nat} (h : i < 1000) : ¬ nI i < 0 := nI_pos (by omega)
theorem neqm1 {i : Nat} (h : i < 1000) : ¬ nI i = -1 := fun e => by
  have h1 := nneg h
  rw [e] at h1
  exact h1 (by decide)
theorem nI_inj {i j : Nat} (hi : i < 1000) (hj : j < 1000) (e : nI i = nI j) : i = j := (nI_eq (by omega) (by omega)).mp e
noncomputable def bi (P : Prop) : Int32 := @ite _ P (Classical.propDecidable P) 1 0
theorem bi_t {P : Prop} (h : P) : bi P = 1 := by unfold bi; exact if_pos h
theorem bi_f {P : Prop} (h : ¬ P) : bi P = 0 := by unfold bi; exact if_neg h
theorem bz_bi (P : Prop) : bz (bi P) := by
  by_cases h : P
  · rw [bi_t h]; exact Or.inr rfl
  · rw [bi_f h]; exact Or.inl rfl
theorem bi0 {P : Prop} : bi P = 0 ↔ ¬ P := by
  by_cases h : P
  · rw [bi_t h]; exact ⟨fun e => absurd e (by decide), fun e => absurd h e⟩
  · rw [bi_f h]; exact ⟨fun _ => h, fun _ => rfl⟩
theorem bi_c {P Q : Prop} (h : P ↔ Q) : bi P = bi Q := by
  by_cases q : Q
  · rw [bi_t q, bi_t (h.mpr q)]
  · rw [bi_f q, bi_f (fun p => q (h.mp p))]
/-- a leaf of a tree of conditions -/
theorem bi_lf {P : Prop} {post : Int32 → Prop} (k : post (bi P)) : (P → post 1) ∧ (¬ P → post 0) := ⟨fun h => by rw [bi_t h] at k; exact k, fun h => by rw [bi_f h] at k; exact k⟩
theorem bz0 : bz (0 : Int32) := Or.inl rfl
theorem bz1 : bz (1 : Int32) := Or.inr rfl
/-! numbering by the first place: two numberings with the same classes are one -/
theorem rg_uniq {N b : Nat} {dom : Nat → Prop} {f g : Nat → Nat} (hf : ∀ h, h < N → dom h → ∀ k, b ≤ k → k < f h → ∃ t, t < h ∧ dom t ∧ f t = k) (hg : ∀ h, h < N → dom h → ∀ k, b ≤ k → k < g h → ∃ t, t < h ∧ dom t ∧ g t = k)
    (ker : ∀ s t, s < N → t < N → dom s → dom t → (f s = f t ↔ g s = g t)) (low : ∀ h, h < N → dom h → (f h < b ∨ g h < b) → f h = g h) : ∀ h, h < N → dom h → f h = g h := by
  intro h
  induction h using Nat.strongRecOn with
  | ind h ih =>
    intro hN hd
    by_cases hl : f h < b ∨ g h < b
    · exact low h hN hd hl
    · have hfb : b ≤ f h := by omega
      have hgb : b ≤ g h := by omega
      rcases Nat.lt_trichotomy (f h) (g h) with hlt | heq | hgt
      · obtain ⟨t, ht, hdt, e⟩ := hg h hN hd (f h) hfb hlt
        have e2 := ih t ht (by omega) hdt
        have e3 := (ker t h (by omega) hN hdt hd).mp (by omega)
        omega
      · exact heq
      · obtain ⟨t, ht, hdt, e⟩ := hf h hN hd (g h) hgb hgt
        have e2 := ih t ht (by omega) hdt
        have e3 := (ker t h (by omega) hN hdt hd).mpr (by omega)
        omega
theorem rg_cnt {N b cf cg : Nat} {dom : Nat → Prop} {f g : Nat → Nat} (h1 : ∀ h, h < N → dom h → f h < cf) (h2 : ∀ k, b ≤ k → k < cf → ∃ h, h < N ∧ dom h ∧ f h = k) (h3 : ∀ h, h < N → dom h → g h < cg) (h4 : ∀ k, b ≤ k → k < cg → ∃ h, h < N ∧ dom h ∧ g h = k) (hb1 : b ≤ cf) (hb2 : b ≤ cg) (e : ∀ h, h < N → dom h → f h = g h) : cf = cg := by
  rcases Nat.lt_trichotomy cf cg with hlt | heq | hgt
  · obtain ⟨h, hN, hd, hk⟩ := h4 cf hb1 hlt
    have := h1 h hN hd
    have := e h hN hd
    omega
  · exact heq
  · obtain ⟨h, hN, hd, hk⟩ := h2 cg hb2 hgt
    have := h3 h hN hd
    have := e h hN hd
    omega
