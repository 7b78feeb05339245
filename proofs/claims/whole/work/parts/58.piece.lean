/-! one walk around a point meets all its halves; values within a piece -/
theorem sec_lin {X V : Nat → Int} {U : Nat → Prop} {N : Nat → Nat} (G : Geo X V U N) {j : Nat} (hj : j < 120) (uj : U j) (self : N (bk j) ≠ j) : ∀ g, g < 120 → U g → X g = X j → g ≠ j → g ≠ N (bk j) → (bef X V j (N (bk j)) ∧ bef X V (N (bk j)) g) ∨ (bef X V (N (bk j)) g ∧ bef X V g j) ∨ (bef X V g j ∧ bef X V j (N (bk j))) := by
  intro g hg ug e n1 n2
  have hn := G.2.2.2.2.2.2.1.1 (bk j) (bk_lt hj) (G.1 j uj)
  have d1 := rt_dl G hj uj
  have d2 := rt_dl G hn.1 hn.2
  have d3 := rt_dl G hg ug
  have := cyc_lin (cr_id X V j (N (bk j)) g) d1.2 d2.2 d3.2 ((G.2.2.2.2.2.2.2.2.1 j hj uj).2 self g hg ug e n1 n2)
  unfold bef
  rw [d1.1, d2.1, d3.1]
  exact this
theorem cn_lt {P Q : Nat → Prop} {n x : Nat} (h : ∀ i, i < n → P i → Q i) (hx : x < n) (qx : Q x) (px : ¬ P x) : cn P n < cn Q n := by
  have e := (cn_put (Q := fun i => P i ∨ i = x) px (fun i => Iff.rfl) (n := n)).1 hx
  have := cn_mono (P := fun i => P i ∨ i = x) (Q := Q) (n := n) (fun i hi z => z.elim (h i hi) fun w => by rw [w]; exact qx)
  omega
theorem rot {X V : Nat → Int} {U : Nat → Prop} {N : Nat → Nat} (G : Geo X V U N) {P : Nat → Prop} (h1 : ∀ a, a < 120 → U a → (P a ↔ P (N a))) (h2 : ∀ a, a < 120 → U a → (P a ↔ P (bk a))) : ∀ g h, g < 120 → h < 120 → U g → U h → X g = X h → (P g ↔ P h) := by
  have main : ∀ n k, cn (fun g => U g ∧ X g = X k ∧ bef X V g k) 120 ≤ n → k < 120 → U k → ∃ f, f < 120 ∧ U f ∧ X f = X k ∧ (∀ g, g < 120 → U g → X g = X k → ¬ bef X V g f) ∧ (P k ↔ P f) := by
    intro n
    induction n with
    | zero =>
      intro k hc hk uk
      refine ⟨k, hk, uk, rfl, fun g hg ug e b => ?_, Iff.rfl⟩
      have := cn_lt (P := fun _ => False) (Q := fun g => U g ∧ X g = X k ∧ bef X V g k) (fun i _ z => z.elim) hg ⟨ug, e, b⟩ id
      omega
    | succ n ih =>
      intro k hc hk uk
      cases hb : bst (fun g => U g ∧ X g = X k ∧ bef X V g k) (fun a b => bef X V b a) 120 with
      | none => exact ⟨k, hk, uk, rfl, fun g hg ug e b => bst_none hb g hg ⟨ug, e, b⟩, Iff.rfl⟩
      | some j =>
        obtain ⟨hj, uj, ej, bj⟩ := bst_ok hb
        have mx := bst_min (fun a b c ha hb hc oa ob oc _ _ _ q1 q2 => bef_tr G hc hb ha oc.1 ob.1 oa.1 q2 q1) (fun a b ha hb oa ob n => (bef_tot G ha hb oa.1 ob.1 (oa.2.1.trans ob.2.1.symm) n).symm) hb
        have hn := G.2.2.2.2.2.2.1.1 (bk j) (bk_lt hj) (G.1 j uj)
        have ex := G.2.2.2.2.2.2.2.1 (bk j) (bk_lt hj) (G.1 j uj)
        rw [bk_bk] at ex
        have self : N (bk j) ≠ j := fun q => by
          have := (G.2.2.2.2.2.2.2.2.1 j hj uj).1 q k hk uk ej.symm
          rw [this] at bj; exact bef_irr bj
        have ek : N (bk j) = k := by
          by_cases q : k = N (bk j)
          · exact q.symm
          · exfalso
            have kj : k ≠ j := fun w => by rw [w] at bj; exact bef_irr bj
            rcases sec_lin G hj uj self k hk uk ej.symm kj q with w | w | w
            · exact bef_asym w.1 (mx _ hn.1 ⟨hn.2, ex.trans ej, w.2⟩ self)
            · exact bef_asym bj w.2
            · exact bef_asym bj w.1
        have lt := cn_lt (P := fun g => U g ∧ X g = X j ∧ bef X V g j) (Q := fun g => U g ∧ X g = X k ∧ bef X V g k) (n := 120) (fun i hi z => ⟨z.1, z.2.1.trans ej, bef_tr G hi hj hk z.1 uj uk z.2.2 bj⟩) hj ⟨uj, ej, bj⟩ (fun z => bef_irr z.2.2)
        obtain ⟨f, hf, uf, ef, mf, pf⟩ := ih j (by omega) hj uj
        refine ⟨f, hf, uf, ef.trans ej, fun g hg ug e => mf g hg ug (e.trans ej.symm), ?_⟩
        have := (h2 j hj uj).trans (h1 (bk j) (bk_lt hj) (G.1 j uj))
        rw [ek] at this
        exact this.symm.trans pf
  intro g h hg hh ug uh e
  obtain ⟨f, hf, uf, ef, mf, pf⟩ := main _ g (Nat.le_refl _) hg ug
  obtain ⟨f', hf', uf', ef', mf', pf'⟩ := main _ h (Nat.le_refl _) hh uh
  have : f = f' := by
    by_cases q : f = f'
    · exact q
    · rcases bef_tot G hf hf' uf uf' (by rw [ef, ef', e]) q with b | b
      · exact absurd b (mf' f hf uf (by rw [ef, e]))
      · exact absurd b (mf f' hf' uf' (by rw [ef', e]))
  rw [pf, pf', this]
/-- a piece -/
def Pie (X : Nat → Int) (U T : Nat → Prop) : Prop := (∀ h, h < 120 → T h → U h) ∧ (∀ h, h < 120 → T h → T (bk h)) ∧ (∀ g h, g < 120 → h < 120 → T g → U h → X g = X h → T h) ∧
  (∀ P : Nat → Prop, (∀ g h, g < 120 → h < 120 → U g → U h → (X g = X h ∨ g = bk h) → (P g ↔ P h)) → ∀ a b, a < 120 → b < 120 → T a → T b → (P a ↔ P b)) ∧ ∃ h, h < 120 ∧ T h
theorem ex_max {T : Nat → Prop} {F : Nat → Int} : ∀ {n : Nat}, (∃ h, h < n ∧ T h) → ∃ t, t < n ∧ T t ∧ ∀ h, h < n → T h → F h ≤ F t := by
  intro n
  induction n with
  | zero => rintro ⟨h, hh, _⟩; exact absurd hh (Nat.not_lt_zero h)
  | succ n ih =>
    rintro ⟨h, hh, th⟩
    by_cases q : ∃ h, h < n ∧ T h
    · obtain ⟨t, ht, tt, mt⟩ := ih q
      by_cases q2 : T n ∧ F t < F n
      · refine ⟨n, by omega, q2.1, fun g hg tg => ?_⟩
        by_cases e : g = n
        · rw [e]; exact Int.le_refl _
        · have := mt g (by omega) tg; omega
      · refine ⟨t, by omega, tt, fun g hg tg => ?_⟩
        by_cases e : g = n
        · rw [e] at tg ⊢
          rcases Int.lt_or_le (F t) (F n) with w | w
          · exact absurd ⟨tg, w⟩ q2
          · exact w
        · exact mt g (by omega) tg
    · have e : h = n := by
        by_cases w : h = n
        · exact w
        · exact absurd ⟨h, by omega, th⟩ q
      subst e
      refine ⟨h, by omega, th, fun g hg tg => ?_⟩
      by_cases e : g = h
      · rw [e]; exact Int.le_refl _
      · exact absurd ⟨g, by omega, tg⟩ q
theorem ri_or (X : Nat → Int) (g : Nat) : ri X g = g ∨ ri X g = bk g := by unfold ri; split <;> simp
theorem ri_rt {X V : Nat → Int} {U : Nat → Prop} {N : Nat → Nat} (G : Geo X V U N) {g : Nat} (hg : g < 120) (ug : U g) : rt X (ri X g) ∧ ri X g < 120 ∧ U (ri X g) ∧ ri X g / 2 = g / 2 := by
  by_cases r : rt X g
  · rw [(ri_t r).1]; exact ⟨r, hg, ug, rfl⟩
  · rw [(ri_f r).1]; exact ⟨(rt_bk G hg ug).mpr r, bk_lt hg, G.1 g ug, bk_half g⟩
/-- nothing of the piece is over its top -/
theorem no_over {X V : Nat → Int} {t g : Nat} (h1 : V (ri X g) ≤ V t) (h2 : V (bk (ri X g)) ≤ V t) : ¬ ov X V g t := by
  rintro ⟨a, b, c⟩
  have e : sS X V (ri X g) t = (X (bk (ri X g)) - X t) * (V t - V (ri X g)) + (X t - X (ri X g)) * (V t - V (bk (ri X g))) := by unfold sS dl; grind
  have x1 := Int.mul_nonneg (show 0 ≤ X (bk (ri X g)) - X t by omega) (show 0 ≤ V t - V (ri X g) by omega)
  have x2 := Int.mul_nonneg (show 0 ≤ X t - X (ri X g) by omega) (show 0 ≤ V t - V (bk (ri X g)) by omega)
  omega
def CirI (U : Nat → Prop) (N : Nat → Nat) (Q : Nat → Prop) : Prop := (∀ h, h < 120 → Q h → U h) ∧ ∀ h, h < 120 → U h → (Q (N h) ↔ Q h)
theorem CirI.c {U : Nat → Prop} {N : Nat → Nat} {Q : Nat → Prop} (C : CirI U N Q) : Cir U N Q := ⟨C.1, fun h hh q => (C.2 h hh (C.1 h hh q)).mpr q⟩
theorem M_val {X V : Nat → Int} {U T : Nat → Prop} {N : Nat → Nat} (G : Geo X V U N) (P : Pie X U T) : ∃ f, f < 120 ∧ T f ∧ ∀ Q, CirI U N Q → (∀ h, h < 120 → Q h → T h) → ∀ h, h < 120 → T h → Mv X V Q h = pif (Q h) 1 - pif (Q f) 1 := by
  obtain ⟨p1, p2, p3, p4, p5⟩ := P
  obtain ⟨t, ht, tt, mt⟩ := ex_max (T := T) (F := V) p5
  have ut := p1 t ht tt
  cases hb : bst (fun g => U g ∧ X g = X t) (fun a b => bef X V a b) 120 with
  | none => exact absurd ⟨ut, rfl⟩ (bst_none hb t ht)
  | some f =>
    obtain ⟨hf, uf, ef⟩ := bst_ok hb
    have mn := bst_min (fun a b c ha hb hc oa ob oc _ _ _ q1 q2 => bef_tr G ha hb hc oa.1 ob.1 oc.1 q1 q2) (fun a b ha hb oa ob n => bef_tot G ha hb oa.1 ob.1 (oa.2.trans ob.2.symm) n) hb
    have tf := p3 t f ht hf tt uf ef.symm
    refine ⟨f, hf, tf, fun Q C hQ h hh th => ?_⟩
    have ev := G.2.1 f t hf ht uf ut ef
    have b0 : base X V Q f = 0 := by
      rw [base_c ef ev]
      refine su_0 fun g hg => pif_f fun z => ?_
      have tg := hQ g hg z.1
      have tb := p2 g hg tg
      refine no_over ?_ ?_ z.2
      · rcases ri_or X g with q | q <;> rw [q]
        · exact mt g hg tg
        · exact mt _ (bk_lt hg) tb
      · rcases ri_or X g with q | q <;> rw [q]
        · exact mt _ (bk_lt hg) tb
        · rw [bk_bk]; exact mt g hg tg
    have m0 : Mv X V Q f = 0 := by
      rw [M_form G C.c hf uf, b0, Phi_0 fun g hg ug e b => ?_]
      · rfl
      · by_cases q : g = f
        · rw [q] at b; exact bef_irr b
        · exact bef_asym b (mn g hg ⟨ug, e.trans ef⟩ q)
    have inv : ∀ c, ∀ g h, g < 120 → h < 120 → U g → U h → (X g = X h ∨ g = bk h) → ((Mv X V Q g - pif (Q g) 1 = c) ↔ (Mv X V Q h - pif (Q h) 1 = c)) := by
      intro c
      have r1 : ∀ a, a < 120 → U a → ((Mv X V Q a - pif (Q a) 1 = c) ↔ (Mv X V Q (N a) - pif (Q (N a)) 1 = c)) := fun a ha ua => by
        rw [M_next G C.c ha ua, pif_c (C.2 a ha ua)]
      have r2 : ∀ a, a < 120 → U a → ((Mv X V Q a - pif (Q a) 1 = c) ↔ (Mv X V Q (bk a) - pif (Q (bk a)) 1 = c)) := fun a ha ua => by
        rw [jump G ha ua]
      intro g h hg hh ug uh e
      rcases e with e | e
      · exact rot G (P := fun a => Mv X V Q a - pif (Q a) 1 = c) r1 r2 g h hg hh ug uh e
      · rw [e]; exact (r2 h hh uh).symm
    have := (p4 (fun a => Mv X V Q a - pif (Q a) 1 = - pif (Q f) 1) (inv _) f h hf hh tf th).mp (by rw [m0]; omega)
    omega
