/-! how many segments one crosses from face to face -/
def Rch (u : Nat → Int32) (F : Nat → Nat) (a : Nat) : Nat → Nat → Prop
  | 0, f => f = a
  | k + 1, f => Rch u F a k f ∨ ∃ h, h < 120 ∧ us u h ∧ Rch u F a k (F h) ∧ F (bk h) = f
theorem rch_mono {u : Nat → Int32} {F : Nat → Nat} {a k f : Nat} (h : Rch u F a k f) : ∀ {j : Nat}, k ≤ j → Rch u F a j f := by
  intro j
  induction j with
  | zero => intro q; have : k = 0 := by omega
            rw [← this]; exact h
  | succ j ih =>
    intro q
    by_cases w : k ≤ j
    · exact Or.inl (ih w)
    · have : k = j + 1 := by omega
      rw [← this]; exact h
def dst (u : Nat → Int32) (F : Nat → Nat) (a d f : Nat) : Prop := Rch u F a d f ∧ ∀ k, k < d → ¬ Rch u F a k f
theorem dst_uniq {u : Nat → Int32} {F : Nat → Nat} {a d d' f : Nat} (h : dst u F a d f) (h' : dst u F a d' f) : d = d' := by
  rcases Nat.lt_trichotomy d d' with w | w | w
  · exact absurd h.1 (h'.2 d w)
  · exact w
  · exact absurd h'.1 (h.2 d' w)
theorem cn_less {P Q : Nat → Prop} {n f : Nat} (hf : f < n) (h : ∀ i, i < n → P i → Q i) (q : Q f) (p : ¬ P f) : cn P n < cn Q n := by
  have a := (cn_put (P := P) (Q := fun i => P i ∨ i = f) p (fun i => Iff.rfl) (n := n)).1 hf
  have b := cn_mono (P := fun i => P i ∨ i = f) (Q := Q) (n := n) fun i hi w => w.elim (h i hi) fun e => by rw [e]; exact q
  omega
theorem rch_all {u : Nat → Int32} {F : Nat → Nat} {a c : Nat} (hF : ∀ h, h < 120 → us u h → F h < c) (ha : a < c) (hc : ∀ A : Nat → Prop, (∀ h, h < 120 → us u h → (A (F h) ↔ A (F (bk h)))) → ∀ f, f < c → (A f ↔ A a)) : ∀ f, f < c → Rch u F a (c - 1) f := by
  have stop : ∀ k, (∀ f, f < c → Rch u F a (k + 1) f → Rch u F a k f) → ∀ f, f < c → Rch u F a k f := by
    intro k hk f hf
    have r := hc (fun g => Rch u F a k g) (fun h hh uh => ⟨fun q => hk _ (hF _ (bk_lt hh) (us_bk uh)) (Or.inr ⟨h, hh, uh, q, rfl⟩), fun q => hk _ (hF h hh uh) (Or.inr ⟨bk h, bk_lt hh, us_bk uh, q, by rw [bk_bk]⟩)⟩) f hf
    exact r.mpr (rch_mono (k := 0) rfl (Nat.zero_le k))
  have grow : ∀ k, k < c → (∀ f, f < c → Rch u F a k f) ∨ k + 1 ≤ cn (Rch u F a k) c := by
    intro k
    induction k with
    | zero =>
      intro _
      have := cn_less (P := fun _ => False) (Q := Rch u F a 0) ha (fun _ _ w => w.elim) rfl id
      exact Or.inr (by omega)
    | succ k ih =>
      intro hk
      rcases ih (by omega) with q | q
      · exact Or.inl fun f hf => Or.inl (q f hf)
      · by_cases w : ∃ f, f < c ∧ Rch u F a (k + 1) f ∧ ¬ Rch u F a k f
        · obtain ⟨f, hf, w1, w2⟩ := w
          have := cn_less (P := Rch u F a k) (Q := Rch u F a (k + 1)) hf (fun _ _ z => Or.inl z) w1 w2
          exact Or.inr (by omega)
        · refine Or.inl fun f hf => Or.inl (stop k (fun f hf z => ?_) f hf)
          by_cases z2 : Rch u F a k f
          · exact z2
          · exact absurd ⟨f, hf, z, z2⟩ w
  rcases grow (c - 1) (by omega) with q | q
  · exact q
  · have := cn_le (P := Rch u F a (c - 1)) (n := c)
    exact cn_full (by omega)
/-- the class: layer by layer -/
def Lay (u : Nat → Int32) (F : Nat → Nat) (a k t : Nat) (sp : Nat → Int32) : Prop := ∀ f, f < 121 → (sp f = -1 ∧ ¬ Rch u F a k f ∧ ∀ h, h < t → us u h → Rch u F a k (F h) → F (bk h) ≠ f) ∨ ∃ d, d ≤ k + 1 ∧ sp f = nI d ∧ dst u F a d f
theorem lay_skip {u sp : Nat → Int32} {F : Nat → Nat} {a k h : Nat} (L : Lay u F a k h sp) (no : ¬ (us u h ∧ Rch u F a k (F h) ∧ sp (F (bk h)) = -1)) : Lay u F a k (h + 1) sp := by
  intro f hf
  rcases L f hf with ⟨p, q, r⟩ | z
  · refine Or.inl ⟨p, q, fun g hg ug rg e => ?_⟩
    by_cases w : g = h
    · rw [w] at ug rg e
      exact no ⟨ug, rg, by rw [e]; exact p⟩
    · exact r g (by omega) ug rg e
  · exact Or.inr z
theorem s_cross {u sp : Nat → Int32} {F : Nat → Nat} {a k h : Nat} (hk : k < 500) (hh : h < 120) (uh : us u h) (h1 : F h < 121) (h2 : F (bk h) < 121) (L : Lay u F a k h sp) {post : (Nat → Int32) → Prop} (kk : ∀ sp2, Lay u F a k (h + 1) sp2 → post sp2) : wp_X0_cross sp (nI (F h)) (nI (F (bk h))) (nI k) post := by
  unfold wp_X0_cross
  simp only [jn1, vin h1 (by decide), vin h2 (by decide), cl (show F h < 1000 by omega), cl (show F (bk h) < 1000 by omega), true_and, forall_eq, nI_1]
  refine ⟨fun e => ⟨fun e2 => kk _ fun f hf => ?_, fun e2 => kk _ (lay_skip L fun w => e2 w.2.2)⟩, fun e => kk _ (lay_skip L fun w => ?_)⟩
  · have rh : Rch u F a k (F h) := by
      rcases L (F h) h1 with ⟨p, -⟩ | ⟨d, hd, p, q⟩
      · rw [e] at p; exact absurd p (neqm1 (by omega))
      · rw [e] at p
        rw [nI_inj (by omega) (by omega) p]; exact q.1
    by_cases w : f = F (bk h)
    · rw [w, pk_us]
      refine Or.inr ⟨k + 1, Nat.le_refl _, rfl, Or.inr ⟨h, hh, uh, rh, rfl⟩, fun j hj z => ?_⟩
      rcases L (F (bk h)) h2 with ⟨-, p, -⟩ | ⟨d, hd, p, -⟩
      · exact p (rch_mono z (by omega))
      · rw [e2] at p; exact neqm1 (by omega) p.symm
    · rw [pk_un w]
      rcases L f hf with ⟨p, q, r⟩ | z
      · refine Or.inl ⟨p, q, fun g hg ug rg e3 => ?_⟩
        by_cases w2 : g = h
        · rw [w2] at e3; exact w e3.symm
        · exact r g (by omega) ug rg e3
      · exact Or.inr z
  · obtain ⟨-, w1, w2⟩ := w
    rcases L (F h) h1 with ⟨-, p, -⟩ | ⟨d, hd, p, q⟩
    · exact p w1
    · rw [p] at e
      have : d < k := by
        rcases Nat.lt_trichotomy d k with z | z | z
        · exact z
        · exact absurd (by rw [z]) e
        · exact absurd w1 (q.2 k z)
      rcases L (F (bk h)) h2 with ⟨-, p2, -⟩ | ⟨d2, hd2, p2, -⟩
      · exact p2 (rch_mono (k := d + 1) (Or.inr ⟨h, hh, uh, q.1, rfl⟩) (by omega))
      · rw [w2] at p2; exact neqm1 (by omega) p2.symm
theorem s_layer {u fa sp : Nat → Int32} {F : Nat → Nat} {a c k : Nat} {v2 : Int32} (hc : c ≤ 121) (hF : ∀ h, h < 120 → us u h → fa h = nI (F h) ∧ F h < c) (hk : k < 500) (L : Lay u F a k 0 sp) {K : (Nat → Int32) → Prop} (kk : ∀ sp2, Lay u F a k 120 sp2 → K sp2) : ∃ n, lp_X0_crossings_38 fa (nI c) u v2 (nI k) K n sp 0 := by
  have main : ∀ n t sp2, t + n = 60 → Lay u F a k (2 * t) sp2 → lp_X0_crossings_38 fa (nI c) u v2 (nI k) K (n + 1) sp2 (nI t) := by
    intro n
    induction n with
    | zero =>
      intro t sp2 ht L
      rw [lp_X0_crossings_38.eq_2]
      have et : t = 60 := by omega
      subst et
      exact ⟨fun _ => kk sp2 L, fun h => absurd ((lt60 (by omega)).mpr (by omega)) h⟩
    | succ n ih =>
      intro t sp2 ht L
      rw [lp_X0_crossings_38.eq_2]
      simp only [jn1, dbl, dbl1, cl (show t < 1000 by omega), cl (show 2 * t < 1000 by omega), cl (show 2 * t + 1 < 1000 by omega), vin (show t < 60 by omega) (by decide), vin (show 2 * t < 120 by omega) (by decide), vin (show 2 * t + 1 < 120 by omega) (by decide), true_and, nI_1]
      have d1 : (2 * t + 1) / 2 = t := by omega
      have step : ∀ sp3, Lay u F a k (2 * t + 1 + 1) sp3 → lp_X0_crossings_38 fa (nI c) u v2 (nI k) K (n + 1) sp3 (nI (t + 1)) := fun sp3 z => ih (t + 1) sp3 (by omega) (by rw [show 2 * (t + 1) = 2 * t + 1 + 1 by omega]; exact z)
      refine ⟨fun h => absurd ((lt60 (by omega)).mp h) (by omega), fun _ => ⟨fun h => step sp2 (lay_skip (lay_skip L fun w => us_ev.mp w.1 h) fun w => ?_), fun h => ?_⟩⟩
      · have := w.1; unfold us at this; rw [d1] at this; exact this h
      · have u1 : us u (2 * t) := us_ev.mpr h
        have u2 : us u (2 * t + 1) := by unfold us; rw [d1]; exact h
        obtain ⟨e1, l1⟩ := hF (2 * t) (by omega) u1
        obtain ⟨e2, l2⟩ := hF (2 * t + 1) (by omega) u2
        rw [e1, e2]
        have A := s_cross (a := a) (post := fun sp_6 => wp_X0_cross sp_6 (nI (F (2 * t + 1))) (nI (F (2 * t))) (nI k) (fun sp_7 => lp_X0_crossings_38 fa (nI c) u v2 (nI k) K (n + 1) sp_7 (nI (t + 1)))) hk (show 2 * t < 120 by omega) u1 (by omega) (by rw [bk_ev]; omega) L fun sp3 L3 => by
          have B := s_cross (post := fun sp_7 => lp_X0_crossings_38 fa (nI c) u v2 (nI k) K (n + 1) sp_7 (nI (t + 1))) hk (show 2 * t + 1 < 120 by omega) u2 (by omega) (by rw [bk_od]; omega) L3 step
          rw [bk_od] at B
          exact B
        rw [bk_ev] at A
        exact A
  exact ⟨61, main 60 0 sp (by omega) L⟩
theorem s_crossings {u fa sp : Nat → Int32} {F : Nat → Nat} {a b c : Nat} (hc : c ≤ 121) (hF : ∀ h, h < 120 → us u h → fa h = nI (F h) ∧ F h < c) (ha : a < c) (hb : b < c) (hcon : ∀ A : Nat → Prop, (∀ h, h < 120 → us u h → (A (F h) ↔ A (F (bk h)))) → ∀ f, f < c → (A f ↔ A a)) {post : Int32 → (Nat → Int32) → Prop} (k : ∀ d sp2, dst u F a d b → post (nI d) sp2) : wp_X0_crossings fa sp (nI c) u (nI a) (nI b) post := by
  intro sp1 h1
  simp only [cl (show a < 1000 by omega), cl (show b < 1000 by omega), vin (show a < 121 by omega) (by decide), true_and, forall_eq]
  have all := rch_all (fun h hh uh => (hF h hh uh).2) ha hcon b hb
  have fin : ∀ {kk : Nat} {sp2 : Nat → Int32}, kk < 500 → (sp2 b = -1 ∧ ¬ Rch u F a kk b) ∨ (∃ d, d ≤ kk ∧ sp2 b = nI d ∧ dst u F a d b) → (¬ sp2 b = -1 ∨ c ≤ kk + 1) → vp_in (nI b) 121 ∧ post (sp2 b) sp2 := by
    intro kk sp2 hk h q
    refine ⟨vin (by omega) (by decide), ?_⟩
    rcases h with ⟨p, z⟩ | ⟨d, hd, p, z⟩
    · rcases q with q | q
      · exact absurd p q
      · exact absurd (rch_mono all (by omega)) z
    · rw [p]; exact k d sp2 z
  have main : ∀ n t sp2, t + n = c → (∀ f, f < 121 → (sp2 f = -1 ∧ ¬ Rch u F a t f) ∨ (∃ d, d ≤ t ∧ sp2 f = nI d ∧ dst u F a d f)) → lp_X0_crossings_17 fa (nI c) u (nI b) (fun sp_10 => vp_in (nI b) 121 ∧ post (sp_10 b) sp_10) (n + 1) sp2 (nI t) := by
    intro n
    induction n with
    | zero =>
      intro t sp2 ht L
      rw [lp_X0_crossings_17.eq_2]
      exact ⟨fun _ => fin (by omega) (L b (by omega)) (Or.inr (by omega)), fun h => absurd ((leN (by omega) (by omega)).mpr (by omega)) h⟩
    | succ n ih =>
      intro t sp2 ht L
      rw [lp_X0_crossings_17.eq_2]
      refine ⟨fun h => absurd ((leN (by omega) (by omega)).mp h) (by omega), fun _ => ⟨vin (by omega) (by decide), ?_⟩⟩
      rw [cl (show b < 1000 by omega)]
      refine ⟨fun h => ?_, fun h => ?_⟩
      · refine s_layer (a := a) hc hF (by omega) (fun f hf => ?_) fun sp3 L3 => ?_
        · rcases L f hf with ⟨p, q⟩ | ⟨d, hd, p⟩
          · exact Or.inl ⟨p, q, fun g hg => absurd hg (Nat.not_lt_zero g)⟩
          · exact Or.inr ⟨d, by omega, p⟩
        · rw [nI_1]
          refine ih (t + 1) sp3 (by omega) fun f hf => ?_
          rcases L3 f hf with ⟨p, q, r⟩ | z
          · refine Or.inl ⟨p, fun w => ?_⟩
            rcases w with w | ⟨g, hg, ug, w, e⟩
            · exact q w
            · exact r g hg ug w e
          · exact Or.inr z
      · exact fin (by omega) (L b (by omega)) (Or.inl h)
  refine ⟨c + 1, main c 0 _ (by omega) fun f hf => ?_⟩
  by_cases w : f = a
  · rw [w, pk_us]
    exact Or.inr ⟨0, Nat.le_refl _, rfl, rfl, fun j hj => absurd hj (Nat.not_lt_zero j)⟩
  · rw [pk_un w]
    exact Or.inl ⟨h1 f hf, w⟩
/-- the reference: until nothing is nearer -/
def sN (D : Nat → Nat) : Nat → Nat
  | 0 => 0
  | n + 1 => sN D n + D n
theorem sN_lt {D : Nat → Nat} {g v : Nat} (h : v < D g) : ∀ {n : Nat}, (n ≤ g → sN (fun i => if i = g then v else D i) n = sN D n) ∧ (g < n → sN (fun i => if i = g then v else D i) n < sN D n) := by
  intro n
  induction n with
  | zero => exact ⟨fun _ => rfl, fun q => absurd q (Nat.not_lt_zero g)⟩
  | succ n ih =>
    have e : sN (fun i => if i = g then v else D i) (n + 1) = sN (fun i => if i = g then v else D i) n + (if n = g then v else D n) := rfl
    have e2 : sN D (n + 1) = sN D n + D n := rfl
    rw [e, e2]
    refine ⟨fun q => ?_, fun q => ?_⟩
    · rw [if_neg (by omega), ih.1 (by omega)]
    · by_cases w : n = g
      · rw [if_pos w, ih.1 (by omega)]
        rw [← w] at h
        omega
      · rw [if_neg w]
        have := ih.2 (by omega)
        omega
def Bf (u : Nat → Int32) (F : Nat → Nat) (a c : Nat) (mst : Nat → Int32) (D : Nat → Nat) : Prop := D a = 0 ∧ ∀ f, f < c → mst f = nI (D f) ∧ D f ≤ 1000 ∧ (D f < 1000 → Rch u F a (D f) f)
theorem leM {a b : Nat} (ha : a < 2000) (hb : b < 2000) : nI a ≤ nI b ↔ a ≤ b := by
  rw [Int32.le_iff_toInt_le, nI_toInt (show a < 2 ^ 31 by omega), nI_toInt (show b < 2 ^ 31 by omega)]; omega
theorem m_relax {x y u mxs mys mth mnx mpo mrd mfi mfa mnu fa rd' mst0 : Nat → Int32} {mre mcu mpn mrn mfn v2 : Int32} {mar : Nat → Int64} {R a c : Nat} {F : Nat → Nat} {D0 : Nat → Nat} (G : Ag x y u mxs mys mth) (hm : ∀ h, h < 120 → us u h → mrd h = rd' h) (hr : ∀ h, h < 120 → us u h → rho rd' h < R ∧ rd' h = nI (rho rd' h)) (hR : R ≤ 120) (hf : ∀ h, h < 120 → us u h → fa h = mfa (rho rd' h)) (hc : c ≤ 121) (hF : ∀ h, h < 120 → us u h → fa h = nI (F h) ∧ F h < c) (ha : a < c) (I : Bf u F a c mst0 D0) {K : Int32 → (Nat → Int32) → Prop}
    (k0 : ∀ mst, Bf u F a c mst D0 → (∀ h, h < 120 → us u h → D0 (F (bk h)) ≤ D0 (F h) + 1) → K 0 mst) (k1 : ∀ mst D, Bf u F a c mst D → sN D c < sN D0 c → K 1 mst) : ∃ n, lp_X4_across_75 mre mth mxs mys mcu mnx mpo mpn mrn mrd mfi mar mfn mfa mnu v2 K n mst0 0 0 := by
  have main : ∀ n t mst (v3 : Int32) D, t + n = 120 → Bf u F a c mst D → ((v3 = 0 ∧ D = D0 ∧ ∀ h, h < t → us u h → D0 (F (bk h)) ≤ D0 (F h) + 1) ∨ (v3 = 1 ∧ sN D c < sN D0 c)) → lp_X4_across_75 mre mth mxs mys mcu mnx mpo mpn mrn mrd mfi mar mfn mfa mnu v2 K (n + 1) mst v3 (nI t) := by
    intro n
    induction n with
    | zero =>
      intro t mst v3 D ht B hv
      rw [lp_X4_across_75.eq_2]
      have et : t = 120 := by omega
      subst et
      refine ⟨fun _ => ?_, fun h => absurd ((lt120 (by omega)).mpr (by omega)) h⟩
      rcases hv with ⟨e, e2, p⟩ | ⟨e, p⟩
      · rw [e]; rw [e2] at B; exact k0 mst B p
      · rw [e]; exact k1 mst D B p
    | succ n ih =>
      intro t mst v3 D ht B hv
      rw [lp_X4_across_75.eq_2]
      simp only [jn2, div_half (show t < 120 by omega), cl (show t / 2 < 1000 by omega), vin (show t / 2 < 60 by omega) (by decide), true_and, nI_1]
      have ag := G.1 (t / 2) (by omega)
      have keep : (us u t → D (F (bk t)) ≤ D (F t) + 1) → lp_X4_across_75 mre mth mxs mys mcu mnx mpo mpn mrn mrd mfi mar mfn mfa mnu v2 K (n + 1) mst v3 (nI (t + 1)) := by
        intro q
        refine ih (t + 1) mst v3 D (by omega) B ?_
        rcases hv with ⟨e, e2, p⟩ | z
        · refine Or.inl ⟨e, e2, fun h hh uh => ?_⟩
          by_cases w : h = t
          · rw [w] at uh ⊢; rw [← e2]; exact q uh
          · exact p h (by omega) uh
        · exact Or.inr z
      refine ⟨fun h => absurd ((lt120 (by omega)).mp h) (by omega), fun _ => ⟨fun q => keep fun ut => absurd (ag.mp q) ut, fun q => ?_⟩⟩
      have ut : us u t := fun w => q (ag.mpr w)
      have ub : us u (bk t) := us_bk ut
      have tb : bk t < 120 := bk_lt (by omega)
      obtain ⟨e1, l1⟩ := hF t (by omega) ut
      obtain ⟨e2, l2⟩ := hF (bk t) tb ub
      refine m_left hm hr hR (by omega) ut ?_
      rw [← hf t (by omega) ut, e1]
      refine ⟨vin (by omega) (by decide), m_back (by omega) (m_left hm hr hR tb ub ?_)⟩
      rw [← hf _ tb ub, e2]
      refine ⟨vin (by omega) (by decide), ?_⟩
      obtain ⟨b1, b2, b3⟩ := B.2 _ l1
      obtain ⟨c1, c2, c3⟩ := B.2 _ l2
      rw [cl (show F t < 1000 by omega), cl (show F (bk t) < 1000 by omega), b1, c1, nI_1, leM (by omega) (by omega)]
      refine ⟨fun z => keep fun _ => z, fun z => m_back (by omega) (m_left hm hr hR tb ub (m_left hm hr hR (by omega) ut ?_))⟩
      rw [← hf t (by omega) ut, ← hf _ tb ub, e1, e2]
      refine ⟨vin (by omega) (by decide), vin (by omega) (by decide), ?_⟩
      rintro _ rfl
      rw [cl (show F t < 1000 by omega), cl (show F (bk t) < 1000 by omega), b1, nI_1]
      have less := (sN_lt (D := D) (g := F (bk t)) (v := D (F t) + 1) (by omega) (n := c)).2 l2
      refine ih (t + 1) _ 1 (fun i => if i = F (bk t) then D (F t) + 1 else D i) (by omega) ⟨?_, fun f hf2 => ?_⟩ (Or.inr ⟨rfl, ?_⟩)
      · have : ¬ a = F (bk t) := fun w => by rw [← w, B.1] at z; omega
        dsimp only
        rw [if_neg this]; exact B.1
      · dsimp only
        by_cases w : f = F (bk t)
        · rw [if_pos w, w, pk_us]
          exact ⟨rfl, by omega, fun _ => Or.inr ⟨t, by omega, ut, b3 (by omega), rfl⟩⟩
        · rw [if_neg w, pk_un w]; exact B.2 f hf2
      · rcases hv with ⟨-, e, -⟩ | ⟨-, p⟩
        · rw [e] at less ⊢; exact less
        · exact Nat.lt_trans less p
  exact ⟨121, main 120 0 mst0 0 D0 (by omega) I (Or.inl ⟨rfl, rfl, fun h hh => absurd hh (Nat.not_lt_zero h)⟩)⟩
theorem m_across {x y u mxs mys mth mnx mpo mrd mfi mfa mnu fa rd' mst : Nat → Int32} {mre mcu mpn mrn : Int32} {mar : Nat → Int64} {R a b c : Nat} {F : Nat → Nat} (G : Ag x y u mxs mys mth) (hm : ∀ h, h < 120 → us u h → mrd h = rd' h) (hr : ∀ h, h < 120 → us u h → rho rd' h < R ∧ rd' h = nI (rho rd' h)) (hR : R ≤ 120) (hf : ∀ h, h < 120 → us u h → fa h = mfa (rho rd' h)) (hc : c ≤ 121) (hF : ∀ h, h < 120 → us u h → fa h = nI (F h) ∧ F h < c) (ha : a < c) (hb : b < c) (hcon : ∀ A : Nat → Prop, (∀ h, h < 120 → us u h → (A (F h) ↔ A (F (bk h)))) → ∀ f, f < c → (A f ↔ A a))
    {post : Int32 → (Nat → Int32) → Prop} (k : ∀ d mst, dst u F a d b → post (nI d) mst) : ∃ n51, lp_X4_across_32 mre mth mxs mys mcu mnx mpo mpn mrn mrd mfi mar (nI c) mfa mnu (nI a) (nI b) (fun mst_34 => ∃ n50, lp_X4_across_66 mre mth mxs mys mcu mnx mpo mpn mrn mrd mfi mar (nI c) mfa mnu (nI b) (fun mst_49 => vp_in (nI b) 122 ∧ post (mst_49 (nI b).toNatClampNeg) mst_49) n50 mst_34 1) n51 mst 0 := by
  have all := rch_all (fun h hh uh => (hF h hh uh).2) ha hcon b hb
  have rounds : ∀ N mst D, sN D c ≤ N → Bf u F a c mst D → lp_X4_across_66 mre mth mxs mys mcu mnx mpo mpn mrn mrd mfi mar (nI c) mfa mnu (nI b) (fun mst_49 => vp_in (nI b) 122 ∧ post (mst_49 (nI b).toNatClampNeg) mst_49) (N + 2) mst 1 := by
    intro N
    induction N with
    | zero =>
      intro mst D hD B
      rw [lp_X4_across_66.eq_2]
      refine ⟨fun q => absurd q (by decide), fun _ => m_relax G hm hr hR hf hc hF ha B (fun mst2 B2 cl2 => ?_) fun mst2 D2 B2 l => by omega⟩
      rw [lp_X4_across_66.eq_2]
      refine ⟨fun _ => ⟨vin (by omega) (by decide), ?_⟩, fun q => absurd rfl q⟩
      rw [cl (by omega), (B2.2 b hb).1]
      have low : ∀ j f, Rch u F a j f → D f ≤ j := by
        intro j
        induction j with
        | zero => intro f q; rw [show f = a from q, B2.1]; exact Nat.le_refl 0
        | succ j ihj =>
          intro f q
          rcases q with q | ⟨h, hh, uh, q, e⟩
          · have := ihj f q; omega
          · have := ihj _ q
            have := cl2 h hh uh
            rw [e] at this; omega
      have := low _ _ all
      exact k _ _ ⟨(B2.2 b hb).2.2 (by omega), fun j hj q => by have := low j b q; omega⟩
    | succ N ih =>
      intro mst D hD B
      rw [lp_X4_across_66.eq_2]
      refine ⟨fun q => absurd q (by decide), fun _ => m_relax G hm hr hR hf hc hF ha B (fun mst2 B2 cl2 => ?_) fun mst2 D2 B2 l => ih mst2 D2 (by omega) B2⟩
      rw [lp_X4_across_66.eq_2]
      refine ⟨fun _ => ⟨vin (by omega) (by decide), ?_⟩, fun q => absurd rfl q⟩
      rw [cl (by omega), (B2.2 b hb).1]
      have low : ∀ j f, Rch u F a j f → D f ≤ j := by
        intro j
        induction j with
        | zero => intro f q; rw [show f = a from q, B2.1]; exact Nat.le_refl 0
        | succ j ihj =>
          intro f q
          rcases q with q | ⟨h, hh, uh, q, e⟩
          · have := ihj f q; omega
          · have := ihj _ q
            have := cl2 h hh uh
            rw [e] at this; omega
      have := low _ _ all
      exact k _ _ ⟨(B2.2 b hb).2.2 (by omega), fun j hj q => by have := low j b q; omega⟩
  have main : ∀ n t mst, t + n = c → (∀ f, f < t → mst f = nI (if f = a then 0 else 1000)) → lp_X4_across_32 mre mth mxs mys mcu mnx mpo mpn mrn mrd mfi mar (nI c) mfa mnu (nI a) (nI b) (fun mst_34 => ∃ n50, lp_X4_across_66 mre mth mxs mys mcu mnx mpo mpn mrn mrd mfi mar (nI c) mfa mnu (nI b) (fun mst_49 => vp_in (nI b) 122 ∧ post (mst_49 (nI b).toNatClampNeg) mst_49) n50 mst_34 1) (n + 1) mst (nI t) := by
    intro n
    induction n with
    | zero =>
      intro t mst ht hs
      rw [lp_X4_across_32.eq_2]
      have et : t = c := by omega
      subst et
      refine ⟨fun _ => ⟨_, rounds (sN (fun f => if f = a then 0 else 1000) t) mst (fun f => if f = a then 0 else 1000) (Nat.le_refl _) ⟨if_pos rfl, fun f hf2 => ⟨hs f hf2, ?_, fun q => ?_⟩⟩⟩, fun h => absurd ((leN (by omega) (by omega)).mpr (by omega)) h⟩
      · show (if f = a then 0 else 1000) ≤ 1000
        split <;> omega
      · have q : (if f = a then 0 else 1000) < 1000 := q
        show Rch u F a (if f = a then 0 else 1000) f
        by_cases w : f = a
        · rw [if_pos w]; exact w
        · rw [if_neg w] at q; omega
    | succ n ih =>
      intro t mst ht hs
      rw [lp_X4_across_32.eq_2]
      simp only [jn2, cl (show t < 1000 by omega), vin (show t < 122 by omega) (by decide), true_and, forall_eq, nI_1]
      have step : ∀ v : Int32, v = nI (if t = a then 0 else 1000) → lp_X4_across_32 mre mth mxs mys mcu mnx mpo mpn mrn mrd mfi mar (nI c) mfa mnu (nI a) (nI b) (fun mst_34 => ∃ n50, lp_X4_across_66 mre mth mxs mys mcu mnx mpo mpn mrn mrd mfi mar (nI c) mfa mnu (nI b) (fun mst_49 => vp_in (nI b) 122 ∧ post (mst_49 (nI b).toNatClampNeg) mst_49) n50 mst_34 1) (n + 1) (upd mst t v) (nI (t + 1)) := fun v hv => ih (t + 1) _ (by omega) fun f hf2 => by
        by_cases w : f = t
        · rw [w, pk_us]; exact hv
        · rw [pk_un w]; exact hs f (by omega)
      refine ⟨fun h => absurd ((leN (by omega) (by omega)).mp h) (by omega), fun _ => ⟨fun e => step 0 ?_, fun e => step 1000 ?_⟩⟩
      · rw [if_pos (nI_inj (by omega) (by omega) e)]; rfl
      · rw [if_neg (fun w => e (by rw [w]))]; rfl
  exact ⟨c + 1, main c 0 mst (by omega) fun f hf2 => absurd hf2 (Nat.not_lt_zero f)⟩
