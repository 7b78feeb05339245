/-! pieces: what touches, and the reference's flood -/
def tch (x y : Nat → Int32) (g h : Nat) : Prop := sameB x y g h ∨ g = bk h
theorem tch_sym {x y : Nat → Int32} {g h : Nat} (t : tch x y g h) : tch x y h g := t.elim (fun q => Or.inl (sb_sym q)) fun q => Or.inr (by rw [q, bk_bk])
def cl3 (x y u : Nat → Int32) (P : Nat → Prop) : Prop := ∀ g h, g < 120 → h < 120 → us u g → us u h → tch x y g h → (P g ↔ P h)
def Pc (x y u : Nat → Int32) (t : Nat) (lab : Nat → Int32) (sg : Nat → Nat) (n : Nat) : Prop :=
  (∀ h, h < 120 → lab h = -1 ∨ (us u h ∧ ∃ p, p < n ∧ lab h = nI p)) ∧
  (∀ h, h < t → us u h → lab h ≠ -1) ∧
  (∀ g h, g < 120 → h < 120 → us u g → us u h → tch x y g h → lab g ≠ -1 → lab h = lab g) ∧
  (∀ p, p < n → sg p < t ∧ us u (sg p) ∧ lab (sg p) = nI p ∧ ∀ h, h < 120 → lab h = nI p → sg p ≤ h) ∧
  (∀ p p', p < p' → p' < n → sg p < sg p') ∧
  (∀ P, cl3 x y u P → ∀ a b, a < 120 → b < 120 → lab a ≠ -1 → lab a = lab b → (P a ↔ P b))
theorem sg_R {t R : Nat} {sg : Nat → Nat} (o5 : ∀ r, r < R → sg r < t) (o6 : ∀ r r', r < r' → r' < R → sg r < sg r') : R ≤ t := by
  have : ∀ r, r < R → r ≤ sg r := by
    intro r
    induction r with
    | zero => intro _; omega
    | succ r ih => intro h; have := ih (by omega); have := o6 r (r + 1) (by omega) h; omega
  rcases Nat.eq_zero_or_pos R with q | q
  · omega
  · have := this (R - 1) (by omega)
    have := o5 (R - 1) (by omega)
    omega
theorem pc_R {x y u : Nat → Int32} {t n : Nat} {lab : Nat → Int32} {sg : Nat → Nat} (O : Pc x y u t lab sg n) : n ≤ t := sg_R (fun r hr => (O.2.2.2.1 r hr).1) O.2.2.2.2.1
theorem lab_uniq {U : Nat → Prop} {rd rd' : Nat → Int32} {sg sg' : Nat → Nat} {R R' : Nat}
    (a1 : ∀ h, h < 120 → U h → ∃ r, r < R ∧ rd h = nI r) (a2 : ∀ r, r < R → sg r < 120 ∧ U (sg r) ∧ rd (sg r) = nI r ∧ ∀ h, h < 120 → rd h = nI r → sg r ≤ h) (a3 : ∀ r r', r < r' → r' < R → sg r < sg r')
    (b1 : ∀ h, h < 120 → U h → ∃ r, r < R' ∧ rd' h = nI r) (b2 : ∀ r, r < R' → sg' r < 120 ∧ U (sg' r) ∧ rd' (sg' r) = nI r ∧ ∀ h, h < 120 → rd' h = nI r → sg' r ≤ h) (b3 : ∀ r r', r < r' → r' < R' → sg' r < sg' r')
    (ker : ∀ s t, s < 120 → t < 120 → U s → U t → (rd s = rd t ↔ rd' s = rd' t)) : R = R' ∧ ∀ h, h < 120 → U h → rd h = rd' h := by
  have key : ∀ {rd : Nat → Int32} {sg : Nat → Nat} {R : Nat}, (∀ h, h < 120 → U h → ∃ r, r < R ∧ rd h = nI r) → (∀ r, r < R → sg r < 120 ∧ U (sg r) ∧ rd (sg r) = nI r ∧ ∀ h, h < 120 → rd h = nI r → sg r ≤ h) → (∀ r r', r < r' → r' < R → sg r < sg r') → R ≤ 120 ∧ (∀ h, h < 120 → U h → rd h = nI (rd h).toNatClampNeg ∧ (rd h).toNatClampNeg < R) ∧ (∀ h, h < 120 → U h → ∀ k, 0 ≤ k → k < (rd h).toNatClampNeg → ∃ t, t < h ∧ U t ∧ (rd t).toNatClampNeg = k) ∧ (∀ k, 0 ≤ k → k < R → ∃ h, h < 120 ∧ U h ∧ (rd h).toNatClampNeg = k) := by
    intro rd sg R a1 a2 a3
    have hR := sg_R (fun r hr => (a2 r hr).1) a3
    have c1 : ∀ h, h < 120 → U h → rd h = nI (rd h).toNatClampNeg ∧ (rd h).toNatClampNeg < R := by
      intro h hh uh
      obtain ⟨r, hr, e⟩ := a1 h hh uh
      rw [e, cl (by omega)]; exact ⟨rfl, hr⟩
    refine ⟨hR, c1, fun h hh uh k _ hk => ?_, fun k _ hk => ?_⟩
    · obtain ⟨e, l⟩ := c1 h hh uh
      obtain ⟨p1, p2, p3, p4⟩ := a2 k (by omega)
      have q := a3 k _ hk l
      have q2 := (a2 _ l).2.2.2 h hh e
      exact ⟨sg k, by omega, p2, by rw [p3, cl (by omega)]⟩
    · obtain ⟨p1, p2, p3, p4⟩ := a2 k hk
      exact ⟨sg k, p1, p2, by rw [p3, cl (by omega)]⟩
  obtain ⟨r1, c1, c2, c3⟩ := key a1 a2 a3
  obtain ⟨r2, d1, d2, d3⟩ := key b1 b2 b3
  have same : ∀ h, h < 120 → U h → (rd h).toNatClampNeg = (rd' h).toNatClampNeg := by
    refine rg_uniq (b := 0) c2 d2 (fun s t hs ht us ut => ⟨fun e => ?_, fun e => ?_⟩) (fun h _ _ q => by omega)
    · rw [(ker s t hs ht us ut).mp (by rw [(c1 s hs us).1, (c1 t ht ut).1, e])]
    · rw [(ker s t hs ht us ut).mpr (by rw [(d1 s hs us).1, (d1 t ht ut).1, e])]
  exact ⟨rg_cnt (b := 0) (fun h hh uh => (c1 h hh uh).2) c3 (fun h hh uh => (d1 h hh uh).2) d3 (by omega) (by omega) same, fun h hh uh => by rw [(c1 h hh uh).1, same h hh uh, ← (d1 h hh uh).1]⟩
theorem pc_lab {x y u : Nat → Int32} {n : Nat} {lab : Nat → Int32} {sg : Nat → Nat} (O : Pc x y u 120 lab sg n) {h : Nat} (hh : h < 120) (uh : us u h) : ∃ r, r < n ∧ lab h = nI r := by
  rcases O.1 h hh with q | q
  · exact absurd q (O.2.1 h hh uh)
  · exact q.2
theorem pc_uniq {x y u : Nat → Int32} {n n' : Nat} {lab lab' : Nat → Int32} {sg sg' : Nat → Nat} (O : Pc x y u 120 lab sg n) (O' : Pc x y u 120 lab' sg' n') : n = n' ∧ ∀ h, h < 120 → us u h → lab h = lab' h := by
  have ker1 : ∀ {n n' : Nat} {lab lab' : Nat → Int32} {sg sg' : Nat → Nat}, Pc x y u 120 lab sg n → Pc x y u 120 lab' sg' n' → ∀ s t, s < 120 → t < 120 → us u s → us u t → lab s = lab t → lab' s = lab' t := by
    intro n n' lab lab' sg sg' O O' s t hs ht us ut e
    exact ((O.2.2.2.2.2 (fun b => lab' s = lab' b) (fun a b ha hb ua ub tt => by dsimp only; rw [O'.2.2.1 a b ha hb ua ub tt (O'.2.1 a ha ua)]) s t hs ht (O.2.1 s hs us) e).mp rfl)
  exact lab_uniq (fun h hh uh => pc_lab O hh uh) O.2.2.2.1 O.2.2.2.2.1 (fun h hh uh => pc_lab O' hh uh) O'.2.2.2.1 O'.2.2.2.2.1 (fun s t hs ht us ut => ⟨ker1 O O' s t hs ht us ut, ker1 O' O s t hs ht us ut⟩)
/-! one flood -/
def Fl (x y u : Nat → Int32) (h0 n : Nat) (lab0 lab : Nat → Int32) : Prop := (∀ h, h < 120 → lab h = lab0 h ∨ (lab0 h = -1 ∧ us u h ∧ lab h = nI n)) ∧ lab h0 = nI n ∧ ∀ P, cl3 x y u P → ∀ a, a < 120 → lab a = nI n → (P a ↔ P h0)
def tq (x y u : Nat → Int32) (n : Nat) (lab : Nat → Int32) (k : Nat) : Prop := us u k ∧ lab k = -1 ∧ ∃ j, j < 120 ∧ lab j = nI n ∧ us u j ∧ tch x y j k
theorem m_touch {x y u mxs mys mth : Nat → Int32} (G : Ag x y u mxs mys mth) {n k : Nat} {lab : Nat → Int32} {v3 : Int32} (hn : n < 1000) (hk : k < 120) (hl : ∀ h, h < 120 → lab h = -1 ∨ ∃ p, p < 1000 ∧ lab h = nI p) {post : Int32 → Prop} (kk : post (bi (tq x y u n lab k))) : ∃ m, lp_X4_spreadPiece_31 mth mxs mys lab (nI n) v3 (nI k) post m 0 0 := by
  have main : ∀ m t (v5 : Int32), t + m = 120 → v5 = bi (us u k ∧ lab k = -1 ∧ ∃ j, j < t ∧ lab j = nI n ∧ us u j ∧ tch x y j k) → lp_X4_spreadPiece_31 mth mxs mys lab (nI n) v3 (nI k) post (m + 1) v5 (nI t) := by
    intro m
    induction m with
    | zero =>
      intro t v5 ht h5
      rw [lp_X4_spreadPiece_31.eq_2]
      have et : t = 120 := by omega
      subst et
      exact ⟨fun _ => by rw [h5]; exact kk, fun h => absurd ((lt120 (by omega)).mpr (by omega)) h⟩
    | succ m ih =>
      intro t v5 ht h5
      rw [lp_X4_spreadPiece_31.eq_2]
      simp only [jn1, jn0, div_half hk, div_half (show t < 120 by omega), cl (show t < 1000 by omega), cl (show k < 1000 by omega), cl (show t / 2 < 1000 by omega), cl (show k / 2 < 1000 by omega), vin hk (by decide), vin (show k / 2 < 60 by omega) (by decide), vin (show t < 120 by omega) (by decide), vin (show t / 2 < 60 by omega) (by decide), true_and, nI_1]
      refine ⟨fun h => absurd ((lt120 (by omega)).mp h) (by omega), fun _ => ⟨fun h => ?_, fun h => ⟨fun h2 => ?_, fun h2 => ?_⟩⟩⟩
      · have nu : ¬ us u k := fun q => q ((G.1 _ (by omega)).mp h)
        rw [h5, bi_f fun q => nu q.1]
        rw [bi_f fun q => nu q.1] at kk
        exact kk
      · have nu : ¬ lab k = -1 := fun q => by rw [q] at h2; exact absurd h2 (by decide)
        rw [h5, bi_f fun q => nu q.2.1]
        rw [bi_f fun q => nu q.2.1] at kk
        exact kk
      · have uk : us u k := fun q => h ((G.1 _ (by omega)).mpr q)
        have lk : lab k = -1 := by
          rcases hl k hk with q | ⟨p, hp, q⟩
          · exact q
          · rw [q] at h2; exact absurd (nI_pos' (show p < 2 ^ 31 by omega)) h2
        have yes : (lab t = nI n ∧ us u t ∧ tch x y t k) → lp_X4_spreadPiece_31 mth mxs mys lab (nI n) v3 (nI k) post (m + 1) 1 (nI (t + 1)) := fun q => ih (t + 1) 1 (by omega) (by rw [bi_t ⟨uk, lk, t, by omega, q⟩])
        have no : v5 = 0 → ¬ (lab t = nI n ∧ us u t ∧ tch x y t k) → lp_X4_spreadPiece_31 mth mxs mys lab (nI n) v3 (nI k) post (m + 1) 0 (nI (t + 1)) := fun e q => ih (t + 1) 0 (by omega) (by
          rw [h5] at e
          have e := bi0.mp e
          rw [bi_f]
          rintro ⟨_, _, j, hj, z⟩
          by_cases w : j = t
          · rw [w] at z; exact q z
          · exact e ⟨uk, lk, j, by omega, z⟩)
        refine ⟨fun e => ⟨fun e1 => ⟨fun e2 => no e fun q => q.2.1 ((G.1 _ (by omega)).mp e2), fun e2 => ?_⟩, fun e1 => no e fun q => e1 q.1⟩, fun e => ?_⟩
        · have ut : us u t := fun q => e2 ((G.1 _ (by omega)).mpr q)
          rw [(G.2 t (by omega) ut).1, (G.2 t (by omega) ut).2, (G.2 k hk uk).1, (G.2 k hk uk).2]
          have far : ¬ sameB x y t k → wp_X4_back (nI k) (fun r11 => (nI t = r11 → lp_X4_spreadPiece_31 mth mxs mys lab (nI n) v3 (nI k) post (m + 1) 1 (nI (t + 1))) ∧ (¬ nI t = r11 → lp_X4_spreadPiece_31 mth mxs mys lab (nI n) v3 (nI k) post (m + 1) 0 (nI (t + 1)))) := fun ns => m_back hk ⟨fun z => yes ⟨e1, ut, Or.inr (nI_inj (by omega) (by have := bk_lt hk; omega) z)⟩, fun z => no e fun q => q.2.2.elim ns fun w => z (by rw [w])⟩
          exact ⟨fun z1 => ⟨fun z2 => yes ⟨e1, ut, Or.inl ⟨z1, z2⟩⟩, fun z2 => far fun q => z2 q.2⟩, fun z1 => far fun q => z1 q.1⟩
        · rw [h5] at e
          obtain ⟨_, _, j, hj, z⟩ := nb0 e
          exact ih (t + 1) 1 (by omega) (by rw [bi_t ⟨uk, lk, j, by omega, z⟩])
  exact ⟨121, main 120 0 0 (by omega) (by rw [bi_f]; rintro ⟨_, _, j, hj, _⟩; omega)⟩
theorem fl_put {x y u : Nat → Int32} {h0 n k : Nat} {lab0 lab : Nat → Int32} (F : Fl x y u h0 n lab0 lab) (hn : n < 1000) (hk : k < 120) (t : tq x y u n lab k) : Fl x y u h0 n lab0 (upd lab k (nI n)) ∧ cn (fun h => upd lab k (nI n) h = nI n) 120 = cn (fun h => lab h = nI n) 120 + 1 := by
  obtain ⟨f1, f2, f3⟩ := F
  obtain ⟨uk, lk, j, hj, lj, uj, tj⟩ := t
  have kn : ¬ lab k = nI n := fun e => neqm1 hn (by rw [← e, lk])
  have up : ∀ i, upd lab k (nI n) i = nI n ↔ lab i = nI n ∨ i = k := by
    intro i
    by_cases q : i = k
    · rw [q, pk_us]; exact ⟨fun _ => Or.inr rfl, fun _ => rfl⟩
    · rw [pk_un q]; exact ⟨Or.inl, fun z => z.elim id fun z => absurd z q⟩
  refine ⟨⟨fun h hh => ?_, (up h0).mpr (Or.inl f2), fun P hP a ha e => ?_⟩, (cn_put kn up (n := 120)).1 hk⟩
  · by_cases q : h = k
    · rw [q, pk_us]
      rcases f1 k hk with z | z
      · exact Or.inr ⟨by rw [← z]; exact lk, uk, rfl⟩
      · exact Or.inr ⟨z.1, uk, rfl⟩
    · rw [pk_un q]; exact f1 h hh
  · rcases (up a).mp e with q | q
    · exact f3 P hP a ha q
    · rw [q]
      exact (hP j k hj hk uj uk tj).symm.trans (f3 P hP j hj lj)
theorem fl_vals {x y u : Nat → Int32} {t h0 n : Nat} {lab0 lab : Nat → Int32} {sg : Nat → Nat} (O : Pc x y u t lab0 sg n) (ht : t ≤ 120) (F : Fl x y u h0 n lab0 lab) : ∀ h, h < 120 → lab h = -1 ∨ ∃ p, p < 1000 ∧ lab h = nI p := by
  intro h hh
  have := pc_R O
  rcases F.1 h hh with q | q
  · rcases O.1 h hh with z | ⟨-, p, hp, z⟩
    · exact Or.inl (by rw [q]; exact z)
    · exact Or.inr ⟨p, by omega, by rw [q]; exact z⟩
  · exact Or.inr ⟨n, by omega, q.2.2⟩
theorem m_pass {x y u mxs mys mth : Nat → Int32} (G : Ag x y u mxs mys mth) {t0 h0 n : Nat} {lab0 labS : Nat → Int32} {sg : Nat → Nat} (O : Pc x y u t0 lab0 sg n) (ht0 : t0 ≤ 120) (hn : n < 1000) (FS : Fl x y u h0 n lab0 labS) {post : Int32 → (Nat → Int32) → Prop}
    (k0 : (∀ k, k < 120 → ¬ tq x y u n labS k) → post 0 labS) (k1 : ∀ lab, Fl x y u h0 n lab0 lab → cn (fun h => labS h = nI n) 120 < cn (fun h => lab h = nI n) 120 → post 1 lab) : ∃ m, lp_X4_spreadPiece_18 mth mxs mys (nI n) post m labS 0 0 := by
  have main : ∀ m t lab (v3 : Int32), t + m = 120 → Fl x y u h0 n lab0 lab → ((v3 = 0 ∧ lab = labS ∧ ∀ k, k < t → ¬ tq x y u n lab k) ∨ (v3 = 1 ∧ cn (fun h => labS h = nI n) 120 < cn (fun h => lab h = nI n) 120)) → lp_X4_spreadPiece_18 mth mxs mys (nI n) post (m + 1) lab v3 (nI t) := by
    intro m
    induction m with
    | zero =>
      intro t lab v3 ht F hv
      rw [lp_X4_spreadPiece_18.eq_2]
      have et : t = 120 := by omega
      subst et
      refine ⟨fun _ => ?_, fun h => absurd ((lt120 (by omega)).mpr (by omega)) h⟩
      rcases hv with ⟨e1, e2, e3⟩ | ⟨e1, e2⟩
      · rw [e1, e2]; rw [e2] at e3; exact k0 e3
      · rw [e1]; exact k1 lab F e2
    | succ m ih =>
      intro t lab v3 ht F hv
      rw [lp_X4_spreadPiece_18.eq_2]
      refine ⟨fun h => absurd ((lt120 (by omega)).mp h) (by omega), fun _ => m_touch G hn (by omega) (fl_vals O ht0 F) ?_⟩
      simp only [jn2, cl (show t < 1000 by omega), vin (show t < 120 by omega) (by decide), true_and, forall_eq, nI_1]
      refine ⟨fun e => ih (t + 1) lab v3 (by omega) F ?_, fun e => ?_⟩
      · rcases hv with ⟨e1, e2, e3⟩ | q
        · refine Or.inl ⟨e1, e2, fun k hk => ?_⟩
          by_cases w : k = t
          · rw [w]; exact bi0.mp e
          · exact e3 k (by omega)
        · exact Or.inr q
      · obtain ⟨F2, c2⟩ := fl_put F hn (by omega) (nb0 e)
        refine ih (t + 1) _ 1 (by omega) F2 (Or.inr ⟨rfl, ?_⟩)
        rw [c2]
        rcases hv with ⟨e1, e2, e3⟩ | q
        · rw [e2]; omega
        · omega
  exact ⟨121, main 120 0 labS 0 (by omega) FS (Or.inl ⟨rfl, rfl, fun k hk => absurd hk (Nat.not_lt_zero k)⟩)⟩
theorem fl_done {x y u : Nat → Int32} {h0 n : Nat} {lab0 lab : Nat → Int32} {sg : Nat → Nat} (O : Pc x y u h0 lab0 sg n) (hh : h0 < 120) (uh : us u h0) (hm : lab0 h0 = -1) (F : Fl x y u h0 n lab0 lab) (cd : ∀ k, k < 120 → ¬ tq x y u n lab k) : Pc x y u (h0 + 1) lab (fun r => if r = n then h0 else sg r) (n + 1) := by
  have hRt := pc_R O
  have hn : n < 1000 := by omega
  obtain ⟨f1, f2, f3⟩ := F
  obtain ⟨o1, o2, o3, o4, o5, o6⟩ := O
  have no : ∀ h, h < 120 → lab0 h ≠ nI n := by
    intro h hh2 e
    rcases o1 h hh2 with q | ⟨-, r, hr, q⟩
    · rw [q] at e; exact neqm1 hn e.symm
    · rw [q] at e; have := nI_inj (by omega) hn e; omega
  have labn : ∀ h, h < 120 → lab h = nI n → us u h ∧ lab0 h = -1 := by
    intro h hh e
    rcases f1 h hh with q | q
    · rw [q] at e; exact absurd e (no h hh)
    · exact ⟨q.2.1, q.1⟩
  have old : ∀ h, h < 120 → lab0 h ≠ -1 → lab h = lab0 h := fun h hh q => (f1 h hh).elim id fun z => absurd z.1 q
  have oldr : ∀ h r, h < 120 → r < n → (lab h = nI r ↔ lab0 h = nI r) := by
    intro h r hh hr
    constructor
    · intro e
      rcases f1 h hh with q | q
      · rw [← q]; exact e
      · rw [q.2.2] at e; have := nI_inj hn (by omega) e; omega
    · intro e
      rw [old h hh (by rw [e]; exact neqm1 (by omega))]; exact e
  refine ⟨fun h hh => ?_, fun h hh uh => ?_, fun g h hg hh ug uh tt e => ?_, fun r hr => ?_, fun r r' hr hr' => ?_, fun P hP a b ha hb e1 e2 => ?_⟩
  · rcases f1 h hh with q | q
    · rw [q]
      rcases o1 h hh with w | ⟨w, r, hr, w2⟩
      · exact Or.inl w
      · exact Or.inr ⟨w, r, by omega, w2⟩
    · exact Or.inr ⟨q.2.1, n, by omega, q.2.2⟩
  · rcases Nat.lt_or_ge h h0 with q | q
    · rw [old h (by omega) (o2 h q uh)]; exact o2 h q uh
    · have : h = h0 := by omega
      rw [this, f2]; exact neqm1 hn
  · rcases f1 g hg with q | q
    · have e0 : lab0 g ≠ -1 := by rw [← q]; exact e
      have e3 := o3 g h hg hh ug uh tt e0
      rw [old h hh (by rw [e3]; exact e0), e3, q]
    · rw [q.2.2]
      rcases f1 h hh with w | w
      · by_cases z : lab0 h = -1
        · exact absurd ⟨uh, by rw [w]; exact z, g, hg, q.2.2, ug, tt⟩ (cd h hh)
        · have := o3 h g hh hg uh ug (tch_sym tt) z
          exact absurd (this.symm.trans q.1) z
      · exact w.2.2
  · dsimp only
    by_cases q : r = n
    · subst q
      rw [if_pos rfl]
      refine ⟨by omega, uh, f2, fun h hh e => ?_⟩
      rcases Nat.lt_or_ge h h0 with w | w
      · exact absurd (labn h hh e).2 (o2 h w (labn h hh e).1)
      · exact w
    · rw [if_neg q]
      obtain ⟨p1, p2, p3, p4⟩ := o4 r (by omega)
      exact ⟨by omega, p2, (oldr _ r (by omega) (by omega)).mpr p3, fun h hh e => p4 h hh ((oldr h r hh (by omega)).mp e)⟩
  · show (if r = n then h0 else sg r) < (if r' = n then h0 else sg r')
    rw [if_neg (by omega)]
    by_cases q : r' = n
    · rw [if_pos q]; exact (o4 r (by omega)).1
    · rw [if_neg q]; exact o5 r r' hr (by omega)
  · rcases f1 a ha with q | q
    · rcases f1 b hb with w | w
      · exact o6 P hP a b ha hb (by rw [← q]; exact e1) (by rw [← q, ← w]; exact e2)
      · rw [e2, w.2.2] at q
        exact absurd q.symm (no a ha)
    · have ea := f3 P hP a ha q.2.2
      have eb := f3 P hP b hb (by rw [← e2]; exact q.2.2)
      exact ea.trans eb.symm
theorem pc_skip {x y u : Nat → Int32} {t n : Nat} {lab : Nat → Int32} {sg : Nat → Nat} (O : Pc x y u t lab sg n) (h : us u t → lab t ≠ -1) : Pc x y u (t + 1) lab sg n := by
  obtain ⟨o1, o2, o3, o4, o5, o6⟩ := O
  refine ⟨o1, fun i hi ui => ?_, o3, fun r hr => ?_, o5, o6⟩
  · by_cases q : i = t
    · rw [q] at ui ⊢; exact h ui
    · exact o2 i (by omega) ui
  · obtain ⟨p1, p2⟩ := o4 r hr
    exact ⟨by omega, p2⟩
theorem m_spread {x y u mxs mys mth lab0 : Nat → Int32} (G : Ag x y u mxs mys mth) {h0 n : Nat} {sg : Nat → Nat} (O : Pc x y u h0 lab0 sg n) (hh : h0 < 120) (uh : us u h0) (hm : lab0 h0 = -1) {post : (Nat → Int32) → Prop}
    (k : ∀ lab, Pc x y u (h0 + 1) lab (fun r => if r = n then h0 else sg r) (n + 1) → post lab) : wp_X4_spreadPiece mth mxs mys lab0 (nI h0) (nI n) post := by
  have hRt := pc_R O
  have hn : n < 1000 := by omega
  unfold wp_X4_spreadPiece
  simp only [cl (show h0 < 1000 by omega), vin hh (by decide), true_and, forall_eq]
  have no : ∀ h, h < 120 → lab0 h ≠ nI n := by
    intro h hh2 e
    rcases O.1 h hh2 with q | ⟨-, r, hr, q⟩
    · rw [q] at e; exact neqm1 hn e.symm
    · rw [q] at e; have := nI_inj (by omega) hn e; omega
  have F0 : Fl x y u h0 n lab0 (upd lab0 h0 (nI n)) := by
    refine ⟨fun h hh2 => ?_, by rw [pk_us], fun P hP a ha e => ?_⟩
    · by_cases q : h = h0
      · rw [q, pk_us]; exact Or.inr ⟨hm, uh, rfl⟩
      · rw [pk_un q]; exact Or.inl rfl
    · by_cases q : a = h0
      · rw [q]
      · rw [pk_un q] at e; exact absurd e (no a ha)
  have stop : ∀ m lab, Fl x y u h0 n lab0 lab → (∀ k, k < 120 → ¬ tq x y u n lab k) → lp_X4_spreadPiece_9 mth mxs mys (nI n) (fun a => post a) (m + 1) lab 0 := by
    intro m lab F cd
    rw [lp_X4_spreadPiece_9.eq_2]
    exact ⟨fun _ => k lab (fl_done O hh uh hm F cd), fun h => absurd rfl h⟩
  have main : ∀ m lab, Fl x y u h0 n lab0 lab → 120 ≤ cn (fun h => lab h = nI n) 120 + m → lp_X4_spreadPiece_9 mth mxs mys (nI n) (fun a => post a) (m + 2) lab 1 := by
    intro m
    induction m with
    | zero =>
      intro lab F hc
      rw [lp_X4_spreadPiece_9.eq_2]
      refine ⟨fun h => absurd h (by decide), fun _ => m_pass G O (by omega) hn F (fun cd => stop 0 lab F cd) fun lab2 F2 c2 => ?_⟩
      have := cn_le (P := fun h => lab2 h = nI n) (n := 120)
      omega
    | succ m ih =>
      intro lab F hc
      rw [lp_X4_spreadPiece_9.eq_2]
      exact ⟨fun h => absurd h (by decide), fun _ => m_pass G O (by omega) hn F (fun cd => stop (m + 1) lab F cd) fun lab2 F2 c2 => ih lab2 F2 (by omega)⟩
  exact ⟨122, main 120 _ F0 (by omega)⟩
