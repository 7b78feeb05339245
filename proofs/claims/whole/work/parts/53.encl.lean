/-! the innermost round around a place: class and reference -/
def odP (x y u rd : Nat → Int32) (px py : Int32) (r h : Nat) : Prop := us u h ∧ rd h = nI r ∧ roofL x y (h / 2) px py
def odR (x y u rd : Nat → Int32) (px py : Int32) (r : Nat) : Prop := cn (odP x y u rd px py r) 120 % 2 = 1
def okE (x y u rd po : Nat → Int32) (sg : Nat → Nat) (tw : Nat → Int64) (px py v3 : Int32) (r : Nat) : Prop := odR x y u rd px py r ∧ 0 < tw r ∧ po (sg r / 2) ≠ v3
noncomputable def encl (x y u rd po : Nat → Int32) (sg : Nat → Nat) (tw : Nat → Int64) (R : Nat) (px py v3 : Int32) : Option Nat := bst (okE x y u rd po sg tw px py v3) (fun r b => tw r < tw b) R
theorem xr1 (a : Nat) : nI (a % 2) ^^^ (1 : Int32) = nI ((a + 1) % 2) := by
  rcases Nat.mod_two_eq_zero_or_one a with q | q
  · rw [q, show (a + 1) % 2 = 1 by omega]; decide
  · rw [q, show (a + 1) % 2 = 0 by omega]; decide
theorem rl_eq {x y u : Nat → Int32} {U : Nat → Prop} {N : Nat → Nat} {sw : Nat → Int64} {rd : Nat → Int32} {sg : Nat → Nat} {tw : Nat → Int64} {R : Nat} (O : Out U N sw 120 rd sg tw R) {h : Nat} (hh : h < 120) (uh : U h) : ∃ r, r < R ∧ r < 120 ∧ rd h = nI r ∧ ∀ r', r' < 1000 → (rd h = nI r' ↔ r' = r) := by
  obtain ⟨r, hr, e⟩ := out_lab O hh uh
  have := out_R O
  exact ⟨r, hr, by omega, e, fun r' hr' => ⟨fun q => by rw [e] at q; exact (nI_inj (by omega) hr' q).symm, fun q => by rw [q]; exact e⟩⟩
def odI (x y u rd : Nat → Int32) (px py : Int32) (j : Nat) (od : Nat → Int32) : Prop := ∀ r, r < 120 → od r = nI (cn (odP x y u rd px py r) j % 2)
theorem odI_no {x y u rd : Nat → Int32} {px py : Int32} {j : Nat} {od : Nat → Int32} (I : odI x y u rd px py j od) (h : ¬ (us u j ∧ roofL x y (j / 2) px py)) : odI x y u rd px py (j + 1) od := fun r hr => by
  rw [cn_f (P := odP x y u rd px py r) fun q => h ⟨q.1, q.2.2⟩]; exact I r hr
theorem odI_yes {x y u rd : Nat → Int32} {px py : Int32} {j r1 : Nat} {od : Nat → Int32} (I : odI x y u rd px py j od) (h : us u j ∧ roofL x y (j / 2) px py) (hr1 : r1 < 120) (e : rd j = nI r1) : odI x y u rd px py (j + 1) (upd od r1 (od r1 ^^^ (1 : Int32))) := fun r hr => by
  by_cases q : r = r1
  · rw [q, pk_us, I r1 hr1, xr1, cn_t (P := odP x y u rd px py r1) ⟨h.1, e, h.2⟩]
  · rw [pk_un q, cn_f (P := odP x y u rd px py r) fun z => q (nI_inj (by omega) (by omega) (z.2.1.symm.trans e)), I r hr]
theorem s_markOdd {x y u rd od : Nat → Int32} {sg : Nat → Nat} {tw : Nat → Int64} {R : Nat} {N : Nat → Nat} {sw : Nat → Int64} (O : Out (us u) N sw 120 rd sg tw R) {px py : Int32} {post : (Nat → Int32) → Prop} (k : ∀ od2, odI x y u rd px py 120 od2 → post od2) : wp_X1_markOddRounds rd od x y u px py post := by
  intro od1 h1
  have main : ∀ n t (od2 : Nat → Int32), t + n = 60 → odI x y u rd px py (2 * t) od2 → lp_X1_markOddRounds_10 rd x y u px py (fun w => post w) (n + 1) od2 (nI t) := by
    intro n
    induction n with
    | zero =>
      intro t od2 ht I
      rw [lp_X1_markOddRounds_10.eq_2]
      have et : t = 60 := by omega
      subst et
      exact ⟨fun _ => k od2 I, fun h => absurd ((lt60 (by omega)).mpr (by omega)) h⟩
    | succ n ih =>
      intro t od2 ht I
      rw [lp_X1_markOddRounds_10.eq_2]
      have d0 : 2 * t / 2 = t := by omega
      have d1 : (2 * t + 1) / 2 = t := by omega
      simp only [jn1, dbl, dbl1, cl (show t < 1000 by omega), cl (show 2 * t < 1000 by omega), cl (show 2 * t + 1 < 1000 by omega), vin (show t < 60 by omega) (by decide), vin (show 2 * t < 120 by omega) (by decide), vin (show 2 * t + 1 < 120 by omega) (by decide), true_and, forall_eq, nI_1]
      have skip : ¬ (¬ u t = 0 ∧ roofL x y t px py) → lp_X1_markOddRounds_10 rd x y u px py (fun w => post w) (n + 1) od2 (nI (t + 1)) := fun q => by
        have i1 : odI x y u rd px py (2 * t + 1) od2 := odI_no I (by unfold us; rw [d0]; exact q)
        have i2 : odI x y u rd px py (2 * t + 1 + 1) od2 := odI_no i1 (by unfold us; rw [d1]; exact q)
        exact ih (t + 1) od2 (by omega) (by rw [show 2 * (t + 1) = 2 * t + 1 + 1 by omega]; exact i2)
      refine ⟨fun h => absurd ((lt60 (by omega)).mp h) (by omega), fun _ => ⟨fun h => skip fun q => q.1 h, fun h => s_roofs (by omega) ⟨fun e => skip fun q => bi0.mp e q.2, fun e => ?_⟩⟩⟩
      have hr := nb0 e
      obtain ⟨r1, -, l1, e1, -⟩ := rl_eq (x := x) (y := y) (u := u) O (h := 2 * t) (by omega) (us_ev.mpr h)
      obtain ⟨r2, -, l2, e2, -⟩ := rl_eq (x := x) (y := y) (u := u) O (h := 2 * t + 1) (by omega) (by unfold us; rw [d1]; exact h)
      simp only [e1, e2, cl (show r1 < 1000 by omega), cl (show r2 < 1000 by omega), vin l1 (by decide), vin l2 (by decide), true_and]
      have i1 := odI_yes (j := 2 * t) I ⟨us_ev.mpr h, by rw [d0]; exact hr⟩ l1 e1
      have i2 := odI_yes (j := 2 * t + 1) i1 ⟨by unfold us; rw [d1]; exact h, by rw [d1]; exact hr⟩ l2 e2
      exact ih (t + 1) _ (by omega) (by rw [show 2 * (t + 1) = 2 * t + 1 + 1 by omega]; exact i2)
  exact ⟨61, main 60 0 od1 (by omega) fun r hr => h1 r hr⟩
theorem s_pieceOfRound {po st : Nat → Int32} {sg : Nat → Nat} {r R : Nat} (hs : ∀ r, r < R → st r = nI (sg r) ∧ sg r < 120) (hr : r < R) (hR : R ≤ 120) {post : Int32 → Prop} (k : post (po (sg r / 2))) : wp_X1_pieceOfRound po st (nI r) post := by
  unfold wp_X1_pieceOfRound
  have := (hs r hr).2
  simp only [cl (show r < 1000 by omega), (hs r hr).1, shr_half this, cl (show sg r / 2 < 1000 by omega), vin (show r < 120 by omega) (by decide), vin (show sg r / 2 < 60 by omega) (by decide), true_and]
  exact k
theorem od1 {x y u rd od : Nat → Int32} {px py : Int32} (I : odI x y u rd px py 120 od) {r : Nat} (hr : r < 120) : od r = 1 ↔ odR x y u rd px py r := by
  rw [I r hr]
  unfold odR
  rcases Nat.mod_two_eq_zero_or_one (cn (odP x y u rd px py r) 120) with q | q <;> rw [q] <;> decide
theorem s_enclosing {x y u rd po st od : Nat → Int32} {sg : Nat → Nat} {tw : Nat → Int64} {R : Nat} {N : Nat → Nat} {sw : Nat → Int64} (O : Out (us u) N sw 120 rd sg tw R) (hs : ∀ r, r < R → st r = nI (sg r) ∧ sg r < 120) {px py v3 : Int32} {post : Int32 → (Nat → Int32) → Prop} (k : ∀ od2, post (enc (encl x y u rd po sg tw R px py v3)) od2) : wp_X1_enclosing po rd st tw od (nI R) x y u px py v3 post := by
  have hR := out_R O
  refine s_markOdd O fun od2 I => ?_
  have main : ∀ n t (v4 : Int32), t + n = R → v4 = enc (bst (okE x y u rd po sg tw px py v3) (fun r b => tw r < tw b) t) → lp_X1_enclosing_12 po rd st tw od2 (nI R) x y u v3 (fun w => post w od2) (n + 1) v4 (nI t) := by
    intro n
    induction n with
    | zero =>
      intro t v4 ht h4
      rw [lp_X1_enclosing_12.eq_2]
      have et : t = R := by omega
      subst et
      exact ⟨fun _ => by rw [h4]; exact k od2, fun h => absurd ((leN (by omega) (by omega)).mpr (by omega)) h⟩
    | succ n ih =>
      intro t v4 ht h4
      rw [lp_X1_enclosing_12.eq_2]
      simp only [jn1, jn0, cl (show t < 1000 by omega), vin (show t < 120 by omega) (by decide), true_and, nI_1, i10, true_implies, false_implies, not_true_eq_false, not_false_eq_true, and_true]
      have ho := od1 I (show t < 120 by omega)
      have skip : ¬ okE x y u rd po sg tw px py v3 t → lp_X1_enclosing_12 po rd st tw od2 (nI R) x y u v3 (fun w => post w od2) (n + 1) v4 (nI (t + 1)) := by
        intro hno
        refine ih (t + 1) v4 (by omega) ?_
        cases hb : bst (okE x y u rd po sg tw px py v3) (fun r b => tw r < tw b) t with
        | none => rw [(bst_n hb).2 hno, h4, hb]
        | some c => rw [(bst_s hb).2 (fun q => hno q.1), h4, hb]
      refine ⟨fun h => absurd ((leN (by omega) (by omega)).mp h) (by omega), fun _ => ⟨fun h1 => ⟨fun h2 => skip fun q => absurd q.2.1 (by simpa using h2), fun h2 => s_pieceOfRound hs (by omega) (by omega) ⟨fun h3 => skip fun q => q.2.2 h3, fun h3 => ?_⟩⟩, fun h1 => skip fun q => h1 (ho.mpr q.1)⟩⟩
      have hok : okE x y u rd po sg tw px py v3 t := ⟨ho.mp h1, by simpa using h2, h3⟩
      have take : bst (okE x y u rd po sg tw px py v3) (fun r b => tw r < tw b) (t + 1) = some t → lp_X1_enclosing_12 po rd st tw od2 (nI R) x y u v3 (fun w => post w od2) (n + 1) (nI t) (nI (t + 1)) := fun e => ih (t + 1) _ (by omega) (by rw [e]; rfl)
      cases hb : bst (okE x y u rd po sg tw px py v3) (fun r b => tw r < tw b) t with
      | none =>
        rw [hb] at h4
        exact ⟨fun _ => take ((bst_n hb).1 hok), fun h => absurd h4 h⟩
      | some c =>
        have hc := bst_ok hb
        rw [hb] at h4
        have h4 : v4 = nI c := h4
        rw [h4]
        simp only [cl (show c < 1000 by omega), vin (show c < 120 by omega) (by decide), true_and]
        refine ⟨fun h => absurd h (neqm1 (by omega)), fun _ => ⟨fun h => ?_, fun h => take ((bst_s hb).1 ⟨hok, by simpa using h⟩)⟩⟩
        exact ih (t + 1) _ (by omega) (by rw [(bst_s hb).2 (fun z => absurd z.2 (by simpa using h))]; rfl)
  exact ⟨R + 1, main R 0 _ (by omega) (by rw [bst]; rfl)⟩
/-! the reference -/
theorem m_side {x y : Nat → Int32} {h : Nat} {px py : Int32} {post : Int32 → Prop} (k : post (sgL (sideL x y h px py))) : wp_X4_side (x h) (y h) (x (bk h)) (y (bk h)) px py post := by
  unfold wp_X4_side wp_X4_sign jn1
  have e : ((x (bk h) - x h).toInt64 * (py - y h).toInt64) - ((y (bk h) - y h).toInt64 * (px - x h).toInt64) = sideL x y h px py := rfl
  rw [e]
  generalize sideL x y h px py = v at *
  unfold sgL at k
  refine ⟨fun h1 => ⟨fun h2 => ?_, fun h2 => ?_⟩, fun h1 => ?_⟩
  · rw [if_neg (by simpa using h2), if_neg (by simpa using h1)] at k; exact k
  · rw [if_pos (by simpa using h2)] at k; exact k
  · have h3 : 0 < v := by simpa using h1
    rw [if_neg (fun q => by rw [Int64.lt_iff_toInt_lt] at h3 q; omega), if_pos h3] at k; exact k
theorem sg_neg (v : Int64) : (0 ≤ sgL v ↔ ¬ v < 0) := by
  unfold sgL
  by_cases h1 : v < 0
  · rw [if_pos h1]; exact ⟨fun q => absurd q (by decide), fun q => absurd h1 q⟩
  · rw [if_neg h1]
    by_cases h2 : 0 < v
    · rw [if_pos h2]; exact ⟨fun _ => h1, fun _ => by decide⟩
    · rw [if_neg h2]; exact ⟨fun _ => h1, fun _ => by decide⟩
/-- the reference's left end of a half, and the roof over a place -/
theorem roof_lo {x y : Nat → Int32} {h : Nat} {px py : Int32} (l : Nat) (hl : (x (bk h) ≤ x h ∧ l = bk h) ∨ (¬ x (bk h) ≤ x h ∧ l = h)) : roofL x y (h / 2) px py ↔ (x l ≤ px ∧ px < x (bk l) ∧ sideL x y l px py < 0) := by
  have rw2 : rwd x (h / 2) = h ∨ rwd x (h / 2) = bk h := by
    unfold rwd
    rcases half_or h with e | e
    · have e1 : 2 * (h / 2) + 1 = bk h := by rw [← bk_ev, ← e]
      by_cases q : x (2 * (h / 2) + 1) < x (2 * (h / 2))
      · rw [if_pos q, e1]; exact Or.inr rfl
      · rw [if_neg q]; exact Or.inl e.symm
    · have e1 : 2 * (h / 2) + 1 = h := by rw [← bk_ev]; exact e.symm
      have e2 : 2 * (h / 2) = bk h := by
        have : bk h = bk (bk (2 * (h / 2))) := by rw [← e]
        rw [this, bk_bk]
      by_cases q : x (2 * (h / 2) + 1) < x (2 * (h / 2))
      · rw [if_pos q]; exact Or.inl e1
      · rw [if_neg q]; exact Or.inr e2
  have rle : x (rwd x (h / 2)) ≤ x (bk (rwd x (h / 2))) := by
    unfold rwd
    by_cases q : x (2 * (h / 2) + 1) < x (2 * (h / 2))
    · rw [if_pos q, bk_od, Int32.le_iff_toInt_le]; rw [Int32.lt_iff_toInt_lt] at q; omega
    · rw [if_neg q, bk_ev, Int32.le_iff_toInt_le]; rw [Int32.lt_iff_toInt_lt] at q; omega
  unfold roofL
  by_cases same : l = rwd x (h / 2)
  · rw [same]
  · -- the two ends lie at one x: no roof either way
    have hx : x h = x (bk h) := by
      rw [← Int32.toInt_inj]
      rcases hl with ⟨a, b⟩ | ⟨a, b⟩
      · rcases rw2 with q | q
        · rw [q] at rle
          rw [Int32.le_iff_toInt_le] at rle a
          omega
        · exact absurd (b.trans q.symm) same
      · rcases rw2 with q | q
        · exact absurd (b.trans q.symm) same
        · rw [q, bk_bk] at rle
          exact absurd rle a
    have hl2 : l = h ∨ l = bk h := hl.elim (fun q => Or.inr q.2) fun q => Or.inl q.2
    have no : ∀ m, m = h ∨ m = bk h → ¬ (x m ≤ px ∧ px < x (bk m)) := by
      rintro m (q | q) ⟨a, b⟩
      · rw [q] at a b; rw [← hx] at b
        rw [Int32.le_iff_toInt_le] at a; rw [Int32.lt_iff_toInt_lt] at b; omega
      · rw [q] at a b; rw [bk_bk, hx] at b
        rw [Int32.le_iff_toInt_le] at a; rw [Int32.lt_iff_toInt_lt] at b; omega
    exact ⟨fun z => absurd ⟨z.1, z.2.1⟩ (no _ rw2), fun z => absurd ⟨z.1, z.2.1⟩ (no l hl2)⟩
theorem m_isWithin {x y u mxs mys mth rd mrd : Nat → Int32} (G : Ag x y u mxs mys mth) (hm : ∀ h, h < 120 → us u h → mrd h = rd h) {r : Nat} {px py : Int32} {post : Int32 → Prop} (k : post (bi (odR x y u rd px py r))) : wp_X4_isWithin mth mxs mys mrd (nI r) px py post := by
  have pk : bz (nI (cn (odP x y u rd px py r) 120 % 2)) ∧ post (nI (cn (odP x y u rd px py r) 120 % 2)) := by
    unfold odR at k
    rcases Nat.mod_two_eq_zero_or_one (cn (odP x y u rd px py r) 120) with q | q
    · rw [q] at k ⊢
      rw [bi_f (by decide)] at k
      exact ⟨bz0, k⟩
    · rw [q] at k ⊢
      rw [bi_t (by decide)] at k
      exact ⟨bz1, k⟩
  have main : ∀ n t (v4 : Int32), t + n = 120 → v4 = nI (cn (odP x y u rd px py r) t % 2) → lp_X4_isWithin_6 mth mxs mys mrd (nI r) px py (fun w => bz w ∧ post w) (n + 1) v4 (nI t) := by
    intro n
    induction n with
    | zero =>
      intro t v4 ht h4
      rw [lp_X4_isWithin_6.eq_2]
      have et : t = 120 := by omega
      subst et
      exact ⟨fun _ => by rw [h4]; exact pk, fun h => absurd ((lt120 (by omega)).mpr (by omega)) h⟩
    | succ n ih =>
      intro t v4 ht h4
      rw [lp_X4_isWithin_6.eq_2]
      simp only [jn1, jn0, div_half (show t < 120 by omega), cl (show t < 1000 by omega), cl (show t / 2 < 1000 by omega), vin (show t < 120 by omega) (by decide), vin (show t / 2 < 60 by omega) (by decide), true_and, nI_1]
      have no : ¬ odP x y u rd px py r t → lp_X4_isWithin_6 mth mxs mys mrd (nI r) px py (fun w => bz w ∧ post w) (n + 1) v4 (nI (t + 1)) := fun q => ih (t + 1) v4 (by omega) (by rw [cn_f q]; exact h4)
      have yes : odP x y u rd px py r t → (v4 = 0 → lp_X4_isWithin_6 mth mxs mys mrd (nI r) px py (fun w => bz w ∧ post w) (n + 1) 1 (nI (t + 1))) ∧ (¬ v4 = 0 → lp_X4_isWithin_6 mth mxs mys mrd (nI r) px py (fun w => bz w ∧ post w) (n + 1) 0 (nI (t + 1))) := by
        intro q
        refine ⟨fun e => ih (t + 1) 1 (by omega) ?_, fun e => ih (t + 1) 0 (by omega) ?_⟩
        · rw [cn_t q]
          rcases Nat.mod_two_eq_zero_or_one (cn (odP x y u rd px py r) t) with w | w
          · rw [show (cn (odP x y u rd px py r) t + 1) % 2 = 1 by omega]; rfl
          · rw [h4, w] at e; exact absurd e (by decide)
        · rw [cn_t q]
          rcases Nat.mod_two_eq_zero_or_one (cn (odP x y u rd px py r) t) with w | w
          · rw [h4, w] at e; exact absurd rfl e
          · rw [show (cn (odP x y u rd px py r) t + 1) % 2 = 0 by omega]; rfl
      have ag : mth (t / 2) = 0 ↔ u (t / 2) = 0 := G.1 _ (by omega)
      refine ⟨fun h => absurd ((lt120 (by omega)).mp h) (by omega), fun _ => ⟨fun h => no fun q => q.1 (ag.mp h), fun h => ?_⟩⟩
      have ut : us u t := fun q => h (ag.mpr q)
      rw [hm t (by omega) ut]
      refine ⟨fun e => m_back (by omega) ?_, fun e => no fun q => e q.2.1⟩
      have hb := bk_lt (show t < 120 by omega)
      simp only [cl (show bk t < 1000 by omega), vin hb (by decide), true_and]
      rw [(G.2 t (by omega) ut).1, (G.2 _ hb (us_bk ut)).1]
      have core : ∀ l, l < 120 → us u l → ((x (bk t) ≤ x t ∧ l = bk t) ∨ (¬ x (bk t) ≤ x t ∧ l = t)) → (mxs l = x l ∧ mys l = y l ∧ mxs (bk l) = x (bk l) ∧ mys (bk l) = y (bk l)) ∧ (roofL x y (t / 2) px py ↔ (x l ≤ px ∧ px < x (bk l) ∧ sideL x y l px py < 0)) := fun l hl ul hc => ⟨⟨(G.2 l hl ul).1, (G.2 l hl ul).2, (G.2 _ (bk_lt hl) (us_bk ul)).1, (G.2 _ (bk_lt hl) (us_bk ul)).2⟩, roof_lo l hc⟩
      have fin : ∀ l, l < 120 → us u l → ((x (bk t) ≤ x t ∧ l = bk t) ∨ (¬ x (bk t) ≤ x t ∧ l = t)) → ∀ (K10 : Int32 → Prop), K10 0 = lp_X4_isWithin_6 mth mxs mys mrd (nI r) px py (fun w => bz w ∧ post w) (n + 1) v4 (nI (t + 1)) → (K10 1 = ((v4 = 0 → lp_X4_isWithin_6 mth mxs mys mrd (nI r) px py (fun w => bz w ∧ post w) (n + 1) 1 (nI (t + 1))) ∧ (¬ v4 = 0 → lp_X4_isWithin_6 mth mxs mys mrd (nI r) px py (fun w => bz w ∧ post w) (n + 1) 0 (nI (t + 1))))) → ((px < x l → K10 0) ∧ (¬ px < x l → ((x (bk l) ≤ px → K10 0) ∧ (¬ x (bk l) ≤ px → wp_X4_side (x l) (y l) (x (bk l)) (y (bk l)) px py (fun r17 => (0 ≤ r17 → K10 0) ∧ (¬ 0 ≤ r17 → K10 1)))))) := by
        intro l hl ul hc K10 k0 k1
        obtain ⟨-, hro⟩ := core l hl ul hc
        rw [k0, k1]
        refine ⟨fun h1 => no fun q => ?_, fun h1 => ⟨fun h2 => no fun q => ?_, fun h2 => m_side ⟨fun h3 => no fun q => ?_, fun h3 => yes ⟨ut, e, hro.mpr ⟨by simpa using h1, by simpa using h2, ?_⟩⟩⟩⟩⟩
        · exact absurd (hro.mp q.2.2).1 (by simpa using h1)
        · exact absurd (hro.mp q.2.2).2.1 (by simpa using h2)
        · exact (sg_neg _).mp h3 (hro.mp q.2.2).2.2
        · rw [sg_neg] at h3
          by_cases z : sideL x y l px py < 0
          · exact z
          · exact absurd z h3
      refine ⟨fun c => m_back (by omega) (m_back hb ?_), fun c => m_back (by omega) ?_⟩
      · obtain ⟨⟨c1, c2, c3, c4⟩, -⟩ := core (bk t) hb (us_bk ut) (Or.inl ⟨c, rfl⟩)
        have := fin (bk t) hb (us_bk ut) (Or.inl ⟨c, rfl⟩) (fun k9 => (k9 = 0 → lp_X4_isWithin_6 mth mxs mys mrd (nI r) px py (fun w => bz w ∧ post w) (n + 1) v4 (nI (t + 1))) ∧ (¬ k9 = 0 → (v4 = 0 → lp_X4_isWithin_6 mth mxs mys mrd (nI r) px py (fun w => bz w ∧ post w) (n + 1) 1 (nI (t + 1))) ∧ (¬ v4 = 0 → lp_X4_isWithin_6 mth mxs mys mrd (nI r) px py (fun w => bz w ∧ post w) (n + 1) 0 (nI (t + 1))))) (by simp) (by simp)
        simp only [bk_bk, cl (show bk t < 1000 by omega), cl (show t < 1000 by omega), vin (show t < 120 by omega) (by decide), vin hb (by decide), true_and] at this c1 c2 c3 c4 ⊢
        rw [c1, c2, c3, c4]
        exact this
      · obtain ⟨⟨c1, c2, c3, c4⟩, -⟩ := core t (by omega) ut (Or.inr ⟨c, rfl⟩)
        have := fin t (by omega) ut (Or.inr ⟨c, rfl⟩) (fun k9 => (k9 = 0 → lp_X4_isWithin_6 mth mxs mys mrd (nI r) px py (fun w => bz w ∧ post w) (n + 1) v4 (nI (t + 1))) ∧ (¬ k9 = 0 → (v4 = 0 → lp_X4_isWithin_6 mth mxs mys mrd (nI r) px py (fun w => bz w ∧ post w) (n + 1) 1 (nI (t + 1))) ∧ (¬ v4 = 0 → lp_X4_isWithin_6 mth mxs mys mrd (nI r) px py (fun w => bz w ∧ post w) (n + 1) 0 (nI (t + 1))))) (by simp) (by simp)
        simp only [cl (show bk t < 1000 by omega), cl (show t < 1000 by omega), vin (show t < 120 by omega) (by decide), vin hb (by decide), true_and] at this ⊢
        simp only [c1, c2, c3, c4]
        exact this
  exact ⟨121, main 120 0 0 (by omega) rfl⟩
/-- the reference's rounds and pieces are the class's -/
def AgR (u rd po : Nat → Int32) (sg : Nat → Nat) (tw : Nat → Int64) (R : Nat) (mrd mfi mpo : Nat → Int32) (mar : Nat → Int64) : Prop :=
  (∀ h, h < 120 → us u h → mrd h = rd h) ∧ (∀ r, r < R → mfi r = nI (sg r) ∧ sg r < 120 ∧ us u (sg r)) ∧ (∀ r, r < R → mar r = tw r) ∧ (∀ h, h < 120 → us u h → mpo h = po (h / 2))
theorem m_least {x y u mxs mys mth rd po mrd mfi mpo : Nat → Int32} {sg : Nat → Nat} {tw mar : Nat → Int64} {R : Nat} (G : Ag x y u mxs mys mth) (A : AgR u rd po sg tw R mrd mfi mpo mar) (hR : R ≤ 120) {px py v3 : Int32} {post : Int32 → Prop} (k : post (enc (encl x y u rd po sg tw R px py v3))) : wp_X4_least mth mxs mys mpo (nI R) mrd mfi mar px py v3 post := by
  have main : ∀ n t (v4 : Int32), t + n = R → v4 = enc (bst (okE x y u rd po sg tw px py v3) (fun r b => tw r < tw b) t) → lp_X4_least_6 mth mxs mys mpo (nI R) mrd mfi mar px py v3 (fun w => post w) (n + 1) v4 (nI t) := by
    intro n
    induction n with
    | zero =>
      intro t v4 ht h4
      rw [lp_X4_least_6.eq_2]
      have et : t = R := by omega
      subst et
      exact ⟨fun _ => by rw [h4]; exact k, fun h => absurd ((leN (by omega) (by omega)).mpr (by omega)) h⟩
    | succ n ih =>
      intro t v4 ht h4
      rw [lp_X4_least_6.eq_2]
      obtain ⟨a1, a2, a3, a4⟩ := A
      obtain ⟨f1, f2, f3⟩ := a2 t (by omega)
      simp only [jn1, jn0, cl (show t < 1000 by omega), vin (show t < 120 by omega) (by decide), f1, cl (show sg t < 1000 by omega), vin f2 (by decide), true_and, nI_1, i10, true_implies, false_implies, not_true_eq_false, not_false_eq_true, and_true]
      rw [a3 t (by omega), a4 _ f2 f3]
      have skip : ¬ okE x y u rd po sg tw px py v3 t → lp_X4_least_6 mth mxs mys mpo (nI R) mrd mfi mar px py v3 (fun w => post w) (n + 1) v4 (nI (t + 1)) := by
        intro hno
        refine ih (t + 1) v4 (by omega) ?_
        cases hb : bst (okE x y u rd po sg tw px py v3) (fun r b => tw r < tw b) t with
        | none => rw [(bst_n hb).2 hno, h4, hb]
        | some c => rw [(bst_s hb).2 (fun q => hno q.1), h4, hb]
      have take : bst (okE x y u rd po sg tw px py v3) (fun r b => tw r < tw b) (t + 1) = some t → lp_X4_least_6 mth mxs mys mpo (nI R) mrd mfi mar px py v3 (fun w => post w) (n + 1) (nI t) (nI (t + 1)) := fun e => ih (t + 1) _ (by omega) (by rw [e]; rfl)
      refine ⟨fun h => absurd ((leN (by omega) (by omega)).mp h) (by omega), fun _ => ⟨fun h2 => skip fun q => absurd q.2.1 (by simpa using h2), fun h2 => ⟨fun h3 => skip fun q => q.2.2 h3, fun h3 => ?_⟩⟩⟩
      have h2 : 0 < tw t := by simpa using h2
      cases hb : bst (okE x y u rd po sg tw px py v3) (fun r b => tw r < tw b) t with
      | none =>
        rw [hb] at h4
        have h4 : v4 = -1 := h4
        rw [h4]
        refine ⟨fun _ => m_isWithin G a1 ⟨fun e => ?_, fun e => take ((bst_n hb).1 ⟨nb0 e, h2, h3⟩)⟩, fun h => absurd (by decide) h⟩
        have := skip fun q => bi0.mp e q.1
        rw [h4] at this
        exact this
      | some c =>
        have hc := bst_ok hb
        rw [hb] at h4
        have h4 : v4 = nI c := h4
        rw [h4]
        simp only [cl (show c < 1000 by omega), vin (show c < 120 by omega) (by decide), true_and]
        rw [a3 c (by omega)]
        rw [h4] at skip
        refine ⟨fun h => absurd h (nneg (by omega)), fun _ => ⟨fun h => ?_, fun h => m_isWithin G a1 ⟨fun e => skip fun q => bi0.mp e q.1, fun e => take ((bst_s hb).1 ⟨⟨nb0 e, h2, h3⟩, by simpa using h⟩)⟩⟩⟩
        exact ih (t + 1) _ (by omega) (by rw [(bst_s hb).2 (fun z => absurd z.2 (by simpa using h))]; rfl)
  exact ⟨R + 1, main R 0 _ (by omega) (by rw [bst]; rfl)⟩
