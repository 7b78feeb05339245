/-! count, begins, above, remove, clear, add -/
theorem cn_even {P : Nat → Prop} (h : ∀ s, ¬ P (2 * s + 1)) : ∀ n, cn P (2 * n) = cn (fun s => P (2 * s)) n := by
  intro n
  induction n with
  | zero => rfl
  | succ n ih =>
    rw [show 2 * (n + 1) = 2 * n + 1 + 1 by omega, cn_f (h n)]
    by_cases q : P (2 * n)
    · rw [cn_t q, cn_t (P := fun s => P (2 * s)) q, ih]
    · rw [cn_f q, cn_f (P := fun s => P (2 * s)) q, ih]
theorem cnt0 {x y u fa : Nat → Int32} : cn (fun h => us u h ∧ cntP x y u fa 0 h) 120 = cn (fun s => ¬ u s = 0) 60 := by
  rw [show 120 = 2 * 60 from rfl, cn_even (fun s w => by have := (w.2.2 (by decide)).1; omega)]
  exact cn_c fun s _ => ⟨fun w => us_ev.mp w.1, fun w => ⟨us_ev.mpr w, fun z => absurd z (by decide), fun _ => ⟨by omega, Or.inl rfl⟩⟩⟩
theorem cnt1 {x y u fa : Nat → Int32} : cn (fun h => us u h ∧ cntP x y u fa 1 h) 120 = cn (fun h => us u h ∧ ∀ j, j < h → ¬ atP x y u (x h) (y h) j) 120 :=
  cn_c fun h _ => ⟨fun w => ⟨w.1, w.2.1 rfl⟩, fun w => ⟨w.1, fun _ => w.2, fun z => absurd rfl z⟩⟩
theorem cnt4 {x y u fa : Nat → Int32} : cn (fun h => us u h ∧ cntP x y u fa 4 h) 120 = cn (fun s => ¬ u s = 0 ∧ fa (2 * s) = fa (2 * s + 1)) 60 := by
  rw [show 120 = 2 * 60 from rfl, cn_even (fun s w => by have := (w.2.2 (by decide)).1; omega)]
  exact cn_c fun s _ => ⟨fun w => ⟨us_ev.mp w.1, (w.2.2 (by decide)).2.elim (fun z => absurd z (by decide)) id⟩, fun w => ⟨us_ev.mpr w.1, fun z => absurd z (by decide), fun _ => ⟨by omega, Or.inr w.2⟩⟩⟩
theorem i32c {v : Int32} {k : Nat} (hk : k < 1000) (h : v.toInt = k) : v = nI k := by rw [← Int32.toInt_inj, nI_toInt (by omega), h]
theorem cmp2 {r r2 : Int32} {K : Prop} (e : r = r2) (k : K) : (r = r2 → K) ∧ (¬ r = r2 → False) := ⟨fun _ => k, fun q => q e⟩
/-- begins -/
theorem s_begins {x y u : Nat → Int32} {o : Nat → Int64} {v1 v2 : Int32} {post : Int32 → (Nat → Int64) → Prop} (kx : ¬ hfP u v1 → post 1 o) (kr : ∀ h, h < 120 → v1 = nI h → us u h → post 0 (vp_updL o (0 : Int32).toNatClampNeg (if v2 = 0 then x h else y h).toInt64)) : wp_L_begins x y u o v1 v2 post := by
  by_cases q : hfP u v1
  · refine Or.inr (s_rh q ?_)
    obtain ⟨h, hh, e, uh⟩ := id q
    have k := kr h hh e uh
    subst e
    by_cases z : v2 = 0
    · rw [if_pos z] at k
      refine ⟨fun _ => ⟨vin hh (by decide), ?_⟩, fun w => absurd z w⟩
      rw [cl (show h < 1000 by omega)]; exact k
    · rw [if_neg z] at k
      refine ⟨fun w => absurd w z, fun _ => ⟨vin hh (by decide), ?_⟩⟩
      rw [cl (show h < 1000 by omega)]; exact k
  · exact Or.inl (Or.inl (s_rhx q ⟨rfl, kx q⟩))
theorem m_begins {x y u mxs mys mth : Nat → Int32} {mre v1 v2 : Int32} (G : Ag x y u mxs mys mth) {post : Int32 → Int32 → Prop} (kx : ¬ hfP u v1 → post 0 1) (kr : ∀ h, h < 120 → v1 = nI h → us u h → post (if v2 = 0 then x h else y h) 0) : wp_X4_begins mre mth mxs mys v1 v2 post := by
  refine m_isHalf G ?_
  by_cases q : hfP u v1
  · rw [bi_t q]
    refine jn1_v 0 (fun K hK => ⟨fun z => absurd z (by decide), fun _ => hK⟩) (m_ref0 ?_)
    obtain ⟨h, hh, e, uh⟩ := id q
    have k := kr h hh e uh
    subst e
    refine ⟨fun _ => ⟨fun z => ⟨vin hh (by decide), ?_⟩, fun z => ⟨vin hh (by decide), ?_⟩⟩, fun z => absurd rfl z⟩
    · rw [if_pos z] at k
      rw [cl (show h < 1000 by omega), (G.2 h hh uh).1]; exact k
    · rw [if_neg z] at k
      rw [cl (show h < 1000 by omega), (G.2 h hh uh).2]; exact k
  · rw [bi_f q]
    exact jn1_v 1 (fun K hK => ⟨fun _ => hK, fun z => absurd rfl z⟩) (m_ref1 ⟨fun z => absurd z (by decide), fun _ => kx q⟩)
/-- above -/
theorem q_above {x y u mxs mys mth : Nat → Int32} {o : Nat → Int64} {mre v1 v2 : Int32} {W W2 : Prop} (hW : W) (hW2 : W2) (C : Cfg x y u) (G : Ag x y u mxs mys mth) {K : (Nat → Int64) → Int32 → Prop} (hK : ∀ o mre, K o mre) :
    wp_L_above x y u o v1 v2 (fun r1 o => W ∧ W2 ∧ wp_X4_above mre mth mxs mys v1 v2 (fun r2 mre => cmp r1 r2 mre o (K o mre))) := by
  by_cases q : inB v1 ∧ inB v2
  · refine Or.inr (s_rp q (s_firstUpFrom ⟨hW, hW2, m_isIn (jn1_v 0 (fun K hK => ⟨fun z => absurd q.1 (bi0.mp z), fun _ => m_isIn ⟨fun z => absurd q.2 (bi0.mp z), fun _ => hK⟩⟩) (m_ref0 ⟨fun _ => m_above G (fin0 ?_ (hK _ _)), fun z => absurd rfl z⟩))⟩))
    rw [above_eq C q.1 q.2]
  · refine Or.inl (Or.inl (s_rpx q ⟨rfl, hW, hW2, m_isIn ?_⟩))
    exact jn1_v 1 (fun K hK => ⟨fun _ => hK, fun a => m_isIn ⟨fun _ => hK, fun b => absurd ⟨nb0 a, nb0 b⟩ q⟩⟩) (m_ref1 ⟨fun z => absurd z (by decide), fun _ => fin1 (hK _ _)⟩)
/-- remove -/
theorem s_remove {u : Nat → Int32} {sl sn v : Int32} {post : Int32 → Int32 → (Nat → Int32) → Int32 → Prop} (k0 : ¬ (∃ s, s < 60 ∧ v = nI s ∧ ¬ u s = 0) → post 0 sl u sn) (k1 : ∀ s, s < 60 → v = nI s → ¬ u s = 0 → post 1 1 (upd u s 0) (sn - 1)) : wp_X3_remove sl u sn v post := by
  refine s_has ⟨fun z => ⟨bz0, k0 (bi0.mp z)⟩, fun z => ?_⟩
  obtain ⟨s, hs, e, us1⟩ := nb0 z
  rw [e]
  exact s_drop hs ⟨bz1, k1 s hs e us1⟩
theorem m_remove {x y u mxs mys mth : Nat → Int32} {mre mcu v : Int32} (G : Ag x y u mxs mys mth) {post : Int32 → Int32 → (Nat → Int32) → Int32 → Prop} (k0 : ¬ (∃ s, s < 60 ∧ v = nI s ∧ ¬ u s = 0) → post 0 0 mth mcu) (k1 : ∀ s, s < 60 → v = nI s → ¬ u s = 0 → post 1 0 (upd mth s 0) 0) : wp_X4_remove mre mth mcu v post := by
  unfold wp_X4_remove
  by_cases q : ∃ s, s < 60 ∧ v = nI s ∧ ¬ u s = 0
  · obtain ⟨s, hs, e, us1⟩ := q
    have k := k1 s hs e us1
    subst e
    refine jn1_v 1 (fun K hK => ⟨fun z => absurd z (nneg (by omega)), fun _ => ⟨fun z => absurd ((lt60 (by omega)).mp z) (by omega), fun _ => ⟨vin hs (by decide), ?_⟩⟩⟩) ⟨fun z => absurd z (by decide), fun _ => ⟨vin hs (by decide), ?_⟩⟩
    · rw [cl (show s < 1000 by omega)]
      exact ⟨fun z => absurd ((G.1 s hs).mp z) us1, fun _ => hK⟩
    · rintro _ rfl
      rw [cl (show s < 1000 by omega), nar0]
      exact ⟨bz1, k⟩
  · refine jn1_v 0 (fun K hK => ⟨fun _ => hK, fun a => ⟨fun _ => hK, fun b => ?_⟩⟩) ⟨fun _ => ⟨bz0, k0 q⟩, fun z => absurd rfl z⟩
    obtain ⟨s, hs, e⟩ : ∃ s, s < 60 ∧ v = nI s := by
      rw [Int32.lt_iff_toInt_lt] at a
      rw [Int32.le_iff_toInt_le] at b
      have e0 : (0 : Int32).toInt = 0 := rfl
      have e1 : (60 : Int32).toInt = 60 := by decide
      exact ⟨v.toInt.toNat, by omega, by rw [← Int32.toInt_inj, nI_toInt (by omega)]; omega⟩
    subst e
    refine ⟨vin hs (by decide), ?_⟩
    rw [cl (show s < 1000 by omega)]
    exact ⟨fun _ => hK, fun z => absurd ⟨s, hs, rfl, fun w => z ((G.1 s hs).mpr w)⟩ q⟩
/-- clear -/
theorem m_clear {x y u mxs mys mth : Nat → Int32} {mre mcu : Int32} (G : Ag x y u mxs mys mth) {post : Int32 → Int32 → (Nat → Int32) → Int32 → Prop} (k : ∀ mth2 : Nat → Int32, (∀ s, s < 60 → mth2 s = 0) → post (nI (cn (fun s => ¬ u s = 0) 60)) 0 mth2 0) : wp_X4_clear mre mth mcu post := by
  have main : ∀ n t (m2 : Nat → Int32), t + n = 60 → (∀ j, j < t → m2 j = 0) → (∀ j, t ≤ j → m2 j = mth j) → lp_X4_clear_9 0 mcu (fun w5 mth_6 => post w5 0 mth_6 0) (n + 1) m2 (nI (cn (fun s => ¬ u s = 0) t)) (nI t) := by
    intro n
    induction n with
    | zero =>
      intro t m2 ht h1 h2
      rw [lp_X4_clear_9.eq_2]
      have et : t = 60 := by omega
      subst et
      exact ⟨fun _ => k m2 h1, fun h => absurd ((lt60 (by omega)).mpr (by omega)) h⟩
    | succ n ih =>
      intro t m2 ht h1 h2
      rw [lp_X4_clear_9.eq_2]
      simp only [jn1, cl (show t < 1000 by omega), vin (show t < 60 by omega) (by decide), true_and, forall_eq, nI_1, nar0]
      have r := ih (t + 1) (upd m2 t 0) (by omega) (fun j hj => by
        by_cases w : j = t
        · rw [w, pk_us]
        · rw [pk_un w]; exact h1 j (by omega)) (fun j hj => by rw [pk_un (by omega)]; exact h2 j (by omega))
      rw [h2 t (Nat.le_refl t)]
      have ag := G.1 t (by omega)
      refine ⟨fun h => absurd ((lt60 (by omega)).mp h) (by omega), fun _ => ⟨fun e => ?_, fun e => ?_⟩⟩
      · rw [cn_f (P := fun s => ¬ u s = 0) (fun z => z (ag.mp e))] at r; exact r
      · rw [cn_t (P := fun s => ¬ u s = 0) (fun z => e (ag.mpr z))] at r; exact r
  exact ⟨61, main 60 0 mth (by omega) (fun j hj => absurd hj (Nat.not_lt_zero j)) fun j _ => rfl⟩
/-- add -/
theorem lf_uniq {u : Nat → Int32} {s t : Nat} (h : leastF u s) (k : leastF u t) : s = t := by
  rcases Nat.lt_trichotomy s t with w | w | w
  · exact absurd h.2.1 (k.2.2 s w)
  · exact w
  · exact absurd k.2.1 (h.2.2 t w)
theorem q_add {x y u mxs mys mth : Nat → Int32} {o : Nat → Int64} {sl sn mre mcu ax ay bx b_y : Int32} {W1 W2 W3 W4 : Prop} (h1 : W1) (h2 : W2) (h3 : W3) (h4 : W4) (C : Cfg x y u) (G : Ag x y u mxs mys mth) {K : Int32 → (Nat → Int32) → (Nat → Int32) → (Nat → Int32) → Int32 → (Nat → Int64) → Int32 → (Nat → Int32) → (Nat → Int32) → (Nat → Int32) → Int32 → Prop}
    (k0 : ∀ o mre, K sl x y u sn o mre mth mxs mys mcu)
    (k1 : ∀ s o, addOK ax ay bx b_y → leastF u s → K sl (nx4 x s ax bx) (nx4 y s ay b_y) u sn o 0 mth mxs mys mcu)
    (k2 : ∀ s o, addOK ax ay bx b_y → leastF u s → ¬ (∃ t, t < 60 ∧ ¬ u t = 0 ∧ clashL (nx4 x s ax bx) (nx4 y s ay b_y) s t) → K 1 (nx4 x s ax bx) (nx4 y s ay b_y) (upd u s 1) (sn + 1) o 0 (upd mth s 1) (nx4 mxs s ax bx) (nx4 mys s ay b_y) 0) :
    wp_L_add sl x y u sn o ax ay bx b_y (fun r1 sl x y u sn o => W1 ∧ W2 ∧ W3 ∧ W4 ∧ wp_X4_add mre mth mxs mys mcu ax ay bx b_y (fun r2 mre mth mxs mys mcu => cmp r1 r2 mre o (K sl x y u sn o mre mth mxs mys mcu))) := by
  refine s_addL (fun nb => ⟨h1, h2, h3, h4, m_add G C (fun _ => fin1 (k0 _ _)) (fun ok => absurd ok nb) (fun _ ok => absurd ok nb) (fun _ ok => absurd ok nb)⟩)
    (fun ok full => ⟨h1, h2, h3, h4, m_add G C (fun nb => absurd ok nb) (fun _ _ => fin2 (k0 _ _)) (fun s _ l => absurd l.2.1 (full s l.1)) (fun s _ l => absurd l.2.1 (full s l.1))⟩)
    (fun s ok l c => ⟨h1, h2, h3, h4, m_add G C (fun nb => absurd ok nb) (fun _ full => absurd l.2.1 (full s l.1)) (fun t _ lt _ => fin0 rfl (k1 s _ ok l)) (fun t _ lt nc => ?_)⟩)
    (fun s ok l c => ⟨h1, h2, h3, h4, m_add G C (fun nb => absurd ok nb) (fun _ full => absurd l.2.1 (full s l.1)) (fun t _ lt yc => ?_) (fun t _ lt nc => ?_)⟩)
  · have := lf_uniq l lt
    subst this
    exact absurd c nc
  · have := lf_uniq l lt
    subst this
    exact absurd yc c
  · have := lf_uniq l lt
    subst this
    exact fin0 rfl (k2 s _ ok l c)
/-- count -/
theorem q_count {x y u mxs mys mth ho nu fa ou co fo ro po rd st od mnx mpo mrd mfi mfa mnu : Nat → Int32} {sl fn pn rn mre mcu mpn mrn mfn : Int32} {tw mar : Nat → Int64} {sn v1 : Int32} {W : Prop} (hW : W) (C : Cfg x y u) (G : Ag x y u mxs mys mth) (I : Iv x y u sl fo co po pn rd st tw rn nu fa ou fn mcu mnx mpo mpn mrn mrd mfi mar mfn mfa mnu) (hs : sn = nI (cn (fun s => ¬ u s = 0) 60)) {K : Int32 → (Nat → Int32) → (Nat → Int32) → (Nat → Int32) → (Nat → Int32) → Int32 → (Nat → Int32) → (Nat → Int32) → (Nat → Int32) → (Nat → Int32) → Int32 → (Nat → Int32) → (Nat → Int32) → (Nat → Int64) → (Nat → Int32) → Int32 → Int32 → Int32 → (Nat → Int32) → (Nat → Int32) → Int32 → Int32 → (Nat → Int32) → (Nat → Int32) → (Nat → Int64) → Int32 → (Nat → Int32) → (Nat → Int32) → Prop} (hK : ∀ sl ho nu fa ou fn co fo ro po pn rd st tw od rn mre mcu mnx mpo mpn mrn mrd mfi mar mfn mfa mnu, Iv x y u sl fo co po pn rd st tw rn nu fa ou fn mcu mnx mpo mpn mrn mrd mfi mar mfn mfa mnu → K sl ho nu fa ou fn co fo ro po pn rd st tw od rn mre mcu mnx mpo mpn mrn mrd mfi mar mfn mfa mnu) :
    wp_X3_count sl ho nu fa ou fn co fo ro po pn rd st tw od rn x y u sn v1 (fun r1 sl ho nu fa ou fn co fo ro po pn rd st tw od rn => W ∧ wp_X4_count mre mth mxs mys mcu mnx mpo mpn mrn mrd mfi mar mfn mfa mnu v1 (fun r2 mre mcu mnx mpo mpn mrn mrd mfi mar mfn mfa mnu => ((r1 = r2 → K sl ho nu fa ou fn co fo ro po pn rd st tw od rn mre mcu mnx mpo mpn mrn mrd mfi mar mfn mfa mnu) ∧ (¬ r1 = r2 → False)))) := by
  refine s_refresh (B := mcu = 0) (Bm := fun fa rd' po' sg tw R n c => DM x y u mnx mpo mpn mrn mrd mfi mar mfn mfa mnu fa rd' po' sg tw R n c) C I fun ho nu fa ou fn co fo ro po pn rd st tw od rn rd' po' sg sgp sf R n c D B => ?_
  have db := DC_b D
  have e1 := D.1.1
  subst e1
  have e2 := D.1.2.1
  subst e2
  have e3 := D.1.2.2
  subst e3
  have loop : ∀ r, (v1 = 0 → r = nI (cn (fun s => ¬ u s = 0) 60)) → (v1 = 1 → r = nI (cn (fun h => us u h ∧ ∀ j, j < h → ¬ atP x y u (x h) (y h) j) 120)) → (v1 = 4 → r = nI (cn (fun s => ¬ u s = 0 ∧ fa (2 * s) = fa (2 * s + 1)) 60)) → (v1.toInt < 0 ∨ 5 < v1.toInt → r = -1) → ¬ v1 = 2 → ¬ v1 = 3 → ¬ v1 = 5 → W ∧ wp_X4_count mre mth mxs mys mcu mnx mpo mpn mrn mrd mfi mar mfn mfa mnu v1 (fun r2 mre mcu mnx mpo mpn mrn mrd mfi mar mfn mfa mnu => ((r = r2 → K 0 ho nu fa ou (nI c) co fo ro po (nI n) rd st tw od (nI R) mre mcu mnx mpo mpn mrn mrd mfi mar mfn mfa mnu) ∧ (¬ r = r2 → False))) := by
    intro r r0 r1 r4 rx n2 n3 n5
    refine ⟨hW, m_make C G D B fun mcu mnx mpo mpn mrn mrd mfi mar mfn mfa mnu M => ?_⟩
    obtain ⟨b1, b2, b3, b4, b5, b6⟩ := both D M
    refine ⟨fun z => absurd z n2, fun _ => ⟨fun z => absurd z n3, fun _ => ⟨fun z => absurd z n5, fun _ => m_counts G b1 b2 db.1 b3 ?_⟩⟩⟩
    refine ⟨fun z => cmp2 ?_ (hK _ _ _ _ _ _ _ _ _ _ _ _ _ _ _ _ _ _ _ _ _ _ _ _ _ _ _ _ (Iv_mk D M)), fun z0 => ⟨fun z => cmp2 ?_ (hK _ _ _ _ _ _ _ _ _ _ _ _ _ _ _ _ _ _ _ _ _ _ _ _ _ _ _ _ (Iv_mk D M)), fun z1 => ⟨fun z => cmp2 ?_ (hK _ _ _ _ _ _ _ _ _ _ _ _ _ _ _ _ _ _ _ _ _ _ _ _ _ _ _ _ (Iv_mk D M)), fun z4 => cmp2 (rx ?_) (hK _ _ _ _ _ _ _ _ _ _ _ _ _ _ _ _ _ _ _ _ _ _ _ _ _ _ _ _ (Iv_mk D M))⟩⟩⟩
    · rw [r0 z, z, cnt0]
    · rw [r1 z, z, cnt1]
    · rw [r4 z, z, cnt4]
    · rcases (show (v1.toInt < 0 ∨ 5 < v1.toInt) ∨ v1.toInt = (0 : Nat) ∨ v1.toInt = (1 : Nat) ∨ v1.toInt = (2 : Nat) ∨ v1.toInt = (3 : Nat) ∨ v1.toInt = (4 : Nat) ∨ v1.toInt = (5 : Nat) by omega) with q | q | q | q | q | q | q
      · exact q
      · exact absurd (i32c (by decide) q) z0
      · exact absurd (i32c (by decide) q) z1
      · exact absurd (i32c (by decide) q) n2
      · exact absurd (i32c (by decide) q) n3
      · exact absurd (i32c (by decide) q) z4
      · exact absurd (i32c (by decide) q) n5
  refine ⟨fun e => loop (-1) (fun z => by subst z; exact absurd e (by decide)) (fun z => by subst z; exact absurd e (by decide)) (fun z => by subst z; exact absurd e (by decide)) (fun _ => rfl) (fun z => by subst z; exact absurd e (by decide)) (fun z => by subst z; exact absurd e (by decide)) (fun z => by subst z; exact absurd e (by decide)), fun e => loop _ (fun _ => hs) (fun z => by subst z; exact absurd e (by decide)) (fun z => by subst z; exact absurd e (by decide)) (fun z => by subst e; exact absurd z (by decide)) (fun z => by subst z; exact absurd e (by decide)) (fun z => by subst z; exact absurd e (by decide)) (fun z => by subst z; exact absurd e (by decide)), fun e => s_corners D.2.2.2.2.2.2.1 (loop _ (fun z => by subst z; exact absurd e (by decide)) (fun _ => rfl) (fun z => by subst z; exact absurd e (by decide)) (fun z => by subst e; exact absurd z (by decide)) (fun z => by subst z; exact absurd e (by decide)) (fun z => by subst z; exact absurd e (by decide)) (fun z => by subst z; exact absurd e (by decide))), fun e => ⟨hW, m_make C G D B fun mcu mnx mpo mpn mrn mrd mfi mar mfn mfa mnu M => ?_⟩, fun e => ⟨hW, m_make C G D B fun mcu mnx mpo mpn mrn mrd mfi mar mfn mfa mnu M => ?_⟩, fun e => s_bridges (loop _ (fun z => by subst z; exact absurd e (by decide)) (fun z => by subst z; exact absurd e (by decide)) (fun _ => rfl) (fun z => by subst e; exact absurd z (by decide)) (fun z => by subst z; exact absurd e (by decide)) (fun z => by subst z; exact absurd e (by decide)) (fun z => by subst z; exact absurd e (by decide))), fun e => ⟨hW, m_make C G D B fun mcu mnx mpo mpn mrn mrd mfi mar mfn mfa mnu M => ?_⟩⟩
  · subst e
    exact ⟨fun _ => ⟨fun _ => cmp2 M.1.2.2.symm (hK _ _ _ _ _ _ _ _ _ _ _ _ _ _ _ _ _ _ _ _ _ _ _ _ _ _ _ _ (Iv_mk D M)), fun z => absurd rfl z⟩, fun z => absurd rfl z⟩
  · subst e
    exact ⟨fun z => absurd z (by decide), fun _ => ⟨fun _ => ⟨fun z => absurd z (by decide), fun _ => ⟨fun _ => cmp2 M.1.2.1.symm (hK _ _ _ _ _ _ _ _ _ _ _ _ _ _ _ _ _ _ _ _ _ _ _ _ _ _ _ _ (Iv_mk D M)), fun z => absurd rfl z⟩⟩, fun z => absurd rfl z⟩⟩
  · subst e
    exact ⟨fun z => absurd z (by decide), fun _ => ⟨fun z => absurd z (by decide), fun _ => ⟨fun _ => ⟨fun z => absurd z (by decide), fun _ => ⟨fun z => absurd z (by decide), fun _ => cmp2 M.1.1.symm (hK _ _ _ _ _ _ _ _ _ _ _ _ _ _ _ _ _ _ _ _ _ _ _ _ _ _ _ _ (Iv_mk D M))⟩⟩, fun z => absurd rfl z⟩⟩⟩
