/-! the questions: class and reference side by side -/
def Iv (x y u : Nat → Int32) (sl : Int32) (fo co po : Nat → Int32) (pn : Int32) (rd st : Nat → Int32) (tw : Nat → Int64) (rn : Int32) (nu fa ou : Nat → Int32) (fn : Int32) (mcu : Int32) (mnx mpo : Nat → Int32) (mpn mrn : Int32) (mrd mfi : Nat → Int32) (mar : Nat → Int64) (mfn : Int32) (mfa mnu : Nat → Int32) : Prop :=
  InvC (mcu = 0) (fun fa rd' po' sg tw R n c => DM x y u mnx mpo mpn mrn mrd mfi mar mfn mfa mnu fa rd' po' sg tw R n c) x y u sl fo co po pn rd st tw rn nu fa ou fn
theorem Iv_mk {x y u fo co po rd st nu fa ou rd' po' mnx mpo mrd mfi mfa mnu : Nat → Int32} {pn rn fn mcu mpn mrn mfn : Int32} {tw mar : Nat → Int64} {sg sgp sf : Nat → Nat} {R n c : Nat} (D : DC x y u fo co po pn rd st tw rn nu fa ou fn rd' po' sg sgp sf R n c) (M : DM x y u mnx mpo mpn mrn mrd mfi mar mfn mfa mnu fa rd' po' sg tw R n c) : Iv x y u 0 fo co po pn rd st tw rn nu fa ou fn mcu mnx mpo mpn mrn mrd mfi mar mfn mfa mnu :=
  Or.inr ⟨rfl, rd', po', sg, sgp, sf, R, n, c, D, Or.inr M⟩
def cmp (r1 r2 mre : Int32) (o : Nat → Int64) (K : Prop) : Prop := wp_X4_thrown mre (fun (r14 : Int32) => ((r14 = r1 → jn0 (fun (K15 : Prop) => ((r1 = 0 → (vp_in (0 : Int32) 1 ∧ (((o (0 : Int32).toNatClampNeg) = r2.toInt64 → K15) ∧ (¬ (o (0 : Int32).toNatClampNeg) = r2.toInt64 → False)))) ∧ (¬ r1 = 0 → K15))) K) ∧ (¬ r14 = r1 → False)))
theorem fin0 {r r2 : Int32} {o : Nat → Int64} {K : Prop} (e : r = r2) (k : K) : cmp 0 r2 0 (vp_updL o (0 : Int32).toNatClampNeg r.toInt64) K := by
  rw [e]
  exact ⟨fun _ => ⟨fun _ => ⟨vin (h := 0) (by decide) (by decide), fun _ => k, fun q => q ul_s⟩, fun _ => k⟩, fun q => q rfl⟩
theorem fin1 {r2 : Int32} {o : Nat → Int64} {K : Prop} (k : K) : cmp 1 r2 1 o K := ⟨fun _ => ⟨fun q => absurd q (by decide), fun _ => k⟩, fun q => q rfl⟩
theorem fin2 {r2 : Int32} {o : Nat → Int64} {K : Prop} (k : K) : cmp 2 r2 2 o K := ⟨fun _ => ⟨fun q => absurd q (by decide), fun _ => k⟩, fun q => q rfl⟩
theorem j_in {v : Int32} {c : Nat} (hc : c < 1000) {A K : Prop} (h : inN c v) (k : A) : jn0 (fun K1 => (v < 0 → K1) ∧ (¬ v < 0 → ((v < nI c → A) ∧ (¬ v < nI c → K1)))) K := by
  obtain ⟨a, b⟩ := (num_in hc).mpr h
  exact ⟨fun q => absurd q a, fun _ => ⟨fun _ => k, fun q => absurd b q⟩⟩
theorem j_out {v : Int32} {c : Nat} (hc : c < 1000) {A K : Prop} (h : ¬ inN c v) (k : K) : jn0 (fun K1 => (v < 0 → K1) ∧ (¬ v < 0 → ((v < nI c → A) ∧ (¬ v < nI c → K1)))) K :=
  ⟨fun _ => k, fun a => ⟨fun b => absurd ((num_in hc).mp ⟨a, b⟩) h, fun _ => k⟩⟩
theorem nle {a b : Int32} : a ≤ b ↔ ¬ b < a := by rw [Int32.le_iff_toInt_le, Int32.lt_iff_toInt_lt]; omega
theorem m_in0 {v : Int32} {c : Nat} (hc : c < 1000) (h : inN c v) {a b : Int32} {K : Int32 → Prop} (hK : K b) : jn0 (fun K1 => (v < 0 → K1) ∧ (¬ v < 0 → ((nI c ≤ v → K1) ∧ (¬ nI c ≤ v → K b)))) (K a) := by
  obtain ⟨p, q⟩ := (num_in hc).mpr h
  exact ⟨fun z => absurd z p, fun _ => ⟨fun z => absurd q (nle.mp z), fun _ => hK⟩⟩
theorem m_in1 {v : Int32} {c : Nat} (hc : c < 1000) (h : ¬ inN c v) {a b : Int32} {K : Int32 → Prop} (hK : K a) : jn0 (fun K1 => (v < 0 → K1) ∧ (¬ v < 0 → ((nI c ≤ v → K1) ∧ (¬ nI c ≤ v → K b)))) (K a) :=
  ⟨fun _ => hK, fun p => ⟨fun _ => hK, fun z => absurd ((num_in hc).mp ⟨p, Classical.byContradiction fun w => z (nle.mpr w)⟩) h⟩⟩
theorem m_isFace {x y u mxs mys mth mnx mpo mrd mfi mfa mnu fo co po rd st nu fa ou rd' po' : Nat → Int32} {mcu mpn mrn mfn pn rn fn v1 : Int32} {mar tw : Nat → Int64} {sg sgp sf : Nat → Nat} {R n c : Nat} (C : Cfg x y u) (G : Ag x y u mxs mys mth) (D : DC x y u fo co po pn rd st tw rn nu fa ou fn rd' po' sg sgp sf R n c)
    (B : mcu = 0 ∨ DM x y u mnx mpo mpn mrn mrd mfi mar mfn mfa mnu fa rd' po' sg tw R n c)
    {post : Int32 → Int32 → (Nat → Int32) → (Nat → Int32) → Int32 → Int32 → (Nat → Int32) → (Nat → Int32) → (Nat → Int64) → Int32 → (Nat → Int32) → (Nat → Int32) → Prop}
    (k : ∀ mcu mnx mpo mpn mrn mrd mfi mar mfn mfa mnu, DM x y u mnx mpo mpn mrn mrd mfi mar mfn mfa mnu fa rd' po' sg tw R n c → post (bi (inN c v1)) mcu mnx mpo mpn mrn mrd mfi mar mfn mfa mnu) : wp_X4_isFace mth mxs mys mcu mnx mpo mpn mrn mrd mfi mar mfn mfa mnu v1 post := by
  refine m_make C G D B fun mcu mnx mpo mpn mrn mrd mfi mar mfn mfa mnu M => ?_
  have hc : c < 1000 := by have := DC_b D; omega
  have k := k mcu mnx mpo mpn mrn mrd mfi mar mfn mfa mnu M
  rw [M.1.2.2] at k ⊢
  by_cases q : inN c v1
  · rw [bi_t q] at k
    exact m_in0 (K := fun k12 => bz k12 ∧ post k12 mcu mnx mpo mpn mrn mrd mfi mar (nI c) mfa mnu) hc q ⟨bz1, k⟩
  · rw [bi_f q] at k
    exact m_in1 (K := fun k12 => bz k12 ∧ post k12 mcu mnx mpo mpn mrn mrd mfi mar (nI c) mfa mnu) hc q ⟨bz0, k⟩
/-- what the two have in common -/
theorem both {x y u fo co po rd st nu fa ou rd' po' mnx mpo mrd mfi mfa mnu : Nat → Int32} {pn rn fn mpn mrn mfn : Int32} {tw mar : Nat → Int64} {sg sgp sf : Nat → Nat} {R n c : Nat} (D : DC x y u fo co po pn rd st tw rn nu fa ou fn rd' po' sg sgp sf R n c) (M : DM x y u mnx mpo mpn mrn mrd mfi mar mfn mfa mnu fa rd' po' sg tw R n c) : (∀ h, h < 120 → us u h → mrd h = rd' h) ∧ (∀ h, h < 120 → us u h → rho rd' h < R ∧ rd' h = nI (rho rd' h)) ∧ (∀ h, h < 120 → us u h → fa h = mfa (rho rd' h)) ∧ (∀ r, r < R → mar r = tw r) ∧ (∀ r, r < R → fa (sg r) = mfa r) ∧ (∀ h, h < 120 → us u h → fa h = nI (fa h).toNatClampNeg ∧ (fa h).toNatClampNeg < c) := by
  have b := DC_b D
  refine ⟨M.2.2.1.1, fun h hh uh => rho_eq D.2.1 hh uh, M.2.2.2.1, M.2.2.1.2.2.1, fun r hr => ?_, fun h hh uh => ?_⟩
  · obtain ⟨-, b1, b2, b3⟩ := b.2.2.2.2 r hr
    have := M.2.2.2.1 (sg r) b1 b2
    rw [b3] at this; exact this
  · have k1 : ∀ g s, g < 120 → us u g → hom x y u rd' po' sg tw R (rho rd' g) = some s → s < 120 := fun g s hg ug e => by
      have := (hom_lt (rho_eq D.2.1 hg ug).1 e).1
      omega
    obtain ⟨f, hf, e, -⟩ := num_lab D.2.2.2.2.2.2.2.2.1 k1 (by omega) hh uh
    rw [e, cl (by omega)]; exact ⟨rfl, hf⟩
theorem q_next {x y u mxs mys mth ho nu fa ou co fo ro po rd st od mnx mpo mrd mfi mfa mnu : Nat → Int32} {sl fn pn rn mre mcu mpn mrn mfn : Int32} {tw mar o : Nat → Int64} {v1 : Int32} {W : Prop} (hW : W) (C : Cfg x y u) (G : Ag x y u mxs mys mth) (I : Iv x y u sl fo co po pn rd st tw rn nu fa ou fn mcu mnx mpo mpn mrn mrd mfi mar mfn mfa mnu) {K : Int32 → (Nat → Int32) → (Nat → Int32) → (Nat → Int32) → (Nat → Int32) → Int32 → (Nat → Int32) → (Nat → Int32) → (Nat → Int32) → (Nat → Int32) → Int32 → (Nat → Int32) → (Nat → Int32) → (Nat → Int64) → (Nat → Int32) → Int32 → (Nat → Int64) → Int32 → Int32 → (Nat → Int32) → (Nat → Int32) → Int32 → Int32 → (Nat → Int32) → (Nat → Int32) → (Nat → Int64) → Int32 → (Nat → Int32) → (Nat → Int32) → Prop} (hK : ∀ sl ho nu fa ou fn co fo ro po pn rd st tw od rn o mre mcu mnx mpo mpn mrn mrd mfi mar mfn mfa mnu, Iv x y u sl fo co po pn rd st tw rn nu fa ou fn mcu mnx mpo mpn mrn mrd mfi mar mfn mfa mnu → K sl ho nu fa ou fn co fo ro po pn rd st tw od rn o mre mcu mnx mpo mpn mrn mrd mfi mar mfn mfa mnu) :
    wp_L_next sl ho nu fa ou fn co fo ro po pn rd st tw od rn x y u o v1 (fun r1 sl ho nu fa ou fn co fo ro po pn rd st tw od rn o => W ∧ wp_X4_next mre mth mxs mys mcu mnx mpo mpn mrn mrd mfi mar mfn mfa mnu v1 (fun r2 mre mcu mnx mpo mpn mrn mrd mfi mar mfn mfa mnu => cmp r1 r2 mre o (K sl ho nu fa ou fn co fo ro po pn rd st tw od rn o mre mcu mnx mpo mpn mrn mrd mfi mar mfn mfa mnu))) := by
  by_cases q : hfP u v1
  · refine Or.inr (s_rh q (s_refresh (B := mcu = 0) (Bm := fun fa rd' po' sg tw R n c => DM x y u mnx mpo mpn mrn mrd mfi mar mfn mfa mnu fa rd' po' sg tw R n c) C I fun ho nu fa ou fn co fo ro po pn rd st tw od rn rd' po' sg sgp sf R n c D B => ?_))
    obtain ⟨h, hh, e, uh⟩ := id q
    subst e
    refine ⟨vin hh (by decide), hW, m_isHalf G ?_⟩
    rw [bi_t q]
    refine jn1_v 0 (fun K hK => ⟨fun z => absurd z (by decide), fun _ => hK⟩) (m_ref0 ⟨fun _ => m_make C G D B fun mcu mnx mpo mpn mrn mrd mfi mar mfn mfa mnu M => ?_, fun z => absurd rfl z⟩)
    refine ⟨vin hh (by decide), fin0 ?_ (hK _ _ _ _ _ _ _ _ _ _ _ _ _ _ _ _ _ _ _ _ _ _ _ _ _ _ _ _ _ (Iv_mk D M))⟩
    rw [cl (show h < 1000 by omega)]
    exact (D.2.2.2.2.2.1 h hh uh).trans (M.2.1 h hh uh).symm
  · refine Or.inl (Or.inl (s_rhx q ⟨rfl, hW, m_isHalf G ?_⟩))
    rw [bi_f q]
    exact jn1_v 1 (fun K hK => ⟨fun _ => hK, fun z => absurd rfl z⟩) (m_ref1 ⟨fun z => absurd z (by decide), fun _ => fin1 (hK _ _ _ _ _ _ _ _ _ _ _ _ _ _ _ _ _ _ _ _ _ _ _ _ _ _ _ _ _ I)⟩)
theorem q_face {x y u mxs mys mth ho nu fa ou co fo ro po rd st od mnx mpo mrd mfi mfa mnu : Nat → Int32} {sl fn pn rn mre mcu mpn mrn mfn : Int32} {tw mar o : Nat → Int64} {v1 : Int32} {W : Prop} (hW : W) (C : Cfg x y u) (G : Ag x y u mxs mys mth) (I : Iv x y u sl fo co po pn rd st tw rn nu fa ou fn mcu mnx mpo mpn mrn mrd mfi mar mfn mfa mnu) {K : Int32 → (Nat → Int32) → (Nat → Int32) → (Nat → Int32) → (Nat → Int32) → Int32 → (Nat → Int32) → (Nat → Int32) → (Nat → Int32) → (Nat → Int32) → Int32 → (Nat → Int32) → (Nat → Int32) → (Nat → Int64) → (Nat → Int32) → Int32 → (Nat → Int64) → Int32 → Int32 → (Nat → Int32) → (Nat → Int32) → Int32 → Int32 → (Nat → Int32) → (Nat → Int32) → (Nat → Int64) → Int32 → (Nat → Int32) → (Nat → Int32) → Prop} (hK : ∀ sl ho nu fa ou fn co fo ro po pn rd st tw od rn o mre mcu mnx mpo mpn mrn mrd mfi mar mfn mfa mnu, Iv x y u sl fo co po pn rd st tw rn nu fa ou fn mcu mnx mpo mpn mrn mrd mfi mar mfn mfa mnu → K sl ho nu fa ou fn co fo ro po pn rd st tw od rn o mre mcu mnx mpo mpn mrn mrd mfi mar mfn mfa mnu) :
    wp_L_face sl ho nu fa ou fn co fo ro po pn rd st tw od rn x y u o v1 (fun r1 sl ho nu fa ou fn co fo ro po pn rd st tw od rn o => W ∧ wp_X4_face mre mth mxs mys mcu mnx mpo mpn mrn mrd mfi mar mfn mfa mnu v1 (fun r2 mre mcu mnx mpo mpn mrn mrd mfi mar mfn mfa mnu => cmp r1 r2 mre o (K sl ho nu fa ou fn co fo ro po pn rd st tw od rn o mre mcu mnx mpo mpn mrn mrd mfi mar mfn mfa mnu))) := by
  by_cases q : hfP u v1
  · refine Or.inr (s_rh q (s_refresh (B := mcu = 0) (Bm := fun fa rd' po' sg tw R n c => DM x y u mnx mpo mpn mrn mrd mfi mar mfn mfa mnu fa rd' po' sg tw R n c) C I fun ho nu fa ou fn co fo ro po pn rd st tw od rn rd' po' sg sgp sf R n c D B => ?_))
    obtain ⟨h, hh, e, uh⟩ := id q
    subst e
    refine ⟨vin hh (by decide), hW, m_isHalf G ?_⟩
    rw [bi_t q]
    refine jn1_v 0 (fun K hK => ⟨fun z => absurd z (by decide), fun _ => hK⟩) (m_ref0 ⟨fun _ => m_make C G D B fun mcu mnx mpo mpn mrn mrd mfi mar mfn mfa mnu M => ?_, fun z => absurd rfl z⟩)
    obtain ⟨b1, b2, b3, b4, b5, b6⟩ := both D M
    refine m_left b1 b2 (DC_b D).1 hh uh (fin0 ?_ (hK _ _ _ _ _ _ _ _ _ _ _ _ _ _ _ _ _ _ _ _ _ _ _ _ _ _ _ _ _ (Iv_mk D M)))
    rw [cl (show h < 1000 by omega)]
    exact b3 h hh uh
  · refine Or.inl (Or.inl (s_rhx q ⟨rfl, hW, m_isHalf G ?_⟩))
    rw [bi_f q]
    exact jn1_v 1 (fun K hK => ⟨fun _ => hK, fun z => absurd rfl z⟩) (m_ref1 ⟨fun z => absurd z (by decide), fun _ => fin1 (hK _ _ _ _ _ _ _ _ _ _ _ _ _ _ _ _ _ _ _ _ _ _ _ _ _ _ _ _ _ I)⟩)
theorem q_piece {x y u mxs mys mth ho nu fa ou co fo ro po rd st od mnx mpo mrd mfi mfa mnu : Nat → Int32} {sl fn pn rn mre mcu mpn mrn mfn : Int32} {tw mar o : Nat → Int64} {v1 : Int32} {W : Prop} (hW : W) (C : Cfg x y u) (G : Ag x y u mxs mys mth) (I : Iv x y u sl fo co po pn rd st tw rn nu fa ou fn mcu mnx mpo mpn mrn mrd mfi mar mfn mfa mnu) {K : Int32 → (Nat → Int32) → (Nat → Int32) → (Nat → Int32) → (Nat → Int32) → Int32 → (Nat → Int32) → (Nat → Int32) → (Nat → Int32) → (Nat → Int32) → Int32 → (Nat → Int32) → (Nat → Int32) → (Nat → Int64) → (Nat → Int32) → Int32 → (Nat → Int64) → Int32 → Int32 → (Nat → Int32) → (Nat → Int32) → Int32 → Int32 → (Nat → Int32) → (Nat → Int32) → (Nat → Int64) → Int32 → (Nat → Int32) → (Nat → Int32) → Prop} (hK : ∀ sl ho nu fa ou fn co fo ro po pn rd st tw od rn o mre mcu mnx mpo mpn mrn mrd mfi mar mfn mfa mnu, Iv x y u sl fo co po pn rd st tw rn nu fa ou fn mcu mnx mpo mpn mrn mrd mfi mar mfn mfa mnu → K sl ho nu fa ou fn co fo ro po pn rd st tw od rn o mre mcu mnx mpo mpn mrn mrd mfi mar mfn mfa mnu) :
    wp_L_piece sl ho nu fa ou fn co fo ro po pn rd st tw od rn x y u o v1 (fun r1 sl ho nu fa ou fn co fo ro po pn rd st tw od rn o => W ∧ wp_X4_piece mre mth mxs mys mcu mnx mpo mpn mrn mrd mfi mar mfn mfa mnu v1 (fun r2 mre mcu mnx mpo mpn mrn mrd mfi mar mfn mfa mnu => cmp r1 r2 mre o (K sl ho nu fa ou fn co fo ro po pn rd st tw od rn o mre mcu mnx mpo mpn mrn mrd mfi mar mfn mfa mnu))) := by
  by_cases q : hfP u v1
  · refine Or.inr (s_rh q (s_refresh (B := mcu = 0) (Bm := fun fa rd' po' sg tw R n c => DM x y u mnx mpo mpn mrn mrd mfi mar mfn mfa mnu fa rd' po' sg tw R n c) C I fun ho nu fa ou fn co fo ro po pn rd st tw od rn rd' po' sg sgp sf R n c D B => ?_))
    obtain ⟨h, hh, e, uh⟩ := id q
    subst e
    rw [shr_half hh]
    refine ⟨vin (by omega) (by decide), hW, m_isHalf G ?_⟩
    rw [bi_t q]
    refine jn1_v 0 (fun K hK => ⟨fun z => absurd z (by decide), fun _ => hK⟩) (m_ref0 ⟨fun _ => m_make C G D B fun mcu mnx mpo mpn mrn mrd mfi mar mfn mfa mnu M => ?_, fun z => absurd rfl z⟩)
    refine ⟨vin hh (by decide), fin0 ?_ (hK _ _ _ _ _ _ _ _ _ _ _ _ _ _ _ _ _ _ _ _ _ _ _ _ _ _ _ _ _ (Iv_mk D M))⟩
    rw [cl (show h < 1000 by omega), cl (show h / 2 < 1000 by omega)]
    exact (D.2.2.2.2.1 (h / 2) (by omega) uh).trans (M.2.2.1.2.2.2 h hh uh).symm
  · refine Or.inl (Or.inl (s_rhx q ⟨rfl, hW, m_isHalf G ?_⟩))
    rw [bi_f q]
    exact jn1_v 1 (fun K hK => ⟨fun _ => hK, fun z => absurd rfl z⟩) (m_ref1 ⟨fun z => absurd z (by decide), fun _ => fin1 (hK _ _ _ _ _ _ _ _ _ _ _ _ _ _ _ _ _ _ _ _ _ _ _ _ _ _ _ _ _ I)⟩)
theorem q_around {x y u mxs mys mth ho nu fa ou co fo ro po rd st od mnx mpo mrd mfi mfa mnu : Nat → Int32} {sl fn pn rn mre mcu mpn mrn mfn : Int32} {tw mar o : Nat → Int64} {v1 : Int32} {W : Prop} (hW : W) (C : Cfg x y u) (G : Ag x y u mxs mys mth) (I : Iv x y u sl fo co po pn rd st tw rn nu fa ou fn mcu mnx mpo mpn mrn mrd mfi mar mfn mfa mnu) {K : Int32 → (Nat → Int32) → (Nat → Int32) → (Nat → Int32) → (Nat → Int32) → Int32 → (Nat → Int32) → (Nat → Int32) → (Nat → Int32) → (Nat → Int32) → Int32 → (Nat → Int32) → (Nat → Int32) → (Nat → Int64) → (Nat → Int32) → Int32 → (Nat → Int64) → Int32 → Int32 → (Nat → Int32) → (Nat → Int32) → Int32 → Int32 → (Nat → Int32) → (Nat → Int32) → (Nat → Int64) → Int32 → (Nat → Int32) → (Nat → Int32) → Prop} (hK : ∀ sl ho nu fa ou fn co fo ro po pn rd st tw od rn o mre mcu mnx mpo mpn mrn mrd mfi mar mfn mfa mnu, Iv x y u sl fo co po pn rd st tw rn nu fa ou fn mcu mnx mpo mpn mrn mrd mfi mar mfn mfa mnu → K sl ho nu fa ou fn co fo ro po pn rd st tw od rn o mre mcu mnx mpo mpn mrn mrd mfi mar mfn mfa mnu) :
    wp_L_around sl ho nu fa ou fn co fo ro po pn rd st tw od rn x y u o v1 (fun r1 sl ho nu fa ou fn co fo ro po pn rd st tw od rn o => W ∧ wp_X4_around mre mth mxs mys mcu mnx mpo mpn mrn mrd mfi mar mfn mfa mnu v1 (fun r2 mre mcu mnx mpo mpn mrn mrd mfi mar mfn mfa mnu => cmp r1 r2 mre o (K sl ho nu fa ou fn co fo ro po pn rd st tw od rn o mre mcu mnx mpo mpn mrn mrd mfi mar mfn mfa mnu))) := by
  by_cases q : dec2 x y u (fun n _ => inN n v1)
  · refine Or.inr (s_refresh (B := mcu = 0) (Bm := fun fa rd' po' sg tw R n c => DM x y u mnx mpo mpn mrn mrd mfi mar mfn mfa mnu fa rd' po' sg tw R n c) C I fun ho nu fa ou fn co fo ro po pn rd st tw od rn rd' po' sg sgp sf R n c D B => ?_)
    have q := (dec2_iff C D).mp q
    have db := DC_b D
    have e2 := D.1.2.1
    subst e2
    refine j_in (by omega) q ?_
    obtain ⟨p, hp, e⟩ := id q
    subst e
    refine ⟨vin (by omega) (by decide), hW, m_make C G D B fun mcu mnx mpo mpn mrn mrd mfi mar mfn mfa mnu M => ?_⟩
    obtain ⟨b1, b2, b3, b4, b5, b6⟩ := both D M
    have m1 := M.1.1
    subst m1
    have m2 := M.1.2.1
    subst m2
    refine jn1_v 0 (fun K hK => m_in0 (by omega) q hK) (m_ref0 ⟨fun _ => m_outer M.2.2.1 db.1 (by omega) (fun r lo => ⟨vin (by have := lo.1; omega) (by decide), fin0 ?_ (hK _ _ _ _ _ _ _ _ _ _ _ _ _ _ _ _ _ _ _ _ _ _ _ _ _ _ _ _ _ (Iv_mk D M))⟩) (fun no => ?_), fun z => absurd rfl z⟩)
    · have := lo.1
      rw [cl (show p < 1000 by omega), cl (show r < 1000 by omega), ← b5 r lo.1]
      exact D.2.2.2.2.2.2.2.2.2 p r (by omega) lo
    · obtain ⟨r0, hr0, er, on⟩ := one_outer C D.2.1 D.2.2.2.1 hp
      exact absurd ((on r0 hr0 er).mpr rfl) (no r0 hr0 er)
  · refine Or.inl (s_refresh (B := mcu = 0) (Bm := fun fa rd' po' sg tw R n c => DM x y u mnx mpo mpn mrn mrd mfi mar mfn mfa mnu fa rd' po' sg tw R n c) C I fun ho nu fa ou fn co fo ro po pn rd st tw od rn rd' po' sg sgp sf R n c D B => ?_)
    have q : ¬ inN n v1 := fun w => q ((dec2_iff C D).mpr w)
    have db := DC_b D
    have e2 := D.1.2.1
    subst e2
    refine j_out (by omega) q ⟨rfl, hW, m_make C G D B fun mcu mnx mpo mpn mrn mrd mfi mar mfn mfa mnu M => ?_⟩
    have m2 := M.1.2.1
    subst m2
    exact jn1_v 1 (fun K hK => m_in1 (by omega) q hK) (m_ref1 ⟨fun z => absurd z (by decide), fun _ => fin1 (hK _ _ _ _ _ _ _ _ _ _ _ _ _ _ _ _ _ _ _ _ _ _ _ _ _ _ _ _ _ (Iv_mk D M))⟩)
theorem q_area {x y u mxs mys mth ho nu fa ou co fo ro po rd st od mnx mpo mrd mfi mfa mnu : Nat → Int32} {sl fn pn rn mre mcu mpn mrn mfn : Int32} {tw mar o : Nat → Int64} {v1 : Int32} {W : Prop} (hW : W) (C : Cfg x y u) (G : Ag x y u mxs mys mth) (I : Iv x y u sl fo co po pn rd st tw rn nu fa ou fn mcu mnx mpo mpn mrn mrd mfi mar mfn mfa mnu) {K : Int32 → (Nat → Int32) → (Nat → Int32) → (Nat → Int32) → (Nat → Int32) → Int32 → (Nat → Int32) → (Nat → Int32) → (Nat → Int32) → (Nat → Int32) → Int32 → (Nat → Int32) → (Nat → Int32) → (Nat → Int64) → (Nat → Int32) → Int32 → (Nat → Int64) → Int32 → Int32 → (Nat → Int32) → (Nat → Int32) → Int32 → Int32 → (Nat → Int32) → (Nat → Int32) → (Nat → Int64) → Int32 → (Nat → Int32) → (Nat → Int32) → Prop} (hK : ∀ sl ho nu fa ou fn co fo ro po pn rd st tw od rn o mre mcu mnx mpo mpn mrn mrd mfi mar mfn mfa mnu, Iv x y u sl fo co po pn rd st tw rn nu fa ou fn mcu mnx mpo mpn mrn mrd mfi mar mfn mfa mnu → K sl ho nu fa ou fn co fo ro po pn rd st tw od rn o mre mcu mnx mpo mpn mrn mrd mfi mar mfn mfa mnu) :
    wp_L_area sl ho nu fa ou fn co fo ro po pn rd st tw od rn x y u o v1 (fun r1 sl ho nu fa ou fn co fo ro po pn rd st tw od rn o => W ∧ wp_X4_area mre mth mxs mys mcu mnx mpo mpn mrn mrd mfi mar mfn mfa mnu v1 (fun r2 mre mcu mnx mpo mpn mrn mrd mfi mar mfn mfa mnu => cmp r1 r2 mre o (K sl ho nu fa ou fn co fo ro po pn rd st tw od rn o mre mcu mnx mpo mpn mrn mrd mfi mar mfn mfa mnu))) := by
  by_cases q : dec2 x y u (fun _ c => inN c v1)
  · refine Or.inr (s_refresh (B := mcu = 0) (Bm := fun fa rd' po' sg tw R n c => DM x y u mnx mpo mpn mrn mrd mfi mar mfn mfa mnu fa rd' po' sg tw R n c) C I fun ho nu fa ou fn co fo ro po pn rd st tw od rn rd' po' sg sgp sf R n c D B => ?_)
    have q := (dec2_iff C D).mp q
    have db := DC_b D
    have e3 := D.1.2.2
    subst e3
    have e1 := D.1.1
    subst e1
    have e2 := D.1.2.1
    subst e2
    refine s_rf (by omega) q ?_
    obtain ⟨f, hf, e⟩ := id q
    subst e
    by_cases f0 : f = 0
    · subst f0
      refine jn1_v 0 (fun K hK => ⟨fun _ => hK, fun z => absurd rfl z⟩) ⟨hW, m_isFace C G D B fun mcu mnx mpo mpn mrn mrd mfi mar mfn mfa mnu M => ?_⟩
      rw [bi_t q]
      refine jn1_v 0 (fun K hK => ⟨fun z => absurd z (by decide), fun _ => hK⟩) (m_ref0 ⟨fun _ => ⟨1, ?_⟩, fun z => absurd rfl z⟩)
      rw [lp_X4_area_27.eq_2]
      exact ⟨fun _ => fin0 rfl (hK _ _ _ _ _ _ _ _ _ _ _ _ _ _ _ _ _ _ _ _ _ _ _ _ _ _ _ _ _ (Iv_mk D M)), fun _ => ⟨fun _ => fin0 rfl (hK _ _ _ _ _ _ _ _ _ _ _ _ _ _ _ _ _ _ _ _ _ _ _ _ _ _ _ _ _ (Iv_mk D M)), fun z => absurd (by decide) z⟩⟩
    · refine ⟨fun z => absurd (nI_inj (i := f) (j := 0) (by omega) (by decide) z) f0, fun _ => s_twiceArea db.1 (fun r hr => ⟨(db.2.2.2.2 r hr).1, (db.2.2.2.2 r hr).2.1⟩) ⟨hW, m_isFace C G D B fun mcu mnx mpo mpn mrn mrd mfi mar mfn mfa mnu M => ?_⟩⟩
      rw [bi_t q]
      obtain ⟨b1, b2, b3, b4, b5, b6⟩ := both D M
      have m1 := M.1.1
      subst m1
      refine jn1_v 0 (fun K hK => ⟨fun z => absurd z (by decide), fun _ => hK⟩) (m_ref0 ⟨fun _ => m_areaL db.1 (by omega) (by omega) b4 b5 (fin0 rfl (hK _ _ _ _ _ _ _ _ _ _ _ _ _ _ _ _ _ _ _ _ _ _ _ _ _ _ _ _ _ (Iv_mk D M))), fun z => absurd rfl z⟩)
  · refine Or.inl (s_refresh (B := mcu = 0) (Bm := fun fa rd' po' sg tw R n c => DM x y u mnx mpo mpn mrn mrd mfi mar mfn mfa mnu fa rd' po' sg tw R n c) C I fun ho nu fa ou fn co fo ro po pn rd st tw od rn rd' po' sg sgp sf R n c D B => ?_)
    have q : ¬ inN c v1 := fun w => q ((dec2_iff C D).mpr w)
    have db := DC_b D
    have e3 := D.1.2.2
    subst e3
    refine Or.inl (s_rfx (by omega) q ⟨rfl, hW, m_isFace C G D B fun mcu mnx mpo mpn mrn mrd mfi mar mfn mfa mnu M => ?_⟩)
    rw [bi_f q]
    exact jn1_v 1 (fun K hK => ⟨fun _ => hK, fun z => absurd rfl z⟩) (m_ref1 ⟨fun z => absurd z (by decide), fun _ => fin1 (hK _ _ _ _ _ _ _ _ _ _ _ _ _ _ _ _ _ _ _ _ _ _ _ _ _ _ _ _ _ (Iv_mk D M))⟩)
