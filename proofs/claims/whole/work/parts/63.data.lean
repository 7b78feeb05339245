/-! what class and reference hold once they are up to date -/
theorem s_markOdd' {x y u rd od : Nat → Int32} (hl : ∀ h, h < 120 → us u h → ∃ r, r < 120 ∧ rd h = nI r) {px py : Int32} {post : (Nat → Int32) → Prop} (k : ∀ od2, odI x y u rd px py 120 od2 → post od2) : wp_X1_markOddRounds rd od x y u px py post := by
  intro od1 h1
  have main : ∀ n t (od2 : Nat → Int32), t + n = 60 → odI x y u rd px py (2 * t) od2 → lp_X1_markOddRounds_10 rd x y u px py (fun w => post w) (n + 1) od2 (nI t) := by
    intro n
    induction n with
    | zero =>
      intro t od2 ht I
      rw [lp_X1_markOddRounds_10.eq_2]
      have et : t = 60 := by omega
      subst et
      exact ⟨fun _ => k od2 I, fun h => absurd ((lt60 (by omega)).mpr (by omega)) h⟩
    | succ n ih =>
      intro t od2 ht I
      rw [lp_X1_markOddRounds_10.eq_2]
      have d0 : 2 * t / 2 = t := by omega
      have d1 : (2 * t + 1) / 2 = t := by omega
      simp only [jn1, dbl, dbl1, cl (show t < 1000 by omega), cl (show 2 * t < 1000 by omega), cl (show 2 * t + 1 < 1000 by omega), vin (show t < 60 by omega) (by decide), vin (show 2 * t < 120 by omega) (by decide), vin (show 2 * t + 1 < 120 by omega) (by decide), true_and, forall_eq, nI_1]
      have skip : ¬ (¬ u t = 0 ∧ roofL x y t px py) → lp_X1_markOddRounds_10 rd x y u px py (fun w => post w) (n + 1) od2 (nI (t + 1)) := fun q => by
        have i1 : odI x y u rd px py (2 * t + 1) od2 := odI_no I (by unfold us; rw [d0]; exact q)
        have i2 : odI x y u rd px py (2 * t + 1 + 1) od2 := odI_no i1 (by unfold us; rw [d1]; exact q)
        exact ih (t + 1) od2 (by omega) (by rw [show 2 * (t + 1) = 2 * t + 1 + 1 by omega]; exact i2)
      refine ⟨fun h => absurd ((lt60 (by omega)).mp h) (by omega), fun _ => ⟨fun h => skip fun q => q.1 h, fun h => s_roofs (by omega) ⟨fun e => skip fun q => bi0.mp e q.2, fun e => ?_⟩⟩⟩
      have hr := nb0 e
      obtain ⟨r1, l1, e1⟩ := hl (2 * t) (by omega) (us_ev.mpr h)
      obtain ⟨r2, l2, e2⟩ := hl (2 * t + 1) (by omega) (by unfold us; rw [d1]; exact h)
      simp only [e1, e2, cl (show r1 < 1000 by omega), cl (show r2 < 1000 by omega), vin l1 (by decide), vin l2 (by decide), true_and]
      have i1 := odI_yes (j := 2 * t) I ⟨us_ev.mpr h, by rw [d0]; exact hr⟩ l1 e1
      have i2 := odI_yes (j := 2 * t + 1) i1 ⟨by unfold us; rw [d1]; exact h, by rw [d1]; exact hr⟩ l2 e2
      exact ih (t + 1) _ (by omega) (by rw [show 2 * (t + 1) = 2 * t + 1 + 1 by omega]; exact i2)
  exact ⟨61, main 60 0 od1 (by omega) fun r hr => h1 r hr⟩
theorem s_enclosing' {x y u rd po st od : Nat → Int32} {sg : Nat → Nat} {tw : Nat → Int64} {R : Nat} (hl : ∀ h, h < 120 → us u h → ∃ r, r < 120 ∧ rd h = nI r) (hR : R ≤ 120) (hs : ∀ r, r < R → st r = nI (sg r) ∧ sg r < 120) {px py v3 : Int32} {post : Int32 → (Nat → Int32) → Prop} (k : ∀ od2, post (enc (encl x y u rd po sg tw R px py v3)) od2) : wp_X1_enclosing po rd st tw od (nI R) x y u px py v3 post := by
  refine s_markOdd' hl fun od2 I => ?_
  have main : ∀ n t (v4 : Int32), t + n = R → v4 = enc (bst (okE x y u rd po sg tw px py v3) (fun r b => tw r < tw b) t) → lp_X1_enclosing_12 po rd st tw od2 (nI R) x y u v3 (fun w => post w od2) (n + 1) v4 (nI t) := by
    intro n
    induction n with
    | zero =>
      intro t v4 ht h4
      rw [lp_X1_enclosing_12.eq_2]
      have et : t = R := by omega
      subst et
      exact ⟨fun _ => by rw [h4]; exact k od2, fun h => absurd ((leN (by omega) (by omega)).mpr (by omega)) h⟩
    | succ n ih =>
      intro t v4 ht h4
      rw [lp_X1_enclosing_12.eq_2]
      simp only [jn1, jn0, cl (show t < 1000 by omega), vin (show t < 120 by omega) (by decide), true_and, nI_1, i10, true_implies, false_implies, not_true_eq_false, not_false_eq_true, and_true]
      have ho := od1 I (show t < 120 by omega)
      have skip : ¬ okE x y u rd po sg tw px py v3 t → lp_X1_enclosing_12 po rd st tw od2 (nI R) x y u v3 (fun w => post w od2) (n + 1) v4 (nI (t + 1)) := by
        intro hno
        refine ih (t + 1) v4 (by omega) ?_
        cases hb : bst (okE x y u rd po sg tw px py v3) (fun r b => tw r < tw b) t with
        | none => rw [(bst_n hb).2 hno, h4, hb]
        | some c => rw [(bst_s hb).2 (fun q => hno q.1), h4, hb]
      refine ⟨fun h => absurd ((leN (by omega) (by omega)).mp h) (by omega), fun _ => ⟨fun h1 => ⟨fun h2 => skip fun q => absurd q.2.1 (by simpa using h2), fun h2 => s_pieceOfRound hs (by omega) (by omega) ⟨fun h3 => skip fun q => q.2.2 h3, fun h3 => ?_⟩⟩, fun h1 => skip fun q => h1 (ho.mpr q.1)⟩⟩
      have hok : okE x y u rd po sg tw px py v3 t := ⟨ho.mp h1, by simpa using h2, h3⟩
      have take : bst (okE x y u rd po sg tw px py v3) (fun r b => tw r < tw b) (t + 1) = some t → lp_X1_enclosing_12 po rd st tw od2 (nI R) x y u v3 (fun w => post w od2) (n + 1) (nI t) (nI (t + 1)) := fun e => ih (t + 1) _ (by omega) (by rw [e]; rfl)
      cases hb : bst (okE x y u rd po sg tw px py v3) (fun r b => tw r < tw b) t with
      | none =>
        rw [hb] at h4
        exact ⟨fun _ => take ((bst_n hb).1 hok), fun h => absurd h4 h⟩
      | some c =>
        have hc := bst_ok hb
        rw [hb] at h4
        have h4 : v4 = nI c := h4
        rw [h4]
        simp only [cl (show c < 1000 by omega), vin (show c < 120 by omega) (by decide), true_and]
        refine ⟨fun h => absurd h (neqm1 (by omega)), fun _ => ⟨fun h => ?_, fun h => take ((bst_s hb).1 ⟨hok, by simpa using h⟩)⟩⟩
        exact ih (t + 1) _ (by omega) (by rw [(bst_s hb).2 (fun z => absurd z.2 (by simpa using h))]; rfl)
  exact ⟨R + 1, main R 0 _ (by omega) (by rw [bst]; rfl)⟩
/-- the class -/
def DC (x y u fo co po : Nat → Int32) (pn : Int32) (rd st : Nat → Int32) (tw : Nat → Int64) (rn : Int32) (nu fa ou : Nat → Int32) (fn : Int32) (rd' po' : Nat → Int32) (sg sgp sf : Nat → Nat) (R n c : Nat) : Prop :=
  (rn = nI R ∧ pn = nI n ∧ fn = nI c) ∧
  Out (us u) (nxt x y u) (sweepL x y) 120 rd' sg tw R ∧ (∀ h, h < 120 → us u h → rd h = rd' h) ∧
  Pc x y u 120 (fun h => po' (h / 2)) sgp n ∧ (∀ s, s < 60 → ¬ u s = 0 → po s = po' s) ∧
  FoOK x y u fo ∧ (∀ h, h < 120 → us u h → ∃ g, g < 120 ∧ co h = nI g ∧ atP x y u (x h) (y h) g ∧ ∀ j, j < g → ¬ atP x y u (x h) (y h) j) ∧
  (∀ r, r < R → st r = nI (sg r)) ∧
  Num 120 (us u) (fun h => hom x y u rd' po' sg tw R (rho rd' h)) 0 120 nu fa sf c ∧
  (∀ p r, p < 1000 → lastO po' sg tw R p r → ou p = fa (sg r))
/-- the reference -/
def DM (x y u mnx mpo : Nat → Int32) (mpn mrn : Int32) (mrd mfi : Nat → Int32) (mar : Nat → Int64) (mfn : Int32) (mfa mnu fa rd' po' : Nat → Int32) (sg : Nat → Nat) (tw : Nat → Int64) (R n c : Nat) : Prop :=
  (mrn = nI R ∧ mpn = nI n ∧ mfn = nI c) ∧ FoOK x y u mnx ∧ AgR u rd' po' sg tw R mrd mfi mpo mar ∧ (∀ h, h < 120 → us u h → fa h = mfa (rho rd' h)) ∧ ∃ sf', Num R (fun _ => True) (hom x y u rd' po' sg tw R) (-1) R mnu mfa sf' c
theorem s_trace {x y u co fo ro po rd st : Nat → Int32} {pn rn : Int32} {tw : Nat → Int64} (C : Cfg x y u) {post : (Nat → Int32) → (Nat → Int32) → (Nat → Int32) → (Nat → Int32) → Int32 → (Nat → Int32) → (Nat → Int32) → (Nat → Int64) → Int32 → Prop}
    (k : ∀ co2 fo2 ro2 po2 n sgp rd2 st2 tw2 R sg, CoOK x y u co2 → FoOK x y u fo2 → Pc x y u 120 (fun h => po2 (h / 2)) sgp n → Out (us u) (nxt x y u) (sweepL x y) 120 rd2 sg tw2 R → (∀ r, r < R → st2 r = nI (sg r)) → post co2 fo2 ro2 po2 (nI n) rd2 st2 tw2 (nI R)) : wp_X1_trace co fo ro po pn rd st tw rn x y u post := by
  refine s_findCorners fun co2 O => ?_
  refine s_follow O (od := co2) fun fo2 F => ?_
  refine s_joinPieces O fun ro2 J J3 => s_numberPieces J J3 fun po2 n sgp P => s_walkRounds C F fun rd2 st2 tw2 R sg OO hs => ?_
  exact k co2 fo2 ro2 po2 n sgp rd2 st2 tw2 R sg O F P OO hs
theorem s_refresh {x y u ho nu fa ou co fo ro po rd st od : Nat → Int32} {sl fn pn rn : Int32} {tw : Nat → Int64} {B : Prop} {Bm : (Nat → Int32) → (Nat → Int32) → (Nat → Int32) → (Nat → Nat) → (Nat → Int64) → Nat → Nat → Nat → Prop} (C : Cfg x y u)
    (I : (¬ sl = 0 ∧ B) ∨ (sl = 0 ∧ ∃ rd' po' sg sgp sf R n c, DC x y u fo co po pn rd st tw rn nu fa ou fn rd' po' sg sgp sf R n c ∧ (B ∨ Bm fa rd' po' sg tw R n c)))
    {post : Int32 → (Nat → Int32) → (Nat → Int32) → (Nat → Int32) → (Nat → Int32) → Int32 → (Nat → Int32) → (Nat → Int32) → (Nat → Int32) → (Nat → Int32) → Int32 → (Nat → Int32) → (Nat → Int32) → (Nat → Int64) → (Nat → Int32) → Int32 → Prop}
    (k : ∀ ho nu fa ou fn co fo ro po pn rd st tw od rn rd' po' sg sgp sf R n c, DC x y u fo co po pn rd st tw rn nu fa ou fn rd' po' sg sgp sf R n c → (B ∨ Bm fa rd' po' sg tw R n c) → post 0 ho nu fa ou fn co fo ro po pn rd st tw od rn) : wp_X3_refresh sl ho nu fa ou fn co fo ro po pn rd st tw od rn x y u post := by
  unfold wp_X3_refresh jn16
  rcases I with ⟨h1, h2⟩ | ⟨h1, rd', po', sg, sgp, sf, R, n, c, h2, h3⟩
  · refine ⟨fun q => absurd q h1, fun _ => s_trace C fun co2 fo2 ro2 po2 n sgp rd2 st2 tw2 R sg O F P OO hs => s_settle OO P hs fun ho2 nu2 fa2 ou2 sf c od2 NN L => ?_⟩
    exact k _ _ _ _ _ _ _ _ _ _ _ _ _ _ _ rd2 po2 sg sgp sf R n c ⟨⟨rfl, rfl, rfl⟩, OO, fun h _ _ => rfl, P, fun s _ _ => rfl, F, fun h hh uh => (O h hh).2 uh, hs, NN, L⟩ (Or.inl h2)
  · refine ⟨fun _ => ?_, fun q => absurd h1 q⟩
    rw [h1]
    exact k _ _ _ _ _ _ _ _ _ _ _ _ _ _ _ rd' po' sg sgp sf R n c h2 h3
theorem m_make {x y u mxs mys mth mnx mpo mrd mfi mfa mnu fo co po rd st nu fa ou rd' po' : Nat → Int32} {mcu mpn mrn mfn pn rn fn : Int32} {mar tw : Nat → Int64} {sg sgp sf : Nat → Nat} {R n c : Nat} (C : Cfg x y u) (G : Ag x y u mxs mys mth) (D : DC x y u fo co po pn rd st tw rn nu fa ou fn rd' po' sg sgp sf R n c)
    (I : mcu = 0 ∨ DM x y u mnx mpo mpn mrn mrd mfi mar mfn mfa mnu fa rd' po' sg tw R n c)
    {post : Int32 → (Nat → Int32) → (Nat → Int32) → Int32 → Int32 → (Nat → Int32) → (Nat → Int32) → (Nat → Int64) → Int32 → (Nat → Int32) → (Nat → Int32) → Prop}
    (k : ∀ mcu mnx mpo mpn mrn mrd mfi mar mfn mfa mnu, DM x y u mnx mpo mpn mrn mrd mfi mar mfn mfa mnu fa rd' po' sg tw R n c → post mcu mnx mpo mpn mrn mrd mfi mar mfn mfa mnu) : wp_X4_make mth mxs mys mcu mnx mpo mpn mrn mrd mfi mar mfn mfa mnu post := by
  obtain ⟨-, d2, -, d4, -, -, -, -, d9, -⟩ := D
  have X := nx_of C
  have hR := out_R d2
  have go : ∃ n35 : Nat, lp_X4_make_25 mth mxs mys (1 : Int32) mnx (0 : Int32) (0 : Int32) mfi mar mfn mfa mnu (fun (mpo_3 : Nat → Int32) (mrd_4 : Nat → Int32) => (∃ n34 : Nat, lp_X4_make_53 mth mxs mys (1 : Int32) (0 : Int32) mrd_4 mfi mar mfn mfa mnu (fun (mnx_13 : Nat → Int32) (mpo_14 : Nat → Int32) (mpn_15 : Int32) => (∃ n33 : Nat, lp_X4_make_117 mth mxs mys (1 : Int32) mnx_13 mpo_14 mpn_15 mfn mfa mnu (fun (mrn_26 : Int32) (mrd_27 : Nat → Int32) (mfi_28 : Nat → Int32) (mar_29 : Nat → Int64) => wp_X4_number mth mxs mys mpo_14 mrn_26 mrd_27 mfi_28 mar_29 mfn mfa mnu (fun (mfn_30 : Int32) (mfa_31 : Nat → Int32) (mnu_32 : Nat → Int32) => post (1 : Int32) mnx_13 mpo_14 mpn_15 mrn_26 mrd_27 mfi_28 mar_29 mfn_30 mfa_31 mnu_32)) n33 (0 : Int32) mrd_4 mfi mar (0 : Int32))) n34 mnx mpo_3 (0 : Int32) (0 : Int32))) n35 mpo mrd (0 : Int32) := by
    refine m_init fun mpo2 mrd2 h1 h2 => m_pieces G h1 fun mnx3 mpo3 n3 sgp3 F3 P3 => m_walks C G F3 h2 fun mrd4 mfi4 mar4 R4 sg4 O4 hs4 => ?_
    obtain ⟨eR, eL, eS, eT⟩ := out_uniq X d2 O4
    obtain ⟨eN, eP⟩ := pc_uniq d4 P3
    have A : AgR u rd' po' sg tw R mrd4 mfi4 mpo3 mar4 := ⟨fun h hh uh => (eL h hh uh).symm, fun r hr => ⟨by rw [hs4 r (by omega), eS r hr], (d2.2.2.2.2.1 r hr).1, (d2.2.2.2.2.1 r hr).2.1⟩, fun r hr => (eT r hr).symm, fun h hh uh => (eP h hh uh).symm⟩
    rw [← eR, ← eN]
    refine m_number G A hR fun mfa5 mnu5 sf5 c5 N5 => ?_
    obtain ⟨eC, eF⟩ := face_eq d2 d9 N5
    exact k _ _ _ _ _ _ _ _ _ _ _ ⟨⟨rfl, rfl, by rw [eC]⟩, F3, A, eF, sf5, by rw [eC]; exact N5⟩
  unfold wp_X4_make
  by_cases q : mcu = 0
  · exact ⟨fun _ => go, fun w => absurd q w⟩
  · exact ⟨fun w => absurd w q, fun _ => k _ _ _ _ _ _ _ _ _ _ _ (I.elim (fun w => absurd w q) id)⟩
