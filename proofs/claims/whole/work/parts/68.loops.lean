/-! what the queries count: the class -/
theorem nI_add1 (n : Nat) : nI n + (1 : Int32) = nI (n + 1) := nI_1 n
theorem s_corners {x y u co : Nat → Int32} (hc : ∀ h, h < 120 → us u h → ∃ g, g < 120 ∧ co h = nI g ∧ atP x y u (x h) (y h) g ∧ ∀ j, j < g → ¬ atP x y u (x h) (y h) j) {post : Int32 → Prop} (k : post (nI (cn (fun h => us u h ∧ ∀ j, j < h → ¬ atP x y u (x h) (y h) j) 120))) : wp_X1_corners co u post := by
  have main : ∀ n t, t + n = 120 → lp_X1_corners_4 co u (fun w => post w) (n + 1) (nI (cn (fun h => us u h ∧ ∀ j, j < h → ¬ atP x y u (x h) (y h) j) t)) (nI t) := by
    intro n
    induction n with
    | zero =>
      intro t ht
      rw [lp_X1_corners_4.eq_2]
      have et : t = 120 := by omega
      subst et
      exact ⟨fun _ => k, fun h => absurd ((lt120 (by omega)).mpr (by omega)) h⟩
    | succ n ih =>
      intro t ht
      rw [lp_X1_corners_4.eq_2]
      simp only [jn1, shr_half (show t < 120 by omega), cl (show t < 1000 by omega), cl (show t / 2 < 1000 by omega), vin (show t < 120 by omega) (by decide), vin (show t / 2 < 60 by omega) (by decide), true_and, nI_1]
      have r := ih (t + 1) (by omega)
      refine ⟨fun h => absurd ((lt120 (by omega)).mp h) (by omega), fun _ => ⟨fun h => ?_, fun h => ⟨fun e => ?_, fun e => ?_⟩⟩⟩
      · rw [cn_f (fun q => q.1 h)] at r; exact r
      · obtain ⟨g, hg, eg, ag, lg⟩ := hc t (by omega) h
        have : g = t := nI_inj (by omega) (by omega) (eg.symm.trans e)
        rw [cn_t (show us u t ∧ _ from ⟨h, by rw [← this] at lg ⊢; exact lg⟩)] at r
        exact r
      · obtain ⟨g, hg, eg, ag, lg⟩ := hc t (by omega) h
        rw [cn_f (fun q => ?_)] at r
        · exact r
        · rcases Nat.lt_trichotomy g t with w | w | w
          · exact q.2 g w ag
          · exact e (by rw [eg, w])
          · exact lg t w ⟨h, rfl, rfl⟩
  exact ⟨121, main 120 0 (by omega)⟩
theorem s_bridges {u fa : Nat → Int32} {post : Int32 → Prop} (k : post (nI (cn (fun s => ¬ u s = 0 ∧ fa (2 * s) = fa (2 * s + 1)) 60))) : wp_X0_bridges fa u post := by
  have main : ∀ n t, t + n = 60 → lp_X0_bridges_4 fa u (fun w => post w) (n + 1) (nI (cn (fun s => ¬ u s = 0 ∧ fa (2 * s) = fa (2 * s + 1)) t)) (nI t) := by
    intro n
    induction n with
    | zero =>
      intro t ht
      rw [lp_X0_bridges_4.eq_2]
      have et : t = 60 := by omega
      subst et
      exact ⟨fun _ => k, fun h => absurd ((lt60 (by omega)).mpr (by omega)) h⟩
    | succ n ih =>
      intro t ht
      rw [lp_X0_bridges_4.eq_2]
      simp only [jn1, dbl, dbl1, cl (show t < 1000 by omega), cl (show 2 * t < 1000 by omega), cl (show 2 * t + 1 < 1000 by omega), vin (show t < 60 by omega) (by decide), vin (show 2 * t < 120 by omega) (by decide), vin (show 2 * t + 1 < 120 by omega) (by decide), true_and, nI_1]
      have r := ih (t + 1) (by omega)
      refine ⟨fun h => absurd ((lt60 (by omega)).mp h) (by omega), fun _ => ⟨fun h => ?_, fun h => ⟨fun e => ?_, fun e => ?_⟩⟩⟩
      · rw [cn_f (fun q => q.1 h)] at r; exact r
      · rw [cn_t (show ¬ u t = 0 ∧ _ from ⟨h, e⟩)] at r; exact r
      · rw [cn_f (fun q => e q.2)] at r; exact r
  exact ⟨61, main 60 0 (by omega)⟩
theorem s_twiceArea {fa st : Nat → Int32} {tw : Nat → Int64} {R : Nat} {sg : Nat → Nat} {v : Int32} (hR : R ≤ 120) (hs : ∀ r, r < R → st r = nI (sg r) ∧ sg r < 120) {post : Int64 → Prop} (k : post (suL (fun r => pifL (fa (sg r) = v) (tw r)) R)) : wp_X0_twiceArea fa st tw (nI R) v post := by
  have main : ∀ n t, t + n = R → lp_X0_twiceArea_5 fa st tw (nI R) v (fun w => post w) (n + 1) (suL (fun r => pifL (fa (sg r) = v) (tw r)) t) (nI t) := by
    intro n
    induction n with
    | zero =>
      intro t ht
      rw [lp_X0_twiceArea_5.eq_2]
      have et : t = R := by omega
      subst et
      exact ⟨fun _ => k, fun h => absurd ((leN (by omega) (by omega)).mpr (by omega)) h⟩
    | succ n ih =>
      intro t ht
      rw [lp_X0_twiceArea_5.eq_2]
      obtain ⟨e1, e2⟩ := hs t (by omega)
      simp only [jn1, cl (show t < 1000 by omega), e1, cl (show sg t < 1000 by omega), vin (show t < 120 by omega) (by decide), vin e2 (by decide), true_and, forall_eq, nI_1]
      have r := ih (t + 1) (by omega)
      have ex : suL (fun r => pifL (fa (sg r) = v) (tw r)) (t + 1) = suL (fun r => pifL (fa (sg r) = v) (tw r)) t + pifL (fa (sg t) = v) (tw t) := rfl
      rw [ex] at r
      refine ⟨fun h => absurd ((leN (by omega) (by omega)).mp h) (by omega), fun _ => ⟨fun e => ?_, fun e => ?_⟩⟩
      · rw [pifL_t e] at r; exact r
      · rw [pifL_f e, Int64.add_zero] at r; exact r
  exact ⟨R + 1, main R 0 (by omega)⟩
theorem s_roundsOf {fa st : Nat → Int32} {R : Nat} {sg : Nat → Nat} {v : Int32} (hR : R ≤ 120) (hs : ∀ r, r < R → st r = nI (sg r) ∧ sg r < 120) {post : Int32 → Prop} (k : post (nI (cn (fun r => fa (sg r) = v) R))) : wp_X0_roundsOf fa st (nI R) v post := by
  have main : ∀ n t, t + n = R → lp_X0_roundsOf_4 fa st (nI R) v (fun w => post w) (n + 1) (nI (cn (fun r => fa (sg r) = v) t)) (nI t) := by
    intro n
    induction n with
    | zero =>
      intro t ht
      rw [lp_X0_roundsOf_4.eq_2]
      have et : t = R := by omega
      subst et
      exact ⟨fun _ => k, fun h => absurd ((leN (by omega) (by omega)).mpr (by omega)) h⟩
    | succ n ih =>
      intro t ht
      rw [lp_X0_roundsOf_4.eq_2]
      obtain ⟨e1, e2⟩ := hs t (by omega)
      simp only [jn1, cl (show t < 1000 by omega), e1, cl (show sg t < 1000 by omega), vin (show t < 120 by omega) (by decide), vin e2 (by decide), true_and, nI_1]
      have r := ih (t + 1) (by omega)
      refine ⟨fun h => absurd ((leN (by omega) (by omega)).mp h) (by omega), fun _ => ⟨fun e => ?_, fun e => ?_⟩⟩
      · rw [cn_t (P := fun r => fa (sg r) = v) e] at r; exact r
      · rw [cn_f (P := fun r => fa (sg r) = v) e] at r; exact r
  exact ⟨R + 1, main R 0 (by omega)⟩
theorem s_halvesOf {u fa : Nat → Int32} {v : Int32} {post : Int32 → Prop} (k : post (nI (cn (fun h => us u h ∧ fa h = v) 120))) : wp_X0_halvesOf fa u v post := by
  have main : ∀ n t, t + n = 120 → lp_X0_halvesOf_4 fa u v (fun w => post w) (n + 1) (nI (cn (fun h => us u h ∧ fa h = v) t)) (nI t) := by
    intro n
    induction n with
    | zero =>
      intro t ht
      rw [lp_X0_halvesOf_4.eq_2]
      have et : t = 120 := by omega
      subst et
      exact ⟨fun _ => k, fun h => absurd ((lt120 (by omega)).mpr (by omega)) h⟩
    | succ n ih =>
      intro t ht
      rw [lp_X0_halvesOf_4.eq_2]
      simp only [jn1, shr_half (show t < 120 by omega), cl (show t < 1000 by omega), cl (show t / 2 < 1000 by omega), vin (show t < 120 by omega) (by decide), vin (show t / 2 < 60 by omega) (by decide), true_and, nI_1]
      have r := ih (t + 1) (by omega)
      refine ⟨fun h => absurd ((lt120 (by omega)).mp h) (by omega), fun _ => ⟨fun h => ?_, fun h => ⟨fun e => ?_, fun e => ?_⟩⟩⟩
      · rw [cn_f (fun q => q.1 h)] at r; exact r
      · rw [cn_t (show us u t ∧ _ from ⟨h, e⟩)] at r; exact r
      · rw [cn_f (fun q => e q.2)] at r; exact r
  exact ⟨121, main 120 0 (by omega)⟩
theorem s_leastHalfOf {u fa : Nat → Int32} {v : Int32} {post : Int32 → Prop} (k1 : ∀ h, h < 120 → us u h → fa h = v → (∀ g, g < h → us u g → fa g ≠ v) → post (nI h)) (k0 : (∀ h, h < 120 → us u h → fa h ≠ v) → post (-1)) : wp_X0_leastHalfOf fa u v post := by
  have main : ∀ n t, t + n = 120 → (∀ g, g < t → us u g → fa g ≠ v) → lp_X0_leastHalfOf_2 fa u v (fun w => post w) (post (-1)) (n + 1) (nI t) := by
    intro n
    induction n with
    | zero =>
      intro t ht hj
      rw [lp_X0_leastHalfOf_2.eq_2]
      exact ⟨fun _ => k0 fun h hh => hj h (by omega), fun h => absurd ((lt120 (by omega)).mpr (by omega)) h⟩
    | succ n ih =>
      intro t ht hj
      rw [lp_X0_leastHalfOf_2.eq_2]
      simp only [jn0, shr_half (show t < 120 by omega), cl (show t < 1000 by omega), cl (show t / 2 < 1000 by omega), vin (show t < 120 by omega) (by decide), vin (show t / 2 < 60 by omega) (by decide), true_and, nI_1]
      have step : (us u t → fa t ≠ v) → lp_X0_leastHalfOf_2 fa u v (fun w => post w) (post (-1)) (n + 1) (nI (t + 1)) := fun q => ih (t + 1) (by omega) fun g hg ug => by
        by_cases w : g = t
        · rw [w] at ug ⊢; exact q ug
        · exact hj g (by omega) ug
      exact ⟨fun h => absurd ((lt120 (by omega)).mp h) (by omega), fun _ => ⟨fun h => step fun q => absurd h q, fun h => ⟨fun e => k1 t (by omega) h e hj, fun e => step fun _ => e⟩⟩⟩
  exact ⟨121, main 120 0 (by omega) fun g hg => absurd hg (Nat.not_lt_zero g)⟩
theorem s_piecesIn {ou : Nat → Int32} {N : Nat} {v : Int32} (hN : N ≤ 60) {post : Int32 → Prop} (k : post (nI (cn (fun p => ou p = v) N))) : wp_X0_piecesIn ou (nI N) v post := by
  have main : ∀ n t, t + n = N → lp_X0_piecesIn_4 ou (nI N) v (fun w => post w) (n + 1) (nI (cn (fun p => ou p = v) t)) (nI t) := by
    intro n
    induction n with
    | zero =>
      intro t ht
      rw [lp_X0_piecesIn_4.eq_2]
      have et : t = N := by omega
      subst et
      exact ⟨fun _ => k, fun h => absurd ((leN (by omega) (by omega)).mpr (by omega)) h⟩
    | succ n ih =>
      intro t ht
      rw [lp_X0_piecesIn_4.eq_2]
      simp only [jn1, cl (show t < 1000 by omega), vin (show t < 60 by omega) (by decide), true_and, nI_1]
      have r := ih (t + 1) (by omega)
      refine ⟨fun h => absurd ((leN (by omega) (by omega)).mp h) (by omega), fun _ => ⟨fun e => ?_, fun e => ?_⟩⟩
      · rw [cn_t (P := fun p => ou p = v) e] at r; exact r
      · rw [cn_f (P := fun p => ou p = v) e] at r; exact r
  exact ⟨N + 1, main N 0 (by omega)⟩
/-! the reference -/
theorem m_left {u rd' mrd mfa : Nat → Int32} {R : Nat} (hm : ∀ h, h < 120 → us u h → mrd h = rd' h) (hr : ∀ h, h < 120 → us u h → rho rd' h < R ∧ rd' h = nI (rho rd' h)) (hR : R ≤ 120) {h : Nat} (hh : h < 120) (uh : us u h) {post : Int32 → Prop} (k : post (mfa (rho rd' h))) : wp_X4_left mrd mfa (nI h) post := by
  obtain ⟨a, b⟩ := hr h hh uh
  unfold wp_X4_left
  simp only [cl (show h < 1000 by omega), vin hh (by decide), hm h hh uh, b, cl (show rho rd' h < 1000 by omega), vin (show rho rd' h < 120 by omega) (by decide), true_and]
  exact k
theorem m_first {x y u mxs mys mth mnx mpo mrd mfi mfa mnu : Nat → Int32} {mre mcu mpn mrn mfn v1 v2 : Int32} {mar : Nat → Int64} (G : Ag x y u mxs mys mth) {h : Nat} (hh : h < 120) (uh : us u h) {post : Int32 → Prop} (k : post (bi (∀ j, j < h → ¬ atP x y u (x h) (y h) j))) : ∃ n, lp_X4_count_80 mre mth mxs mys mcu mnx mpo mpn mrn mrd mfi mar mfn mfa mnu v1 v2 (nI h) post n 1 0 := by
  have main : ∀ n t (v4 : Int32), t + n = h → v4 = bi (∀ j, j < t → ¬ atP x y u (x h) (y h) j) → lp_X4_count_80 mre mth mxs mys mcu mnx mpo mpn mrn mrd mfi mar mfn mfa mnu v1 v2 (nI h) post (n + 1) v4 (nI t) := by
    intro n
    induction n with
    | zero =>
      intro t v4 ht h4
      rw [lp_X4_count_80.eq_2]
      have et : t = h := by omega
      subst et
      exact ⟨fun _ => by rw [h4]; exact k, fun q => absurd ((leN (by omega) (by omega)).mpr (by omega)) q⟩
    | succ n ih =>
      intro t v4 ht h4
      rw [lp_X4_count_80.eq_2]
      simp only [jn1, jn0, cl (show h < 1000 by omega), vin hh (by decide), true_and, nI_1]
      rw [(G.2 h hh uh).1, (G.2 h hh uh).2]
      refine ⟨fun q => absurd ((leN (by omega) (by omega)).mp q) (by omega), fun _ => ⟨fun q => ih (t + 1) 0 (by omega) ?_, fun q => m_leaves G (by omega) ⟨fun w => ih (t + 1) 1 (by omega) ?_, fun w => ih (t + 1) 0 (by omega) ?_⟩⟩⟩
      · rw [h4] at q
        rw [bi_f fun z => bi0.mp q fun j hj => z j (by omega)]
      · rw [h4] at q
        rw [bi_t fun j hj => ?_]
        by_cases e : j = t
        · rw [e]; exact bi0.mp w
        · exact nb0 q j (by omega)
      · rw [bi_f fun z => z t (by omega) (nb0 w)]
  exact ⟨h + 1, main h 0 1 (by omega) (by rw [bi_t fun j hj => absurd hj (Nat.not_lt_zero j)])⟩
def cntP (x y u fa : Nat → Int32) (v : Int32) (h : Nat) : Prop := (v = 1 → ∀ j, j < h → ¬ atP x y u (x h) (y h) j) ∧ (¬ v = 1 → h % 2 = 0 ∧ (v = 0 ∨ fa h = fa (h + 1)))
theorem m_counts {x y u mxs mys mth mnx mpo mrd mfi mfa mnu rd' fa : Nat → Int32} {mre mcu mpn mrn mfn v1 : Int32} {mar : Nat → Int64} {R : Nat} (G : Ag x y u mxs mys mth) (hm : ∀ h, h < 120 → us u h → mrd h = rd' h) (hr : ∀ h, h < 120 → us u h → rho rd' h < R ∧ rd' h = nI (rho rd' h)) (hR : R ≤ 120) (hf : ∀ h, h < 120 → us u h → fa h = mfa (rho rd' h)) {post : Int32 → Prop} (k : post (nI (cn (fun h => us u h ∧ cntP x y u fa v1 h) 120))) : ∃ n, lp_X4_count_57 mre mth mxs mys mcu mnx mpo mpn mrn mrd mfi mar mfn mfa mnu v1 post n 0 0 := by
  have main : ∀ n t, t + n = 120 → lp_X4_count_57 mre mth mxs mys mcu mnx mpo mpn mrn mrd mfi mar mfn mfa mnu v1 post (n + 1) (nI (cn (fun h => us u h ∧ cntP x y u fa v1 h) t)) (nI t) := by
    intro n
    induction n with
    | zero =>
      intro t ht
      rw [lp_X4_count_57.eq_2]
      have et : t = 120 := by omega
      subst et
      exact ⟨fun _ => k, fun h => absurd ((lt120 (by omega)).mpr (by omega)) h⟩
    | succ n ih =>
      intro t ht
      rw [lp_X4_count_57.eq_2]
      rw [rem_par (show t < 120 by omega)]
      simp only [div_half (show t < 120 by omega), cl (show t / 2 < 1000 by omega), vin (show t / 2 < 60 by omega) (by decide), true_and, nI_1]
      have r := ih (t + 1) (by omega)
      have ag := G.1 (t / 2) (by omega)
      refine ⟨fun h => absurd ((lt120 (by omega)).mp h) (by omega), fun _ => ⟨fun h => ?_, fun h => m_first G (by omega) (fun q => h (ag.mpr q)) ?_⟩⟩
      · rw [cn_f (fun q => q.1 (ag.mp h))] at r; exact r
      have ut : us u t := fun q => h (ag.mpr q)
      refine jn1_bi (cntP x y u fa v1 t) (fun K hK => ?_) ?_
      · obtain ⟨k1, k0⟩ := bi_lf hK
        refine ⟨fun e => ?_, fun e => ?_⟩
        · by_cases q : ∀ j, j < t → ¬ atP x y u (x t) (y t) j
          · rw [bi_t q]; exact k1 ⟨fun _ => q, fun w => absurd e w⟩
          · rw [bi_f q]; exact k0 fun w => q (w.1 e)
        · refine ⟨fun p => ?_, fun p => k0 fun w => p (by rw [(w.2 e).1]; rfl)⟩
          have tp : t % 2 = 0 := nI_inj (i := t % 2) (j := 0) (by omega) (by decide) p
          have ut1 : us u (t + 1) := by unfold us; rw [show (t + 1) / 2 = t / 2 by omega]; exact ut
          refine ⟨fun z => k1 ⟨fun w => absurd w e, fun _ => ⟨tp, Or.inl z⟩⟩, fun z => m_left hm hr hR (by omega) ut (m_left hm hr hR (by omega) ut1 ?_)⟩
          rw [← hf t (by omega) ut, ← hf (t + 1) (by omega) ut1]
          exact ⟨fun q => k1 ⟨fun w => absurd w e, fun _ => ⟨tp, Or.inr q⟩⟩, fun q => k0 fun w => (w.2 e).2.elim z q⟩
      · by_cases q : cntP x y u fa v1 t
        · rw [bi_t q]
          rw [cn_t (show us u t ∧ _ from ⟨ut, q⟩)] at r
          exact ⟨fun w => absurd w (by decide), fun _ => r⟩
        · rw [bi_f q]
          rw [cn_f (fun w => q w.2)] at r
          exact ⟨fun _ => r, fun w => absurd rfl w⟩
  exact ⟨121, main 120 0 (by omega)⟩
theorem m_outer {u rd po mrd mfi mpo : Nat → Int32} {sg : Nat → Nat} {tw mar : Nat → Int64} {R p : Nat} (A : AgR u rd po sg tw R mrd mfi mpo mar) (hR : R ≤ 120) (hp : p < 1000) {post : Int32 → Prop} (k : ∀ r, lastO po sg tw R p r → post (nI r)) (k0 : (∀ r, r < R → po (sg r / 2) = nI p → ¬ tw r ≤ 0) → post (-1)) : wp_X4_outer mpo (nI R) mfi mar (nI p) post := by
  have main : ∀ n t (v2 : Int32), t + n = R → ((∃ r, v2 = nI r ∧ lastO po sg tw t p r) ∨ (v2 = -1 ∧ ∀ r, r < t → po (sg r / 2) = nI p → ¬ tw r ≤ 0)) → lp_X4_outer_4 mpo (nI R) mfi mar (nI p) (fun w => post w) (n + 1) v2 (nI t) := by
    intro n
    induction n with
    | zero =>
      intro t v2 ht hv
      rw [lp_X4_outer_4.eq_2]
      have et : t = R := by omega
      subst et
      refine ⟨fun _ => ?_, fun h => absurd ((leN (by omega) (by omega)).mpr (by omega)) h⟩
      rcases hv with ⟨r, e, l⟩ | ⟨e, l⟩
      · rw [e]; exact k r l
      · rw [e]; exact k0 l
    | succ n ih =>
      intro t v2 ht hv
      rw [lp_X4_outer_4.eq_2]
      obtain ⟨a1, a2, a3, a4⟩ := A
      obtain ⟨f1, f2, f3⟩ := a2 t (by omega)
      simp only [jn1, jn0, cl (show t < 1000 by omega), vin (show t < 120 by omega) (by decide), f1, cl (show sg t < 1000 by omega), vin f2 (by decide), true_and, nI_1]
      rw [a3 t (by omega), a4 _ f2 f3]
      have skip : ¬ (po (sg t / 2) = nI p ∧ tw t ≤ 0) → lp_X4_outer_4 mpo (nI R) mfi mar (nI p) (fun w => post w) (n + 1) v2 (nI (t + 1)) := by
        intro no
        refine ih (t + 1) v2 (by omega) ?_
        rcases hv with ⟨r, e, l1, l2, l3, l4⟩ | ⟨e, l⟩
        · refine Or.inl ⟨r, e, by omega, l2, l3, fun r' a b c d => ?_⟩
          by_cases w : r' = t
          · rw [w] at c d; exact no ⟨d, c⟩
          · exact l4 r' a (by omega) c d
        · refine Or.inr ⟨e, fun r hr d c => ?_⟩
          by_cases w : r = t
          · rw [w] at c d; exact no ⟨d, c⟩
          · exact l r (by omega) d c
      refine ⟨fun h => absurd ((leN (by omega) (by omega)).mp h) (by omega), fun _ => ⟨fun e => ⟨fun q => skip fun w => ?_, fun q => ih (t + 1) _ (by omega) (Or.inl ⟨t, rfl, by omega, by simpa using q, e, fun r' a b => by omega⟩)⟩, fun e => skip fun w => e w.1⟩⟩
      have a := w.2
      rw [Int64.le_iff_toInt_le] at a
      rw [Int64.lt_iff_toInt_lt] at q
      omega
  exact ⟨R + 1, main R 0 (-1) (by omega) (Or.inr ⟨rfl, fun r hr => absurd hr (Nat.not_lt_zero r)⟩)⟩
theorem m_areaL {mth mxs mys mnx mpo mrd mfi mfa mnu fa : Nat → Int32} {mre mcu mpn mfn : Int32} {tw mar : Nat → Int64} {sg : Nat → Nat} {R f : Nat} (hR : R ≤ 120) (hf : f < 1000) (f0 : 0 < f) (ha : ∀ r, r < R → mar r = tw r) (he : ∀ r, r < R → fa (sg r) = mfa r) {post : Int64 → Prop} (k : post (suL (fun r => pifL (fa (sg r) = nI f) (tw r)) R)) : ∃ n, lp_X4_area_27 mre mth mxs mys mcu mnx mpo mpn (nI R) mrd mfi mar mfn mfa mnu (nI f) post n 0 0 := by
  have main : ∀ n t, t + n = R → lp_X4_area_27 mre mth mxs mys mcu mnx mpo mpn (nI R) mrd mfi mar mfn mfa mnu (nI f) post (n + 1) (suL (fun r => pifL (fa (sg r) = nI f) (tw r)) t) (nI t) := by
    intro n
    induction n with
    | zero =>
      intro t ht
      rw [lp_X4_area_27.eq_2]
      have et : t = R := by omega
      subst et
      exact ⟨fun _ => k, fun h => absurd ((leN (by omega) (by omega)).mpr (by omega)) h⟩
    | succ n ih =>
      intro t ht
      rw [lp_X4_area_27.eq_2]
      simp only [jn1, cl (show t < 1000 by omega), vin (show t < 120 by omega) (by decide), true_and, nI_1]
      have r := ih (t + 1) (by omega)
      have ex : suL (fun r => pifL (fa (sg r) = nI f) (tw r)) (t + 1) = suL (fun r => pifL (fa (sg r) = nI f) (tw r)) t + pifL (fa (sg t) = nI f) (tw t) := rfl
      rw [ex] at r
      rw [ha t (by omega), ← he t (by omega)]
      refine ⟨fun h => absurd ((leN (by omega) (by omega)).mp h) (by omega), fun _ => ⟨fun h => ?_, fun _ => ⟨fun e => ?_, fun e => ?_⟩⟩⟩
      · exfalso
        have := (leN (a := f) (b := 0) hf (by decide)).mp h
        omega
      · rw [pifL_t e] at r; exact r
      · rw [pifL_f e, Int64.add_zero] at r; exact r
  exact ⟨R + 1, main R 0 (by omega)⟩
def rcP (fa : Nat → Int32) (sg : Nat → Nat) (tw : Nat → Int64) (v1 v2 : Int32) (r : Nat) : Prop := fa (sg r) = v1 ∧ (v2 = 0 ∨ (v2 = 3 ∧ tw r ≤ 0))
theorem m_borderR {mth mxs mys mnx mpo mrd mfi mfa mnu fa : Nat → Int32} {mre mcu mpn mfn v1 v2 v4 : Int32} {tw mar : Nat → Int64} {sg : Nat → Nat} {R : Nat} (hR : R ≤ 120) (ha : ∀ r, r < R → mar r = tw r) (he : ∀ r, r < R → fa (sg r) = mfa r) {post : Int32 → Prop} (k : post (nI (cn (rcP fa sg tw v1 v2) R))) : ∃ n, lp_X4_border_30 mre mth mxs mys mcu mnx mpo mpn (nI R) mrd mfi mar mfn mfa mnu v1 v2 v4 post n 0 0 := by
  have main : ∀ n t, t + n = R → lp_X4_border_30 mre mth mxs mys mcu mnx mpo mpn (nI R) mrd mfi mar mfn mfa mnu v1 v2 v4 post (n + 1) (nI (cn (rcP fa sg tw v1 v2) t)) (nI t) := by
    intro n
    induction n with
    | zero =>
      intro t ht
      rw [lp_X4_border_30.eq_2]
      have et : t = R := by omega
      subst et
      exact ⟨fun _ => k, fun h => absurd ((leN (by omega) (by omega)).mpr (by omega)) h⟩
    | succ n ih =>
      intro t ht
      rw [lp_X4_border_30.eq_2]
      simp only [jn1, jn0, cl (show t < 1000 by omega), vin (show t < 120 by omega) (by decide), true_and, nI_1]
      have r := ih (t + 1) (by omega)
      rw [ha t (by omega), ← he t (by omega)]
      have yes : rcP fa sg tw v1 v2 t → lp_X4_border_30 mre mth mxs mys mcu mnx mpo mpn (nI R) mrd mfi mar mfn mfa mnu v1 v2 v4 post (n + 1) (nI (cn (rcP fa sg tw v1 v2) t + 1)) (nI (t + 1)) := fun q => by rw [cn_t q] at r; exact r
      have no : ¬ rcP fa sg tw v1 v2 t → lp_X4_border_30 mre mth mxs mys mcu mnx mpo mpn (nI R) mrd mfi mar mfn mfa mnu v1 v2 v4 post (n + 1) (nI (cn (rcP fa sg tw v1 v2) t)) (nI (t + 1)) := fun q => by rw [cn_f q] at r; exact r
      refine ⟨fun h => absurd ((leN (by omega) (by omega)).mp h) (by omega), fun _ => ⟨fun e => ⟨fun z => yes ⟨e, Or.inl z⟩, fun z => ⟨fun w => ⟨fun q => no fun v => ?_, fun q => yes ⟨e, Or.inr ⟨w, by simpa using q⟩⟩⟩, fun w => no fun v => v.2.elim z fun v => w v.1⟩⟩, fun e => no fun v => e v.1⟩⟩
      rcases v.2 with v | v
      · exact z v
      · have a := v.2
        rw [Int64.le_iff_toInt_le] at a
        rw [Int64.lt_iff_toInt_lt] at q
        omega
  exact ⟨R + 1, main R 0 (by omega)⟩
theorem dec2h : ∀ t, t < 120 → nI (t + 1) + (-1 : Int32) = nI t := by decide +kernel
theorem m_borderH {x y u mth mxs mys mnx mpo mrd mfi mfa mnu fa rd' : Nat → Int32} {mre mcu mpn mrn mfn v1 v2 : Int32} {mar : Nat → Int64} {R c0 : Nat} (G : Ag x y u mxs mys mth) (hm : ∀ h, h < 120 → us u h → mrd h = rd' h) (hr : ∀ h, h < 120 → us u h → rho rd' h < R ∧ rd' h = nI (rho rd' h)) (hR : R ≤ 120) (hf : ∀ h, h < 120 → us u h → fa h = mfa (rho rd' h)) {post : Int32 → Int32 → Prop}
    (k : ∀ v3 v4 : Int32, (v2 = 1 → v3 = nI (c0 + cn (fun h => us u h ∧ fa h = v1) 120)) → (¬ v2 = 1 → v3 = nI c0) → ((v4 = -1 ∧ ∀ h, h < 120 → us u h → fa h ≠ v1) ∨ ∃ h, h < 120 ∧ us u h ∧ fa h = v1 ∧ v4 = nI h ∧ ∀ g, g < h → us u g → fa g ≠ v1) → post v3 v4) : ∃ n, lp_X4_border_89 mre mth mxs mys mcu mnx mpo mpn mrn mrd mfi mar mfn mfa mnu v1 v2 post n (nI c0) (-1) 119 := by
  have main : ∀ t (v3 v4 v5 : Int32) d, t ≤ 120 → (t = 0 → v5 = -1) → (0 < t → v5 = nI (t - 1)) → (v2 = 1 → v3 = nI (c0 + d)) → (¬ v2 = 1 → v3 = nI c0) → d + cn (fun h => us u h ∧ fa h = v1) t = cn (fun h => us u h ∧ fa h = v1) 120 → ((v4 = -1 ∧ ∀ h, t ≤ h → h < 120 → us u h → fa h ≠ v1) ∨ ∃ h, t ≤ h ∧ h < 120 ∧ us u h ∧ fa h = v1 ∧ v4 = nI h ∧ ∀ g, t ≤ g → g < h → us u g → fa g ≠ v1) → lp_X4_border_89 mre mth mxs mys mcu mnx mpo mpn mrn mrd mfi mar mfn mfa mnu v1 v2 post (t + 1) v3 v4 v5 := by
    intro t
    induction t with
    | zero =>
      intro v3 v4 v5 d _ e0 _ a b hd hv
      rw [lp_X4_border_89.eq_2, e0 rfl]
      have hd : d = cn (fun h => us u h ∧ fa h = v1) 120 := hd
      refine ⟨fun _ => k v3 v4 (fun q => by rw [a q, hd]) b ?_, fun q => absurd (by decide) q⟩
      rcases hv with ⟨p, q⟩ | ⟨h, -, p⟩
      · exact Or.inl ⟨p, fun h hh => q h (by omega) hh⟩
      · exact Or.inr ⟨h, p.1, p.2.1, p.2.2.1, p.2.2.2.1, fun g hg => p.2.2.2.2 g (by omega) hg⟩
    | succ t ih =>
      intro v3 v4 v5 d ht _ e1 a b hd hv
      have e5 : v5 = nI t := e1 (by omega)
      rw [lp_X4_border_89.eq_2, e5]
      simp only [jn2, jn1, div_half (show t < 120 by omega), cl (show t / 2 < 1000 by omega), vin (show t / 2 < 60 by omega) (by decide), true_and]
      have next0 : t = 0 → nI t + (-1 : Int32) = -1 := fun q => by rw [q]; decide
      have next1 : 0 < t → nI t + (-1 : Int32) = nI (t - 1) := fun q => by
        have := dec2h (t - 1) (by omega)
        rw [show t - 1 + 1 = t by omega] at this
        exact this
      have ag := G.1 (t / 2) (by omega)
      have keep : ¬ (us u t ∧ fa t = v1) → lp_X4_border_89 mre mth mxs mys mcu mnx mpo mpn mrn mrd mfi mar mfn mfa mnu v1 v2 post (t + 1) v3 v4 (nI t + -1) := by
        intro no
        refine ih v3 v4 _ d (by omega) next0 next1 a b (by rw [cn_f no] at hd; exact hd) ?_
        rcases hv with ⟨p, q⟩ | ⟨h, l, p⟩
        · refine Or.inl ⟨p, fun h hh h2 uh e => ?_⟩
          by_cases w : h = t
          · rw [w] at uh e; exact no ⟨uh, e⟩
          · exact q h (by omega) h2 uh e
        · refine Or.inr ⟨h, by omega, p.1, p.2.1, p.2.2.1, p.2.2.2.1, fun g hg hg2 ug e => ?_⟩
          by_cases w : g = t
          · rw [w] at ug e; exact no ⟨ug, e⟩
          · exact p.2.2.2.2 g (by omega) hg2 ug e
      refine ⟨fun q => absurd q (nneg (by omega)), fun _ => ⟨fun q => keep fun w => w.1 (ag.mp q), fun q => m_left hm hr hR (by omega) (fun w => q (ag.mpr w)) ?_⟩⟩
      have ut : us u t := fun w => q (ag.mpr w)
      rw [← hf t (by omega) ut]
      refine ⟨fun e => ?_, fun e => keep fun w => e w.2⟩
      rw [cn_t (show us u t ∧ _ from ⟨ut, e⟩)] at hd
      have least : (∃ h, t ≤ h ∧ h < 120 ∧ us u h ∧ fa h = v1 ∧ nI t = nI h ∧ ∀ g, t ≤ g → g < h → us u g → fa g ≠ v1) := ⟨t, by omega, by omega, ut, e, rfl, fun g a b => by omega⟩
      refine ⟨fun z => ih _ _ _ (d + 1) (by omega) next0 next1 (fun _ => by rw [a z, nI_1]; rfl) (fun w => absurd z w) (by omega) (Or.inr least), fun z => ih _ _ _ (d + 1) (by omega) next0 next1 (fun w => absurd w z) b (by omega) (Or.inr least)⟩
  exact ⟨121, main 120 (nI c0) (-1) 119 0 (by omega) (fun q => absurd q (by decide)) (fun _ => rfl) (fun _ => rfl) (fun _ => rfl) (by omega) (Or.inl ⟨rfl, fun h a b => by omega⟩)⟩
theorem m_locate1 {x y u mth mxs mys mnx mpo mrd mfi mfa mnu : Nat → Int32} {mre mcu mpn mrn mfn px py : Int32} {mar : Nat → Int64} (G : Ag x y u mxs mys mth) {post : Int32 → Prop} {K : Prop} (k1 : ∀ h, h < 120 → atP x y u px py h → (∀ g, g < h → ¬ atP x y u px py g) → post (nI h)) (k0 : (∀ h, h < 120 → ¬ atP x y u px py h) → K) : ∃ n, lp_X4_locate_34 mre mth mxs mys mcu mnx mpo mpn mrn mrd mfi mar mfn mfa mnu px py post K n 0 := by
  have main : ∀ n t, t + n = 120 → (∀ g, g < t → ¬ atP x y u px py g) → lp_X4_locate_34 mre mth mxs mys mcu mnx mpo mpn mrn mrd mfi mar mfn mfa mnu px py post K (n + 1) (nI t) := by
    intro n
    induction n with
    | zero =>
      intro t ht hj
      rw [lp_X4_locate_34.eq_2]
      exact ⟨fun _ => k0 fun h hh => hj h (by omega), fun h => absurd ((lt120 (by omega)).mpr (by omega)) h⟩
    | succ n ih =>
      intro t ht hj
      rw [lp_X4_locate_34.eq_2]
      simp only [nI_1]
      refine ⟨fun h => absurd ((lt120 (by omega)).mp h) (by omega), fun _ => m_leaves G (by omega) ⟨fun q => ih (t + 1) (by omega) fun g hg => ?_, fun q => k1 t (by omega) (nb0 q) hj⟩⟩
      by_cases w : g = t
      · rw [w]; exact bi0.mp q
      · exact hj g (by omega)
  exact ⟨121, main 120 0 (by omega) fun g hg => absurd hg (Nat.not_lt_zero g)⟩
theorem m_locate2 {x y u mth mxs mys mnx mpo mrd mfi mfa mnu : Nat → Int32} {mre mcu mpn mrn mfn px py : Int32} {mar : Nat → Int64} (G : Ag x y u mxs mys mth) (C : Cfg x y u) (hx : inB px) (hy : inB py) (na : ∀ h, h < 120 → ¬ atP x y u px py h) {post : Int32 → Prop} {K : Prop} (k1 : ∀ s, s < 60 → ¬ u s = 0 → holdsL x y s px py → (∀ t, t < s → ¬ u t = 0 → ¬ holdsL x y t px py) → post (nI s)) (k0 : (∀ s, s < 60 → ¬ u s = 0 → ¬ holdsL x y s px py) → K) : ∃ n, lp_X4_locate_63 mre mth mxs mys mcu mnx mpo mpn mrn mrd mfi mar mfn mfa mnu px py post K n 0 := by
  have main : ∀ n t, t + n = 60 → (∀ s, s < t → ¬ u s = 0 → ¬ holdsL x y s px py) → lp_X4_locate_63 mre mth mxs mys mcu mnx mpo mpn mrn mrd mfi mar mfn mfa mnu px py post K (n + 1) (nI t) := by
    intro n
    induction n with
    | zero =>
      intro t ht hj
      rw [lp_X4_locate_63.eq_2]
      exact ⟨fun _ => k0 fun h hh => hj h (by omega), fun h => absurd ((lt60 (by omega)).mpr (by omega)) h⟩
    | succ n ih =>
      intro t ht hj
      rw [lp_X4_locate_63.eq_2]
      simp only [jn0, dbl, dbl1, cl (show t < 1000 by omega), cl (show 2 * t < 1000 by omega), cl (show 2 * t + 1 < 1000 by omega), vin (show t < 60 by omega) (by decide), vin (show 2 * t < 120 by omega) (by decide), vin (show 2 * t + 1 < 120 by omega) (by decide), true_and, nI_1]
      have ag := G.1 t (by omega)
      have step : (¬ u t = 0 → ¬ holdsL x y t px py) → lp_X4_locate_63 mre mth mxs mys mcu mnx mpo mpn mrn mrd mfi mar mfn mfa mnu px py post K (n + 1) (nI (t + 1)) := fun q => ih (t + 1) (by omega) fun s hs us1 => by
        by_cases w : s = t
        · rw [w] at us1 ⊢; exact q us1
        · exact hj s (by omega) us1
      refine ⟨fun h => absurd ((lt60 (by omega)).mp h) (by omega), fun _ => ⟨fun h => step fun q => absurd (ag.mp h) q, fun h => ?_⟩⟩
      have ut : ¬ u t = 0 := fun q => h (ag.mpr q)
      have u1 : us u (2 * t) := us_ev.mpr ut
      have u2 : us u (2 * t + 1) := by unfold us; rw [show (2 * t + 1) / 2 = t by omega]; exact ut
      have g1 := G.2 (2 * t) (by omega) u1
      have g2 := G.2 (2 * t + 1) (by omega) u2
      have b1 := C.1 (2 * t) (by omega) u1
      have b2 := C.1 (2 * t + 1) (by omega) u2
      rw [g1.1, g1.2, g2.1, g2.2]
      have oh := on_holds (x := x) (y := y) (h := 2 * t) (px := px) (py := py) (by rw [bk_ev]; exact ⟨b1.1, b1.2, b2.1, b2.2⟩) hx hy
      rw [bk_ev, show 2 * t / 2 = t by omega] at oh
      have mo := m_isOn (x := x) (y := y) (h := 2 * t) (px := px) (py := py) (post := fun r22 => (r22 = 0 → lp_X4_locate_63 mre mth mxs mys mcu mnx mpo mpn mrn mrd mfi mar mfn mfa mnu px py post K (n + 1) (nI (t + 1))) ∧ (¬ r22 = 0 → post (nI t)))
      rw [bk_ev] at mo
      refine mo ⟨fun q => step fun _ w => bi0.mp q (oh.mpr w).1, fun q => k1 t (by omega) ut (oh.mp ⟨nb0 q, fun w => na (2 * t) (by omega) ⟨u1, w.1.symm, w.2.symm⟩, fun w => na (2 * t + 1) (by omega) ⟨u2, w.1.symm, w.2.symm⟩⟩) hj⟩
  exact ⟨61, main 60 0 (by omega) fun g hg => absurd hg (Nat.not_lt_zero g)⟩
