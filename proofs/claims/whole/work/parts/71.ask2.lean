/-! border, locate, across -/
theorem cn_inj : ∀ {n : Nat} {P Q : Nat → Prop} {m : Nat} {f : Nat → Nat}, (∀ p, p < n → P p → f p < m ∧ Q (f p)) → (∀ p q, p < n → q < n → P p → P q → f p = f q → p = q) → cn P n ≤ cn Q m := by
  intro n
  induction n with
  | zero => intro P Q m f _ _; exact Nat.zero_le _
  | succ n ih =>
    intro P Q m f h1 h2
    by_cases q : P n
    · obtain ⟨l, qf⟩ := h1 n (by omega) q
      have a := (cn_put (P := fun i => Q i ∧ i ≠ f n) (Q := Q) (k := f n) (fun z => z.2 rfl) (fun i => by
        by_cases w : i = f n
        · rw [w]; exact ⟨fun _ => Or.inr rfl, fun _ => qf⟩
        · exact ⟨fun z => Or.inl ⟨z, w⟩, fun z => z.elim (fun z => z.1) fun z => absurd z w⟩) (n := m)).1 l
      have b := ih (P := P) (Q := fun i => Q i ∧ i ≠ f n) (m := m) (f := f) (fun p hp pp => ⟨(h1 p (by omega) pp).1, (h1 p (by omega) pp).2, fun e => by have := h2 p n (by omega) (by omega) pp q e; omega⟩) (fun p q hp hq => h2 p q (by omega) (by omega))
      rw [cn_t q]; omega
    · rw [cn_f q]
      exact ih (fun p hp => h1 p (by omega)) (fun p q hp hq => h2 p q (by omega) (by omega))
/-- as many pieces lie in a face as rounds that go about a piece -/
theorem outer_cnt {x y u fo co po rd st nu fa ou rd' po' : Nat → Int32} {pn rn fn v : Int32} {tw : Nat → Int64} {sg sgp sf : Nat → Nat} {R n c : Nat} (C : Cfg x y u) (D : DC x y u fo co po pn rd st tw rn nu fa ou fn rd' po' sg sgp sf R n c) : cn (fun p => ou p = v) n = cn (rcP fa sg tw v 3) R := by
  have db := DC_b D
  have ex := fun p (hp : p < n) => one_outer C D.2.1 D.2.2.2.1 hp
  have last : ∀ p, p < n → ∀ r, r < R → po' (sg r / 2) = nI p → tw r ≤ 0 → ou p = fa (sg r) := fun p hp r hr e t => by
    obtain ⟨r0, hr0, e0, on⟩ := ex p hp
    refine D.2.2.2.2.2.2.2.2.2 p r (by omega) ⟨hr, t, e, fun r' h1 h2 h3 h4 => ?_⟩
    have a := (on r hr e).mp t
    have b := (on r' h2 h4).mp h3
    omega
  have pof : ∀ r, r < R → ∃ p, p < n ∧ po' (sg r / 2) = nI p := fun r hr => by
    obtain ⟨-, b1, b2, -⟩ := db.2.2.2.2 r hr
    rcases D.2.2.2.1.1 (sg r) b1 with z | ⟨-, p, hp, e⟩
    · exact absurd z (D.2.2.2.1.2.1 (sg r) b1 b2)
    · exact ⟨p, hp, e⟩
  have f1 : cn (fun p => ou p = v) n ≤ cn (rcP fa sg tw v 3) R := by
    refine cn_inj (f := fun p => if hp : p < n then Classical.choose (ex p hp) else 0) (fun p hp pp => ?_) (fun p q hp hq pp pq e => ?_)
    · rw [dif_pos hp]
      obtain ⟨hr0, e0, on⟩ := Classical.choose_spec (ex p hp)
      exact ⟨hr0, (last p hp _ hr0 e0 ((on _ hr0 e0).mpr rfl)).symm.trans pp, Or.inr ⟨rfl, (on _ hr0 e0).mpr rfl⟩⟩
    · have e : (if hp : p < n then Classical.choose (ex p hp) else 0) = (if hp : q < n then Classical.choose (ex q hp) else 0) := e
      rw [dif_pos hp, dif_pos hq] at e
      have a := (Classical.choose_spec (ex p hp)).2.1
      have b := (Classical.choose_spec (ex q hq)).2.1
      rw [e] at a
      exact nI_inj (by omega) (by omega) (a.symm.trans b)
  have f2 : cn (rcP fa sg tw v 3) R ≤ cn (fun p => ou p = v) n := by
    refine cn_inj (f := fun r => (po' (sg r / 2)).toNatClampNeg) (fun r hr pr => ?_) (fun r s hr hs pr ps e => ?_)
    · obtain ⟨p, hp, e⟩ := pof r hr
      have t : tw r ≤ 0 := pr.2.elim (fun z => absurd z (by decide)) fun z => z.2
      have e2 : (po' (sg r / 2)).toNatClampNeg = p := by rw [e, cl (by omega)]
      show (po' (sg r / 2)).toNatClampNeg < n ∧ ou (po' (sg r / 2)).toNatClampNeg = v
      rw [e2]
      exact ⟨hp, (last p hp r hr e t).trans pr.1⟩
    · obtain ⟨p, hp, e1⟩ := pof r hr
      obtain ⟨q, hq, e2⟩ := pof s hs
      have e : (po' (sg r / 2)).toNatClampNeg = (po' (sg s / 2)).toNatClampNeg := e
      rw [e1, e2, cl (by omega), cl (by omega)] at e
      subst e
      obtain ⟨r0, hr0, e0, on⟩ := ex p hp
      have t : tw r ≤ 0 := pr.2.elim (fun z => absurd z (by decide)) fun z => z.2
      have t2 : tw s ≤ 0 := ps.2.elim (fun z => absurd z (by decide)) fun z => z.2
      rw [(on r hr e1).mp t, (on s hs e2).mp t2]
  omega
/-- the answer of border -/
def bval (u fa : Nat → Int32) (sg : Nat → Nat) (tw : Nat → Int64) (R : Nat) (v1 v2 r : Int32) : Prop :=
  (v2 = 0 → r = nI (cn (fun r => fa (sg r) = v1) R)) ∧ (v2 = 1 → r = nI (cn (fun h => us u h ∧ fa h = v1) 120)) ∧
  (v2 = 2 → (r = -1 ∧ ∀ h, h < 120 → us u h → fa h ≠ v1) ∨ ∃ h, h < 120 ∧ us u h ∧ fa h = v1 ∧ r = nI h ∧ ∀ g, g < h → us u g → fa g ≠ v1) ∧
  (v2 = 3 → r = nI (cn (rcP fa sg tw v1 3) R)) ∧ (v2.toInt < 0 ∨ 3 < v2.toInt → r = -1)
theorem bval_uniq {u fa : Nat → Int32} {sg : Nat → Nat} {tw : Nat → Int64} {R : Nat} {v1 v2 r r2 : Int32} (h : bval u fa sg tw R v1 v2 r) (k : bval u fa sg tw R v1 v2 r2) : r = r2 := by
  rcases (show (v2.toInt < 0 ∨ 3 < v2.toInt) ∨ v2.toInt = 0 ∨ v2.toInt = 1 ∨ v2.toInt = 2 ∨ v2.toInt = 3 by omega) with q | q | q | q | q
  · rw [h.2.2.2.2 q, k.2.2.2.2 q]
  · have e : v2 = 0 := by rw [← Int32.toInt_inj, q]; rfl
    rw [h.1 e, k.1 e]
  · have e : v2 = 1 := by rw [← Int32.toInt_inj, q]; rfl
    rw [h.2.1 e, k.2.1 e]
  · have e : v2 = 2 := by rw [← Int32.toInt_inj, q]; rfl
    rcases h.2.2.1 e with ⟨a, b⟩ | ⟨g, a1, a2, a3, a4, a5⟩
    · rcases k.2.2.1 e with ⟨a', b'⟩ | ⟨g', c1, c2, c3, c4, c5⟩
      · rw [a, a']
      · exact absurd c3 (b g' c1 c2)
    · rcases k.2.2.1 e with ⟨a', b'⟩ | ⟨g', c1, c2, c3, c4, c5⟩
      · exact absurd a3 (b' g a1 a2)
      · rw [a4, c4]
        rcases Nat.lt_trichotomy g g' with w | w | w
        · exact absurd a3 (c5 g w a2)
        · rw [w]
        · exact absurd c3 (a5 g' w c2)
  · have e : v2 = 3 := by rw [← Int32.toInt_inj, q]; rfl
    rw [h.2.2.2.1 e, k.2.2.2.1 e]
theorem q_border {x y u mxs mys mth ho nu fa ou co fo ro po rd st od mnx mpo mrd mfi mfa mnu : Nat → Int32} {sl fn pn rn mre mcu mpn mrn mfn : Int32} {tw mar o : Nat → Int64} {v1 v2 : Int32} {W W2 : Prop} (hW : W) (hW2 : W2) (C : Cfg x y u) (G : Ag x y u mxs mys mth) (I : Iv x y u sl fo co po pn rd st tw rn nu fa ou fn mcu mnx mpo mpn mrn mrd mfi mar mfn mfa mnu) {K : Int32 → (Nat → Int32) → (Nat → Int32) → (Nat → Int32) → (Nat → Int32) → Int32 → (Nat → Int32) → (Nat → Int32) → (Nat → Int32) → (Nat → Int32) → Int32 → (Nat → Int32) → (Nat → Int32) → (Nat → Int64) → (Nat → Int32) → Int32 → (Nat → Int64) → Int32 → Int32 → (Nat → Int32) → (Nat → Int32) → Int32 → Int32 → (Nat → Int32) → (Nat → Int32) → (Nat → Int64) → Int32 → (Nat → Int32) → (Nat → Int32) → Prop} (hK : ∀ sl ho nu fa ou fn co fo ro po pn rd st tw od rn o mre mcu mnx mpo mpn mrn mrd mfi mar mfn mfa mnu, Iv x y u sl fo co po pn rd st tw rn nu fa ou fn mcu mnx mpo mpn mrn mrd mfi mar mfn mfa mnu → K sl ho nu fa ou fn co fo ro po pn rd st tw od rn o mre mcu mnx mpo mpn mrn mrd mfi mar mfn mfa mnu) :
    wp_L_border sl ho nu fa ou fn co fo ro po pn rd st tw od rn x y u o v1 v2 (fun r1 sl ho nu fa ou fn co fo ro po pn rd st tw od rn o => W ∧ W2 ∧ wp_X4_border mre mth mxs mys mcu mnx mpo mpn mrn mrd mfi mar mfn mfa mnu v1 v2 (fun r2 mre mcu mnx mpo mpn mrn mrd mfi mar mfn mfa mnu => cmp r1 r2 mre o (K sl ho nu fa ou fn co fo ro po pn rd st tw od rn o mre mcu mnx mpo mpn mrn mrd mfi mar mfn mfa mnu))) := by
  by_cases q : dec2 x y u (fun _ c => inN c v1)
  · refine Or.inr (s_refresh (B := mcu = 0) (Bm := fun fa rd' po' sg tw R n c => DM x y u mnx mpo mpn mrn mrd mfi mar mfn mfa mnu fa rd' po' sg tw R n c) C I fun ho nu fa ou fn co fo ro po pn rd st tw od rn rd' po' sg sgp sf R n c D B => ?_)
    have q := (dec2_iff C D).mp q
    have db := DC_b D
    have e3 := D.1.2.2
    subst e3
    have e1 := D.1.1
    subst e1
    have e2 := D.1.2.1
    subst e2
    refine s_rf (by omega) q ?_
    obtain ⟨f, hf, e⟩ := id q
    subst e
    have ref : ∀ r, bval u fa sg tw R (nI f) v2 r → W ∧ W2 ∧ wp_X4_border mre mth mxs mys mcu mnx mpo mpn mrn mrd mfi mar mfn mfa mnu (nI f) v2 (fun r2 mre mcu mnx mpo mpn mrn mrd mfi mar mfn mfa mnu => cmp 0 r2 mre (vp_updL o (0 : Int32).toNatClampNeg r.toInt64) (K 0 ho nu fa ou (nI c) co fo ro po (nI n) rd st tw od (nI R) (vp_updL o (0 : Int32).toNatClampNeg r.toInt64) mre mcu mnx mpo mpn mrn mrd mfi mar mfn mfa mnu)) := by
      intro r hr
      refine ⟨hW, hW2, m_isFace C G D B fun mcu mnx mpo mpn mrn mrd mfi mar mfn mfa mnu M => ?_⟩
      rw [bi_t q]
      have m1 := M.1.1
      subst m1
      obtain ⟨b1, b2, b3, b4, b5, b6⟩ := both D M
      refine jn1_v 0 (fun K hK => ⟨fun z => absurd z (by decide), fun _ => hK⟩) (m_ref0 ⟨fun _ => m_borderR db.1 b4 b5 (m_borderH G b1 b2 db.1 b3 fun v3 v4 k1 k2 k3 => ?_), fun z => absurd rfl z⟩)
      have go : ∀ r2, bval u fa sg tw R (nI f) v2 r2 → cmp 0 r2 0 (vp_updL o (0 : Int32).toNatClampNeg r.toInt64) (K 0 ho nu fa ou (nI c) co fo ro po (nI n) rd st tw od (nI R) (vp_updL o (0 : Int32).toNatClampNeg r.toInt64) 0 mcu mnx mpo mpn (nI R) mrd mfi mar mfn mfa mnu) := fun r2 h2 => fin0 (bval_uniq hr h2) (hK _ _ _ _ _ _ _ _ _ _ _ _ _ _ _ _ _ _ _ _ _ _ _ _ _ _ _ _ _ (Iv_mk D M))
      refine ⟨fun e => go _ ?_, fun e2 => ⟨fun e => go _ ?_, fun e0 => ⟨fun e => go _ ?_, fun e1 => ⟨fun e => go _ ?_, fun e3 => go _ ?_⟩⟩⟩⟩
      · subst e
        exact ⟨fun z => absurd z (by decide), fun z => absurd z (by decide), fun _ => k3, fun z => absurd z (by decide), fun z => absurd z (by decide)⟩
      · subst e
        refine ⟨fun _ => ?_, fun z => absurd z (by decide), fun z => absurd z (by decide), fun z => absurd z (by decide), fun z => absurd z (by decide)⟩
        rw [k2 (by decide)]
        exact congrArg nI (cn_c fun i _ => ⟨fun w => w.1, fun w => ⟨w, Or.inl rfl⟩⟩)
      · subst e
        refine ⟨fun z => absurd z (by decide), fun _ => ?_, fun z => absurd z (by decide), fun z => absurd z (by decide), fun z => absurd z (by decide)⟩
        rw [k1 rfl, cn_0 (P := rcP fa sg tw (nI f) 1) fun i _ w => w.2.elim (fun z => absurd z (by decide)) fun z => absurd z.1 (by decide), Nat.zero_add]
      · subst e
        exact ⟨fun z => absurd z (by decide), fun z => absurd z (by decide), fun z => absurd z (by decide), fun _ => k2 (by decide), fun z => absurd z (by decide)⟩
      · exact ⟨fun z => absurd z e0, fun z => absurd z e1, fun z => absurd z e2, fun z => absurd z e3, fun _ => rfl⟩
    refine ⟨fun e => ref _ ?_, fun e => s_roundsOf db.1 (fun r hr => ⟨(db.2.2.2.2 r hr).1, (db.2.2.2.2 r hr).2.1⟩) (ref _ ?_), fun e => s_halvesOf (ref _ ?_), fun e => s_leastHalfOf (fun h hh uh e4 l => ref _ ?_) (fun no => ref _ ?_), fun e => s_piecesIn db.2.1 (ref _ ?_)⟩
    · refine ⟨fun z => ?_, fun z => ?_, fun z => ?_, fun z => ?_, fun _ => rfl⟩ <;> (subst z; exact absurd e (by decide))
    · subst e
      exact ⟨fun _ => rfl, fun z => absurd z (by decide), fun z => absurd z (by decide), fun z => absurd z (by decide), fun z => absurd z (by decide)⟩
    · subst e
      exact ⟨fun z => absurd z (by decide), fun _ => rfl, fun z => absurd z (by decide), fun z => absurd z (by decide), fun z => absurd z (by decide)⟩
    · subst e
      exact ⟨fun z => absurd z (by decide), fun z => absurd z (by decide), fun _ => Or.inr ⟨h, hh, uh, e4, rfl, l⟩, fun z => absurd z (by decide), fun z => absurd z (by decide)⟩
    · subst e
      exact ⟨fun z => absurd z (by decide), fun z => absurd z (by decide), fun _ => Or.inl ⟨rfl, no⟩, fun z => absurd z (by decide), fun z => absurd z (by decide)⟩
    · subst e
      exact ⟨fun z => absurd z (by decide), fun z => absurd z (by decide), fun z => absurd z (by decide), fun _ => by rw [outer_cnt C D], fun z => absurd z (by decide)⟩
  · refine Or.inl (s_refresh (B := mcu = 0) (Bm := fun fa rd' po' sg tw R n c => DM x y u mnx mpo mpn mrn mrd mfi mar mfn mfa mnu fa rd' po' sg tw R n c) C I fun ho nu fa ou fn co fo ro po pn rd st tw od rn rd' po' sg sgp sf R n c D B => ?_)
    have q : ¬ inN c v1 := fun w => q ((dec2_iff C D).mpr w)
    have db := DC_b D
    have e3 := D.1.2.2
    subst e3
    refine Or.inl (s_rfx (by omega) q ⟨rfl, hW, hW2, m_isFace C G D B fun mcu mnx mpo mpn mrn mrd mfi mar mfn mfa mnu M => ?_⟩)
    rw [bi_f q]
    exact jn1_v 1 (fun K hK => ⟨fun _ => hK, fun z => absurd rfl z⟩) (m_ref1 ⟨fun z => absurd z (by decide), fun _ => fin1 (hK _ _ _ _ _ _ _ _ _ _ _ _ _ _ _ _ _ _ _ _ _ _ _ _ _ _ _ _ _ (Iv_mk D M))⟩)
theorem q_locate {x y u mxs mys mth ho nu fa ou co fo ro po rd st od mnx mpo mrd mfi mfa mnu : Nat → Int32} {sl fn pn rn mre mcu mpn mrn mfn : Int32} {tw mar o : Nat → Int64} {v1 v2 : Int32} {W W2 : Prop} (hW : W) (hW2 : W2) (C : Cfg x y u) (G : Ag x y u mxs mys mth) (I : Iv x y u sl fo co po pn rd st tw rn nu fa ou fn mcu mnx mpo mpn mrn mrd mfi mar mfn mfa mnu) {K : Int32 → (Nat → Int32) → (Nat → Int32) → (Nat → Int32) → (Nat → Int32) → Int32 → (Nat → Int32) → (Nat → Int32) → (Nat → Int32) → (Nat → Int32) → Int32 → (Nat → Int32) → (Nat → Int32) → (Nat → Int64) → (Nat → Int32) → Int32 → (Nat → Int64) → Int32 → Int32 → (Nat → Int32) → (Nat → Int32) → Int32 → Int32 → (Nat → Int32) → (Nat → Int32) → (Nat → Int64) → Int32 → (Nat → Int32) → (Nat → Int32) → Prop} (hK : ∀ sl ho nu fa ou fn co fo ro po pn rd st tw od rn o mre mcu mnx mpo mpn mrn mrd mfi mar mfn mfa mnu, Iv x y u sl fo co po pn rd st tw rn nu fa ou fn mcu mnx mpo mpn mrn mrd mfi mar mfn mfa mnu → K sl ho nu fa ou fn co fo ro po pn rd st tw od rn o mre mcu mnx mpo mpn mrn mrd mfi mar mfn mfa mnu) :
    wp_L_locate sl ho nu fa ou fn co fo ro po pn rd st tw od rn x y u o v1 v2 (fun r1 sl ho nu fa ou fn co fo ro po pn rd st tw od rn o => W ∧ W2 ∧ wp_X4_locate mre mth mxs mys mcu mnx mpo mpn mrn mrd mfi mar mfn mfa mnu v1 v2 (fun r2 mre mcu mnx mpo mpn mrn mrd mfi mar mfn mfa mnu => cmp r1 r2 mre o (K sl ho nu fa ou fn co fo ro po pn rd st tw od rn o mre mcu mnx mpo mpn mrn mrd mfi mar mfn mfa mnu))) := by
  by_cases q : inB v1 ∧ inB v2
  · refine Or.inr (s_rp q (s_refresh (B := mcu = 0) (Bm := fun fa rd' po' sg tw R n c => DM x y u mnx mpo mpn mrn mrd mfi mar mfn mfa mnu fa rd' po' sg tw R n c) C I fun ho nu fa ou fn co fo ro po pn rd st tw od rn rd' po' sg sgp sf R n c D B => ?_))
    have db := DC_b D
    have e1 := D.1.1
    subst e1
    have ref : ∀ r od, (∀ mcu mnx mpo mpn mrn mrd mfi mar mfn mfa mnu, DM x y u mnx mpo mpn mrn mrd mfi mar mfn mfa mnu fa rd' po' sg tw R n c → ∀ K1 : Int32 → Prop, K1 r → ∃ n29 : Nat, lp_X4_locate_34 0 mth mxs mys mcu mnx mpo mpn mrn mrd mfi mar mfn mfa mnu v1 v2 (fun w19 => K1 ((-100 : Int32) - w19)) (∃ n28 : Nat, lp_X4_locate_63 0 mth mxs mys mcu mnx mpo mpn mrn mrd mfi mar mfn mfa mnu v1 v2 (fun w23 => K1 ((-2 : Int32) - w23)) (wp_X4_least mth mxs mys mpo mrn mrd mfi mar v1 v2 (-1 : Int32) (fun r24 => jn1 (fun (K26 : Int32 → Prop) => (((0 : Int32) ≤ r24 → (vp_in r24 120 ∧ K26 (mfa r24.toNatClampNeg))) ∧ (¬ (0 : Int32) ≤ r24 → K26 (0 : Int32)))) K1)) n28 0) n29 0) → W ∧ W2 ∧ wp_X4_locate mre mth mxs mys mcu mnx mpo mpn mrn mrd mfi mar mfn mfa mnu v1 v2 (fun r2 mre mcu mnx mpo mpn mrn mrd mfi mar mfn mfa mnu => cmp 0 r2 mre (vp_updL o (0 : Int32).toNatClampNeg r.toInt64) (K 0 ho nu fa ou fn co fo ro po pn rd st tw od (nI R) (vp_updL o (0 : Int32).toNatClampNeg r.toInt64) mre mcu mnx mpo mpn mrn mrd mfi mar mfn mfa mnu)) := by
      intro r od hr
      refine ⟨hW, hW2, m_isIn (jn1_v 0 (fun K hK => ⟨fun z => absurd q.1 (bi0.mp z), fun _ => m_isIn ⟨fun z => absurd q.2 (bi0.mp z), fun _ => hK⟩⟩) (m_ref0 ⟨fun _ => m_make C G D B fun mcu mnx mpo mpn mrn mrd mfi mar mfn mfa mnu M => ?_, fun z => absurd rfl z⟩))⟩
      exact hr _ _ _ _ _ _ _ _ _ _ _ M (fun r2 => cmp 0 r2 0 (vp_updL o (0 : Int32).toNatClampNeg r.toInt64) (K 0 ho nu fa ou fn co fo ro po pn rd st tw od (nI R) (vp_updL o (0 : Int32).toNatClampNeg r.toInt64) 0 mcu mnx mpo mpn mrn mrd mfi mar mfn mfa mnu)) (fin0 rfl (hK _ _ _ _ _ _ _ _ _ _ _ _ _ _ _ _ _ _ _ _ _ _ _ _ _ _ _ _ _ (Iv_mk D M)))
    refine s_leastHalfAt (fun h hh ah lh => ⟨fun z => absurd z (neqm1 (by omega)), fun _ => ref _ _ fun mcu mnx mpo mpn mrn mrd mfi mar mfn mfa mnu M K1 k1 => m_locate1 G (fun g hg ag lg => ?_) (fun no => absurd ah (no h hh))⟩) (fun no => ⟨fun _ => s_segmentThrough (fun s hs us1 hl ls => ⟨fun z => absurd z (neqm1 (by omega)), fun _ => ref _ _ fun mcu mnx mpo mpn mrn mrd mfi mar mfn mfa mnu M K1 k1 => m_locate1 G (fun g hg ag lg => absurd ag (no g hg)) (fun _ => m_locate2 G C q.1 q.2 no (fun t ht ut hl2 lt2 => ?_) (fun no2 => absurd hl (no2 s hs us1)))⟩) (fun no2 => ⟨fun _ => s_enclosing' (fun h hh uh => ⟨rho rd' h, by have := (rho_eq D.2.1 hh uh).1; omega, (D.2.2.1 h hh uh).trans (rho_eq D.2.1 hh uh).2⟩) db.1 (fun r hr => ⟨(db.2.2.2.2 r hr).1, (db.2.2.2.2 r hr).2.1⟩) fun od2 => ?_, fun z => absurd rfl z⟩), fun z => absurd rfl z⟩)
    · have : g = h := by
        rcases Nat.lt_trichotomy g h with w | w | w
        · exact absurd ag (lh g w)
        · exact w
        · exact absurd ah (lg h w)
      rw [this]; exact k1
    · have : t = s := by
        rcases Nat.lt_trichotomy t s with w | w | w
        · exact absurd hl2 (ls t w ut)
        · exact w
        · exact absurd hl (lt2 s w us1)
      rw [this]; exact k1
    · rw [encl_c (x' := x) (y' := y) (rd2 := rd') (po2 := po') (fun h _ _ => ⟨rfl, rfl⟩) D.2.2.1 (fun r hr => D.2.2.2.2.1 (sg r / 2) (by have := (db.2.2.2.2 r hr).2.1; omega) (db.2.2.2.2 r hr).2.2.1)]
      cases en : encl x y u rd' po' sg tw R v1 v2 (-1) with
      | none =>
        refine jn1_v 0 (fun K hK => ⟨fun _ => hK, fun z => absurd rfl z⟩) (ref _ _ fun mcu mnx mpo mpn mrn mrd mfi mar mfn mfa mnu M K1 k1 => m_locate1 G (fun g hg ag lg => absurd ag (no g hg)) (fun _ => m_locate2 G C q.1 q.2 no (fun t ht ut hl2 lt2 => absurd hl2 (no2 t ht ut)) (fun _ => ?_)))
        have m1 := M.1.1
        subst m1
        refine m_least G M.2.2.1 db.1 ?_
        rw [en]
        exact ⟨fun z => absurd z (by decide), fun _ => k1⟩
      | some r =>
        have rb := bst_ok en
        have hr := rb.1
        refine jn1_v (nu r) (fun K hK => ⟨fun z => absurd z (neqm1 (by omega)), fun _ => ⟨vin (by omega) (by decide), ?_⟩⟩) (ref _ _ fun mcu mnx mpo mpn mrn mrd mfi mar mfn mfa mnu M K1 k1 => m_locate1 G (fun g hg ag lg => absurd ag (no g hg)) (fun _ => m_locate2 G C q.1 q.2 no (fun t ht ut hl2 lt2 => absurd hl2 (no2 t ht ut)) (fun _ => ?_)))
        · have e : enc (some r) = nI r := rfl
          rw [e, cl (by omega)]; exact hK
        have m1 := M.1.1
        subst m1
        refine m_least G M.2.2.1 db.1 ?_
        rw [en]
        refine ⟨fun _ => ⟨vin (by omega) (by decide), ?_⟩, fun z => absurd (nle.mpr (nneg (by omega))) z⟩
        have e : enc (some r) = nI r := rfl
        rw [e, cl (by omega)]
        obtain ⟨b1, b2, b3, b4, b5, b6⟩ := both D M
        obtain ⟨-, c1, c2, c3⟩ := db.2.2.2.2 r hr
        have w := (D.2.2.2.2.2.2.2.2.1.2.2.2.1 (sg r) c1 c2).2 r (by dsimp only; rw [c3]; exact hom_self.mpr rb.2.2.1)
        rw [← b5 r hr, w.1]; exact k1
  · refine Or.inl (Or.inl (s_rpx q ⟨rfl, hW, hW2, m_isIn ?_⟩))
    refine jn1_v 1 (fun K hK => ⟨fun _ => hK, fun a => m_isIn ⟨fun _ => hK, fun b => absurd ⟨nb0 a, nb0 b⟩ q⟩⟩) (m_ref1 ⟨fun z => absurd z (by decide), fun _ => fin1 (hK _ _ _ _ _ _ _ _ _ _ _ _ _ _ _ _ _ _ _ _ _ _ _ _ _ _ _ _ _ I)⟩)
theorem across_con {x y u fo co po rd st nu fa ou rd' po' : Nat → Int32} {pn rn fn : Int32} {tw : Nat → Int64} {sg sgp sf : Nat → Nat} {R n c a : Nat} (C : Cfg x y u) (D : DC x y u fo co po pn rd st tw rn nu fa ou fn rd' po' sg sgp sf R n c) (ha : a < c) (A : Nat → Prop) (hA : ∀ h, h < 120 → us u h → (A (fa h).toNatClampNeg ↔ A (fa (bk h)).toNatClampNeg)) : ∀ f, f < c → (A f ↔ A a) := by
  have db := DC_b D
  have fc := face_conn C D.2.1 D.2.2.2.1 D.2.2.2.2.2.2.2.2.1 (fun v => A v.toNatClampNeg) hA
  have z : ∀ f, f < c → (A f ↔ A 0) := fun f hf => by
    by_cases f0 : f = 0
    · rw [f0]
    · obtain ⟨p1, p2, p3, -⟩ := D.2.2.2.2.2.2.2.2.1.2.2.2.2.1 f (by omega) hf
      have := fc (sf f) p1 p2
      rw [p3, cl (show f < 1000 by omega)] at this
      exact this
  exact fun f hf => (z f hf).trans (z a ha).symm
theorem q_across {x y u mxs mys mth ho nu fa ou co fo ro po rd st od mnx mpo mrd mfi mfa mnu : Nat → Int32} {sl fn pn rn mre mcu mpn mrn mfn : Int32} {tw mar o : Nat → Int64} {sp mst : Nat → Int32} {v1 v2 : Int32} {W W2 : Prop} (hW : W) (hW2 : W2) (C : Cfg x y u) (G : Ag x y u mxs mys mth) (I : Iv x y u sl fo co po pn rd st tw rn nu fa ou fn mcu mnx mpo mpn mrn mrd mfi mar mfn mfa mnu) {K : Int32 → (Nat → Int32) → (Nat → Int32) → (Nat → Int32) → (Nat → Int32) → (Nat → Int32) → Int32 → (Nat → Int32) → (Nat → Int32) → (Nat → Int32) → (Nat → Int32) → Int32 → (Nat → Int32) → (Nat → Int32) → (Nat → Int64) → (Nat → Int32) → Int32 → (Nat → Int64) → Int32 → Int32 → (Nat → Int32) → (Nat → Int32) → Int32 → Int32 → (Nat → Int32) → (Nat → Int32) → (Nat → Int64) → Int32 → (Nat → Int32) → (Nat → Int32) → (Nat → Int32) → Prop} (hK : ∀ sl ho nu fa ou sp fn co fo ro po pn rd st tw od rn o mre mcu mnx mpo mpn mrn mrd mfi mar mfn mfa mnu mst, Iv x y u sl fo co po pn rd st tw rn nu fa ou fn mcu mnx mpo mpn mrn mrd mfi mar mfn mfa mnu → K sl ho nu fa ou sp fn co fo ro po pn rd st tw od rn o mre mcu mnx mpo mpn mrn mrd mfi mar mfn mfa mnu mst) :
    wp_L_across sl ho nu fa ou sp fn co fo ro po pn rd st tw od rn x y u o v1 v2 (fun r1 sl ho nu fa ou sp fn co fo ro po pn rd st tw od rn o => W ∧ W2 ∧ wp_X4_across mre mth mxs mys mcu mnx mpo mpn mrn mrd mfi mar mfn mfa mnu mst v1 v2 (fun r2 mre mcu mnx mpo mpn mrn mrd mfi mar mfn mfa mnu mst => cmp r1 r2 mre o (K sl ho nu fa ou sp fn co fo ro po pn rd st tw od rn o mre mcu mnx mpo mpn mrn mrd mfi mar mfn mfa mnu mst))) := by
  by_cases q : dec2 x y u (fun _ c => inN c v1 ∧ inN c v2)
  · refine Or.inr (s_refresh (B := mcu = 0) (Bm := fun fa rd' po' sg tw R n c => DM x y u mnx mpo mpn mrn mrd mfi mar mfn mfa mnu fa rd' po' sg tw R n c) C I fun ho nu fa ou fn co fo ro po pn rd st tw od rn rd' po' sg sgp sf R n c D B => ?_)
    have q := (dec2_iff C D).mp q
    have db := DC_b D
    have e3 := D.1.2.2
    subst e3
    refine s_rf (by omega) q.1 (s_rf (by omega) q.2 ?_)
    obtain ⟨f, hf, e⟩ := id q.1
    subst e
    obtain ⟨g, hg, e⟩ := id q.2
    subst e
    have fl : ∀ h, h < 120 → us u h → fa h = nI (fa h).toNatClampNeg ∧ (fa h).toNatClampNeg < c := fun h hh uh => by
      have k1 : ∀ g s, g < 120 → us u g → hom x y u rd' po' sg tw R (rho rd' g) = some s → s < 120 := fun g s hg ug e => by
        have := (hom_lt (rho_eq D.2.1 hg ug).1 e).1
        omega
      obtain ⟨f, hf, e, -⟩ := num_lab D.2.2.2.2.2.2.2.2.1 k1 (by omega) hh uh
      rw [e, cl (by omega)]; exact ⟨rfl, hf⟩
    refine s_crossings (F := fun h => (fa h).toNatClampNeg) (a := f) (b := g) db.2.2.2.1 fl hf hg (across_con C D hf) fun d sp2 hd => ⟨hW, hW2, m_isFace C G D B fun mcu mnx mpo mpn mrn mrd mfi mar mfn mfa mnu M => ?_⟩
    rw [bi_t q.1]
    refine ⟨fun z => absurd z (by decide), fun _ => m_isFace C G D (Or.inr M) fun mcu mnx mpo mpn mrn mrd mfi mar mfn mfa mnu M => ?_⟩
    rw [bi_t q.2]
    refine ⟨fun z => absurd z (by decide), fun _ => m_ref0 ⟨fun _ => ?_, fun z => absurd rfl z⟩⟩
    obtain ⟨b1, b2, b3, b4, b5, b6⟩ := both D M
    have m3 := M.1.2.2
    subst m3
    exact m_across (post := fun r2 mst => cmp 0 r2 0 (vp_updL o (0 : Int32).toNatClampNeg (nI d).toInt64) (K 0 ho nu fa ou sp2 (nI c) co fo ro po pn rd st tw od rn (vp_updL o (0 : Int32).toNatClampNeg (nI d).toInt64) 0 mcu mnx mpo mpn mrn mrd mfi mar (nI c) mfa mnu mst)) G b1 b2 db.1 b3 db.2.2.2.1 b6 hf hg (across_con C D hf) fun d2 mst2 hd2 => fin0 (congrArg nI (dst_uniq hd hd2)) (hK _ _ _ _ _ _ _ _ _ _ _ _ _ _ _ _ _ _ _ _ _ _ _ _ _ _ _ _ _ _ _ (Iv_mk D M))
  · refine Or.inl (s_refresh (B := mcu = 0) (Bm := fun fa rd' po' sg tw R n c => DM x y u mnx mpo mpn mrn mrd mfi mar mfn mfa mnu fa rd' po' sg tw R n c) C I fun ho nu fa ou fn co fo ro po pn rd st tw od rn rd' po' sg sgp sf R n c D B => ?_)
    have q : ¬ (inN c v1 ∧ inN c v2) := fun w => q ((dec2_iff C D).mpr w)
    have db := DC_b D
    have e3 := D.1.2.2
    subst e3
    by_cases q1 : inN c v1
    · have q2 : ¬ inN c v2 := fun w => q ⟨q1, w⟩
      refine Or.inr (s_rf (by omega) q1 (Or.inl (s_rfx (by omega) q2 ⟨rfl, hW, hW2, m_isFace C G D B fun mcu mnx mpo mpn mrn mrd mfi mar mfn mfa mnu M => ?_⟩)))
      rw [bi_t q1]
      refine ⟨fun z => absurd z (by decide), fun _ => m_isFace C G D (Or.inr M) fun mcu mnx mpo mpn mrn mrd mfi mar mfn mfa mnu M => ?_⟩
      rw [bi_f q2]
      exact ⟨fun _ => m_ref1 ⟨fun z => absurd z (by decide), fun _ => fin1 (hK _ _ _ _ _ _ _ _ _ _ _ _ _ _ _ _ _ _ _ _ _ _ _ _ _ _ _ _ _ _ _ (Iv_mk D M))⟩, fun z => absurd rfl z⟩
    · refine Or.inl (s_rfx (by omega) q1 ⟨rfl, hW, hW2, m_isFace C G D B fun mcu mnx mpo mpn mrn mrd mfi mar mfn mfa mnu M => ?_⟩)
      rw [bi_f q1]
      exact ⟨fun _ => m_ref1 ⟨fun z => absurd z (by decide), fun _ => fin1 (hK _ _ _ _ _ _ _ _ _ _ _ _ _ _ _ _ _ _ _ _ _ _ _ _ _ _ _ _ _ _ _ (Iv_mk D M))⟩, fun z => absurd rfl z⟩
