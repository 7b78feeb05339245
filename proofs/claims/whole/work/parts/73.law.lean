/-! the law -/
def LInv (x y u : Nat → Int32) (sn : Int32) (mxs mys mth : Nat → Int32) : Prop := Cfg x y u ∧ Ag x y u mxs mys mth ∧ sn = nI (cn (fun s => ¬ u s = 0) 60)
theorem nx4_0 {x : Nat → Int32} {s : Nat} {a b : Int32} : nx4 x s a b (2 * s) = a := by unfold nx4; rw [pk_un (by omega), pk_us]
theorem nx4_1 {x : Nat → Int32} {s : Nat} {a b : Int32} : nx4 x s a b (2 * s + 1) = b := by unfold nx4; rw [pk_us]
theorem nx4_n {x : Nat → Int32} {s h : Nat} {a b : Int32} (q : h / 2 ≠ s) : nx4 x s a b h = x h := by unfold nx4; rw [pk_un (by omega), pk_un (by omega)]
theorem Iv_c {x y x' y' u fo co po rd st nu fa ou mnx mpo mrd mfi mfa mnu : Nat → Int32} {sl pn rn fn mcu mpn mrn mfn : Int32} {tw mar : Nat → Int64} (E : Eq2 u x y x' y') (I : Iv x y u sl fo co po pn rd st tw rn nu fa ou fn mcu mnx mpo mpn mrn mrd mfi mar mfn mfa mnu) : Iv x' y' u sl fo co po pn rd st tw rn nu fa ou fn mcu mnx mpo mpn mrn mrd mfi mar mfn mfa mnu := by
  rcases I with h | ⟨h, rd', po', sg, sgp, sf, R, n, c, D, B⟩
  · exact Or.inl h
  · exact Or.inr ⟨h, rd', po', sg, sgp, sf, R, n, c, DC_c E D, B.elim Or.inl fun M => Or.inr (DM_c E M)⟩
theorem nx4_eq {x y u : Nat → Int32} {s : Nat} {ax ay bx b_y : Int32} (l : leastF u s) : Eq2 u x y (nx4 x s ax bx) (nx4 y s ay b_y) := fun h hh uh => by
  have q : h / 2 ≠ s := fun e => uh (by rw [e]; exact l.2.1)
  rw [nx4_n q, nx4_n q]; exact ⟨rfl, rfl⟩
theorem LInv_clash {x y u mxs mys mth : Nat → Int32} {sn : Int32} {s : Nat} {ax ay bx b_y : Int32} (l : leastF u s) (H : LInv x y u sn mxs mys mth) : LInv (nx4 x s ax bx) (nx4 y s ay b_y) u sn mxs mys mth := by
  have E : Eq2 u x y (nx4 x s ax bx) (nx4 y s ay b_y) := nx4_eq l
  exact ⟨Cfg_c E H.1, ⟨H.2.1.1, fun h hh uh => by rw [← (E h hh uh).1, ← (E h hh uh).2]; exact H.2.1.2 h hh uh⟩, H.2.2⟩
theorem LInv_add {x y u mxs mys mth : Nat → Int32} {sn : Int32} {s : Nat} {ax ay bx b_y : Int32} (ok : addOK ax ay bx b_y) (l : leastF u s) (nc : ¬ (∃ t, t < 60 ∧ ¬ u t = 0 ∧ clashL (nx4 x s ax bx) (nx4 y s ay b_y) s t)) (H : LInv x y u sn mxs mys mth) : LInv (nx4 x s ax bx) (nx4 y s ay b_y) (upd u s 1) (sn + 1) (nx4 mxs s ax bx) (nx4 mys s ay b_y) (upd mth s 1) := by
  obtain ⟨C, G, hs⟩ := H
  obtain ⟨o1, o2, o3, o4, o5⟩ := ok
  have E : Eq2 u x y (nx4 x s ax bx) (nx4 y s ay b_y) := nx4_eq l
  have C' := Cfg_c E C
  have un : ∀ t, t ≠ s → upd u s 1 t = u t := fun t q => pk_un q
  have uo : ∀ h, h / 2 ≠ s → us (upd u s 1) h → us u h := fun h q w => by unfold us at w; rw [un _ q] at w; exact w
  have hv : ∀ h, h / 2 = s → h = 2 * s ∨ h = 2 * s + 1 := fun h q => by omega
  refine ⟨⟨fun h hh uh => ?_, fun t ht ut => ?_, fun t t' ht ht' ut ut' ne => ?_⟩, ⟨fun t ht => ?_, fun h hh uh => ?_⟩, ?_⟩
  · by_cases q : h / 2 = s
    · rcases hv h q with e | e
      · rw [e, nx4_0, nx4_0]; exact ⟨o1, o2⟩
      · rw [e, nx4_1, nx4_1]; exact ⟨o3, o4⟩
    · exact C'.1 h hh (uo h q uh)
  · by_cases q : t = s
    · rw [q, nx4_0, nx4_0, nx4_1, nx4_1]; exact o5
    · rw [un t q] at ut; exact C'.2.1 t ht ut
  · by_cases q : t = s
    · subst q
      rw [un t' (fun e => ne e.symm)] at ut'
      exact fun w => nc ⟨t', ht', ut', w⟩
    · rw [un t q] at ut
      by_cases q' : t' = s
      · subst q'
        exact fun w => nc ⟨t, ht, ut, clash_sym w⟩
      · rw [un t' q'] at ut'
        exact C'.2.2 t t' ht ht' ut ut' ne
  · by_cases q : t = s
    · rw [q, pk_us, pk_us]
    · rw [pk_un q, pk_un q]; exact G.1 t ht
  · by_cases q : h / 2 = s
    · rcases hv h q with e | e
      · rw [e, nx4_0, nx4_0, nx4_0, nx4_0]; exact ⟨rfl, rfl⟩
      · rw [e, nx4_1, nx4_1, nx4_1, nx4_1]; exact ⟨rfl, rfl⟩
    · rw [nx4_n q, nx4_n q, nx4_n q, nx4_n q]; exact G.2 h hh (uo h q uh)
  · rw [hs, nI_1, (cn_put (P := fun t => ¬ u t = 0) (Q := fun t => ¬ upd u s 1 t = 0) (k := s) (fun z => z l.2.1) (fun i => by
      by_cases q : i = s
      · rw [q, pk_us]; exact ⟨fun _ => Or.inr rfl, fun _ => by decide⟩
      · rw [pk_un q]; exact ⟨Or.inl, fun z => z.elim id fun z => absurd z q⟩) (n := 60)).1 l.1]
theorem dec60 : ∀ k, k < 60 → nI (k + 1) - (1 : Int32) = nI k := by decide +kernel
theorem LInv_fewer {x y u u2 mxs mys mth mth2 : Nat → Int32} {sn2 : Int32} (C : Cfg x y u) (G : Ag x y u mxs mys mth) (hu : ∀ t, t < 60 → ¬ u2 t = 0 → ¬ u t = 0) (hm : ∀ t, t < 60 → (mth2 t = 0 ↔ u2 t = 0)) (hs : sn2 = nI (cn (fun s => ¬ u2 s = 0) 60)) : LInv x y u2 sn2 mxs mys mth2 := by
  have hh : ∀ h, h < 120 → us u2 h → us u h := fun h hh w => hu (h / 2) (by omega) w
  exact ⟨⟨fun h h1 w => C.1 h h1 (hh h h1 w), fun t ht w => C.2.1 t ht (hu t ht w), fun t t' ht ht' w w' => C.2.2 t t' ht ht' (hu t ht w) (hu t' ht' w')⟩, ⟨hm, fun h h1 w => G.2 h h1 (hh h h1 w)⟩, hs⟩
theorem LInv_rem {x y u mxs mys mth : Nat → Int32} {sn : Int32} {s : Nat} (hs : s < 60) (us1 : ¬ u s = 0) (H : LInv x y u sn mxs mys mth) : LInv x y (upd u s 0) (sn - 1) mxs mys (upd mth s 0) := by
  obtain ⟨C, G, e⟩ := H
  refine LInv_fewer C G (fun t ht w => ?_) (fun t ht => ?_) ?_
  · by_cases q : t = s
    · rw [q, pk_us] at w; exact absurd rfl w
    · rw [pk_un q] at w; exact w
  · by_cases q : t = s
    · rw [q, pk_us, pk_us]
    · rw [pk_un q, pk_un q]; exact G.1 t ht
  · have a := (cn_put (P := fun t => ¬ upd u s 0 t = 0) (Q := fun t => ¬ u t = 0) (k := s) (fun z => z (by rw [pk_us])) (fun i => by
      by_cases q : i = s
      · rw [q]; exact ⟨fun _ => Or.inr rfl, fun _ => us1⟩
      · rw [pk_un q]; exact ⟨Or.inl, fun z => z.elim id fun z => absurd z q⟩) (n := 60)).1 hs
    have b := cn_le (P := fun t => ¬ u t = 0) (n := 60)
    rw [e, a, dec60 _ (by omega)]
theorem law_c {L j : Nat} (hL : L ≤ 2560) (hj : j < 3000) : (Int32.ofNat L - (5 : Int32) < nI j) ↔ L < j + 5 := by
  have a : (Int32.ofNat L).toInt = L := nI_toInt (n := L) (by omega)
  have b : (5 : Int32).toInt = 5 := by decide
  rw [Int32.lt_iff_toInt_lt, Int32.toInt_sub, nI_toInt (show j < 2 ^ 31 by omega), a, b, bm32 (by omega) (by omega)]
  omega
theorem law_go {xs : Nat → Int32} {L : Nat} (hL : L ≤ 2560) : ∀ n t, 5 * t ≤ L → L < 5 * (t + n) → ∀ sl ho nu fa ou sp fn co fo ro po pn rd st tw od rn x y u sn mre mth mxs mys mcu mnx mpo mpn mrn mrd mfi mar mfn mfa mnu mst o, LInv x y u sn mxs mys mth → Iv x y u sl fo co po pn rd st tw rn nu fa ou fn mcu mnx mpo mpn mrn mrd mfi mar mfn mfa mnu → lp_law xs L n sl ho nu fa ou sp fn co fo ro po pn rd st tw od rn x y u sn mre mth mxs mys mcu mnx mpo mpn mrn mrd mfi mar mfn mfa mnu mst o (nI (5 * t)) := by
  intro n
  induction n with
  | zero => intro t h1 h2; exfalso; omega
  | succ n ih =>
    intro t h1 h2 sl ho nu fa ou sp fn co fo ro po pn rd st tw od rn x y u sn mre mth mxs mys mcu mnx mpo mpn mrn mrd mfi mar mfn mfa mnu mst o H I
    obtain ⟨C, G, hs⟩ := id H
    rw [lp_law.eq_2]
    refine ⟨fun _ => trivial, fun hn => ?_⟩
    have hn : 5 * t + 5 ≤ L := by
      rw [law_c hL (by omega)] at hn
      omega
    have next : ∀ sl ho nu fa ou sp fn co fo ro po pn rd st tw od rn x y u sn mre mth mxs mys mcu mnx mpo mpn mrn mrd mfi mar mfn mfa mnu mst o, LInv x y u sn mxs mys mth → Iv x y u sl fo co po pn rd st tw rn nu fa ou fn mcu mnx mpo mpn mrn mrd mfi mar mfn mfa mnu → lp_law xs L n sl ho nu fa ou sp fn co fo ro po pn rd st tw od rn x y u sn mre mth mxs mys mcu mnx mpo mpn mrn mrd mfi mar mfn mfa mnu mst o (nI (5 * t) + (5 : Int32)) := by
      intro sl ho nu fa ou sp fn co fo ro po pn rd st tw od rn x y u sn mre mth mxs mys mcu mnx mpo mpn mrn mrd mfi mar mfn mfa mnu mst o H I
      rw [show nI (5 * t) + (5 : Int32) = nI (5 * (t + 1)) from nI_add (5 * t) 5]
      exact ih (t + 1) (by omega) (by omega) _ _ _ _ _ _ _ _ _ _ _ _ _ _ _ _ _ _ _ _ _ _ _ _ _ _ _ _ _ _ _ _ _ _ _ _ _ _ H I
    have w0 : vp_in (nI (5 * t)) L := vp_in_nI (by omega) (by omega)
    have w1 : vp_in (nI (5 * t) + (1 : Int32)) L := by rw [show nI (5 * t) + (1 : Int32) = nI (5 * t + 1) from nI_add (5 * t) 1]; exact vp_in_nI (by omega) (by omega)
    have w2 : vp_in (nI (5 * t) + (2 : Int32)) L := by rw [show nI (5 * t) + (2 : Int32) = nI (5 * t + 2) from nI_add (5 * t) 2]; exact vp_in_nI (by omega) (by omega)
    have w3 : vp_in (nI (5 * t) + (3 : Int32)) L := by rw [show nI (5 * t) + (3 : Int32) = nI (5 * t + 3) from nI_add (5 * t) 3]; exact vp_in_nI (by omega) (by omega)
    have w4 : vp_in (nI (5 * t) + (4 : Int32)) L := by rw [show nI (5 * t) + (4 : Int32) = nI (5 * t + 4) from nI_add (5 * t) 4]; exact vp_in_nI (by omega) (by omega)
    generalize xs (nI (5 * t) + (1 : Int32)).toNatClampNeg = a1
    generalize xs (nI (5 * t) + (2 : Int32)).toNatClampNeg = a2
    generalize xs (nI (5 * t) + (3 : Int32)).toNatClampNeg = a3
    generalize xs (nI (5 * t) + (4 : Int32)).toNatClampNeg = a4
    refine ⟨w0, fun _ => ?_, fun _ => ⟨w1, w2, w3, w4, ?_⟩, fun _ => ⟨w1, ?_⟩, fun _ => ?_, fun _ => ⟨w1, ?_⟩, fun _ => ⟨w1, w2, ?_⟩, fun _ => ⟨w1, ?_⟩, fun _ => ⟨w1, ?_⟩, fun _ => ⟨w1, ?_⟩, fun _ => ⟨w1, ?_⟩, fun _ => ⟨w1, ?_⟩, fun _ => ⟨w1, w2, ?_⟩, fun _ => ⟨w1, w2, ?_⟩, fun _ => ⟨w1, w2, ?_⟩, fun _ => ⟨w1, w2, ?_⟩⟩
    · exact next _ _ _ _ _ _ _ _ _ _ _ _ _ _ _ _ _ _ _ _ _ _ _ _ _ _ _ _ _ _ _ _ _ _ _ _ _ _ H I
    · refine q_add w1 w2 w3 w4 C G (fun o mre => ?_) (fun s o ok l => ?_) (fun s o ok l nc => ?_)
      · exact next _ _ _ _ _ _ _ _ _ _ _ _ _ _ _ _ _ _ _ _ _ _ _ _ _ _ _ _ _ _ _ _ _ _ _ _ _ _ H I
      · exact next _ _ _ _ _ _ _ _ _ _ _ _ _ _ _ _ _ _ _ _ _ _ _ _ _ _ _ _ _ _ _ _ _ _ _ _ _ _ (LInv_clash l H) (Iv_c (nx4_eq l) I)
      · exact next _ _ _ _ _ _ _ _ _ _ _ _ _ _ _ _ _ _ _ _ _ _ _ _ _ _ _ _ _ _ _ _ _ _ _ _ _ _ (LInv_add ok l nc H) (Or.inl ⟨by decide, rfl⟩)
    · refine s_remove (fun no => ⟨w1, m_remove G (fun _ => cmp2 rfl ?_) (fun s hs e us1 => absurd ⟨s, hs, e, us1⟩ no)⟩) (fun s hs e us1 => ⟨w1, m_remove G (fun no => absurd ⟨s, hs, e, us1⟩ no) (fun s2 hs2 e2 us2 => cmp2 rfl ?_)⟩)
      · exact next _ _ _ _ _ _ _ _ _ _ _ _ _ _ _ _ _ _ _ _ _ _ _ _ _ _ _ _ _ _ _ _ _ _ _ _ _ _ H I
      · have : s2 = s := nI_inj (by omega) (by omega) (e2.symm.trans e)
        subst this
        exact next _ _ _ _ _ _ _ _ _ _ _ _ _ _ _ _ _ _ _ _ _ _ _ _ _ _ _ _ _ _ _ _ _ _ _ _ _ _ (LInv_rem hs us1 H) (Or.inl ⟨by decide, rfl⟩)
    · refine s_dropAll fun u2 hu => m_clear G fun mth2 hm => cmp2 hs ?_
      exact next _ _ _ _ _ _ _ _ _ _ _ _ _ _ _ _ _ _ _ _ _ _ _ _ _ _ _ _ _ _ _ _ _ _ _ _ _ _ (LInv_fewer C G (fun t ht w => absurd (hu t ht) w) (fun t ht => ⟨fun _ => hu t ht, fun _ => hm t ht⟩) (by rw [cn_0 fun i hi w => w (hu i hi)]; rfl)) (Or.inl ⟨by decide, rfl⟩)
    · refine q_count w1 C G I hs ?_
      intros
      exact next _ _ _ _ _ _ _ _ _ _ _ _ _ _ _ _ _ _ _ _ _ _ _ _ _ _ _ _ _ _ _ _ _ _ _ _ _ _ H (by assumption)
    · have go : ∀ k : Int32, wp_L_begins x y u o a1 k (fun r1 o => vp_in (nI (5 * t) + (1 : Int32)) L ∧ (vp_in (nI (5 * t) + (2 : Int32)) L ∧ wp_X4_begins mre mth mxs mys a1 k (fun r2 mre => cmp r1 r2 mre o (lp_law xs L n sl ho nu fa ou sp fn co fo ro po pn rd st tw od rn x y u sn mre mth mxs mys mcu mnx mpo mpn mrn mrd mfi mar mfn mfa mnu mst o (nI (5 * t) + (5 : Int32)))))) := fun k =>
        s_begins (fun no => ⟨w1, w2, m_begins G (fun _ => fin1 (next _ _ _ _ _ _ _ _ _ _ _ _ _ _ _ _ _ _ _ _ _ _ _ _ _ _ _ _ _ _ _ _ _ _ _ _ _ _ H I)) (fun h hh e uh => absurd ⟨h, hh, e, uh⟩ no)⟩) (fun h hh e uh => ⟨w1, w2, m_begins G (fun no => absurd ⟨h, hh, e, uh⟩ no) (fun h2 hh2 e2 uh2 => fin0 (by rw [nI_inj (i := h) (j := h2) (by omega) (by omega) (e.symm.trans e2)]) (next _ _ _ _ _ _ _ _ _ _ _ _ _ _ _ _ _ _ _ _ _ _ _ _ _ _ _ _ _ _ _ _ _ _ _ _ _ _ H I))⟩)
      by_cases z : a2 = 0
      · simp only [jn2, z, true_implies, not_true_eq_false, false_implies, and_true]
        exact go 0
      · simp only [jn2, z, true_implies, not_false_eq_true, false_implies, true_and]
        exact go 1
    · refine q_next w1 C G I ?_
      intros
      exact next _ _ _ _ _ _ _ _ _ _ _ _ _ _ _ _ _ _ _ _ _ _ _ _ _ _ _ _ _ _ _ _ _ _ _ _ _ _ H (by assumption)
    · refine q_face w1 C G I ?_
      intros
      exact next _ _ _ _ _ _ _ _ _ _ _ _ _ _ _ _ _ _ _ _ _ _ _ _ _ _ _ _ _ _ _ _ _ _ _ _ _ _ H (by assumption)
    · refine q_piece w1 C G I ?_
      intros
      exact next _ _ _ _ _ _ _ _ _ _ _ _ _ _ _ _ _ _ _ _ _ _ _ _ _ _ _ _ _ _ _ _ _ _ _ _ _ _ H (by assumption)
    · refine q_around w1 C G I ?_
      intros
      exact next _ _ _ _ _ _ _ _ _ _ _ _ _ _ _ _ _ _ _ _ _ _ _ _ _ _ _ _ _ _ _ _ _ _ _ _ _ _ H (by assumption)
    · refine q_area w1 C G I ?_
      intros
      exact next _ _ _ _ _ _ _ _ _ _ _ _ _ _ _ _ _ _ _ _ _ _ _ _ _ _ _ _ _ _ _ _ _ _ _ _ _ _ H (by assumption)
    · refine q_border w1 w2 C G I ?_
      intros
      exact next _ _ _ _ _ _ _ _ _ _ _ _ _ _ _ _ _ _ _ _ _ _ _ _ _ _ _ _ _ _ _ _ _ _ _ _ _ _ H (by assumption)
    · refine q_locate w1 w2 C G I ?_
      intros
      exact next _ _ _ _ _ _ _ _ _ _ _ _ _ _ _ _ _ _ _ _ _ _ _ _ _ _ _ _ _ _ _ _ _ _ _ _ _ _ H (by assumption)
    · refine q_above w1 w2 C G ?_
      intros
      exact next _ _ _ _ _ _ _ _ _ _ _ _ _ _ _ _ _ _ _ _ _ _ _ _ _ _ _ _ _ _ _ _ _ _ _ _ _ _ H I
    · refine q_across w1 w2 C G I ?_
      intros
      exact next _ _ _ _ _ _ _ _ _ _ _ _ _ _ _ _ _ _ _ _ _ _ _ _ _ _ _ _ _ _ _ _ _ _ _ _ _ _ H (by assumption)
theorem start_DC : DC (fun _ => 0) (fun _ => 0) (fun _ => 0) (fun _ => 0) (fun _ => 0) (fun _ => 0) 0 (fun _ => 0) (fun _ => 0) (fun _ => 0) 0 (fun _ => 0) (fun _ => 0) (fun _ => 0) 1 (fun _ => -1) (fun _ => -1) (fun _ => 0) (fun _ => 0) (fun _ => 0) 0 0 1 := by
  have nu : ∀ h, ¬ us (fun _ => 0) h := fun h w => w rfl
  refine ⟨⟨rfl, rfl, rfl⟩, ⟨fun _ _ => Or.inl rfl, fun h _ w => absurd w (nu h), fun _ _ w => absurd rfl w, fun h _ w => absurd w (nu h), fun r hr => absurd hr (Nat.not_lt_zero r), fun r r' _ hr => absurd hr (Nat.not_lt_zero r'), fun _ _ _ _ _ _ w => absurd rfl w, fun r hr => absurd hr (Nat.not_lt_zero r)⟩, fun h _ w => absurd w (nu h), ⟨fun _ _ => Or.inl rfl, fun h _ w => absurd w (nu h), fun g h _ _ w => absurd w (nu g), fun r hr => absurd hr (Nat.not_lt_zero r), fun r r' _ hr => absurd hr (Nat.not_lt_zero r'), fun _ _ _ _ _ _ w => absurd rfl w⟩, fun s _ w => absurd rfl w, fun h _ w => absurd w (nu h), fun h _ w => absurd w (nu h), fun r hr => absurd hr (Nat.not_lt_zero r), ⟨⟨by omega, by omega⟩, fun _ _ => Or.inl rfl, fun _ _ _ _ w => absurd rfl w, fun h _ w => absurd w (nu h), fun k h1 h2 => by omega, fun k k' h1 h2 h3 => by omega⟩, fun p r _ lo => absurd lo.1 (Nat.not_lt_zero r)⟩
