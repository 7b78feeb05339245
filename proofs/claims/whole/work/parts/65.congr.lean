/-! rows that agree where there are segments -/
def Eq2 (u x y x' y' : Nat → Int32) : Prop := ∀ h, h < 120 → us u h → x h = x' h ∧ y h = y' h
theorem clash_c {x y x' y' : Nat → Int32} {s t : Nat} (a : x (2 * s) = x' (2 * s) ∧ y (2 * s) = y' (2 * s)) (b : x (2 * s + 1) = x' (2 * s + 1) ∧ y (2 * s + 1) = y' (2 * s + 1)) (c : x (2 * t) = x' (2 * t) ∧ y (2 * t) = y' (2 * t)) (d : x (2 * t + 1) = x' (2 * t + 1) ∧ y (2 * t + 1) = y' (2 * t + 1)) : clashL x y s t ↔ clashL x' y' s t := by
  unfold clashL touchL holdsL sameE sameB crossL partsL sideL dotL
  rw [bk_ev, bk_ev, a.1, a.2, b.1, b.2, c.1, c.2, d.1, d.2]
theorem Cfg_c {u x y x' y' : Nat → Int32} (E : Eq2 u x y x' y') (C : Cfg x y u) : Cfg x' y' u := by
  have ev : ∀ s, s < 60 → ¬ u s = 0 → (x (2 * s) = x' (2 * s) ∧ y (2 * s) = y' (2 * s)) ∧ (x (2 * s + 1) = x' (2 * s + 1) ∧ y (2 * s + 1) = y' (2 * s + 1)) := fun s hs us1 => ⟨E _ (by omega) (us_ev.mpr us1), E _ (by omega) (by unfold us; rw [show (2 * s + 1) / 2 = s by omega]; exact us1)⟩
  refine ⟨fun h hh uh => ?_, fun s hs us1 => ?_, fun s t hs ht us1 us2 n => ?_⟩
  · rw [← (E h hh uh).1, ← (E h hh uh).2]; exact C.1 h hh uh
  · obtain ⟨a, b⟩ := ev s hs us1
    rw [← a.1, ← a.2, ← b.1, ← b.2]; exact C.2.1 s hs us1
  · obtain ⟨a, b⟩ := ev s hs us1
    obtain ⟨c, d⟩ := ev t ht us2
    rw [← clash_c a b c d]; exact C.2.2 s t hs ht us1 us2 n
theorem sameB_c {u x y x' y' : Nat → Int32} (E : Eq2 u x y x' y') {g h : Nat} (hg : g < 120) (hh : h < 120) (ug : us u g) (uh : us u h) : sameB x y g h ↔ sameB x' y' g h := by
  unfold sameB
  rw [(E g hg ug).1, (E g hg ug).2, (E h hh uh).1, (E h hh uh).2]
theorem turn_c {u x y x' y' : Nat → Int32} (E : Eq2 u x y x' y') {g h : Nat} (hg : g < 120) (hh : h < 120) (ug : us u g) (uh : us u h) : turnL x y g h = turnL x' y' g h := by
  have a := E g hg ug
  have b := E h hh uh
  have c := E _ (bk_lt hg) (us_bk ug)
  have d := E _ (bk_lt hh) (us_bk uh)
  unfold turnL
  rw [a.1, a.2, b.1, b.2, c.1, c.2, d.1, d.2]
theorem nxt_c {u x y x' y' : Nat → Int32} (E : Eq2 u x y x' y') {h : Nat} (hh : h < 120) (uh : us u h) : nxt x y u h = nxt x' y' u h := by
  unfold nxt sig sgB
  have hb := bk_lt hh
  have ub := us_bk uh
  rw [bst_congr (ok := cand x y u (bk h)) (ok' := cand x' y' u (bk h)) (lt := fun k b => soonL x y (bk h) k b) (lt' := fun k b => soonL x' y' (bk h) k b)]
  · intro j hj
    unfold cand
    by_cases uj : us u j
    · rw [sameB_c E hj hb uj ub]
    · exact ⟨fun q => absurd q.1 uj, fun q => absurd q.1 uj⟩
  · intro j b hj hbj oj ob
    unfold soonL
    rw [turn_c E hb hj ub oj.1, turn_c E hb (show b < 120 by omega) ub ob.1, turn_c E hj (show b < 120 by omega) oj.1 ob.1]
theorem sweep_c {u x y x' y' : Nat → Int32} (E : Eq2 u x y x' y') {h : Nat} (hh : h < 120) (uh : us u h) : sweepL x y h = sweepL x' y' h := by
  have a := E h hh uh
  have c := E _ (bk_lt hh) (us_bk uh)
  unfold sweepL
  rw [a.1, a.2, c.1, c.2]
theorem Out_c {U : Nat → Prop} {N N' : Nat → Nat} {sw sw' : Nat → Int64} {rd : Nat → Int32} {sg : Nat → Nat} {tw : Nat → Int64} {R : Nat} (e1 : ∀ h, h < 120 → U h → N h = N' h) (e2 : ∀ h, h < 120 → U h → sw h = sw' h) (O : Out U N sw 120 rd sg tw R) : Out U N' sw' 120 rd sg tw R := by
  have hR := out_R O
  obtain ⟨o1, o2, o3, o4, o5, o6, o7, o8⟩ := O
  refine ⟨o1, o2, fun h hh e => ?_, fun h hh uh e => ?_, o5, o6, fun P hP => o7 P fun a ha ua => ?_, fun r hr => ?_⟩
  · have uh := (o1 h hh).elim (fun q => absurd q e) fun q => q.1
    rw [← e1 h hh uh]; exact o3 h hh e
  · rw [← e1 h hh uh] at e; exact o4 h hh uh e
  · rw [e1 a ha ua]; exact hP a ha ua
  · rw [o8 r hr]
    refine suL_c fun h hh => ?_
    by_cases q : rd h = nI r
    · have uh := (o1 h hh).elim (fun z => absurd (q.symm.trans z) (neqm1 (show r < 1000 by omega))) fun z => z.1
      rw [e2 h hh uh]
    · rw [pifL_f q, pifL_f q]
theorem Pc_c {u x y x' y' lab : Nat → Int32} {t n : Nat} {sg : Nat → Nat} (E : Eq2 u x y x' y') (P : Pc x y u t lab sg n) : Pc x' y' u t lab sg n := by
  obtain ⟨o1, o2, o3, o4, o5, o6⟩ := P
  have tc : ∀ g h, g < 120 → h < 120 → us u g → us u h → (tch x y g h ↔ tch x' y' g h) := fun g h hg hh ug uh => by unfold tch; rw [sameB_c E hg hh ug uh]
  exact ⟨o1, o2, fun g h hg hh ug uh tt e => o3 g h hg hh ug uh ((tc g h hg hh ug uh).mpr tt) e, o4, o5, fun P hP => o6 P fun g h hg hh ug uh tt => hP g h hg hh ug uh ((tc g h hg hh ug uh).mp tt)⟩
theorem roof_c {u x y x' y' : Nat → Int32} (E : Eq2 u x y x' y') {h : Nat} (hh : h < 120) (uh : us u h) {px py : Int32} : roofL x y (h / 2) px py ↔ roofL x' y' (h / 2) px py := by
  have a := E (2 * (h / 2)) (by omega) (us_ev.mpr uh)
  have b := E (2 * (h / 2) + 1) (by omega) (by unfold us; rw [show (2 * (h / 2) + 1) / 2 = h / 2 by omega]; exact uh)
  have er : rwd x (h / 2) = rwd x' (h / 2) := by unfold rwd; rw [a.1, b.1]
  have ab : ∀ w, w = 2 * (h / 2) ∨ w = 2 * (h / 2) + 1 → x w = x' w ∧ y w = y' w ∧ x (bk w) = x' (bk w) ∧ y (bk w) = y' (bk w) := by
    rintro w (q | q)
    · rw [q, bk_ev]; exact ⟨a.1, a.2, b.1, b.2⟩
    · rw [q, bk_od]; exact ⟨b.1, b.2, a.1, a.2⟩
  have w2 := ab (rwd x' (h / 2)) (by unfold rwd; split <;> omega)
  unfold roofL sideL
  rw [er, w2.1, w2.2.1, w2.2.2.1, w2.2.2.2]
theorem encl_c {u x y x' y' rd rd2 po po2 : Nat → Int32} {sg : Nat → Nat} {tw : Nat → Int64} {R : Nat} (E : Eq2 u x y x' y') (er : ∀ h, h < 120 → us u h → rd h = rd2 h) (ep : ∀ r, r < R → po (sg r / 2) = po2 (sg r / 2)) {px py v3 : Int32} : encl x y u rd po sg tw R px py v3 = encl x' y' u rd2 po2 sg tw R px py v3 := by
  unfold encl
  refine bst_congr (fun r hr => ?_) fun _ _ _ _ _ _ => Iff.rfl
  unfold okE odR
  rw [ep r hr, cn_c (P := odP x y u rd px py r) (Q := odP x' y' u rd2 px py r)]
  intro h hh
  unfold odP
  by_cases uh : us u h
  · rw [er h hh uh, roof_c E hh uh]
  · exact ⟨fun q => absurd q.1 uh, fun q => absurd q.1 uh⟩
theorem hom_c {u x y x' y' rd po : Nat → Int32} {sg : Nat → Nat} {tw : Nat → Int64} {R r : Nat} (E : Eq2 u x y x' y') (hs : sg r < 120 ∧ us u (sg r)) : hom x y u rd po sg tw R r = hom x' y' u rd po sg tw R r := by
  unfold hom
  rw [(E _ hs.1 hs.2).1, (E _ hs.1 hs.2).2, encl_c E (fun _ _ _ => rfl) (fun _ _ => rfl)]
theorem Num_c {B t c : Nat} {dom : Nat → Prop} {key key' : Nat → Option Nat} {z : Int32} {nu lab : Nat → Int32} {sf : Nat → Nat} (e : ∀ h, h < t → dom h → key h = key' h) (I : Num B dom key z t nu lab sf c) : Num B dom key' z t nu lab sf c := by
  obtain ⟨i0, i1, i2, i3, i4, i5⟩ := I
  exact ⟨i0, i1, i2, fun h hh dh => by rw [← e h hh dh]; exact i3 h hh dh, i4, i5⟩
theorem at_c {u x y x' y' : Nat → Int32} (E : Eq2 u x y x' y') {px py : Int32} {h : Nat} (hh : h < 120) : atP x y u px py h ↔ atP x' y' u px py h := by
  unfold atP
  by_cases uh : us u h
  · rw [(E h hh uh).1, (E h hh uh).2]
  · exact ⟨fun q => absurd q.1 uh, fun q => absurd q.1 uh⟩
theorem DC_c {x y x' y' u fo co po rd st nu fa ou rd' po' : Nat → Int32} {pn rn fn : Int32} {tw : Nat → Int64} {sg sgp sf : Nat → Nat} {R n c : Nat} (E : Eq2 u x y x' y') (D : DC x y u fo co po pn rd st tw rn nu fa ou fn rd' po' sg sgp sf R n c) : DC x' y' u fo co po pn rd st tw rn nu fa ou fn rd' po' sg sgp sf R n c := by
  obtain ⟨d1, d2, d3, d4, d5, d6, d7, d8, d9, d10⟩ := D
  refine ⟨d1, Out_c (fun h hh uh => nxt_c E hh uh) (fun h hh uh => sweep_c E hh uh) d2, d3, Pc_c E d4, d5, fun h hh uh => by rw [← nxt_c E hh uh]; exact d6 h hh uh, fun h hh uh => ?_, d8, Num_c (fun h hh uh => ?_) d9, d10⟩
  · obtain ⟨g, hg, e, a, l⟩ := d7 h hh uh
    rw [(E h hh uh).1, (E h hh uh).2] at a l
    exact ⟨g, hg, e, (at_c E hg).mp a, fun j hj q => l j hj ((at_c E (by omega)).mpr q)⟩
  · have := (d2.2.2.2.2.1 _ (rho_eq d2 hh uh).1)
    exact hom_c E ⟨this.1, this.2.1⟩
theorem DM_c {x y x' y' u mnx mpo mrd mfi mfa mnu fa rd' po' : Nat → Int32} {mpn mrn mfn : Int32} {mar tw : Nat → Int64} {sg : Nat → Nat} {R n c : Nat} (E : Eq2 u x y x' y') (D : DM x y u mnx mpo mpn mrn mrd mfi mar mfn mfa mnu fa rd' po' sg tw R n c) : DM x' y' u mnx mpo mpn mrn mrd mfi mar mfn mfa mnu fa rd' po' sg tw R n c := by
  obtain ⟨d1, d2, d3, d4, sf, d5⟩ := D
  exact ⟨d1, fun h hh uh => by rw [← nxt_c E hh uh]; exact d2 h hh uh, d3, d4, sf, Num_c (fun r hr _ => hom_c E ⟨(d3.2.1 r hr).2.1, (d3.2.1 r hr).2.2⟩) d5⟩
/-! add -/
theorem inB_iff (v : Int32) : inB v ↔ ¬ v < (-16000 : Int32) ∧ ¬ (16000 : Int32) < v := by
  rw [Int32.lt_iff_toInt_lt, Int32.lt_iff_toInt_lt]
  have a : (-16000 : Int32).toInt = -16000 := by decide
  have b : (16000 : Int32).toInt = 16000 := by decide
  unfold inB
  omega
theorem s_rp {v0 v1 : Int32} {post : Prop} (h : inB v0 ∧ inB v1) (k : post) : wp_X3_requirePlace v0 v1 post := by
  rw [inB_iff, inB_iff] at h
  unfold wp_X3_requirePlace jn0
  exact ⟨fun q => absurd q h.1.1, fun _ => ⟨fun q => absurd q h.1.2, fun _ => ⟨fun q => absurd q h.2.1, fun _ => ⟨fun _ => k, fun q => h.2.2 (by simpa using q)⟩⟩⟩⟩
theorem s_rpx {v0 v1 : Int32} {px : String → Prop} (h : ¬ (inB v0 ∧ inB v1)) (k : px "java/lang/IllegalArgumentException") : wpx_X3_requirePlace v0 v1 px := by
  rw [inB_iff, inB_iff] at h
  unfold wpx_X3_requirePlace jn0
  exact ⟨fun _ => k, fun a => ⟨fun _ => k, fun b => ⟨fun _ => k, fun c => ⟨fun d => h ⟨⟨a, b⟩, c, by simpa using d⟩, fun _ => k⟩⟩⟩⟩
def addOK (ax ay bx b_y : Int32) : Prop := inB ax ∧ inB ay ∧ inB bx ∧ inB b_y ∧ ¬ (ax = bx ∧ ay = b_y)
def leastF (u : Nat → Int32) (s : Nat) : Prop := s < 60 ∧ u s = 0 ∧ ∀ t, t < s → ¬ u t = 0
def nx4 (x : Nat → Int32) (s : Nat) (a b : Int32) : Nat → Int32 := upd (upd x (2 * s) a) (2 * s + 1) b
theorem s_addL {x y u : Nat → Int32} {sl sn : Int32} {o : Nat → Int64} {ax ay bx b_y : Int32} {post : Int32 → Int32 → (Nat → Int32) → (Nat → Int32) → (Nat → Int32) → Int32 → (Nat → Int64) → Prop}
    (kb : ¬ addOK ax ay bx b_y → post 1 sl x y u sn o) (kf : addOK ax ay bx b_y → (∀ s, s < 60 → ¬ u s = 0) → post 2 sl x y u sn o)
    (kn : ∀ s, addOK ax ay bx b_y → leastF u s → (∃ t, t < 60 ∧ ¬ u t = 0 ∧ clashL (nx4 x s ax bx) (nx4 y s ay b_y) s t) → post 0 sl (nx4 x s ax bx) (nx4 y s ay b_y) u sn (vp_updL o 0 (-1 : Int32).toInt64))
    (ky : ∀ s, addOK ax ay bx b_y → leastF u s → ¬ (∃ t, t < 60 ∧ ¬ u t = 0 ∧ clashL (nx4 x s ax bx) (nx4 y s ay b_y) s t) → post 0 1 (nx4 x s ax bx) (nx4 y s ay b_y) (upd u s 1) (sn + 1) (vp_updL o 0 (nI s).toInt64)) : wp_L_add sl x y u sn o ax ay bx b_y post := by
  unfold wp_L_add
  by_cases h1 : inB ax ∧ inB ay
  · by_cases h2 : inB bx ∧ inB b_y
    · by_cases h3 : ax = bx ∧ ay = b_y
      · refine Or.inl (Or.inr (s_rp h1 (Or.inr (s_rp h2 ?_))))
        refine ⟨fun _ => ⟨fun _ => Or.inl ⟨rfl, kb fun q => q.2.2.2.2 h3⟩, fun q => absurd h3.2 q⟩, fun q => absurd h3.1 q⟩
      · have ok : addOK ax ay bx b_y := ⟨h1.1, h1.2, h2.1, h2.2, h3⟩
        by_cases full : ∀ s, s < 60 → ¬ u s = 0
        · refine Or.inl (Or.inr (s_rp h1 (Or.inr (s_rp h2 ?_))))
          have lf : wp_X2_leastFree u (fun (r3 : Int32) => ((r3 = (-1 : Int32) → (("java/lang/IllegalStateException" = "java/lang/IllegalArgumentException" ∧ post 1 sl x y u sn o) ∨ ("java/lang/IllegalStateException" = "java/lang/IllegalStateException" ∧ post 2 sl x y u sn o))) ∧ (¬ r3 = (-1 : Int32) → wp_X2_draw x y r3 ax ay bx b_y (fun (x_4 : Nat → Int32) (y_5 : Nat → Int32) => wp_X2_clashes x_4 y_5 u r3 (fun (r6 : Int32) => ((r6 = 0 → wp_X2_keep u sn r3 (fun (u_7 : Nat → Int32) (sn_8 : Int32) => False)) ∧ (¬ r6 = 0 → False))))))) :=
            s_leastFree (fun s hs hu _ => absurd hu (full s hs)) fun _ => ⟨fun _ => Or.inr ⟨rfl, kf ok full⟩, fun q => absurd rfl q⟩
          exact ⟨fun _ => ⟨fun q => absurd ⟨by assumption, q⟩ h3, fun _ => lf⟩, fun _ => lf⟩
        · refine Or.inr (s_rp h1 (s_rp h2 ?_))
          have lf : wp_X2_leastFree u (fun (r3 : Int32) => ((r3 = (-1 : Int32) → False) ∧ (¬ r3 = (-1 : Int32) → wp_X2_draw x y r3 ax ay bx b_y (fun (x_4 : Nat → Int32) (y_5 : Nat → Int32) => wp_X2_clashes x_4 y_5 u r3 (fun (r6 : Int32) => ((r6 = 0 → wp_X2_keep u sn r3 (fun (u_7 : Nat → Int32) (sn_8 : Int32) => post 0 1 x_4 y_5 u_7 sn_8 (vp_updL o (0 : Int32).toNatClampNeg r3.toInt64))) ∧ (¬ r6 = 0 → post 0 sl x_4 y_5 u sn (vp_updL o (0 : Int32).toNatClampNeg (-1 : Int32).toInt64)))))))) := by
            refine s_leastFree (fun s hs hu hl => ⟨fun q => absurd q (neqm1 (by omega)), fun _ => s_draw hs (s_clashes hs ⟨fun q => s_keep hs ?_, fun q => ?_⟩)⟩) fun q => absurd q full
            · exact ky s ok ⟨hs, hu, hl⟩ (bi0.mp q)
            · exact kn s ok ⟨hs, hu, hl⟩ (nb0 q)
          exact ⟨fun _ => ⟨fun q => absurd ⟨by assumption, q⟩ h3, fun _ => lf⟩, fun _ => lf⟩
    · exact Or.inl (Or.inr (s_rp h1 (Or.inl (s_rpx h2 (Or.inl ⟨rfl, kb fun q => h2 ⟨q.2.2.1, q.2.2.2.1⟩⟩)))))
  · exact Or.inl (Or.inl (s_rpx h1 (Or.inl ⟨rfl, kb fun q => h1 ⟨q.1, q.2.1⟩⟩)))
theorem m_isIn {v : Int32} {post : Int32 → Prop} (k : post (bi (inB v))) : wp_X4_isIn v post := by
  unfold wp_X4_isIn
  refine jn1_bi (inB v) (fun K hK => ?_) ⟨bz_bi _, k⟩
  obtain ⟨k1, k0⟩ := bi_lf hK
  rw [inB_iff] at k1 k0
  exact ⟨fun a => k0 fun q => q.1 a, fun a => ⟨fun b => k0 fun q => q.2 b, fun b => k1 ⟨a, b⟩⟩⟩
theorem m_ref0 {mre : Int32} {post : Int32 → Int32 → Prop} (k : post 0 0) : wp_X4_refused mre 0 post := ⟨fun _ => ⟨bz0, k⟩, fun q => absurd (by decide) q⟩
theorem m_ref1 {mre : Int32} {post : Int32 → Int32 → Prop} (k : post 1 1) : wp_X4_refused mre 1 post := ⟨fun q => absurd q (by decide), fun _ => ⟨bz1, k⟩⟩
theorem m_ref2 {mre : Int32} {post : Int32 → Int32 → Prop} (k : post 1 2) : wp_X4_refused mre 2 post := ⟨fun q => absurd q (by decide), fun _ => ⟨bz1, k⟩⟩
theorem jn1_v {t : (Int32 → Prop) → Prop} {k : Int32 → Prop} (v : Int32) (h : ∀ K : Int32 → Prop, K v → t K) (hk : k v) : jn1 t k := h k hk
theorem dec1 : ∀ t, t < 60 → nI (t + 1) + (-1 : Int32) = nI t := by decide +kernel
theorem m_add {x y u mxs mys mth : Nat → Int32} {mre mcu ax ay bx b_y : Int32} (G : Ag x y u mxs mys mth) (C : Cfg x y u) {post : Int32 → Int32 → (Nat → Int32) → (Nat → Int32) → (Nat → Int32) → Int32 → Prop}
    (kb : ¬ addOK ax ay bx b_y → post 0 1 mth mxs mys mcu) (kf : addOK ax ay bx b_y → (∀ s, s < 60 → ¬ u s = 0) → post 0 2 mth mxs mys mcu)
    (kn : ∀ s, addOK ax ay bx b_y → leastF u s → (∃ t, t < 60 ∧ ¬ u t = 0 ∧ clashL (nx4 x s ax bx) (nx4 y s ay b_y) s t) → post (-1) 0 mth mxs mys mcu)
    (ky : ∀ s, addOK ax ay bx b_y → leastF u s → ¬ (∃ t, t < 60 ∧ ¬ u t = 0 ∧ clashL (nx4 x s ax bx) (nx4 y s ay b_y) s t) → post (nI s) 0 (upd mth s 1) (nx4 mxs s ax bx) (nx4 mys s ay b_y) 0) : wp_X4_add mre mth mxs mys mcu ax ay bx b_y post := by
  unfold wp_X4_add
  -- the least free number
  have free : ∀ (k2 : Int32) (K : Int32 → Prop), (∀ s, leastF u s → K (nI s)) → ((∀ s, s < 60 → ¬ u s = 0) → K (-1)) → ∃ n, lp_X4_add_54 mre mth mxs mys mcu ax ay bx b_y k2 K n (-1) 59 := by
    intro k2 K k1 k0
    have main : ∀ t (v6 v7 : Int32), t ≤ 60 → (t = 0 → v7 = -1) → (0 < t → v7 = nI (t - 1)) → ((v6 = -1 ∧ ∀ s, t ≤ s → s < 60 → ¬ u s = 0) ∨ ∃ s, t ≤ s ∧ s < 60 ∧ v6 = nI s ∧ u s = 0 ∧ ∀ j, t ≤ j → j < s → ¬ u j = 0) → lp_X4_add_54 mre mth mxs mys mcu ax ay bx b_y k2 K (t + 1) v6 v7 := by
      intro t
      induction t with
      | zero =>
        intro v6 v7 _ e0 _ hv
        rw [lp_X4_add_54.eq_2, e0 rfl]
        refine ⟨fun _ => ?_, fun q => absurd (by decide) q⟩
        rcases hv with ⟨a, b⟩ | ⟨s, -, a, b, c, d⟩
        · rw [a]; exact k0 fun s hs => b s (by omega) hs
        · rw [b]; exact k1 s ⟨a, c, fun j hj => d j (by omega) hj⟩
      | succ t ih =>
        intro v6 v7 ht _ e1 hv
        have e7 : v7 = nI t := e1 (by omega)
        rw [lp_X4_add_54.eq_2, e7]
        simp only [jn1, cl (show t < 1000 by omega), vin (show t < 60 by omega) (by decide), true_and]
        have next0 : t = 0 → nI t + (-1 : Int32) = -1 := fun q => by rw [q]; decide
        have next1 : 0 < t → nI t + (-1 : Int32) = nI (t - 1) := fun q => by
          have := dec1 (t - 1) (by omega)
          rw [show t - 1 + 1 = t by omega] at this
          exact this
        have ag := G.1 t (by omega)
        refine ⟨fun q => absurd q (nneg (by omega)), fun _ => ⟨fun q => ih _ _ (by omega) next0 next1 (Or.inr ⟨t, by omega, by omega, rfl, ag.mp q, fun j a b => by omega⟩), fun q => ih _ _ (by omega) next0 next1 ?_⟩⟩
        rcases hv with ⟨a, b⟩ | ⟨s, l, a, b, c, d⟩
        · refine Or.inl ⟨a, fun s hs hs2 => ?_⟩
          by_cases w : s = t
          · rw [w]; exact fun z => q (ag.mpr z)
          · exact b s (by omega) hs2
        · refine Or.inr ⟨s, by omega, a, b, c, fun j hj hj2 => ?_⟩
          by_cases w : j = t
          · rw [w]; exact fun z => q (ag.mpr z)
          · exact d j (by omega) hj2
    exact ⟨61, main 60 (-1) 59 (by omega) (fun q => absurd q (by decide)) (fun _ => rfl) (Or.inl ⟨rfl, fun s a b => by omega⟩)⟩
  -- bad places
  have bad : ¬ addOK ax ay bx b_y → ∃ n23 : Nat, lp_X4_add_54 mre mth mxs mys mcu ax ay bx b_y 0 (fun (w8 : Int32) => jn1 (fun (K10 : Int32 → Prop) => (((0 : Int32) = 0 → K10 (1 : Int32)) ∧ (¬ (0 : Int32) = 0 → ((0 ≤ w8 → K10 (0 : Int32)) ∧ (¬ 0 ≤ w8 → K10 (2 : Int32)))))) (fun (k9 : Int32) => wp_X4_refused mre k9 (fun (r12 : Int32) (mre_13 : Int32) => ((r12 = 0 → (∃ n22 : Nat, lp_X4_add_115 mre_13 mth mxs mys mcu ax ay bx b_y w8 (post (-1 : Int32) mre_13 mth mxs mys mcu) ((vp_in w8 60 ∧ ∀ mth_17 : Nat → Int32, mth_17 = (upd mth w8.toNatClampNeg (vp_nar .boolean (1 : Int32))) → (vp_in ((2 : Int32) * w8) 120 ∧ ∀ mxs_18 : Nat → Int32, mxs_18 = (upd mxs ((2 : Int32) * w8).toNatClampNeg ax) → (vp_in ((2 : Int32) * w8) 120 ∧ ∀ mys_19 : Nat → Int32, mys_19 = (upd mys ((2 : Int32) * w8).toNatClampNeg ay) → (vp_in (((2 : Int32) * w8) + (1 : Int32)) 120 ∧ ∀ mxs_20 : Nat → Int32, mxs_20 = (upd mxs_18 (((2 : Int32) * w8) + (1 : Int32)).toNatClampNeg bx) → (vp_in (((2 : Int32) * w8) + (1 : Int32)) 120 ∧ ∀ mys_21 : Nat → Int32, mys_21 = (upd mys_19 (((2 : Int32) * w8) + (1 : Int32)).toNatClampNeg b_y) → post w8 mre_13 mth_17 mxs_20 mys_21 (0 : Int32))))))) n22 (0 : Int32))) ∧ (¬ r12 = 0 → post (0 : Int32) mre_13 mth mxs mys mcu))))) n23 (-1 : Int32) (59 : Int32) := by
    intro nb
    have fin : ∀ K : Int32 → Prop, K 1 → ∀ w8 : Int32, (((0 : Int32) = 0 → K (1 : Int32)) ∧ (¬ (0 : Int32) = 0 → ((0 ≤ w8 → K (0 : Int32)) ∧ (¬ 0 ≤ w8 → K (2 : Int32))))) := fun K k w8 => ⟨fun _ => k, fun q => absurd rfl q⟩
    refine free _ _ (fun s _ => jn1_v 1 (fun K hK => fin K hK _) ?_) (fun _ => jn1_v 1 (fun K hK => fin K hK _) ?_) <;> exact m_ref1 ⟨fun q => absurd q (by decide), fun _ => kb nb⟩
  -- sound places
  have good : addOK ax ay bx b_y → ∃ n23 : Nat, lp_X4_add_54 mre mth mxs mys mcu ax ay bx b_y 1 (fun (w8 : Int32) => jn1 (fun (K10 : Int32 → Prop) => (((1 : Int32) = 0 → K10 (1 : Int32)) ∧ (¬ (1 : Int32) = 0 → ((0 ≤ w8 → K10 (0 : Int32)) ∧ (¬ 0 ≤ w8 → K10 (2 : Int32)))))) (fun (k9 : Int32) => wp_X4_refused mre k9 (fun (r12 : Int32) (mre_13 : Int32) => ((r12 = 0 → (∃ n22 : Nat, lp_X4_add_115 mre_13 mth mxs mys mcu ax ay bx b_y w8 (post (-1 : Int32) mre_13 mth mxs mys mcu) ((vp_in w8 60 ∧ ∀ mth_17 : Nat → Int32, mth_17 = (upd mth w8.toNatClampNeg (vp_nar .boolean (1 : Int32))) → (vp_in ((2 : Int32) * w8) 120 ∧ ∀ mxs_18 : Nat → Int32, mxs_18 = (upd mxs ((2 : Int32) * w8).toNatClampNeg ax) → (vp_in ((2 : Int32) * w8) 120 ∧ ∀ mys_19 : Nat → Int32, mys_19 = (upd mys ((2 : Int32) * w8).toNatClampNeg ay) → (vp_in (((2 : Int32) * w8) + (1 : Int32)) 120 ∧ ∀ mxs_20 : Nat → Int32, mxs_20 = (upd mxs_18 (((2 : Int32) * w8) + (1 : Int32)).toNatClampNeg bx) → (vp_in (((2 : Int32) * w8) + (1 : Int32)) 120 ∧ ∀ mys_21 : Nat → Int32, mys_21 = (upd mys_19 (((2 : Int32) * w8) + (1 : Int32)).toNatClampNeg b_y) → post w8 mre_13 mth_17 mxs_20 mys_21 (0 : Int32))))))) n22 (0 : Int32))) ∧ (¬ r12 = 0 → post (0 : Int32) mre_13 mth mxs mys mcu))))) n23 (-1 : Int32) (59 : Int32) := by
    intro ok
    have f0 : ∀ K : Int32 → Prop, K 0 → ∀ s, s < 60 → (((1 : Int32) = 0 → K (1 : Int32)) ∧ (¬ (1 : Int32) = 0 → ((0 ≤ nI s → K (0 : Int32)) ∧ (¬ 0 ≤ nI s → K (2 : Int32))))) := fun K k s hs => ⟨fun q => absurd q (by decide), fun _ => ⟨fun _ => k, fun q => absurd (nI_pos' (show s < 2 ^ 31 by omega)) q⟩⟩
    have f2 : ∀ K : Int32 → Prop, K 2 → (((1 : Int32) = 0 → K (1 : Int32)) ∧ (¬ (1 : Int32) = 0 → ((0 ≤ (-1 : Int32) → K (0 : Int32)) ∧ (¬ 0 ≤ (-1 : Int32) → K (2 : Int32))))) := fun K k => ⟨fun q => absurd q (by decide), fun _ => ⟨fun q => absurd q (by decide), fun _ => k⟩⟩
    refine free _ _ (fun s ls => jn1_v 0 (fun K hK => f0 K hK s ls.1) ?_) (fun full => jn1_v 2 (fun K hK => f2 K hK) ?_)
    · obtain ⟨hs, hu, hl⟩ := id ls
      refine m_ref0 ⟨fun _ => ?_, fun q => absurd rfl q⟩
      simp only [nar1, dbl, dbl1, cl (show s < 1000 by omega), cl (show 2 * s < 1000 by omega), cl (show 2 * s + 1 < 1000 by omega), vin hs (by decide), vin (show 2 * s < 120 by omega) (by decide), vin (show 2 * s + 1 < 120 by omega) (by decide), true_and, forall_eq]
      have x4s : nx4 x s ax bx (2 * s) = ax ∧ nx4 x s ax bx (2 * s + 1) = bx ∧ nx4 y s ay b_y (2 * s) = ay ∧ nx4 y s ay b_y (2 * s + 1) = b_y := by
        unfold nx4
        refine ⟨?_, ?_, ?_, ?_⟩
        · rw [pk_un (by omega), pk_us]
        · rw [pk_us]
        · rw [pk_un (by omega), pk_us]
        · rw [pk_us]
      have x4o : ∀ h, h / 2 ≠ s → nx4 x s ax bx h = x h ∧ nx4 y s ay b_y h = y h := fun h hh => by
        unfold nx4
        exact ⟨by rw [pk_un (by omega), pk_un (by omega)], by rw [pk_un (by omega), pk_un (by omega)]⟩
      have main : ∀ n t, t + n = 60 → (∀ j, j < t → ¬ u j = 0 → ¬ clashL (nx4 x s ax bx) (nx4 y s ay b_y) s j) → lp_X4_add_115 0 mth mxs mys mcu ax ay bx b_y (nI s) (post (-1) 0 mth mxs mys mcu) (post (nI s) 0 (upd mth s 1) (upd (upd mxs (2 * s) ax) (2 * s + 1) bx) (upd (upd mys (2 * s) ay) (2 * s + 1) b_y) 0) (n + 1) (nI t) := by
        intro n
        induction n with
        | zero =>
          intro t ht hj
          rw [lp_X4_add_115.eq_2]
          refine ⟨fun _ => ky s ok ls ?_, fun h => absurd ((lt60 (by omega)).mpr (by omega)) h⟩
          rintro ⟨j, a, b, c⟩
          exact hj j (by omega) b c
        | succ n ih =>
          intro t ht hj
          rw [lp_X4_add_115.eq_2]
          simp only [jn0, cl (show t < 1000 by omega), vin (show t < 60 by omega) (by decide), true_and, nI_1]
          have ag := G.1 t (by omega)
          have step : (¬ u t = 0 → ¬ clashL (nx4 x s ax bx) (nx4 y s ay b_y) s t) → lp_X4_add_115 0 mth mxs mys mcu ax ay bx b_y (nI s) (post (-1) 0 mth mxs mys mcu) (post (nI s) 0 (upd mth s 1) (upd (upd mxs (2 * s) ax) (2 * s + 1) bx) (upd (upd mys (2 * s) ay) (2 * s + 1) b_y) 0) (n + 1) (nI (t + 1)) := fun q => ih (t + 1) (by omega) fun j hj2 uj => by
            by_cases w : j = t
            · rw [w] at uj ⊢; exact q uj
            · exact hj j (by omega) uj
          refine ⟨fun h => absurd ((lt60 (by omega)).mp h) (by omega), fun _ => ⟨fun h => step fun q => absurd (ag.mp h) q, fun h => ?_⟩⟩
          have ut : ¬ u t = 0 := fun q => h (ag.mpr q)
          have nts : t ≠ s := fun q => ut (by rw [q]; exact hu)
          have ut2 : us u (2 * t) := us_ev.mpr ut
          have ut3 : us u (2 * t + 1) := by unfold us; rw [show (2 * t + 1) / 2 = t by omega]; exact ut
          have o1 := x4o (2 * t) (by omega)
          have o2 := x4o (2 * t + 1) (by omega)
          have g1 := G.2 (2 * t) (by omega) ut2
          have g2 := G.2 (2 * t + 1) (by omega) ut3
          have b1 := C.1 (2 * t) (by omega) ut2
          have b2 := C.1 (2 * t + 1) (by omega) ut3
          have mm := m_meets (x := nx4 x s ax bx) (y := nx4 y s ay b_y) (mxs := mxs) (mys := mys) (s := s) (t := t) hs (by omega) ⟨by rw [g1.1, o1.1], by rw [g1.2, o1.2], by rw [g2.1, o2.1], by rw [g2.2, o2.2]⟩ (by rw [x4s.1, x4s.2.1, x4s.2.2.1, x4s.2.2.2]; exact ⟨ok.1, ok.2.1, ok.2.2.1, ok.2.2.2.1⟩) (by rw [o1.1, o1.2, o2.1, o2.2]; exact ⟨b1.1, b1.2, b2.1, b2.2⟩) (by rw [x4s.1, x4s.2.1, x4s.2.2.1, x4s.2.2.2]; exact ok.2.2.2.2) (post := fun (r16 : Int32) => ((r16 = 0 → lp_X4_add_115 0 mth mxs mys mcu ax ay bx b_y (nI s) (post (-1) 0 mth mxs mys mcu) (post (nI s) 0 (upd mth s 1) (upd (upd mxs (2 * s) ax) (2 * s + 1) bx) (upd (upd mys (2 * s) ay) (2 * s + 1) b_y) 0) (n + 1) (nI (t + 1))) ∧ (¬ r16 = 0 → post (-1) 0 mth mxs mys mcu))) ⟨fun q => step fun _ => bi0.mp q, fun q => kn s ok ls ⟨t, by omega, ut, nb0 q⟩⟩
          rw [x4s.1, x4s.2.1, x4s.2.2.1, x4s.2.2.2] at mm
          exact mm
      exact ⟨61, main 60 0 (by omega) fun j hj => absurd hj (Nat.not_lt_zero j)⟩
    · exact m_ref2 ⟨fun q => absurd q (by decide), fun _ => kf ok full⟩
  refine m_isIn (jn1_bi (addOK ax ay bx b_y) (fun K hK => ?_) ?_)
  · obtain ⟨k1, k0⟩ := bi_lf hK
    refine ⟨fun a => k0 fun q => bi0.mp a q.1, fun a => m_isIn ⟨fun b => k0 fun q => bi0.mp b q.2.1, fun b => m_isIn ⟨fun c => k0 fun q => bi0.mp c q.2.2.1, fun c => m_isIn ⟨fun d => k0 fun q => bi0.mp d q.2.2.2.1, fun d => ?_⟩⟩⟩⟩
    exact ⟨fun e => ⟨fun f => k0 fun q => q.2.2.2.2 ⟨e, f⟩, fun f => k1 ⟨nb0 a, nb0 b, nb0 c, nb0 d, fun q => f q.2⟩⟩, fun e => k1 ⟨nb0 a, nb0 b, nb0 c, nb0 d, fun q => e q.1⟩⟩
  · by_cases ok : addOK ax ay bx b_y
    · rw [bi_t ok]; exact good ok
    · rw [bi_f ok]; exact bad ok
