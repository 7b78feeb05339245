/-! the walks of the class and of the reference -/
theorem ul_s {f : Nat → Int64} {k : Nat} {v : Int64} : vp_updL f k v k = v := if_pos rfl
theorem ul_n {f : Nat → Int64} {k j : Nat} {v : Int64} (h : j ≠ k) : vp_updL f k v j = f j := if_neg h
theorem i64_as (a b c : Int64) : a + b - c = a + (b - c) := by rw [Int64.sub_eq_add_neg, Int64.sub_eq_add_neg, Int64.add_assoc]
theorem nx_of {x y u : Nat → Int32} (C : Cfg x y u) : Nx (us u) (nxt x y u) := ⟨fun h hh uh => ⟨(nxt_pt hh uh).1, (nxt_pt hh uh).2.1⟩, fun g h hg hh ug uh e => nxt_inj C hg hh ug uh e⟩
theorem s_walk {x y u fo rd st : Nat → Int32} {tw : Nat → Int64} {h0 R : Nat} {sg : Nat → Nat} (C : Cfg x y u) (F : FoOK x y u fo) (O : Out (us u) (nxt x y u) (sweepL x y) h0 rd sg tw R) (hh : h0 < 120) (uh : us u h0) (hm : rd h0 = -1) {post : (Nat → Int32) → (Nat → Int32) → (Nat → Int64) → Prop}
    (k : ∀ rd2 tw2, Out (us u) (nxt x y u) (sweepL x y) (h0 + 1) rd2 (fun r => if r = R then h0 else sg r) tw2 (R + 1) → post rd2 (upd st R (nI h0)) tw2) : wp_X1_walk fo rd st tw (nI R) x y (nI h0) post := by
  have X := nx_of C
  have hRt := out_R O
  have hR : R < 1000 := by omega
  unfold wp_X1_walk
  simp only [cl hR, vin (show R < 120 by omega) (by decide), true_and, forall_eq]
  have main : ∀ n c rd2 tw2 kk, c + n = 120 → Inn (us u) (nxt x y u) (sweepL x y) h0 R rd rd2 (tw2 R) kk c → (∀ r, r < R → tw2 r = tw r) → lp_X1_walk_24 fo (upd st R (nI h0)) (nI R) x y (fun a b => post a (upd st R (nI h0)) b) (n + 1) rd2 tw2 (nI kk) (nI c) := by
    intro n
    induction n with
    | zero =>
      intro c rd2 tw2 kk hc I ht
      rw [lp_X1_walk_24.eq_2]
      have ec : c = 120 := by omega
      subst ec
      have full := cn_full I.2.2.2.2.1 kk I.2.1.1
      have hk := in_home X hR O ⟨hh, uh, hm⟩ I (by rw [full]; exact neqm1 hR)
      exact ⟨fun _ => k _ _ (in_done X O ⟨hh, uh, hm⟩ I hk ht rfl), fun h => absurd ((lt120 (by omega)).mpr (by omega)) h⟩
    | succ n ih =>
      intro c rd2 tw2 kk hc I ht
      rw [lp_X1_walk_24.eq_2]
      have hkk := I.2.1
      simp only [cl hR, cl (show kk < 1000 by omega), vin (show R < 120 by omega) (by decide), vin hkk.1 (by decide), true_and, forall_eq, nI_1]
      refine ⟨fun h => absurd ((lt120 (by omega)).mp h) (by omega), fun _ => ⟨fun hk => s_sweep hkk.1 ?_, fun hk => ?_⟩⟩
      · rw [F kk hkk.1 hkk.2]
        have st := in_step X hR hk I hm
        exact ih (c + 1) _ _ _ (by omega) (by rw [ul_s]; exact st) (fun r hr => by rw [ul_n (by omega)]; exact ht r hr)
      · exact k _ _ (in_done X O ⟨hh, uh, hm⟩ I (in_home X hR O ⟨hh, uh, hm⟩ I hk) ht rfl)
  exact ⟨121, main 120 0 rd (vp_updL tw R 0) h0 (by omega) (by rw [ul_s]; exact in_0 O hh uh hm) (fun r hr => ul_n (by omega))⟩
theorem out_0 {U : Nat → Prop} {N : Nat → Nat} {sw : Nat → Int64} {rd : Nat → Int32} {sg : Nat → Nat} {tw : Nat → Int64} (X : Nx U N) (h : ∀ i, i < 120 → rd i = -1) : Out U N sw 0 rd sg tw 0 :=
  ⟨fun i hi => Or.inl (h i hi), fun i hi => absurd hi (Nat.not_lt_zero i), fun i hi e => absurd (h i hi) e, fun i hi ui e => absurd (h _ (X.1 i hi ui).1) e, fun r hr => absurd hr (Nat.not_lt_zero r), fun r r' _ hr => absurd hr (Nat.not_lt_zero r'), fun P _ a b ha _ e => absurd (h a ha) e, fun r hr => absurd hr (Nat.not_lt_zero r)⟩
theorem out_skip {U : Nat → Prop} {N : Nat → Nat} {sw : Nat → Int64} {t : Nat} {rd : Nat → Int32} {sg : Nat → Nat} {tw : Nat → Int64} {R : Nat} (O : Out U N sw t rd sg tw R) (h : U t → rd t ≠ -1) : Out U N sw (t + 1) rd sg tw R := by
  obtain ⟨o1, o2, o3, o4, o5, o6, o7, o8⟩ := O
  refine ⟨o1, fun i hi ui => ?_, o3, o4, fun r hr => ?_, o6, o7, o8⟩
  · by_cases q : i = t
    · rw [q] at ui ⊢; exact h ui
    · exact o2 i (by omega) ui
  · obtain ⟨p1, p2⟩ := o5 r hr
    exact ⟨by omega, p2⟩
theorem s_walkRounds {x y u fo rd st : Nat → Int32} {tw : Nat → Int64} {rn : Int32} (C : Cfg x y u) (F : FoOK x y u fo) {post : (Nat → Int32) → (Nat → Int32) → (Nat → Int64) → Int32 → Prop}
    (k : ∀ rd2 st2 tw2 R sg, Out (us u) (nxt x y u) (sweepL x y) 120 rd2 sg tw2 R → (∀ r, r < R → st2 r = nI (sg r)) → post rd2 st2 tw2 (nI R)) : wp_X1_walkRounds fo rd st tw rn x y u post := by
  have X := nx_of C
  intro rd1 h1
  have main : ∀ n t rd2 st2 tw2 R sg, t + n = 120 → Out (us u) (nxt x y u) (sweepL x y) t rd2 sg tw2 R → (∀ r, r < R → st2 r = nI (sg r)) → lp_X1_walkRounds_15 fo x y u (fun a b c d => post a b c d) (n + 1) rd2 st2 tw2 (nI R) (nI t) := by
    intro n
    induction n with
    | zero =>
      intro t rd2 st2 tw2 R sg ht O hs
      rw [lp_X1_walkRounds_15.eq_2]
      have et : t = 120 := by omega
      subst et
      exact ⟨fun _ => k _ _ _ _ _ O hs, fun h => absurd ((lt120 (by omega)).mpr (by omega)) h⟩
    | succ n ih =>
      intro t rd2 st2 tw2 R sg ht O hs
      rw [lp_X1_walkRounds_15.eq_2]
      simp only [jn4, shr_half (show t < 120 by omega), cl (show t < 1000 by omega), cl (show t / 2 < 1000 by omega), vin (show t < 120 by omega) (by decide), vin (show t / 2 < 60 by omega) (by decide), true_and, nI_1]
      refine ⟨fun h => absurd ((lt120 (by omega)).mp h) (by omega), fun _ => ⟨fun h => ih (t + 1) _ _ _ _ _ (by omega) (out_skip O fun q => absurd h q) hs, fun h => ⟨fun hm => s_walk C F O (by omega) h hm fun rd3 tw3 O3 => ih (t + 1) _ _ _ _ _ (by omega) O3 fun r hr => ?_, fun hm => ih (t + 1) _ _ _ _ _ (by omega) (out_skip O fun _ => hm) hs⟩⟩⟩
      by_cases q : r = R
      · rw [q, pk_us, if_pos rfl]
      · rw [pk_un q, if_neg q]; exact hs r (by omega)
  exact ⟨121, main 120 0 rd1 st tw 0 (fun _ => 0) (by omega) (out_0 X h1) fun r hr => absurd hr (Nat.not_lt_zero r)⟩
/-! the reference's walk -/
theorem m_makeRound {x y u mxs mys mth mnx mrd mfi : Nat → Int32} {mar : Nat → Int64} {h0 R : Nat} {sg : Nat → Nat} (C : Cfg x y u) (G : Ag x y u mxs mys mth) (F : FoOK x y u mnx) (O : Out (us u) (nxt x y u) (sweepL x y) h0 mrd sg mar R) (hh : h0 < 120) (uh : us u h0) (hm : mrd h0 = -1) {post : Int32 → (Nat → Int32) → (Nat → Int32) → (Nat → Int64) → Prop}
    (k : ∀ rd2 tw2, Out (us u) (nxt x y u) (sweepL x y) (h0 + 1) rd2 (fun r => if r = R then h0 else sg r) tw2 (R + 1) → post (nI (R + 1)) rd2 (upd mfi R (nI h0)) tw2) : wp_X4_makeRound mxs mys mnx (nI R) mrd mfi mar (nI h0) post := by
  have X := nx_of C
  have hRt := out_R O
  have hR : R < 1000 := by omega
  unfold wp_X4_makeRound
  simp only [cl hR, vin (show R < 120 by omega) (by decide), true_and, forall_eq, nI_1]
  have main : ∀ n c rd2 tw2 kk (v3 : Int32), c + n = 120 → Inn (us u) (nxt x y u) (sweepL x y) h0 R mrd rd2 (tw2 R) kk c → (∀ r, r < R → tw2 r = mar r) → (v3 = 0 → kk = h0 ∧ rd2 h0 = nI R) → (¬ v3 = 0 → rd2 kk = -1) → lp_X4_makeRound_24 mxs mys mnx (nI R) (upd mfi R (nI h0)) (nI h0) (fun a b => post (nI (R + 1)) a (upd mfi R (nI h0)) b) (n + 1) rd2 tw2 (nI kk) v3 := by
    intro n
    induction n with
    | zero =>
      intro c rd2 tw2 kk v3 hc I ht w0 w1
      rw [lp_X4_makeRound_24.eq_2]
      refine ⟨fun h => k _ _ (in_done X O ⟨hh, uh, hm⟩ I (w0 h) ht rfl), fun h => ?_⟩
      have full := cn_full (by rw [I.2.2.2.2.1]; omega) kk I.2.1.1
      rw [w1 h] at full
      exact absurd full.symm (neqm1 hR)
    | succ n ih =>
      intro c rd2 tw2 kk v3 hc I ht w0 w1
      rw [lp_X4_makeRound_24.eq_2]
      refine ⟨fun h => k _ _ (in_done X O ⟨hh, uh, hm⟩ I (w0 h) ht rfl), fun h => ?_⟩
      have hkk := I.2.1
      have hb := bk_lt hkk.1
      have hn := X.1 kk hkk.1 hkk.2
      have s1 := in_step X hR (w1 h) I hm
      simp only [cl hR, cl (show kk < 1000 by omega), vin (show R < 120 by omega) (by decide), vin hkk.1 (by decide), true_and, forall_eq]
      refine m_back hkk.1 ?_
      simp only [cl (show bk kk < 1000 by omega), vin hb (by decide), true_and]
      refine m_back hkk.1 ?_
      simp only [cl (show bk kk < 1000 by omega), vin hb (by decide), true_and]
      rw [F kk hkk.1 hkk.2, (G.2 kk hkk.1 hkk.2).1, (G.2 kk hkk.1 hkk.2).2, (G.2 _ hb (us_bk hkk.2)).1, (G.2 _ hb (us_bk hkk.2)).2, i64_as]
      have lab0 : upd rd2 kk (nI R) h0 = nI R := by
        rcases s1.2.2.2.2.2 with ⟨-, z⟩ | ⟨l, -, -, -, e, -⟩
        · exact absurd (by rw [pk_us]) (z kk hkk.1)
        · exact e
      have go : ∀ v3 : Int32, (v3 = 0 → nxt x y u kk = h0) → (¬ v3 = 0 → nxt x y u kk ≠ h0) → lp_X4_makeRound_24 mxs mys mnx (nI R) (upd mfi R (nI h0)) (nI h0) (fun a b => post (nI (R + 1)) a (upd mfi R (nI h0)) b) (n + 1) (upd rd2 kk (nI R)) (vp_updL tw2 R (tw2 R + (sweepL x y kk))) (nI (nxt x y u kk)) v3 := by
        intro v3 e0 e1
        refine ih (c + 1) _ _ _ v3 (by omega) (by rw [ul_s]; exact s1) (fun r hr => by rw [ul_n (by omega)]; exact ht r hr) (fun z => ⟨e0 z, lab0⟩) (fun z => ?_)
        by_cases q : upd rd2 kk (nI R) (nxt x y u kk) = -1
        · exact q
        · exact absurd (in_home X hR O ⟨hh, uh, hm⟩ s1 q).1 (e1 z)
      exact ⟨fun e => go 0 (fun _ => nI_inj (by omega) (by omega) e) (fun z => absurd rfl z), fun e => go 1 (fun z => absurd z (by decide)) (fun _ z => e (by rw [z]))⟩
  exact ⟨121, main 120 0 mrd (vp_updL mar R 0) h0 1 (by omega) (by rw [ul_s]; exact in_0 O hh uh hm) (fun r hr => ul_n (by omega)) (fun z => absurd z (by decide)) (fun _ => hm)⟩
theorem m_walks {x y u mxs mys mth mnx mpo mrd mfi mfa mnu : Nat → Int32} {mar : Nat → Int64} {mcu mpn mfn : Int32} (C : Cfg x y u) (G : Ag x y u mxs mys mth) (F : FoOK x y u mnx) (h1 : ∀ i, i < 120 → mrd i = -1) {post : Int32 → (Nat → Int32) → (Nat → Int32) → (Nat → Int64) → Prop}
    (k : ∀ rd2 st2 tw2 R sg, Out (us u) (nxt x y u) (sweepL x y) 120 rd2 sg tw2 R → (∀ r, r < R → st2 r = nI (sg r)) → post (nI R) rd2 st2 tw2) : ∃ n, lp_X4_make_117 mth mxs mys mcu mnx mpo mpn mfn mfa mnu post n 0 mrd mfi mar 0 := by
  have X := nx_of C
  have main : ∀ n t rd2 st2 tw2 R sg, t + n = 120 → Out (us u) (nxt x y u) (sweepL x y) t rd2 sg tw2 R → (∀ r, r < R → st2 r = nI (sg r)) → lp_X4_make_117 mth mxs mys mcu mnx mpo mpn mfn mfa mnu post (n + 1) (nI R) rd2 st2 tw2 (nI t) := by
    intro n
    induction n with
    | zero =>
      intro t rd2 st2 tw2 R sg ht O hs
      rw [lp_X4_make_117.eq_2]
      have et : t = 120 := by omega
      subst et
      exact ⟨fun _ => k _ _ _ _ _ O hs, fun h => absurd ((lt120 (by omega)).mpr (by omega)) h⟩
    | succ n ih =>
      intro t rd2 st2 tw2 R sg ht O hs
      rw [lp_X4_make_117.eq_2]
      have hRt := out_R O
      simp only [jn4, div_half (show t < 120 by omega), cl (show t < 1000 by omega), cl (show t / 2 < 1000 by omega), vin (show t < 120 by omega) (by decide), vin (show t / 2 < 60 by omega) (by decide), true_and, nI_1]
      have ag : mth (t / 2) = 0 ↔ u (t / 2) = 0 := G.1 _ (by omega)
      refine ⟨fun h => absurd ((lt120 (by omega)).mp h) (by omega), fun _ => ⟨fun h => ih (t + 1) _ _ _ _ _ (by omega) (out_skip O fun q => absurd (ag.mp h) q) hs, fun h => ⟨fun hm => ih (t + 1) _ _ _ _ _ (by omega) (out_skip O fun _ e => ?_) hs, fun hm => m_makeRound C G F O (by omega) (fun q => h (ag.mpr q)) ?_ fun rd3 tw3 O3 => ih (t + 1) _ _ _ _ _ (by omega) O3 fun r hr => ?_⟩⟩⟩
      · rw [e] at hm; exact absurd hm (by decide)
      · rcases O.1 t (by omega) with q | ⟨-, r, hr, q⟩
        · exact q
        · rw [q] at hm; exact absurd (nI_pos' (show r < 2 ^ 31 by omega)) hm
      · by_cases q : r = R
        · rw [q, pk_us, if_pos rfl]
        · rw [pk_un q, if_neg q]; exact hs r (by omega)
  exact ⟨121, main 120 0 mrd mfi mar 0 (fun _ => 0) (by omega) (out_0 X h1) fun r hr => absurd hr (Nat.not_lt_zero r)⟩
/-! the rounds are the same -/
theorem out_lab {U : Nat → Prop} {N : Nat → Nat} {sw : Nat → Int64} {rd : Nat → Int32} {sg : Nat → Nat} {tw : Nat → Int64} {R : Nat} (O : Out U N sw 120 rd sg tw R) {h : Nat} (hh : h < 120) (uh : U h) : ∃ r, r < R ∧ rd h = nI r := by
  rcases O.1 h hh with q | q
  · exact absurd q (O.2.1 h hh uh)
  · exact q.2
theorem out_uniq {U : Nat → Prop} {N : Nat → Nat} {sw : Nat → Int64} {rd rd' : Nat → Int32} {sg sg' : Nat → Nat} {tw tw' : Nat → Int64} {R R' : Nat} (X : Nx U N) (O : Out U N sw 120 rd sg tw R) (O' : Out U N sw 120 rd' sg' tw' R') :
    R = R' ∧ (∀ h, h < 120 → U h → rd h = rd' h) ∧ (∀ r, r < R → sg r = sg' r) ∧ (∀ r, r < R → tw r = tw' r) := by
  have key : ∀ {rd : Nat → Int32} {sg : Nat → Nat} {tw : Nat → Int64} {R : Nat}, Out U N sw 120 rd sg tw R → R ≤ 120 ∧ (∀ h, h < 120 → U h → rd h = nI (rd h).toNatClampNeg ∧ (rd h).toNatClampNeg < R) ∧ (∀ h, h < 120 → U h → ∀ k, 0 ≤ k → k < (rd h).toNatClampNeg → ∃ t, t < h ∧ U t ∧ (rd t).toNatClampNeg = k) ∧ (∀ k, 0 ≤ k → k < R → ∃ h, h < 120 ∧ U h ∧ (rd h).toNatClampNeg = k) := by
    intro rd sg tw R O
    have hR := out_R O
    have a1 : ∀ h, h < 120 → U h → rd h = nI (rd h).toNatClampNeg ∧ (rd h).toNatClampNeg < R := by
      intro h hh uh
      obtain ⟨r, hr, e⟩ := out_lab O hh uh
      rw [e, cl (by omega)]; exact ⟨rfl, hr⟩
    refine ⟨hR, a1, fun h hh uh k _ hk => ?_, fun k _ hk => ?_⟩
    · obtain ⟨e, l⟩ := a1 h hh uh
      obtain ⟨p1, p2, p3, p4⟩ := O.2.2.2.2.1 k (by omega)
      have q := O.2.2.2.2.2.1 k _ hk l
      have q2 := (O.2.2.2.2.1 _ l).2.2.2 h hh e
      exact ⟨sg k, by omega, p2, by rw [p3, cl (by omega)]⟩
    · obtain ⟨p1, p2, p3, p4⟩ := O.2.2.2.2.1 k hk
      exact ⟨sg k, p1, p2, by rw [p3, cl (by omega)]⟩
  have ker1 : ∀ {rd rd' : Nat → Int32} {sg sg' : Nat → Nat} {tw tw' : Nat → Int64} {R R' : Nat}, Out U N sw 120 rd sg tw R → Out U N sw 120 rd' sg' tw' R' → ∀ s t, s < 120 → t < 120 → U s → U t → rd s = rd t → rd' s = rd' t := by
    intro rd rd' sg sg' tw tw' R R' O O' s t hs ht us ut e
    exact ((O.2.2.2.2.2.2.1 (fun b => rd' s = rd' b) (fun a ha ua => by dsimp only; rw [O'.2.2.1 a ha (O'.2.1 a ha ua)]) s t hs ht (O.2.1 s hs us) e).mp rfl)
  obtain ⟨r1, a1, a2, a3⟩ := key O
  obtain ⟨r2, b1, b2, b3⟩ := key O'
  have same : ∀ h, h < 120 → U h → (rd h).toNatClampNeg = (rd' h).toNatClampNeg := by
    refine rg_uniq (b := 0) a2 b2 (fun s t hs ht us ut => ⟨fun e => ?_, fun e => ?_⟩) (fun h _ _ q => by omega)
    · rw [ker1 O O' s t hs ht us ut (by rw [(a1 s hs us).1, (a1 t ht ut).1, e])]
    · rw [ker1 O' O s t hs ht us ut (by rw [(b1 s hs us).1, (b1 t ht ut).1, e])]
  have eR : R = R' := rg_cnt (b := 0) (fun h hh uh => (a1 h hh uh).2) a3 (fun h hh uh => (b1 h hh uh).2) b3 (by omega) (by omega) same
  have eL : ∀ h, h < 120 → U h → rd h = rd' h := fun h hh uh => by rw [(a1 h hh uh).1, same h hh uh, ← (b1 h hh uh).1]
  have eA : ∀ r, r < R → ∀ h, h < 120 → (rd h = nI r ↔ rd' h = nI r) := by
    intro r hr h hh
    by_cases uh : U h
    · rw [eL h hh uh]
    · have n1 : rd h = -1 := (O.1 h hh).elim id fun q => absurd q.1 uh
      have n2 : rd' h = -1 := (O'.1 h hh).elim id fun q => absurd q.1 uh
      rw [n1, n2]
  refine ⟨eR, eL, fun r hr => ?_, fun r hr => ?_⟩
  · obtain ⟨p1, p2, p3, p4⟩ := O.2.2.2.2.1 r hr
    obtain ⟨q1, q2, q3, q4⟩ := O'.2.2.2.2.1 r (by omega)
    have := p4 _ q1 ((eA r hr _ q1).mpr q3)
    have := q4 _ p1 ((eA r hr _ p1).mp p3)
    omega
  · rw [O.2.2.2.2.2.2.2 r hr, O'.2.2.2.2.2.2.2 r (by omega)]
    exact suL_c fun h hh => pifL_c (eA r hr h hh)
