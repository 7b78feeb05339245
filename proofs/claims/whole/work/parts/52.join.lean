/-! pieces of the class -/
theorem ltN {a b : Nat} (ha : a < 1000) (hb : b < 1000) : nI a < nI b ↔ a < b := by
  rw [Int32.lt_iff_toInt_lt, nI_toInt (show a < 2 ^ 31 by omega), nI_toInt (show b < 2 ^ 31 by omega)]; omega
theorem leN {a b : Nat} (ha : a < 1000) (hb : b < 1000) : nI a ≤ nI b ↔ a ≤ b := by
  rw [Int32.le_iff_toInt_le, nI_toInt (show a < 2 ^ 31 by omega), nI_toInt (show b < 2 ^ 31 by omega)]; omega
theorem s_joinRoots {ro : Nat → Int32} {a b : Nat} (ha : a < 60) (hb : b < 60) {post : (Nat → Int32) → Prop} (k0 : a = b → post ro) (k1 : a ≠ b → ∀ ro2 : Nat → Int32, (∀ s, s < 60 → (ro s = nI (if a < b then b else a) → ro2 s = nI (if b < a then b else a)) ∧ (ro s ≠ nI (if a < b then b else a) → ro2 s = ro s)) → post ro2) : wp_X1_joinRoots ro (nI a) (nI b) post := by
  unfold wp_X1_joinRoots
  refine ⟨fun e => k0 (nI_inj (by omega) (by omega) e), fun e => ?_⟩
  have e1 : (if nI a < nI b then nI b else nI a) = nI (if a < b then b else a) := by
    by_cases q : a < b
    · rw [if_pos q, if_pos ((ltN (by omega) (by omega)).mpr q)]
    · rw [if_neg q, if_neg fun z => q ((ltN (by omega) (by omega)).mp z)]
  have e2 : (if nI b < nI a then nI b else nI a) = nI (if b < a then b else a) := by
    by_cases q : b < a
    · rw [if_pos q, if_pos ((ltN (by omega) (by omega)).mpr q)]
    · rw [if_neg q, if_neg fun z => q ((ltN (by omega) (by omega)).mp z)]
  have main : ∀ n t (ro2 : Nat → Int32), t + n = 60 → (∀ s, s < 60 → (t ≤ s → ro2 s = ro s) ∧ (s < t → (ro s = nI (if a < b then b else a) → ro2 s = nI (if b < a then b else a)) ∧ (ro s ≠ nI (if a < b then b else a) → ro2 s = ro s))) → lp_X1_joinRoots_8 (nI a) (nI b) (fun w => post w) (n + 1) ro2 (nI t) := by
    intro n
    induction n with
    | zero =>
      intro t ro2 ht hj
      rw [lp_X1_joinRoots_8.eq_2]
      exact ⟨fun _ => k1 (fun q => e (by rw [q])) ro2 fun s hs => (hj s hs).2 (by omega), fun h => absurd ((lt60 (by omega)).mpr (by omega)) h⟩
    | succ n ih =>
      intro t ro2 ht hj
      rw [lp_X1_joinRoots_8.eq_2]
      simp only [e1, e2, jn1, cl (show t < 1000 by omega), vin (show t < 60 by omega) (by decide), true_and, forall_eq, nI_1]
      have et := (hj t (by omega)).1 (Nat.le_refl t)
      refine ⟨fun h => absurd ((lt60 (by omega)).mp h) (by omega), fun _ => ⟨fun h => ih (t + 1) _ (by omega) fun s hs => ⟨fun q => ?_, fun q => ?_⟩, fun h => ih (t + 1) _ (by omega) fun s hs => ⟨fun q => (hj s hs).1 (by omega), fun q => ?_⟩⟩⟩
      · rw [pk_un (by omega)]; exact (hj s hs).1 (by omega)
      · by_cases w : s = t
        · rw [w, pk_us]
          exact ⟨fun _ => rfl, fun z => absurd (by rw [← et]; exact h) z⟩
        · rw [pk_un w]; exact (hj s hs).2 (by omega)
      · by_cases w : s = t
        · rw [w]
          exact ⟨fun z => absurd (by rw [et]; exact z) h, fun _ => et⟩
        · exact (hj s hs).2 (by omega)
  exact ⟨61, main 60 0 ro (by omega) fun s hs => ⟨fun _ => rfl, fun q => absurd q (Nat.not_lt_zero s)⟩⟩
def Jn (x y u ro : Nat → Int32) : Prop := (∀ s, s < 60 → ∃ m, m ≤ s ∧ ro s = nI m ∧ ro m = nI m ∧ (¬ u s = 0 → ¬ u m = 0)) ∧ (∀ P, cl3 x y u P → ∀ s t, s < 60 → t < 60 → ¬ u s = 0 → ¬ u t = 0 → ro s = ro t → (P (2 * s) ↔ P (2 * t)))
theorem cl3_ev {x y u : Nat → Int32} {P : Nat → Prop} (hP : cl3 x y u P) {h : Nat} (hh : h < 120) (uh : us u h) : P h ↔ P (2 * (h / 2)) := by
  rcases half_or h with e | e
  · rw [← e]
  · have e2 : 2 * (h / 2) < 120 := by omega
    have u2 : us u (2 * (h / 2)) := by unfold us; rw [show 2 * (h / 2) / 2 = h / 2 by omega]; exact uh
    exact hP h _ hh e2 uh u2 (Or.inr e)
theorem us_ev {u : Nat → Int32} {s : Nat} : us u (2 * s) ↔ ¬ u s = 0 := by unfold us; rw [show 2 * s / 2 = s by omega]
theorem s_joinPieces {x y u co ro : Nat → Int32} (O : CoOK x y u co) {post : (Nat → Int32) → Prop} (k : ∀ ro2, Jn x y u ro2 → (∀ h g, h < 120 → g < 120 → us u h → us u g → sameB x y h g → ro2 (h / 2) = ro2 (g / 2)) → post ro2) : wp_X1_joinPieces co ro u post := by
  have main2 : ∀ n t (ro2 : Nat → Int32), t + n = 120 → Jn x y u ro2 → (∀ h g, h < t → g < 120 → us u h → co h = nI g → ro2 (h / 2) = ro2 (g / 2)) → lp_X1_joinPieces_23 co u (fun w => post w) (n + 1) ro2 (nI t) := by
    intro n
    induction n with
    | zero =>
      intro t ro2 ht J J3
      rw [lp_X1_joinPieces_23.eq_2]
      have et : t = 120 := by omega
      subst et
      refine ⟨fun _ => k ro2 J fun h g hh hg uh ug e => ?_, fun h => absurd ((lt120 (by omega)).mpr (by omega)) h⟩
      have ec := (co_iff O hh hg ug).mpr ⟨uh, e⟩
      obtain ⟨c, hc, e1, -⟩ := co_in O hg ug
      rw [J3 h c hh hc uh (ec.trans e1), J3 g c hg hc ug e1]
    | succ n ih =>
      intro t ro2 ht J J3
      rw [lp_X1_joinPieces_23.eq_2]
      simp only [jn1, shr_half (show t < 120 by omega), cl (show t < 1000 by omega), cl (show t / 2 < 1000 by omega), vin (show t < 120 by omega) (by decide), vin (show t / 2 < 60 by omega) (by decide), true_and, nI_1]
      refine ⟨fun h => absurd ((lt120 (by omega)).mp h) (by omega), fun _ => ⟨fun h => ih (t + 1) ro2 (by omega) J fun h2 g hh hg uh e => ?_, fun h => ?_⟩⟩
      · by_cases q : h2 = t
        · rw [q] at uh; exact absurd h uh
        · exact J3 h2 g (by omega) hg uh e
      obtain ⟨g, hg, eg, ug, sg⟩ := co_in O (show t < 120 by omega) h
      rw [eg]
      simp only [shr_half hg, cl (show g / 2 < 1000 by omega), vin (show g / 2 < 60 by omega) (by decide), true_and]
      obtain ⟨j1, j2⟩ := J
      obtain ⟨a, la, ea, fa, ua⟩ := j1 (t / 2) (by omega)
      obtain ⟨b, lb, eb, fb, ub⟩ := j1 (g / 2) (by omega)
      have ua := ua h
      have ub := ub ug
      rw [ea, eb]
      have tg : ∀ P, cl3 x y u P → (P (2 * (t / 2)) ↔ P (2 * (g / 2))) := fun P hP => (cl3_ev hP (by omega) h).symm.trans ((hP t g (by omega) hg h ug (Or.inl (sb_sym sg))).trans (cl3_ev hP hg ug))
      refine s_joinRoots (by omega) (by omega) (fun e => ih (t + 1) ro2 (by omega) ⟨j1, j2⟩ fun h2 g2 hh hg2 uh e2 => ?_) (fun e ro3 h3 => ?_)
      · by_cases q : h2 = t
        · subst q
          rw [eg] at e2
          have := nI_inj (by omega) (by omega) e2
          rw [← this, ea, eb, e]
        · exact J3 h2 g2 (by omega) hg2 uh e2
      · -- the two classes become one
        generalize hM : (if a < b then b else a) = M at h3
        generalize hm : (if b < a then b else a) = m at h3
        have hMm : (M = a ∧ m = b ∨ M = b ∧ m = a) ∧ m < M := by
          rw [← hM, ← hm]
          by_cases q : a < b
          · rw [if_pos q, if_neg (by omega)]; exact ⟨Or.inr ⟨rfl, rfl⟩, q⟩
          · rw [if_neg q, if_pos (by omega)]; exact ⟨Or.inl ⟨rfl, rfl⟩, by omega⟩
        have fM : ro2 M = nI M := by rcases hMm.1 with q | q <;> rw [q.1] <;> assumption
        have fm : ro2 m = nI m := by rcases hMm.1 with q | q <;> rw [q.2] <;> assumption
        have um : ¬ u m = 0 := by rcases hMm.1 with q | q <;> rw [q.2] <;> assumption
        have hM60 : M < 60 := by omega
        have m3 : ro3 m = nI m := by rw [(h3 m (by omega)).2 (by rw [fm]; intro z; have := nI_inj (by omega) (by omega) z; omega), fm]
        have val : ∀ s, s < 60 → ∃ r, r ≤ s ∧ ro3 s = nI r ∧ ro3 r = nI r ∧ (¬ u s = 0 → ¬ u r = 0) := by
          intro s hs
          obtain ⟨r, lr, er, fr, ur⟩ := j1 s hs
          by_cases q : ro2 s = nI M
          · have : r = M := by rw [er] at q; exact nI_inj (by omega) (by omega) q
            exact ⟨m, by omega, (h3 s hs).1 q, m3, fun _ => um⟩
          · have nr : r ≠ M := fun z => q (by rw [er, z])
            exact ⟨r, lr, by rw [(h3 s hs).2 q, er], by rw [(h3 r (by omega)).2 (by rw [fr]; intro z; exact nr (nI_inj (by omega) (by omega) z)), fr], ur⟩
        have keep : ∀ s t2, s < 60 → t2 < 60 → ro2 s = ro2 t2 → ro3 s = ro3 t2 := by
          intro s t2 hs ht2 e2
          by_cases q : ro2 s = nI M
          · rw [(h3 s hs).1 q, (h3 t2 ht2).1 (by rw [← e2]; exact q)]
          · rw [(h3 s hs).2 q, (h3 t2 ht2).2 (by rw [← e2]; exact q), e2]
        have both : ro3 a = ro3 b := by
          rcases hMm.1 with q | q
          · rw [(h3 a (by omega)).1 (by rw [← q.1]; exact fM), ← q.2, m3]
          · rw [(h3 b (by omega)).1 (by rw [← q.1]; exact fM), ← q.2, m3]
        refine ih (t + 1) ro3 (by omega) ⟨val, fun P hP s t2 hs ht2 us1 us2 e2 => ?_⟩ fun h2 g2 hh hg2 uh e2 => ?_
        · -- P of the class of M and of m
          have pm : ∀ s, s < 60 → ¬ u s = 0 → ro2 s = nI a ∨ ro2 s = nI b → (P (2 * s) ↔ P (2 * (t / 2))) := by
            intro s hs us1 q
            rcases q with q | q
            · exact j2 P hP s (t / 2) hs (by omega) us1 h (q.trans ea.symm)
            · exact (j2 P hP s (g / 2) hs (by omega) us1 ug (q.trans eb.symm)).trans (tg P hP).symm
          have orM : ∀ s, ro2 s = nI M → ro2 s = nI a ∨ ro2 s = nI b := fun s q => by
            rcases hMm.1 with w | w
            · rw [w.1] at q; exact Or.inl q
            · rw [w.1] at q; exact Or.inr q
          have orm : ∀ s, ro2 s = nI m → ro2 s = nI a ∨ ro2 s = nI b := fun s q => by
            rcases hMm.1 with w | w
            · rw [w.2] at q; exact Or.inr q
            · rw [w.2] at q; exact Or.inl q
          by_cases q : ro2 s = nI M
          · by_cases q2 : ro2 t2 = nI M
            · exact j2 P hP s t2 hs ht2 us1 us2 (q.trans q2.symm)
            · rw [(h3 s hs).1 q, (h3 t2 ht2).2 q2] at e2
              exact (pm s hs us1 (orM s q)).trans (pm t2 ht2 us2 (orm t2 e2.symm)).symm
          · by_cases q2 : ro2 t2 = nI M
            · rw [(h3 s hs).2 q, (h3 t2 ht2).1 q2] at e2
              exact (pm s hs us1 (orm s e2)).trans (pm t2 ht2 us2 (orM t2 q2)).symm
            · rw [(h3 s hs).2 q, (h3 t2 ht2).2 q2] at e2
              exact j2 P hP s t2 hs ht2 us1 us2 e2
        · by_cases q : h2 = t
          · subst q
            rw [eg] at e2
            have := nI_inj (by omega) (by omega) e2
            rw [← this, keep (h2 / 2) a (by omega) (by omega) (by rw [ea, fa]), keep (g / 2) b (by omega) (by omega) (by rw [eb, fb])]
            exact both
          · exact keep _ _ (by omega) (by omega) (J3 h2 g2 (by omega) hg2 uh e2)
  have main1 : ∀ n t (ro2 : Nat → Int32), t + n = 60 → (∀ s, s < t → ro2 s = nI s) → lp_X1_joinPieces_2 co u (fun w => (∃ n8 : Nat, lp_X1_joinPieces_23 co u (fun w => post w) n8 w 0)) (n + 1) ro2 (nI t) := by
    intro n
    induction n with
    | zero =>
      intro t ro2 ht hj
      rw [lp_X1_joinPieces_2.eq_2]
      refine ⟨fun _ => ⟨121, main2 120 0 ro2 (by omega) ⟨fun s hs => ⟨s, Nat.le_refl s, hj s (by omega), hj s (by omega), id⟩, fun P hP s t2 hs ht2 _ _ e => ?_⟩ fun h g hh => absurd hh (Nat.not_lt_zero h)⟩, fun h => absurd ((lt60 (by omega)).mpr (by omega)) h⟩
      rw [hj s (by omega), hj t2 (by omega)] at e
      rw [nI_inj (by omega) (by omega) e]
    | succ n ih =>
      intro t ro2 ht hj
      rw [lp_X1_joinPieces_2.eq_2]
      simp only [cl (show t < 1000 by omega), vin (show t < 60 by omega) (by decide), true_and, forall_eq, nI_1]
      refine ⟨fun h => absurd ((lt60 (by omega)).mp h) (by omega), fun _ => ih (t + 1) _ (by omega) fun s hs => ?_⟩
      by_cases q : s = t
      · rw [q, pk_us]
      · rw [pk_un q]; exact hj s (by omega)
  exact ⟨61, main1 60 0 ro (by omega) fun s hs => absurd hs (Nat.not_lt_zero s)⟩
def Nm (u ro po : Nat → Int32) (t : Nat) (sg : Nat → Nat) (n : Nat) : Prop :=
  (∀ s, s < t → (u s = 0 → po s = -1) ∧ (¬ u s = 0 → ∃ p, p < n ∧ po s = nI p)) ∧
  (∀ s s', s < t → s' < t → ¬ u s = 0 → ¬ u s' = 0 → (po s = po s' ↔ ro s = ro s')) ∧
  (∀ p, p < n → sg p < t ∧ ¬ u (sg p) = 0 ∧ po (sg p) = nI p ∧ ∀ s, s < t → po s = nI p → sg p ≤ s) ∧
  (∀ p p', p < p' → p' < n → sg p < sg p')
theorem s_numberPieces {x y u ro po : Nat → Int32} {pn : Int32} (J : Jn x y u ro) (J3 : ∀ h g, h < 120 → g < 120 → us u h → us u g → sameB x y h g → ro (h / 2) = ro (g / 2)) {post : (Nat → Int32) → Int32 → Prop} (k : ∀ po2 n sg, Pc x y u 120 (fun h => po2 (h / 2)) sg n → post po2 (nI n)) : wp_X1_numberPieces ro po pn u post := by
  obtain ⟨j1, j2⟩ := J
  have main : ∀ n t (po2 : Nat → Int32) c sg, t + n = 60 → Nm u ro po2 t sg c → lp_X1_numberPieces_7 ro u (fun a b => post a b) (n + 1) po2 (nI c) (nI t) := by
    intro n
    induction n with
    | zero =>
      intro t po2 c sg ht N
      rw [lp_X1_numberPieces_7.eq_2]
      have et : t = 60 := by omega
      subst et
      refine ⟨fun _ => k po2 c (fun p => 2 * sg p) ?_, fun h => absurd ((lt60 (by omega)).mpr (by omega)) h⟩
      obtain ⟨n1, n2, n3, n4⟩ := N
      refine ⟨fun h hh => ?_, fun h hh uh => ?_, fun g h hg hh ug uh tt e => ?_, fun p hp => ?_, fun p p' hp hp' => ?_, fun P hP a b ha hb e1 e2 => ?_⟩
      · by_cases q : u (h / 2) = 0
        · exact Or.inl ((n1 (h / 2) (by omega)).1 q)
        · exact Or.inr ⟨q, (n1 (h / 2) (by omega)).2 q⟩
      · obtain ⟨p, hp, e⟩ := (n1 (h / 2) (by omega)).2 uh
        show po2 (h / 2) ≠ -1
        have := sg_R (fun r hr => (n3 r hr).1) n4
        rw [e]; exact neqm1 (by omega)
      · show po2 (h / 2) = po2 (g / 2)
        rcases tt with q | q
        · exact (n2 _ _ (by omega) (by omega) uh ug).mpr (J3 g h hg hh ug uh q).symm
        · rw [q, bk_half]
      · obtain ⟨p1, p2, p3, p4⟩ := n3 p hp
        dsimp only
        refine ⟨by omega, us_ev.mpr p2, by rw [show 2 * sg p / 2 = sg p by omega]; exact p3, fun h hh e => ?_⟩
        have := p4 (h / 2) (by omega) e
        omega
      · have := n4 p p' hp hp'
        dsimp only
        omega
      · have ua : us u a := fun q => e1 ((n1 (a / 2) (by omega)).1 q)
        have ub : us u b := fun q => e1 (e2.trans ((n1 (b / 2) (by omega)).1 q))
        exact (cl3_ev hP ha ua).trans ((j2 P hP _ _ (by omega) (by omega) ua ub ((n2 _ _ (by omega) (by omega) ua ub).mp e2)).trans (cl3_ev hP hb ub).symm)
    | succ n ih =>
      intro t po2 c sg ht N
      rw [lp_X1_numberPieces_7.eq_2]
      have hc : c ≤ t := sg_R (fun r hr => (N.2.2.1 r hr).1) N.2.2.2
      obtain ⟨m, lm, em, fm, um⟩ := j1 t (by omega)
      rw [show (ro (nI t).toNatClampNeg) = nI m by rw [cl (by omega)]; exact em]
      simp only [jn2, jn0, cl (show t < 1000 by omega), cl (show m < 1000 by omega), vin (show t < 60 by omega) (by decide), vin (show m < 60 by omega) (by decide), true_and, forall_eq, nI_1]
      obtain ⟨n1, n2, n3, n4⟩ := N
      have old : ∀ v s, s < t → upd po2 t v s = po2 s := fun v s hs => pk_un (by omega)
      have n3' : ∀ v, (∀ p, p < c → v = nI p → sg p ≤ t) → ∀ p, p < c → sg p < t + 1 ∧ ¬ u (sg p) = 0 ∧ upd po2 t v (sg p) = nI p ∧ ∀ s, s < t + 1 → upd po2 t v s = nI p → sg p ≤ s := by
        intro v _ p hp
        obtain ⟨p1, p2, p3, p4⟩ := n3 p hp
        refine ⟨by omega, p2, by rw [old v _ p1]; exact p3, fun s hs e => ?_⟩
        by_cases q : s = t
        · omega
        · rw [old v s (by omega)] at e; exact p4 s (by omega) e
      refine ⟨fun h => absurd ((lt60 (by omega)).mp h) (by omega), fun _ => ⟨fun h => ⟨fun _ => ?_, fun q => absurd h q⟩, fun h => ⟨fun e => ?_, fun e => ⟨fun q => absurd q h, fun _ => ?_⟩⟩⟩⟩
      · refine ih (t + 1) _ c sg (by omega) ⟨fun s hs => ?_, fun s s' hs hs' us1 us2 => ?_, n3' _ fun p hp _ => by have := (n3 p hp).1; omega, n4⟩
        · by_cases q : s = t
          · rw [q, pk_us]; exact ⟨fun _ => rfl, fun z => absurd h z⟩
          · rw [old _ s (by omega)]; exact n1 s (by omega)
        · have q1 : s ≠ t := fun q => us1 (by rw [q]; exact h)
          have q2 : s' ≠ t := fun q => us2 (by rw [q]; exact h)
          rw [old _ s (by omega), old _ s' (by omega)]; exact n2 s s' (by omega) (by omega) us1 us2
      · have emt : m = t := nI_inj (by omega) (by omega) e
        have ltr : ∀ s, s < t → ro s ≠ nI t := by
          intro s hs z
          obtain ⟨r, lr, er, -⟩ := j1 s (by omega)
          rw [er] at z
          have := nI_inj (by omega) (by omega) z
          omega
        have ltp : ∀ s, s < t → po2 s ≠ nI c := by
          intro s hs z
          by_cases q : u s = 0
          · rw [(n1 s hs).1 q] at z; exact neqm1 (by omega) z.symm
          · obtain ⟨p, hp, ep⟩ := (n1 s hs).2 q
            rw [ep] at z
            have := nI_inj (by omega) (by omega) z
            omega
        refine ih (t + 1) _ (c + 1) (fun p => if p = c then t else sg p) (by omega) ⟨fun s hs => ?_, fun s s' hs hs' us1 us2 => ?_, fun p hp => ?_, fun p p' hp hp' => ?_⟩
        · by_cases q : s = t
          · rw [q, pk_us]; exact ⟨fun z => absurd z h, fun _ => ⟨c, by omega, rfl⟩⟩
          · rw [old _ s (by omega)]
            exact ⟨(n1 s (by omega)).1, fun z => by obtain ⟨p, hp, ep⟩ := (n1 s (by omega)).2 z; exact ⟨p, by omega, ep⟩⟩
        · by_cases q1 : s = t
          · by_cases q2 : s' = t
            · rw [q1, q2]; exact ⟨fun _ => rfl, fun _ => rfl⟩
            · rw [q1, pk_us, old _ s' (by omega), em, emt]
              exact ⟨fun z => absurd z.symm (ltp s' (by omega)), fun z => absurd z.symm (ltr s' (by omega))⟩
          · by_cases q2 : s' = t
            · rw [q2, pk_us, old _ s (by omega), em, emt]
              exact ⟨fun z => absurd z (ltp s (by omega)), fun z => absurd z (ltr s (by omega))⟩
            · rw [old _ s (by omega), old _ s' (by omega)]; exact n2 s s' (by omega) (by omega) us1 us2
        · dsimp only
          by_cases q : p = c
          · rw [if_pos q, q]
            refine ⟨by omega, h, by rw [pk_us], fun s hs e => ?_⟩
            by_cases w : s = t
            · omega
            · rw [old _ s (by omega)] at e; exact absurd e (ltp s (by omega))
          · rw [if_neg q]
            exact n3' _ (fun p hp z => by have := nI_inj (by omega) (by omega) z; omega) p (by omega)
        · show (if p = c then t else sg p) < (if p' = c then t else sg p')
          rw [if_neg (by omega)]
          by_cases q : p' = c
          · rw [if_pos q]; exact (n3 p (by omega)).1
          · rw [if_neg q]; exact n4 p p' hp (by omega)
      · have hmt : m < t := by
          rcases Nat.lt_or_ge m t with q | q
          · exact q
          · exact absurd (by rw [show m = t by omega]) e
        have rt : ∀ s, s < t → ¬ u s = 0 → (po2 s = po2 m ↔ ro s = ro t) := fun s hs us1 => by rw [n2 s m hs hmt us1 (um h), fm, em]
        refine ih (t + 1) _ c sg (by omega) ⟨fun s hs => ?_, fun s s' hs hs' us1 us2 => ?_, n3' _ fun p hp _ => by have := (n3 p hp).1; omega, n4⟩
        · by_cases q : s = t
          · rw [q, pk_us]; exact ⟨fun z => absurd z h, fun _ => (n1 m hmt).2 (um h)⟩
          · rw [old _ s (by omega)]; exact n1 s (by omega)
        · by_cases q1 : s = t
          · by_cases q2 : s' = t
            · rw [q1, q2]; exact ⟨fun _ => rfl, fun _ => rfl⟩
            · rw [q1, pk_us, old _ s' (by omega)]
              have := rt s' (by omega) us2
              exact ⟨fun z => (this.mp z.symm).symm, fun z => (this.mpr z.symm).symm⟩
          · by_cases q2 : s' = t
            · rw [q2, pk_us, old _ s (by omega)]
              exact rt s (by omega) us1
            · rw [old _ s (by omega), old _ s' (by omega)]; exact n2 s s' (by omega) (by omega) us1 us2
  exact ⟨61, main 60 0 po 0 (fun _ => 0) (by omega) ⟨fun s hs => absurd hs (Nat.not_lt_zero s), fun s _ hs => absurd hs (Nat.not_lt_zero s), fun p hp => absurd hp (Nat.not_lt_zero p), fun _ p hp hp' => absurd hp' (Nat.not_lt_zero p)⟩⟩
/-! the reference: next halves and pieces -/
theorem m_init {mth mxs mys mnx mfi mfa mnu mpo mrd : Nat → Int32} {mar : Nat → Int64} {mcu mpn mrn mfn : Int32} {post : (Nat → Int32) → (Nat → Int32) → Prop} (k : ∀ mpo2 mrd2 : Nat → Int32, (∀ i, i < 120 → mpo2 i = -1) → (∀ i, i < 120 → mrd2 i = -1) → post mpo2 mrd2) : ∃ n, lp_X4_make_25 mth mxs mys mcu mnx mpn mrn mfi mar mfn mfa mnu post n mpo mrd 0 := by
  have main : ∀ n t (a b : Nat → Int32), t + n = 120 → (∀ i, i < t → a i = -1) → (∀ i, i < t → b i = -1) → lp_X4_make_25 mth mxs mys mcu mnx mpn mrn mfi mar mfn mfa mnu post (n + 1) a b (nI t) := by
    intro n
    induction n with
    | zero =>
      intro t a b ht ha hb
      rw [lp_X4_make_25.eq_2]
      have et : t = 120 := by omega
      subst et
      exact ⟨fun _ => k a b ha hb, fun h => absurd ((lt120 (by omega)).mpr (by omega)) h⟩
    | succ n ih =>
      intro t a b ht ha hb
      rw [lp_X4_make_25.eq_2]
      simp only [cl (show t < 1000 by omega), vin (show t < 120 by omega) (by decide), true_and, forall_eq, nI_1]
      refine ⟨fun h => absurd ((lt120 (by omega)).mp h) (by omega), fun _ => ih (t + 1) _ _ (by omega) (fun s hs => ?_) (fun s hs => ?_)⟩
      · by_cases q : s = t
        · rw [q, pk_us]
        · rw [pk_un q]; exact ha s (by omega)
      · by_cases q : s = t
        · rw [q, pk_us]
        · rw [pk_un q]; exact hb s (by omega)
  exact ⟨121, main 120 0 mpo mrd (by omega) (fun i hi => absurd hi (Nat.not_lt_zero i)) (fun i hi => absurd hi (Nat.not_lt_zero i))⟩
theorem m_pieces {x y u mth mxs mys mnx mfi mfa mnu mpo mrd : Nat → Int32} {mar : Nat → Int64} {mcu mrn mfn : Int32} (G : Ag x y u mxs mys mth) (h0 : ∀ i, i < 120 → mpo i = -1) {post : (Nat → Int32) → (Nat → Int32) → Int32 → Prop} (k : ∀ mnx2 mpo2 n sg, FoOK x y u mnx2 → Pc x y u 120 mpo2 sg n → post mnx2 mpo2 (nI n)) : ∃ n, lp_X4_make_53 mth mxs mys mcu mrn mrd mfi mar mfn mfa mnu post n mnx mpo 0 0 := by
  have main : ∀ n t (a b : Nat → Int32) c sg, t + n = 120 → (∀ h, h < t → us u h → a h = nI (nxt x y u h)) → Pc x y u t b sg c → lp_X4_make_53 mth mxs mys mcu mrn mrd mfi mar mfn mfa mnu post (n + 1) a b (nI c) (nI t) := by
    intro n
    induction n with
    | zero =>
      intro t a b c sg ht ha O
      rw [lp_X4_make_53.eq_2]
      have et : t = 120 := by omega
      subst et
      exact ⟨fun _ => k a b c sg ha O, fun h => absurd ((lt120 (by omega)).mpr (by omega)) h⟩
    | succ n ih =>
      intro t a b c sg ht ha O
      rw [lp_X4_make_53.eq_2]
      have hRt := pc_R O
      simp only [jn3, div_half (show t < 120 by omega), cl (show t < 1000 by omega), cl (show t / 2 < 1000 by omega), vin (show t < 120 by omega) (by decide), vin (show t / 2 < 60 by omega) (by decide), true_and, forall_eq, nI_1]
      have ag : mth (t / 2) = 0 ↔ u (t / 2) = 0 := G.1 _ (by omega)
      refine ⟨fun h => absurd ((lt120 (by omega)).mp h) (by omega), fun _ => ⟨fun h => ih (t + 1) _ _ c sg (by omega) (fun h2 hh uh => ?_) (pc_skip O fun q => absurd (ag.mp h) q), fun h => ?_⟩⟩
      · by_cases q : h2 = t
        · rw [q] at uh; exact absurd (ag.mp h) uh
        · exact ha h2 (by omega) uh
      have ut : us u t := fun q => h (ag.mpr q)
      have ha2 : ∀ h, h < t + 1 → us u h → upd a t (nI (nxt x y u t)) h = nI (nxt x y u h) := fun h2 hh uh => by
        by_cases q : h2 = t
        · rw [q, pk_us]
        · rw [pk_un q]; exact ha h2 (by omega) uh
      refine m_nextOf G (by omega) ut ⟨fun hm => ih (t + 1) _ _ c sg (by omega) ha2 (pc_skip O fun _ e => ?_), fun hm => m_spread G O (by omega) ut ?_ fun b2 O2 => ih (t + 1) _ _ (c + 1) _ (by omega) ha2 O2⟩
      · rw [e] at hm; exact absurd hm (by decide)
      · rcases O.1 t (by omega) with q | ⟨-, r, hr, q⟩
        · exact q
        · rw [q] at hm; exact absurd (nI_pos' (show r < 2 ^ 31 by omega)) hm
  exact ⟨121, main 120 0 mnx mpo 0 (fun _ => 0) (by omega) (fun i hi => absurd hi (Nat.not_lt_zero i)) ⟨fun i hi => Or.inl (h0 i hi), fun i hi => absurd hi (Nat.not_lt_zero i), fun g h hg _ _ _ _ e => absurd (h0 g hg) e, fun r hr => absurd hr (Nat.not_lt_zero r), fun r r' _ hr => absurd hr (Nat.not_lt_zero r'), fun P _ a b ha _ e => absurd (h0 a ha) e⟩⟩
