/-! corners and the next halves: the class; the reference -/
theorem i10 : ((1 : Int32) = 0) = False := by decide
def CoOK (x y u co : Nat → Int32) : Prop := ∀ h, h < 120 → (u (h / 2) = 0 → co h = -1) ∧ (us u h → ∃ g, g < 120 ∧ co h = nI g ∧ atP x y u (x h) (y h) g ∧ ∀ j, j < g → ¬ atP x y u (x h) (y h) j)
theorem s_findCorners {x y u co : Nat → Int32} {post : (Nat → Int32) → Prop} (k : ∀ co2, CoOK x y u co2 → post co2) : wp_X1_findCorners co x y u post := by
  have main : ∀ n t (co : Nat → Int32), t + n = 120 → (∀ h, h < t → (u (h / 2) = 0 → co h = -1) ∧ (us u h → ∃ g, g < 120 ∧ co h = nI g ∧ atP x y u (x h) (y h) g ∧ ∀ j, j < g → ¬ atP x y u (x h) (y h) j)) → lp_X1_findCorners_2 x y u (fun w => post w) (n + 1) co (nI t) := by
    intro n
    induction n with
    | zero =>
      intro t co ht hj
      rw [lp_X1_findCorners_2.eq_2]
      exact ⟨fun _ => k co fun h hh => hj h (by omega), fun h => absurd ((lt120 (by omega)).mpr (by omega)) h⟩
    | succ n ih =>
      intro t co ht hj
      rw [lp_X1_findCorners_2.eq_2]
      have put : ∀ v : Int32, ((u (t / 2) = 0 → v = -1) ∧ (us u t → ∃ g, g < 120 ∧ v = nI g ∧ atP x y u (x t) (y t) g ∧ ∀ j, j < g → ¬ atP x y u (x t) (y t) j)) → lp_X1_findCorners_2 x y u (fun w => post w) (n + 1) (upd co t v) (nI (t + 1)) := fun v hv =>
        ih (t + 1) _ (by omega) (fun h hh => by
          by_cases q : h = t
          · rw [q, pk_us]; exact hv
          · rw [pk_un q]; exact hj h (by omega))
      simp only [jn2, shr_half (show t < 120 by omega), cl (show t < 1000 by omega), cl (show t / 2 < 1000 by omega), vin (show t < 120 by omega) (by decide), vin (show t / 2 < 60 by omega) (by decide), true_and, forall_eq, nI_1]
      refine ⟨fun h => absurd ((lt120 (by omega)).mp h) (by omega), fun _ => ⟨fun h => put _ ⟨fun _ => rfl, fun q => absurd h q⟩, fun h => s_leastHalfAt (fun g hg ha hl => put _ ⟨fun q => absurd q h, fun _ => ⟨g, hg, rfl, ha, hl⟩⟩) (fun hn => absurd ⟨h, rfl, rfl⟩ (hn t (by omega)))⟩⟩
  exact ⟨121, main 120 0 co (by omega) fun j h => absurd h (Nat.not_lt_zero j)⟩
theorem co_iff {x y u co : Nat → Int32} (O : CoOK x y u co) {h w : Nat} (hh : h < 120) (hw : w < 120) (uw : us u w) : co h = co w ↔ us u h ∧ sameB x y h w := by
  obtain ⟨g, hg, eg, ag, lg⟩ := (O w hw).2 uw
  constructor
  · intro e
    by_cases uh : u (h / 2) = 0
    · rw [(O h hh).1 uh, eg] at e
      exact absurd e.symm (neqm1 (by omega))
    · obtain ⟨g2, hg2, eg2, ag2, lg2⟩ := (O h hh).2 uh
      rw [eg2, eg] at e
      have e := nI_inj (by omega) (by omega) e
      subst e
      exact ⟨uh, ag2.2.1.symm.trans ag.2.1, ag2.2.2.symm.trans ag.2.2⟩
  · rintro ⟨uh, e⟩
    obtain ⟨g2, hg2, eg2, ag2, lg2⟩ := (O h hh).2 uh
    rw [eg, eg2]
    rw [e.1, e.2] at ag2 lg2
    rcases Nat.lt_trichotomy g g2 with q | q | q
    · exact absurd ag (lg2 g q)
    · rw [q]
    · exact absurd ag2 (lg g2 q)
theorem co_in {x y u co : Nat → Int32} (O : CoOK x y u co) {h : Nat} (hh : h < 120) (uh : us u h) : ∃ g, g < 120 ∧ co h = nI g ∧ us u g ∧ sameB x y g h := by
  obtain ⟨g, hg, eg, ag, -⟩ := (O h hh).2 uh
  exact ⟨g, hg, eg, ag.1, ag.2.1, ag.2.2⟩
theorem s_firstClockwise {x y u co : Nat → Int32} (O : CoOK x y u co) {w : Nat} (hw : w < 120) (uw : us u w) {post : Int32 → Prop} (k : post (nI (sig x y u w))) : wp_X1_firstClockwise co x y (nI w) post := by
  have main : ∀ n t (v : Int32), t + n = 120 → v = nI ((bst (cand x y u w) (fun k b => soonL x y w k b) t).getD w) → lp_X1_firstClockwise_4 co x y (nI w) (fun w => post w) (n + 1) v (nI t) := by
    intro n
    induction n with
    | zero =>
      intro t v ht hv
      rw [lp_X1_firstClockwise_4.eq_2]
      have et : t = 120 := by omega
      subst et
      exact ⟨fun _ => by rw [hv]; exact k, fun h => absurd ((lt120 (by omega)).mpr (by omega)) h⟩
    | succ n ih =>
      intro t v ht hv
      rw [lp_X1_firstClockwise_4.eq_2]
      simp only [jn1, jn0, cl (show t < 1000 by omega), cl (show w < 1000 by omega), vin (show t < 120 by omega) (by decide), vin hw (by decide), true_and, nI_1, i10, true_implies, false_implies, not_true_eq_false, not_false_eq_true, and_true]
      refine ⟨fun h => absurd ((lt120 (by omega)).mp h) (by omega), fun _ => ?_⟩
      have skip : ¬ cand x y u w t → (lp_X1_firstClockwise_4 co x y (nI w) (fun w => post w) (n + 1) v (nI (t + 1))) := by
        intro hno
        refine ih (t + 1) v (by omega) ?_
        cases hb : bst (cand x y u w) (fun k b => soonL x y w k b) t with
        | none => rw [(bst_n hb).2 hno, hv, hb]
        | some c => rw [(bst_s hb).2 (fun q => hno q.1), hv, hb]
      refine ⟨fun e => ⟨fun e2 => skip fun q => q.2.2 (nI_inj (by omega) (by omega) e2), fun e2 => ?_⟩, fun e => skip fun q => e ((co_iff O (by omega) hw uw).mpr ⟨q.1, q.2.1⟩)⟩
      have hc := (co_iff O (show t < 120 by omega) hw uw).mp e
      have hcand : cand x y u w t := ⟨hc.1, hc.2, fun q => e2 (by rw [q])⟩
      have take : bst (cand x y u w) (fun k b => soonL x y w k b) (t + 1) = some t → lp_X1_firstClockwise_4 co x y (nI w) (fun w => post w) (n + 1) (nI t) (nI (t + 1)) := fun e => ih (t + 1) _ (by omega) (by rw [e]; rfl)
      cases hb : bst (cand x y u w) (fun k b => soonL x y w k b) t with
      | none =>
        have ev : v = nI w := by rw [hv, hb]; rfl
        rw [ev]
        exact ⟨fun _ => take ((bst_n hb).1 hcand), fun q => absurd rfl q⟩
      | some c =>
        have ev : v = nI c := by rw [hv, hb]; rfl
        have hco := bst_ok hb
        rw [ev]
        refine ⟨fun q => absurd (nI_inj (by omega) (by omega) q) hco.2.2.2, fun _ => s_sooner hw (by omega) (by omega) ⟨fun q => ?_, fun q => take ((bst_s hb).1 ⟨hcand, nb0 q⟩)⟩⟩
        exact ih (t + 1) _ (by omega) (by rw [(bst_s hb).2 (fun z => bi0.mp q z.2)]; rfl)
  exact ⟨121, main 120 0 _ (by omega) (by rw [bst]; rfl)⟩
def FoOK (x y u fo : Nat → Int32) : Prop := ∀ h, h < 120 → us u h → fo h = nI (nxt x y u h)
theorem s_follow {x y u co fo ro po rd st od : Nat → Int32} {tw : Nat → Int64} {pn rn : Int32} (O : CoOK x y u co) {post : (Nat → Int32) → Prop} (k : ∀ fo2, FoOK x y u fo2 → post fo2) : ∃ n, lp_X1_trace_6 co ro po pn rd st tw rn x y u (fun w => post w) n fo 0 := by
  have main : ∀ n t (fo : Nat → Int32), t + n = 120 → (∀ h, h < t → us u h → fo h = nI (nxt x y u h)) → lp_X1_trace_6 co ro po pn rd st tw rn x y u (fun w => post w) (n + 1) fo (nI t) := by
    intro n
    induction n with
    | zero =>
      intro t fo ht hj
      rw [lp_X1_trace_6.eq_2]
      exact ⟨fun _ => k fo fun h hh => hj h (by omega), fun h => absurd ((lt120 (by omega)).mpr (by omega)) h⟩
    | succ n ih =>
      intro t fo ht hj
      rw [lp_X1_trace_6.eq_2]
      have put : ∀ v : Int32, (us u t → v = nI (nxt x y u t)) → lp_X1_trace_6 co ro po pn rd st tw rn x y u (fun w => post w) (n + 1) (upd fo t v) (nI (t + 1)) := fun v hv =>
        ih (t + 1) _ (by omega) (fun h hh => by
          by_cases q : h = t
          · rw [q, pk_us]; exact hv
          · rw [pk_un q]; exact hj h (by omega))
      simp only [jn2, xor_bk (show t < 120 by omega), shr_half (show t < 120 by omega), cl (show t < 1000 by omega), cl (show t / 2 < 1000 by omega), vin (show t < 120 by omega) (by decide), vin (show t / 2 < 60 by omega) (by decide), true_and, forall_eq, nI_1]
      exact ⟨fun h => absurd ((lt120 (by omega)).mp h) (by omega), fun _ => ⟨fun h => put _ (fun q => absurd h q), fun h => s_firstClockwise O (bk_lt (by omega)) (us_bk h) (put _ fun _ => rfl)⟩⟩
  exact ⟨121, main 120 0 fo (by omega) fun j h => absurd h (Nat.not_lt_zero j)⟩
/-! the reference -/
def Ag (x y u mxs mys mth : Nat → Int32) : Prop := (∀ s, s < 60 → (mth s = 0 ↔ u s = 0)) ∧ ∀ h, h < 120 → us u h → mxs h = x h ∧ mys h = y h
theorem m_back {h : Nat} (hh : h < 120) {post : Int32 → Prop} (k : post (nI (bk h))) : wp_X4_back (nI h) post := by
  unfold wp_X4_back jn1
  rw [rem_par hh]
  unfold bk at k
  refine ⟨fun q => ?_, fun q => ?_⟩
  · have := nI_inj (i := h % 2) (j := 0) (by omega) (by decide) q
    rw [if_pos this] at k
    rw [nI_1]; exact k
  · have : ¬ h % 2 = 0 := fun e => q (by rw [e]; rfl)
    rw [if_neg this] at k
    have e : nI h - 1 = nI (h - 1) := pk_sub (a := h) (b := 1) (by omega)
    rw [e]; exact k
theorem m_leaves {x y u mxs mys mth : Nat → Int32} (G : Ag x y u mxs mys mth) {h : Nat} (hh : h < 120) {px py : Int32} {post : Int32 → Prop} (k : post (bi (atP x y u px py h))) : wp_X4_leaves mth mxs mys (nI h) px py post := by
  obtain ⟨k1, k0⟩ := bi_lf k
  unfold wp_X4_leaves
  simp only [jn1, jn0, div_half hh, cl (show h < 1000 by omega), cl (show h / 2 < 1000 by omega), vin hh (by decide), vin (hf_lt hh) (by decide), true_and]
  refine ⟨fun h1 => ⟨bz0, k0 fun q => q.1 ((G.1 _ (hf_lt hh)).mp h1)⟩, fun h1 => ?_⟩
  have hu : us u h := fun q => h1 ((G.1 _ (hf_lt hh)).mpr q)
  rw [(G.2 h hh hu).1, (G.2 h hh hu).2]
  exact ⟨fun h2 => ⟨fun h3 => ⟨bz1, k1 ⟨hu, h2, h3⟩⟩, fun h3 => ⟨bz0, k0 fun q => h3 q.2.2⟩⟩, fun h2 => ⟨bz0, k0 fun q => h2 q.2.1⟩⟩
theorem m_crossOf {x y u mxs mys mth : Nat → Int32} (G : Ag x y u mxs mys mth) {g h : Nat} (hg : g < 120) (hh : h < 120) (ug : us u g) (uh : us u h) {post : Int64 → Prop} (k : post (turnL x y g h)) : wp_X4_crossOf mxs mys (nI g) (nI h) post := by
  unfold wp_X4_crossOf
  have b1 := bk_lt hg
  have b2 := bk_lt hh
  simp only [cl (show g < 1000 by omega), cl (show h < 1000 by omega), vin hh (by decide), vin hg (by decide), true_and, forall_eq]
  refine m_back hg ?_
  simp only [cl (show bk g < 1000 by omega), vin b1 (by decide), true_and]
  refine m_back hg ?_
  simp only [cl (show bk g < 1000 by omega), vin b1 (by decide), true_and]
  refine m_back hh ?_
  simp only [cl (show bk h < 1000 by omega), vin b2 (by decide), true_and]
  refine m_back hh ?_
  simp only [cl (show bk h < 1000 by omega), vin b2 (by decide), true_and]
  rw [(G.2 g hg ug).1, (G.2 g hg ug).2, (G.2 h hh uh).1, (G.2 h hh uh).2, (G.2 _ b1 (us_bk ug)).1, (G.2 _ b1 (us_bk ug)).2, (G.2 _ b2 (us_bk uh)).1, (G.2 _ b2 (us_bk uh)).2]
  exact k
def tdL (v : Int64) : Int32 := if v < 0 then 0 else if 0 < v then 2 else 1
theorem m_turned {x y u mxs mys mth : Nat → Int32} (G : Ag x y u mxs mys mth) {g h : Nat} (hg : g < 120) (hh : h < 120) (ug : us u g) (uh : us u h) {post : Int32 → Prop} (k : post (tdL (turnL x y g h))) : wp_X4_turned mxs mys (nI g) (nI h) post := by
  unfold wp_X4_turned
  refine m_crossOf G hg hh ug uh ?_
  generalize turnL x y g h = v at *
  unfold jn1
  unfold tdL at k
  refine ⟨fun h1 => ⟨fun h2 => ?_, fun h2 => ?_⟩, fun h1 => ?_⟩
  · rw [if_neg (by simpa using h1), if_neg (by rw [h2]; decide)] at k
    exact k
  · have : 0 < v := by
      rw [Int64.lt_iff_toInt_lt]
      rw [Int64.le_iff_toInt_le] at h1
      rw [← Int64.toInt_inj] at h2
      have e0 : (0 : Int64).toInt = 0 := rfl
      omega
    rw [if_neg (by simpa using h1), if_pos this] at k
    exact k
  · rw [if_pos (by simpa using h1)] at k
    exact k
theorem td_sg (p q : Int64) : (tdL p < tdL q ↔ sgL p < sgL q) ∧ (tdL p = tdL q ↔ sgL p = sgL q) := by
  unfold tdL sgL
  by_cases h1 : p < 0 <;> by_cases h2 : 0 < p <;> by_cases h3 : q < 0 <;> by_cases h4 : 0 < q <;> simp only [h1, h2, h3, h4, if_true, if_false] <;> decide
theorem m_nextOf {x y u mxs mys mth : Nat → Int32} (G : Ag x y u mxs mys mth) {h : Nat} (hh : h < 120) (uh : us u h) {post : Int32 → Prop} (k : post (nI (nxt x y u h))) : wp_X4_nextOf mth mxs mys (nI h) post := by
  unfold wp_X4_nextOf
  refine m_back hh ?_
  have hw := bk_lt hh
  have uw := us_bk uh
  unfold nxt at k
  generalize bk h = w at *
  have main : ∀ n t (v : Int32), t + n = 120 → v = enc (bst (cand x y u w) (fun k b => soonL x y w k b) t) → lp_X4_nextOf_10 mth mxs mys (nI w) (fun w21 => jn1 (fun (K23 : Int32 → Prop) => ((0 ≤ w21 → K23 w21) ∧ (¬ 0 ≤ w21 → K23 (nI w)))) (fun k22 => post k22)) (n + 1) v (nI t) := by
    intro n
    induction n with
    | zero =>
      intro t v ht hv
      rw [lp_X4_nextOf_10.eq_2]
      have et : t = 120 := by omega
      subst et
      refine ⟨fun _ => ?_, fun h => absurd ((lt120 (by omega)).mpr (by omega)) h⟩
      unfold jn1
      unfold sig at k
      cases hb : sgB x y u w with
      | none =>
        rw [hb] at k
        unfold sgB at hb
        rw [hv, hb]
        exact ⟨fun q => absurd q (by decide), fun _ => k⟩
      | some c =>
        rw [hb] at k
        have := bst_ok hb
        unfold sgB at hb
        rw [hv, hb]
        exact ⟨fun _ => k, fun q => absurd (nI_pos' (show c < 2 ^ 31 by omega)) q⟩
    | succ n ih =>
      intro t v ht hv
      rw [lp_X4_nextOf_10.eq_2]
      simp only [jn1, jn0, cl (show w < 1000 by omega), vin hw (by decide), true_and, nI_1, i10, true_implies, false_implies, not_true_eq_false, not_false_eq_true, and_true]
      refine ⟨fun h => absurd ((lt120 (by omega)).mp h) (by omega), fun _ => ?_⟩
      have skip : ¬ cand x y u w t → lp_X4_nextOf_10 mth mxs mys (nI w) (fun w21 => jn1 (fun (K23 : Int32 → Prop) => ((0 ≤ w21 → K23 w21) ∧ (¬ 0 ≤ w21 → K23 (nI w)))) (fun k22 => post k22)) (n + 1) v (nI (t + 1)) := by
        intro hno
        refine ih (t + 1) v (by omega) ?_
        cases hb : bst (cand x y u w) (fun k b => soonL x y w k b) t with
        | none => rw [(bst_n hb).2 hno, hv, hb]
        | some c => rw [(bst_s hb).2 (fun q => hno q.1), hv, hb]
      simp only [jn1] at skip
      refine ⟨fun e => skip fun q => q.2.2 (nI_inj (by omega) (by omega) e), fun e => m_leaves G (by omega) ⟨fun q => skip fun z => bi0.mp q ⟨z.1, ?_, ?_⟩, fun q => ?_⟩⟩
      · rw [(G.2 w hw uw).1]; exact z.2.1.1
      · rw [(G.2 w hw uw).2]; exact z.2.1.2
      have ha := nb0 q
      have hcand : cand x y u w t := ⟨ha.1, ⟨by rw [ha.2.1, (G.2 w hw uw).1], by rw [ha.2.2, (G.2 w hw uw).2]⟩, fun z => e (by rw [z])⟩
      have take : bst (cand x y u w) (fun k b => soonL x y w k b) (t + 1) = some t → lp_X4_nextOf_10 mth mxs mys (nI w) (fun w21 => jn1 (fun (K23 : Int32 → Prop) => ((0 ≤ w21 → K23 w21) ∧ (¬ 0 ≤ w21 → K23 (nI w)))) (fun k22 => post k22)) (n + 1) (nI t) (nI (t + 1)) := fun e => ih (t + 1) _ (by omega) (by rw [e]; rfl)
      simp only [jn1] at take
      have t1 : ∀ {A : Prop}, A → A := fun a => a
      have t0 : ∀ {A : Prop}, A → A := fun a => a
      cases hb : bst (cand x y u w) (fun k b => soonL x y w k b) t with
      | none =>
        have ev : v = -1 := by rw [hv, hb]; rfl
        rw [ev]
        exact ⟨fun _ => t1 (take ((bst_n hb).1 hcand)), fun z => absurd (by decide) z⟩
      | some c =>
        have ev : v = nI c := by rw [hv, hb]; rfl
        have hco := bst_ok hb
        have keep : ¬ soonL x y w t c → lp_X4_nextOf_10 mth mxs mys (nI w) (fun w21 => ((0 ≤ w21 → post w21) ∧ (¬ 0 ≤ w21 → post (nI w)))) (n + 1) (nI c) (nI (t + 1)) := fun hns => by
          have := ih (t + 1) (nI c) (by omega) (by rw [(bst_s hb).2 (fun z => hns z.2)]; rfl)
          simp only [jn1] at this
          exact this
        have hsoon : soonL x y w t c ↔ (tdL (turnL x y w t) < tdL (turnL x y w c) ∨ (tdL (turnL x y w t) = tdL (turnL x y w c) ∧ turnL x y t c < 0)) := by
          rw [(td_sg _ _).1, (td_sg _ _).2]
          unfold soonL
          by_cases z : sgL (turnL x y w t) = sgL (turnL x y w c)
          · rw [if_pos z]
            exact ⟨fun q => Or.inr ⟨z, q⟩, fun q => q.elim (fun q => absurd q (by rw [z]; exact fun q => Int32.lt_irrefl q)) (fun q => q.2)⟩
          · rw [if_neg z]
            exact ⟨Or.inl, fun q => q.elim id (fun q => absurd q.1 z)⟩
        rw [ev]
        refine ⟨fun z => absurd z (nneg (show c < 1000 by omega)), fun _ => m_turned G hw (by omega) uw hcand.1 (m_turned G hw (by omega) uw hco.2.1 ⟨fun z => t1 (take ((bst_s hb).1 ⟨hcand, hsoon.mpr (Or.inl z)⟩)), fun z => m_turned G hw (by omega) uw hcand.1 (m_turned G hw (by omega) uw hco.2.1 ⟨fun z2 => m_crossOf G (by omega) (by omega) hcand.1 hco.2.1 ⟨fun z3 => t0 (keep ?_), fun z3 => t1 (take ((bst_s hb).1 ⟨hcand, hsoon.mpr (Or.inr ⟨z2, by simpa using z3⟩)⟩))⟩, fun z2 => t0 (keep ?_)⟩)⟩)⟩
        · exact fun q => (hsoon.mp q).elim z (fun q => absurd q.2 (by simpa using z3))
        · exact fun q => (hsoon.mp q).elim z (fun q => z2 q.1)
  exact ⟨121, main 120 0 _ (by omega) (by rw [bst]; rfl)⟩
