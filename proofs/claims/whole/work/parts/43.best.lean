/-! the best one so far: of those that may be, the first that none behind it beats -/
noncomputable def bst (ok : Nat → Prop) (lt : Nat → Nat → Prop) : Nat → Option Nat
  | 0 => none
  | n + 1 => match bst ok lt n with
    | none => @ite _ (ok n) (Classical.propDecidable _) (some n) none
    | some b => @ite _ (ok n ∧ lt n b) (Classical.propDecidable _) (some n) (some b)
theorem bst_n {ok : Nat → Prop} {lt : Nat → Nat → Prop} {n : Nat} (h : bst ok lt n = none) : (ok n → bst ok lt (n + 1) = some n) ∧ (¬ ok n → bst ok lt (n + 1) = none) := by
  constructor <;> intro h1
  · rw [bst, h]; exact if_pos h1
  · rw [bst, h]; exact if_neg h1
theorem bst_s {ok : Nat → Prop} {lt : Nat → Nat → Prop} {n b : Nat} (h : bst ok lt n = some b) : (ok n ∧ lt n b → bst ok lt (n + 1) = some n) ∧ (¬ (ok n ∧ lt n b) → bst ok lt (n + 1) = some b) := by
  constructor <;> intro h1
  · rw [bst, h]; exact if_pos h1
  · rw [bst, h]; exact if_neg h1
theorem bst_ok {ok : Nat → Prop} {lt : Nat → Nat → Prop} : ∀ {n b : Nat}, bst ok lt n = some b → b < n ∧ ok b := by
  intro n
  induction n with
  | zero => intro b h; rw [bst] at h; cases h
  | succ n ih =>
    intro b h
    cases hb : bst ok lt n with
    | none =>
      by_cases ho : ok n
      · rw [(bst_n hb).1 ho] at h
        cases h
        exact ⟨Nat.lt_succ_self _, ho⟩
      · rw [(bst_n hb).2 ho] at h
        cases h
    | some c =>
      by_cases ho : ok n ∧ lt n c
      · rw [(bst_s hb).1 ho] at h
        cases h
        exact ⟨Nat.lt_succ_self _, ho.1⟩
      · rw [(bst_s hb).2 ho] at h
        cases h
        have := ih hb
        exact ⟨by omega, this.2⟩
theorem bst_none {ok : Nat → Prop} {lt : Nat → Nat → Prop} : ∀ {n : Nat}, bst ok lt n = none → ∀ j, j < n → ¬ ok j := by
  intro n
  induction n with
  | zero => intro _ j h; exact absurd h (Nat.not_lt_zero j)
  | succ n ih =>
    intro h j hj
    cases hb : bst ok lt n with
    | none =>
      by_cases ho : ok n
      · rw [(bst_n hb).1 ho] at h; cases h
      · rcases Nat.lt_or_ge j n with q | q
        · exact ih hb j q
        · have : j = n := by omega
          rw [this]; exact ho
    | some c =>
      by_cases ho : ok n ∧ lt n c
      · rw [(bst_s hb).1 ho] at h; cases h
      · rw [(bst_s hb).2 ho] at h; cases h
theorem bst_congr {ok ok' : Nat → Prop} {lt lt' : Nat → Nat → Prop} : ∀ {n : Nat}, (∀ j, j < n → (ok j ↔ ok' j)) → (∀ j b, j < n → b < j → ok j → ok b → (lt j b ↔ lt' j b)) → bst ok lt n = bst ok' lt' n := by
  intro n
  induction n with
  | zero => intro _ _; rw [bst, bst]
  | succ n ih =>
    intro h1 h2
    have e := ih (fun j hj => h1 j (by omega)) (fun j b hj hb => h2 j b (by omega) hb)
    cases hb : bst ok lt n with
    | none =>
      have hb' := e.symm.trans hb
      by_cases ho : ok n
      · rw [(bst_n hb).1 ho, (bst_n hb').1 ((h1 n (by omega)).mp ho)]
      · rw [(bst_n hb).2 ho, (bst_n hb').2 (fun q => ho ((h1 n (by omega)).mpr q))]
    | some c =>
      have hb' := e.symm.trans hb
      have hc := bst_ok hb
      by_cases ho : ok n ∧ lt n c
      · rw [(bst_s hb).1 ho, (bst_s hb').1 ⟨(h1 n (by omega)).mp ho.1, (h2 n c (by omega) hc.1 ho.1 hc.2).mp ho.2⟩]
      · rw [(bst_s hb).2 ho, (bst_s hb').2 (fun q => ho ⟨(h1 n (by omega)).mpr q.1, (h2 n c (by omega) hc.1 ((h1 n (by omega)).mpr q.1) hc.2).mpr q.2⟩)]
/-- where 'lt' is an order of those that may be: the best comes before all others -/
theorem bst_min {ok : Nat → Prop} {lt : Nat → Nat → Prop} : ∀ {n : Nat}, (∀ a b c, a < n → b < n → c < n → ok a → ok b → ok c → a ≠ b → b ≠ c → a ≠ c → lt a b → lt b c → lt a c) → (∀ a b, a < n → b < n → ok a → ok b → a ≠ b → lt a b ∨ lt b a) →
    ∀ {b : Nat}, bst ok lt n = some b → ∀ j, j < n → ok j → j ≠ b → lt b j := by
  intro n
  induction n with
  | zero => intro _ _ b h; rw [bst] at h; cases h
  | succ n ih =>
    intro ht hc b h j hj hoj hne
    have ih' : ∀ {b : Nat}, bst ok lt n = some b → ∀ j, j < n → ok j → j ≠ b → lt b j := ih (fun a b c ha hb hcc => ht a b c (by omega) (by omega) (by omega)) (fun a b ha hb => hc a b (by omega) (by omega))
    cases hb : bst ok lt n with
    | none =>
      have hno := bst_none hb
      rcases Nat.lt_or_ge j n with q | q
      · exact absurd hoj (hno j q)
      · have ej : j = n := by omega
        subst ej
        rw [(bst_n hb).1 hoj] at h
        cases h
        exact absurd rfl hne
    | some c =>
      have hco := bst_ok hb
      by_cases ho : ok n ∧ lt n c
      · rw [(bst_s hb).1 ho] at h
        cases h
        rcases Nat.lt_or_ge j n with q | q
        · by_cases e : j = c
          · rw [e]; exact ho.2
          · exact ht n c j (by omega) (by omega) hj ho.1 hco.2 hoj (by omega) (fun q => e q.symm) (by omega) ho.2 (ih' hb j q hoj e)
        · exact absurd (by omega) hne
      · rw [(bst_s hb).2 ho] at h
        cases h
        rcases Nat.lt_or_ge j n with q | q
        · exact ih' hb j q hoj hne
        · have ej : j = n := by omega
          subst ej
          rcases hc j b hj (by omega) hoj hco.2 hne with q2 | q2
          · exact absurd ⟨hoj, q2⟩ ho
          · exact q2
def enc (o : Option Nat) : Int32 := match o with
  | none => -1
  | some k => nI k
/-! what is above a place -/
def maxI (a b : Int32) : Int32 := if a < b then b else a
def minI (a b : Int32) : Int32 := if b < a then b else a
def absI (a : Int32) : Int32 := if 0 ≤ a then a else 0 - a
def reachL (x y : Nat → Int32) (s : Nat) (px py : Int32) : Prop := x (rwd x s) ≤ px ∧ px ≤ x (bk (rwd x s)) ∧ (x (rwd x s) = x (bk (rwd x s)) → py < maxI (y (rwd x s)) (y (bk (rwd x s)))) ∧ (¬ x (rwd x s) = x (bk (rwd x s)) → sideL x y (rwd x s) px py < 0)
theorem s_reachesAbove {x y : Nat → Int32} {s : Nat} {px py : Int32} {post : Int32 → Prop} (hs : s < 60) (k : post (bi (reachL x y s px py))) : wp_X2_reachesAbove x y (nI s) px py post := by
  obtain ⟨k1, k0⟩ := bi_lf k
  unfold wp_X2_reachesAbove
  have hr := rwd_lt (x := x) hs
  refine s_rightward hs ?_
  simp only [jn1, jn0, xor_bk hr, cl (show rwd x s < 1000 by omega), cl (show bk (rwd x s) < 1000 by have := bk_lt hr; omega), vin hr (by decide), vin (bk_lt hr) (by decide), true_and]
  refine ⟨fun h1 => ⟨bz0, k0 ?_⟩, fun h1 => ⟨fun h2 => ⟨fun h3 => ⟨fun h4 => ⟨bz0, k0 ?_⟩, fun h4 => ⟨bz1, k1 ?_⟩⟩, fun h3 => s_side hr ⟨fun h4 => ⟨bz0, k0 ?_⟩, fun h4 => ⟨bz1, k1 ?_⟩⟩⟩, fun h2 => ⟨bz0, k0 ?_⟩⟩⟩
  · exact fun q => absurd q.1 (by simpa using h1)
  · exact fun q => absurd (q.2.2.1 h3) (by simpa [maxI] using h4)
  · exact ⟨by simpa using h1, h2, fun _ => by simpa [maxI] using h4, fun q => absurd h3 q⟩
  · exact fun q => absurd (q.2.2.2 h3) (by simpa using h4)
  · exact ⟨by simpa using h1, h2, fun q => absurd q h3, fun _ => by simpa using h4⟩
  · exact fun q => h2 q.2.1
def heightL (x y : Nat → Int32) (s : Nat) (px py : Int32) : Int64 := if (x (bk (rwd x s)) - x (rwd x s)).toInt64 = 0 then (maxI py (minI (y (rwd x s)) (y (bk (rwd x s))))).toInt64 else ((y (rwd x s)).toInt64 * (x (bk (rwd x s)) - x (rwd x s)).toInt64) + ((y (bk (rwd x s)) - y (rwd x s)).toInt64 * (px - x (rwd x s)).toInt64)
theorem s_height {x y : Nat → Int32} {s : Nat} {px py : Int32} {post : Int64 → Prop} (hs : s < 60) (k : post (heightL x y s px py)) : wp_X2_height x y (nI s) px py post := by
  unfold wp_X2_height
  have hr := rwd_lt (x := x) hs
  refine s_rightward hs ?_
  simp only [jn1, jn0, xor_bk hr, cl (show rwd x s < 1000 by omega), cl (show bk (rwd x s) < 1000 by have := bk_lt hr; omega), vin hr (by decide), vin (bk_lt hr) (by decide), true_and, forall_eq]
  unfold heightL at k
  exact ⟨fun h => by rw [if_pos h] at k; exact k, fun h => by rw [if_neg h] at k; exact k⟩
def widthL (x : Nat → Int32) (s : Nat) : Int64 := (maxI 1 (absI (x (2 * s + 1) - x (2 * s)))).toInt64
theorem s_width {x : Nat → Int32} {s : Nat} {post : Int64 → Prop} (hs : s < 60) (k : post (widthL x s)) : wp_X2_width x (nI s) post := by
  unfold wp_X2_width
  simp only [dbl, dbl1, cl (show 2 * s < 1000 by omega), cl (show 2 * s + 1 < 1000 by omega), vin (show 2 * s < 120 by omega) (by decide), vin (show 2 * s + 1 < 120 by omega) (by decide), true_and]
  exact k
theorem s_firstUpFrom {x y u : Nat → Int32} {px py : Int32} {post : Int32 → Prop} (k : post (enc (bst (fun s => ¬ u s = 0 ∧ reachL x y s px py) (fun s b => heightL x y s px py * widthL x b < heightL x y b px py * widthL x s) 60))) : wp_X2_firstUpFrom x y u px py post := by
  have main : ∀ n t (v3 : Int32) (v4 v6 : Int64), t + n = 60 → v3 = enc (bst (fun s => ¬ u s = 0 ∧ reachL x y s px py) (fun s b => heightL x y s px py * widthL x b < heightL x y b px py * widthL x s) t) →
      (∀ b, bst (fun s => ¬ u s = 0 ∧ reachL x y s px py) (fun s b => heightL x y s px py * widthL x b < heightL x y b px py * widthL x s) t = some b → v4 = heightL x y b px py ∧ v6 = widthL x b) →
      lp_X2_firstUpFrom_11 x y u px py (fun w => post w) (n + 1) v3 v4 v6 (nI t) := by
    intro n
    induction n with
    | zero =>
      intro t v3 v4 v6 ht h3 h4
      rw [lp_X2_firstUpFrom_11.eq_2]
      have et : t = 60 := by omega
      subst et
      exact ⟨fun _ => by rw [h3]; exact k, fun h => absurd ((lt60 (by omega)).mpr (by omega)) h⟩
    | succ n ih =>
      intro t v3 v4 v6 ht h3 h4
      rw [lp_X2_firstUpFrom_11.eq_2]
      simp only [jn3, jn0, cl (show t < 1000 by omega), vin (show t < 60 by omega) (by decide), true_and, nI_1]
      refine ⟨fun h => absurd ((lt60 (by omega)).mp h) (by omega), fun _ => ?_⟩
      have skip : ¬ (¬ u t = 0 ∧ reachL x y t px py) → lp_X2_firstUpFrom_11 x y u px py (fun w => post w) (n + 1) v3 v4 v6 (nI (t + 1)) := by
        intro hno
        cases hb : bst (fun s => ¬ u s = 0 ∧ reachL x y s px py) (fun s b => heightL x y s px py * widthL x b < heightL x y b px py * widthL x s) t with
        | none =>
          have e := (bst_n hb).2 hno
          exact ih (t + 1) v3 v4 v6 (by omega) (by rw [h3, hb, e]) (fun b hb2 => by rw [e] at hb2; cases hb2)
        | some c =>
          have e := (bst_s hb).2 (fun q => hno q.1)
          exact ih (t + 1) v3 v4 v6 (by omega) (by rw [h3, hb, e]) (fun b hb2 => by rw [e] at hb2; exact h4 b (hb.trans hb2))
      refine ⟨fun hu => skip fun q => q.1 hu, fun hu => s_reachesAbove (by omega) ⟨fun hr => skip fun q => bi0.mp hr q.2, fun hr => s_height (by omega) (s_width (by omega) ?_)⟩⟩
      have hok : ¬ u t = 0 ∧ reachL x y t px py := ⟨hu, nb0 hr⟩
      have take : bst (fun s => ¬ u s = 0 ∧ reachL x y s px py) (fun s b => heightL x y s px py * widthL x b < heightL x y b px py * widthL x s) (t + 1) = some t → lp_X2_firstUpFrom_11 x y u px py (fun w => post w) (n + 1) (nI t) (heightL x y t px py) (widthL x t) (nI (t + 1)) := fun e =>
        ih (t + 1) _ _ _ (by omega) (by rw [e]; rfl) (fun b hb2 => by rw [e] at hb2; cases hb2; exact ⟨rfl, rfl⟩)
      cases hb : bst (fun s => ¬ u s = 0 ∧ reachL x y s px py) (fun s b => heightL x y s px py * widthL x b < heightL x y b px py * widthL x s) t with
      | none => exact ⟨fun _ => take ((bst_n hb).1 hok), fun h => absurd (by rw [h3, hb]; rfl) h⟩
      | some c =>
        have hc := bst_ok hb
        obtain ⟨e4, e6⟩ := h4 c hb
        refine ⟨fun h => absurd (by rw [← h, h3, hb]; rfl) (neqm1 (show c < 1000 by omega)), fun _ => ⟨fun h => ?_, fun h => take ((bst_s hb).1 ⟨hok, ?_⟩)⟩⟩
        · have e := (bst_s hb).2 (fun q => absurd h (by rw [e4, e6]; simpa using q.2))
          exact ih (t + 1) v3 v4 v6 (by omega) (by rw [h3, hb, e]) (fun b hb2 => by rw [e] at hb2; exact h4 b (hb.trans hb2))
        · rw [e4, e6] at h; simpa using h
  exact ⟨61, main 60 0 _ _ _ (by omega) (by rw [bst]; rfl) (fun b hb => by rw [bst] at hb; cases hb)⟩
