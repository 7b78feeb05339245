/-! what is above a place: the reference -/
theorem jn1_w {A : Type} {t : (A → Prop) → Prop} {k : A → Prop} (v : A) (h : ∀ K : A → Prop, K v → t K) (hk : k v) : jn1 t k := h k hk
theorem ite_leaf {P : Prop} [Decidable P] {A : Type} {a b : A} {K : A → Prop} (h : K (if P then a else b)) : (P → K a) ∧ (¬ P → K b) := ⟨fun p => by rw [if_pos p] at h; exact h, fun p => by rw [if_neg p] at h; exact h⟩
def lowH (x : Nat → Int32) (s : Nat) : Nat := if x (2 * s + 1) ≤ x (2 * s) then 2 * s + 1 else 2 * s
theorem lowH_lt {x : Nat → Int32} {s : Nat} (hs : s < 60) : lowH x s < 120 := by unfold lowH; split <;> omega
def botH (x y : Nat → Int32) (s : Nat) : Int32 := if y (bk (lowH x s)) ≤ y (lowH x s) then y (bk (lowH x s)) else y (lowH x s)
def topH (x y : Nat → Int32) (s : Nat) : Int32 := if y (bk (lowH x s)) ≤ y (lowH x s) then y (lowH x s) else y (bk (lowH x s))
def hM (x y : Nat → Int32) (s : Nat) (px py : Int32) : Int64 := if x (lowH x s) = x (bk (lowH x s)) then (if botH x y s ≤ py then (if topH x y s ≤ py then (-100000 : Int64) else py.toInt64) else (botH x y s).toInt64) else ((y (lowH x s)).toInt64 * (x (bk (lowH x s)) - x (lowH x s)).toInt64) + ((y (bk (lowH x s)) - y (lowH x s)).toInt64 * (px - x (lowH x s)).toInt64)
def wM (x : Nat → Int32) (s : Nat) : Int64 := if x (2 * s + 1) - x (2 * s) = 0 then (1 : Int64) else if 0 ≤ x (2 * s + 1) - x (2 * s) then (x (2 * s + 1) - x (2 * s)).toInt64 else (-(x (2 * s + 1) - x (2 * s))).toInt64
def SegAg (x y mxs mys : Nat → Int32) (s : Nat) : Prop := mxs (2 * s) = x (2 * s) ∧ mys (2 * s) = y (2 * s) ∧ mxs (2 * s + 1) = x (2 * s + 1) ∧ mys (2 * s + 1) = y (2 * s + 1)
theorem m_height {x y mxs mys : Nat → Int32} {s : Nat} (hs : s < 60) (e : SegAg x y mxs mys s) {px py : Int32} {post : Int64 → Prop} (k : post (hM x y s px py)) : wp_X4_height mxs mys (nI s) px py post := by
  obtain ⟨e1, e2, e3, e4⟩ := e
  unfold wp_X4_height
  simp only [dbl, dbl1, cl (show 2 * s < 1000 by omega), cl (show 2 * s + 1 < 1000 by omega), vin (show 2 * s < 120 by omega) (by decide), vin (show 2 * s + 1 < 120 by omega) (by decide), true_and, e1, e3]
  have hl := lowH_lt (x := x) hs
  have hb := bk_lt hl
  have ll : lowH x s = 2 * s ∨ lowH x s = 2 * s + 1 := by unfold lowH; split <;> simp
  have g : mxs (lowH x s) = x (lowH x s) ∧ mys (lowH x s) = y (lowH x s) ∧ mxs (bk (lowH x s)) = x (bk (lowH x s)) ∧ mys (bk (lowH x s)) = y (bk (lowH x s)) := by
    rcases ll with q | q
    · rw [q, bk_ev]; exact ⟨e1, e2, e3, e4⟩
    · rw [q, bk_od]; exact ⟨e3, e4, e1, e2⟩
  refine jn1_w (nI (lowH x s)) (fun K hK => ?_) ?_
  · have : nI (lowH x s) = if x (2 * s + 1) ≤ x (2 * s) then nI (2 * s + 1) else nI (2 * s) := by unfold lowH; split <;> rfl
    rw [this] at hK
    exact ite_leaf hK
  refine m_back hl ?_
  simp only [cl (show lowH x s < 1000 by omega), cl (show bk (lowH x s) < 1000 by omega), vin hl (by decide), vin hb (by decide), true_and, g.1, g.2.1, g.2.2.1, g.2.2.2]
  unfold hM at k
  refine ⟨fun q => ?_, fun q => ?_⟩
  · rw [if_pos q] at k
    refine jn1_w (botH x y s) (fun K hK => ite_leaf hK) ?_
    refine jn1_w (topH x y s) (fun K hK => ite_leaf hK) ?_
    refine jn1_w _ (fun K hK => ?_) k
    obtain ⟨a, b⟩ := ite_leaf hK
    exact ⟨fun w => ite_leaf (a w), b⟩
  · rw [if_neg q] at k; exact k
theorem m_width {x y mxs mys : Nat → Int32} {s : Nat} (hs : s < 60) (e : SegAg x y mxs mys s) {post : Int64 → Prop} (k : post (wM x s)) : wp_X4_width mxs (nI s) post := by
  obtain ⟨e1, e2, e3, e4⟩ := e
  unfold wp_X4_width
  simp only [dbl, dbl1, cl (show 2 * s < 1000 by omega), cl (show 2 * s + 1 < 1000 by omega), vin (show 2 * s < 120 by omega) (by decide), vin (show 2 * s + 1 < 120 by omega) (by decide), true_and, e1, e3, forall_eq]
  refine jn1_w _ (fun K hK => ?_) k
  unfold wM at hK
  obtain ⟨a, b⟩ := ite_leaf hK
  exact ⟨a, fun w => ite_leaf (b w)⟩
def metP (x y : Nat → Int32) (s : Nat) (px py : Int32) : Prop := (x (2 * s) = x (2 * s + 1) → x (2 * s) = px ∧ ¬ hM x y s px py < py.toInt64) ∧ (¬ x (2 * s) = x (2 * s + 1) → box (x (2 * s)) (x (2 * s + 1)) px ∧ ¬ hM x y s px py ≤ py.toInt64 * wM x s)
theorem m_isMet {x y mxs mys : Nat → Int32} {s : Nat} (hs : s < 60) (e : SegAg x y mxs mys s) {px py : Int32} {post : Int32 → Prop} (k : post (bi (metP x y s px py))) : wp_X4_isMet mxs mys (nI s) px py post := by
  obtain ⟨e1, e2, e3, e4⟩ := id e
  unfold wp_X4_isMet
  simp only [dbl, dbl1, cl (show 2 * s < 1000 by omega), cl (show 2 * s + 1 < 1000 by omega), vin (show 2 * s < 120 by omega) (by decide), vin (show 2 * s + 1 < 120 by omega) (by decide), true_and, e1, e3, forall_eq]
  refine ⟨fun v => jn1_bi (metP x y s px py) (fun K hK => ?_) ⟨bz_bi _, k⟩, fun v => ?_⟩
  · obtain ⟨k1, k0⟩ := bi_lf hK
    refine ⟨fun a => m_height hs e ⟨fun b => k0 fun q => (q.1 v).2 b, fun b => k1 ⟨fun _ => ⟨a, b⟩, fun w => absurd v w⟩⟩, fun a => k0 fun q => a (q.1 v).1⟩
  · refine jn1_bi (box (x (2 * s)) (x (2 * s + 1)) px) (fun K hK => boxT hK) ?_
    refine jn1_bi (metP x y s px py) (fun K hK => ?_) ⟨bz_bi _, k⟩
    obtain ⟨k1, k0⟩ := bi_lf hK
    refine ⟨fun a => k0 fun q => bi0.mp a (q.2 v).1, fun a => m_height hs e (m_width hs e ⟨fun b => k0 fun q => (q.2 v).2 b, fun b => k1 ⟨fun w => absurd w v, fun _ => ⟨nb0 a, b⟩⟩⟩)⟩
theorem m_above {x y u mxs mys mth : Nat → Int32} {mre : Int32} (G : Ag x y u mxs mys mth) {px py : Int32} {post : Int32 → Prop} (k : post (enc (bst (fun s => ¬ u s = 0 ∧ metP x y s px py) (fun s b => hM x y s px py * wM x b < hM x y b px py * wM x s) 60))) : ∃ n, lp_X4_above_33 mre mth mxs mys px py post n (-1) 0 := by
  have sa : ∀ t, t < 60 → ¬ u t = 0 → SegAg x y mxs mys t := fun t ht ut => by
    have a := G.2 (2 * t) (by omega) (us_ev.mpr ut)
    have b := G.2 (2 * t + 1) (by omega) (by unfold us; rw [show (2 * t + 1) / 2 = t by omega]; exact ut)
    exact ⟨a.1, a.2, b.1, b.2⟩
  have main : ∀ n t (v3 : Int32), t + n = 60 → v3 = enc (bst (fun s => ¬ u s = 0 ∧ metP x y s px py) (fun s b => hM x y s px py * wM x b < hM x y b px py * wM x s) t) → lp_X4_above_33 mre mth mxs mys px py post (n + 1) v3 (nI t) := by
    intro n
    induction n with
    | zero =>
      intro t v3 ht h3
      rw [lp_X4_above_33.eq_2]
      have et : t = 60 := by omega
      subst et
      exact ⟨fun _ => by rw [h3]; exact k, fun h => absurd ((lt60 (by omega)).mpr (by omega)) h⟩
    | succ n ih =>
      intro t v3 ht h3
      rw [lp_X4_above_33.eq_2]
      simp only [jn1, jn0, cl (show t < 1000 by omega), vin (show t < 60 by omega) (by decide), true_and, nI_1, i10, true_implies, false_implies, not_true_eq_false, not_false_eq_true, and_true]
      have ag := G.1 t (by omega)
      have skip : ¬ (¬ u t = 0 ∧ metP x y t px py) → lp_X4_above_33 mre mth mxs mys px py post (n + 1) v3 (nI (t + 1)) := by
        intro hno
        refine ih (t + 1) v3 (by omega) ?_
        cases hb : bst (fun s => ¬ u s = 0 ∧ metP x y s px py) (fun s b => hM x y s px py * wM x b < hM x y b px py * wM x s) t with
        | none => rw [(bst_n hb).2 hno, h3, hb]
        | some c => rw [(bst_s hb).2 (fun q => hno q.1), h3, hb]
      refine ⟨fun h => absurd ((lt60 (by omega)).mp h) (by omega), fun _ => ⟨fun h => skip fun q => q.1 (ag.mp h), fun h => ?_⟩⟩
      have ut : ¬ u t = 0 := fun q => h (ag.mpr q)
      refine m_isMet (by omega) (sa t (by omega) ut) ⟨fun q => skip fun z => bi0.mp q z.2, fun q => ?_⟩
      have hok : ¬ u t = 0 ∧ metP x y t px py := ⟨ut, nb0 q⟩
      have take : bst (fun s => ¬ u s = 0 ∧ metP x y s px py) (fun s b => hM x y s px py * wM x b < hM x y b px py * wM x s) (t + 1) = some t → lp_X4_above_33 mre mth mxs mys px py post (n + 1) (nI t) (nI (t + 1)) := fun e => ih (t + 1) _ (by omega) (by rw [e]; rfl)
      cases hb : bst (fun s => ¬ u s = 0 ∧ metP x y s px py) (fun s b => hM x y s px py * wM x b < hM x y b px py * wM x s) t with
      | none =>
        rw [hb] at h3
        have h3 : v3 = -1 := h3
        rw [h3]
        exact ⟨fun _ => take ((bst_n hb).1 hok), fun z => absurd (by decide) z⟩
      | some c =>
        have hc := bst_ok hb
        rw [hb] at h3
        have h3 : v3 = nI c := h3
        rw [h3]
        rw [h3] at skip
        refine ⟨fun z => absurd z (nneg (by omega)), fun _ => m_height (by omega) (sa t (by omega) ut) (m_width (by omega) (sa c (by omega) hc.2.1) (m_height (by omega) (sa c (by omega) hc.2.1) (m_width (by omega) (sa t (by omega) ut) ⟨fun z => ?_, fun z => take ((bst_s hb).1 ⟨hok, by simpa using z⟩)⟩)))⟩
        exact ih (t + 1) _ (by omega) (by rw [(bst_s hb).2 (fun w => absurd w.2 (by simpa using z))]; rfl)
  exact ⟨61, main 60 0 (-1) (by omega) (by rw [bst]; rfl)⟩
/-! the same -/
theorem toL {a : Int32} : a.toInt64.toInt = a.toInt := Int32.toInt_toInt64 a
theorem upr {x y : Nat → Int32} {s : Nat} (v : x (2 * s) = x (2 * s + 1)) : lowH x s = 2 * s + 1 ∧ rwd x s = 2 * s := by
  unfold lowH rwd
  rw [v]
  refine ⟨if_pos ?_, if_neg ?_⟩
  · rw [Int32.le_iff_toInt_le]; exact Int.le_refl _
  · rw [Int32.lt_iff_toInt_lt]; omega
theorem slant {x : Nat → Int32} {s : Nat} (v : ¬ x (2 * s) = x (2 * s + 1)) : lowH x s = rwd x s ∧ (x (rwd x s)).toInt < (x (bk (rwd x s))).toInt ∧ ((rwd x s = 2 * s ∧ (x (2 * s)).toInt < (x (2 * s + 1)).toInt) ∨ (rwd x s = 2 * s + 1 ∧ (x (2 * s + 1)).toInt < (x (2 * s)).toInt)) := by
  have v2 : (x (2 * s)).toInt ≠ (x (2 * s + 1)).toInt := fun q => v (Int32.toInt_inj.mp q)
  unfold lowH rwd
  by_cases q : x (2 * s + 1) < x (2 * s)
  · rw [if_pos q, bk_od]
    rw [Int32.lt_iff_toInt_lt] at q
    rw [if_pos (by rw [Int32.le_iff_toInt_le]; omega)]
    exact ⟨rfl, q, Or.inr ⟨rfl, q⟩⟩
  · rw [if_neg q, bk_ev]
    rw [Int32.lt_iff_toInt_lt] at q
    rw [if_neg (by rw [Int32.le_iff_toInt_le]; omega)]
    exact ⟨rfl, by omega, Or.inl ⟨rfl, by omega⟩⟩
theorem w_eq {x : Nat → Int32} {s : Nat} (b1 : inB (x (2 * s))) (b2 : inB (x (2 * s + 1))) : wM x s = widthL x s ∧ (wM x s).toInt = (if (x (2 * s)).toInt = (x (2 * s + 1)).toInt then 1 else if (x (2 * s)).toInt < (x (2 * s + 1)).toInt then (x (2 * s + 1)).toInt - (x (2 * s)).toInt else (x (2 * s)).toInt - (x (2 * s + 1)).toInt) := by
  have d := sub32 b2 b1
  have z : x (2 * s + 1) - x (2 * s) = 0 ↔ (x (2 * s + 1)).toInt - (x (2 * s)).toInt = 0 := by rw [← Int32.toInt_inj, d]; rfl
  have nn : 0 ≤ x (2 * s + 1) - x (2 * s) ↔ 0 ≤ (x (2 * s + 1)).toInt - (x (2 * s)).toInt := by rw [Int32.le_iff_toInt_le, d]; exact Iff.rfl
  unfold inB at b1 b2
  have ng : (-(x (2 * s + 1) - x (2 * s))).toInt = -((x (2 * s + 1)).toInt - (x (2 * s)).toInt) := by rw [Int32.toInt_neg, d, bm32 (by omega) (by omega)]
  have e1 : (wM x s).toInt = (if (x (2 * s)).toInt = (x (2 * s + 1)).toInt then 1 else if (x (2 * s)).toInt < (x (2 * s + 1)).toInt then (x (2 * s + 1)).toInt - (x (2 * s)).toInt else (x (2 * s)).toInt - (x (2 * s + 1)).toInt) := by
    unfold wM
    by_cases q : (x (2 * s)).toInt = (x (2 * s + 1)).toInt
    · rw [if_pos (z.mpr (by omega)), if_pos q]; rfl
    · rw [if_neg (fun w => q (by have := z.mp w; omega)), if_neg q]
      by_cases q2 : (x (2 * s)).toInt < (x (2 * s + 1)).toInt
      · rw [if_pos (nn.mpr (by omega)), if_pos q2, toL, d]
      · rw [if_neg (fun w => by have := nn.mp w; omega), if_neg q2, toL, ng]; omega
  refine ⟨?_, e1⟩
  rw [← Int64.toInt_inj, e1]
  unfold widthL maxI absI
  have sb : (0 - (x (2 * s + 1) - x (2 * s))).toInt = -((x (2 * s + 1)).toInt - (x (2 * s)).toInt) := by
    rw [Int32.toInt_sub, d, bm32]
    · show 0 - _ = _; omega
    · show -2147483648 ≤ 0 - _; omega
    · show 0 - _ < _; omega
  rw [toL]
  by_cases q2 : (x (2 * s)).toInt ≤ (x (2 * s + 1)).toInt
  · rw [if_pos (nn.mpr (by omega))]
    by_cases q : (1 : Int32) < x (2 * s + 1) - x (2 * s)
    · rw [if_pos q, d]
      rw [Int32.lt_iff_toInt_lt, d] at q
      have e0 : (1 : Int32).toInt = 1 := rfl
      rw [if_neg (by omega), if_pos (by omega)]
    · rw [if_neg q]
      rw [Int32.lt_iff_toInt_lt, d] at q
      have e0 : (1 : Int32).toInt = 1 := rfl
      rw [e0]
      by_cases q3 : (x (2 * s)).toInt = (x (2 * s + 1)).toInt
      · rw [if_pos q3]
      · rw [if_neg q3, if_pos (by omega)]; omega
  · rw [if_neg (show ¬ (0 ≤ x (2 * s + 1) - x (2 * s)) from fun w => by have := nn.mp w; omega)]
    by_cases q : (1 : Int32) < 0 - (x (2 * s + 1) - x (2 * s))
    · rw [if_pos q, sb, if_neg (by omega), if_neg (by omega)]; omega
    · rw [if_neg q]
      rw [Int32.lt_iff_toInt_lt, sb] at q
      have e0 : (1 : Int32).toInt = 1 := rfl
      rw [e0, if_neg (by omega), if_neg (by omega)]; omega
theorem met_reach {x y : Nat → Int32} {s : Nat} {px py : Int32} (b1 : inB (x (2 * s)) ∧ inB (y (2 * s))) (b2 : inB (x (2 * s + 1)) ∧ inB (y (2 * s + 1))) (hx : inB px) (hy : inB py) : (metP x y s px py ↔ reachL x y s px py) ∧ (reachL x y s px py → hM x y s px py = heightL x y s px py) := by
  obtain ⟨-, wI⟩ := w_eq b1.1 b2.1
  by_cases v : x (2 * s) = x (2 * s + 1)
  · obtain ⟨el, er⟩ := upr (y := y) v
    have ev : (x (2 * s)).toInt = (x (2 * s + 1)).toInt := by rw [v]
    have hv : hM x y s px py = if botH x y s ≤ py then (if topH x y s ≤ py then (-100000 : Int64) else py.toInt64) else (botH x y s).toInt64 := by unfold hM; rw [el, bk_od]; exact if_pos v.symm
    have bt : (botH x y s).toInt = min (y (2 * s)).toInt (y (2 * s + 1)).toInt ∧ (topH x y s).toInt = max (y (2 * s)).toInt (y (2 * s + 1)).toInt := by
      unfold botH topH
      rw [el, bk_od]
      by_cases q : y (2 * s) ≤ y (2 * s + 1)
      · rw [if_pos q, if_pos q]; rw [Int32.le_iff_toInt_le] at q; omega
      · rw [if_neg q, if_neg q]; rw [Int32.le_iff_toInt_le] at q; omega
    have mx : (maxI (y (2 * s)) (y (2 * s + 1))).toInt = max (y (2 * s)).toInt (y (2 * s + 1)).toInt := by
      unfold maxI
      by_cases q : y (2 * s) < y (2 * s + 1)
      · rw [if_pos q]; rw [Int32.lt_iff_toInt_lt] at q; omega
      · rw [if_neg q]; rw [Int32.lt_iff_toInt_lt] at q; omega
    have mn : (minI (y (2 * s)) (y (2 * s + 1))).toInt = min (y (2 * s)).toInt (y (2 * s + 1)).toInt := by
      unfold minI
      by_cases q : y (2 * s + 1) < y (2 * s)
      · rw [if_pos q]; rw [Int32.lt_iff_toInt_lt] at q; omega
      · rw [if_neg q]; rw [Int32.lt_iff_toInt_lt] at q; omega
    have hI : (hM x y s px py).toInt = if min (y (2 * s)).toInt (y (2 * s + 1)).toInt ≤ py.toInt then (if max (y (2 * s)).toInt (y (2 * s + 1)).toInt ≤ py.toInt then -100000 else py.toInt) else min (y (2 * s)).toInt (y (2 * s + 1)).toInt := by
      rw [hv]
      by_cases q : botH x y s ≤ py
      · rw [if_pos q]
        rw [Int32.le_iff_toInt_le, bt.1] at q
        rw [if_pos q]
        by_cases q2 : topH x y s ≤ py
        · rw [if_pos q2]
          rw [Int32.le_iff_toInt_le, bt.2] at q2
          rw [if_pos q2]; rfl
        · rw [if_neg q2]
          rw [Int32.le_iff_toInt_le, bt.2] at q2
          rw [if_neg q2, toL]
      · rw [if_neg q, toL, bt.1]
        rw [Int32.le_iff_toInt_le, bt.1] at q
        rw [if_neg q]
    have rr : reachL x y s px py ↔ (x (2 * s) = px ∧ py.toInt < max (y (2 * s)).toInt (y (2 * s + 1)).toInt) := by
      unfold reachL
      rw [er, bk_ev, Int32.le_iff_toInt_le, Int32.le_iff_toInt_le, Int32.lt_iff_toInt_lt, mx, ← Int32.toInt_inj (y := px)]
      constructor
      · rintro ⟨a, b, c, -⟩; exact ⟨by omega, c v⟩
      · rintro ⟨a, b⟩; exact ⟨by omega, by omega, fun _ => b, fun w => absurd v w⟩
    constructor
    · rw [rr]
      unfold metP
      rw [Int64.lt_iff_toInt_lt, hI, toL]
      unfold inB at hy
      constructor
      · intro q
        refine ⟨(q.1 v).1, ?_⟩
        have := (q.1 v).2
        by_cases w : max (y (2 * s)).toInt (y (2 * s + 1)).toInt ≤ py.toInt
        · rw [if_pos (by omega), if_pos w] at this; omega
        · omega
      · rintro ⟨a, b⟩
        refine ⟨fun _ => ⟨a, ?_⟩, fun w => absurd v w⟩
        by_cases w : min (y (2 * s)).toInt (y (2 * s + 1)).toInt ≤ py.toInt
        · rw [if_pos w, if_neg (by omega)]; omega
        · rw [if_neg w]; omega
    · intro q
      obtain ⟨a, b⟩ := rr.mp q
      rw [← Int64.toInt_inj, hI]
      unfold heightL
      rw [er, bk_ev]
      have dz : (x (2 * s + 1) - x (2 * s)).toInt64 = 0 := by rw [← Int64.toInt_inj, toL, sub32 b2.1 b1.1, ev]; show _ = (0 : Int); omega
      rw [if_pos dz, toL]
      unfold maxI
      by_cases w : py < minI (y (2 * s)) (y (2 * s + 1))
      · rw [if_pos w, mn]
        rw [Int32.lt_iff_toInt_lt, mn] at w
        rw [if_neg (by omega)]
      · rw [if_neg w]
        rw [Int32.lt_iff_toInt_lt, mn] at w
        rw [if_pos (by omega), if_neg (by omega)]
  · obtain ⟨el, lt, cs⟩ := slant v
    have bb : inB (x (rwd x s)) ∧ inB (y (rwd x s)) ∧ inB (x (bk (rwd x s))) ∧ inB (y (bk (rwd x s))) := by
      rcases cs with q | q
      · rw [q.1, bk_ev]; exact ⟨b1.1, b1.2, b2.1, b2.2⟩
      · rw [q.1, bk_od]; exact ⟨b2.1, b2.2, b1.1, b1.2⟩
    obtain ⟨c1, c2, c3, c4⟩ := id bb
    have xne : ¬ x (rwd x s) = x (bk (rwd x s)) := fun q => by rw [q] at lt; omega
    have dne : ¬ (x (bk (rwd x s)) - x (rwd x s)).toInt64 = 0 := fun q => by
      rw [← Int64.toInt_inj, toL, sub32 c3 c1] at q
      have q : (x (bk (rwd x s))).toInt - (x (rwd x s)).toInt = 0 := q
      omega
    have hq : hM x y s px py = heightL x y s px py := by
      unfold hM heightL
      rw [el, if_neg xne, if_neg dne]
    have wI2 : (wM x s).toInt = (x (bk (rwd x s))).toInt - (x (rwd x s)).toInt := by
      rw [wI]
      rcases cs with q | q
      · rw [q.1, bk_ev, if_neg (by omega), if_pos q.2]
      · rw [q.1, bk_od, if_neg (by omega), if_neg (by omega)]
    have m1 : ((y (rwd x s)).toInt64 * (x (bk (rwd x s)) - x (rwd x s)).toInt64).toInt = (y (rwd x s)).toInt * ((x (bk (rwd x s))).toInt - (x (rwd x s)).toInt) ∧ -1024000000 ≤ (y (rwd x s)).toInt * ((x (bk (rwd x s))).toInt - (x (rwd x s)).toInt) ∧ (y (rwd x s)).toInt * ((x (bk (rwd x s))).toInt - (x (rwd x s)).toInt) ≤ 1024000000 := by
      have h := mul32 (p := (y (rwd x s)).toInt) (q := (x (bk (rwd x s))).toInt - (x (rwd x s)).toInt) (by unfold inB at c2; omega) (by unfold inB at c1 c3; omega)
      refine ⟨?_, h⟩
      rw [Int64.toInt_mul, toL, toL, sub32 c3 c1, bm64 (by omega) (by omega)]
    have m2 := mulL c4 c2 hx c1
    have m2b := mulB c4 c2 hx c1
    have hI : (hM x y s px py).toInt = (y (rwd x s)).toInt * ((x (bk (rwd x s))).toInt - (x (rwd x s)).toInt) + ((y (bk (rwd x s))).toInt - (y (rwd x s)).toInt) * (px.toInt - (x (rwd x s)).toInt) := by
      rw [hq]
      unfold heightL
      rw [if_neg dne]
      exact addL m1.1 m2 m1.2 m2b
    have m3 : (py.toInt64 * wM x s).toInt = py.toInt * ((x (bk (rwd x s))).toInt - (x (rwd x s)).toInt) := by
      have h := mul32 (p := py.toInt) (q := (x (bk (rwd x s))).toInt - (x (rwd x s)).toInt) (by unfold inB at hy; omega) (by unfold inB at c1 c3; omega)
      rw [Int64.toInt_mul, toL, wI2, bm64 (by omega) (by omega)]
    have sd := (lt0L (sideI (x := x) (y := y) bb hx hy)).1
    refine ⟨?_, fun _ => hq⟩
    unfold metP reachL
    rw [sd, Int64.le_iff_toInt_le, hI, m3, Int32.le_iff_toInt_le, Int32.le_iff_toInt_le]
    have id1 : sdI x y (rwd x s) px py = py.toInt * ((x (bk (rwd x s))).toInt - (x (rwd x s)).toInt) - ((y (rwd x s)).toInt * ((x (bk (rwd x s))).toInt - (x (rwd x s)).toInt) + ((y (bk (rwd x s))).toInt - (y (rwd x s)).toInt) * (px.toInt - (x (rwd x s)).toInt)) := by unfold sdI dX; grind
    rw [id1]
    generalize py.toInt * ((x (bk (rwd x s))).toInt - (x (rwd x s)).toInt) = P
    generalize (y (rwd x s)).toInt * ((x (bk (rwd x s))).toInt - (x (rwd x s)).toInt) + ((y (bk (rwd x s))).toInt - (y (rwd x s)).toInt) * (px.toInt - (x (rwd x s)).toInt) = H
    have bx : box (x (2 * s)) (x (2 * s + 1)) px ↔ (x (rwd x s)).toInt ≤ px.toInt ∧ px.toInt ≤ (x (bk (rwd x s))).toInt := by
      unfold box
      rcases cs with q | q
      · rw [q.1, bk_ev]; omega
      · rw [q.1, bk_od]; omega
    rw [bx]
    constructor
    · rintro ⟨-, b⟩
      obtain ⟨⟨p1, p2⟩, p3⟩ := b v
      exact ⟨p1, p2, fun w => absurd w xne, fun _ => by omega⟩
    · rintro ⟨p1, p2, -, p4⟩
      exact ⟨fun w => absurd w v, fun _ => ⟨⟨p1, p2⟩, by have := p4 xne; omega⟩⟩
theorem above_eq {x y u : Nat → Int32} (C : Cfg x y u) {px py : Int32} (hx : inB px) (hy : inB py) : bst (fun s => ¬ u s = 0 ∧ metP x y s px py) (fun s b => hM x y s px py * wM x b < hM x y b px py * wM x s) 60 = bst (fun s => ¬ u s = 0 ∧ reachL x y s px py) (fun s b => heightL x y s px py * widthL x b < heightL x y b px py * widthL x s) 60 := by
  have bs : ∀ s, s < 60 → ¬ u s = 0 → (inB (x (2 * s)) ∧ inB (y (2 * s))) ∧ (inB (x (2 * s + 1)) ∧ inB (y (2 * s + 1))) := fun s hs us1 => ⟨C.1 _ (by omega) (us_ev.mpr us1), C.1 _ (by omega) (by unfold us; rw [show (2 * s + 1) / 2 = s by omega]; exact us1)⟩
  refine bst_congr (fun s hs => ?_) fun s b hs hb os ob => ?_
  · by_cases q : u s = 0
    · exact ⟨fun w => absurd q w.1, fun w => absurd q w.1⟩
    · obtain ⟨a, b⟩ := bs s hs q
      rw [(met_reach a b hx hy).1]
  · obtain ⟨a, b2⟩ := bs s hs os.1
    obtain ⟨c, d⟩ := bs b (by omega) ob.1
    have m1 := met_reach a b2 hx hy
    have m2 := met_reach c d hx hy
    rw [m1.2 (m1.1.mp os.2), m2.2 (m2.1.mp ob.2), (w_eq a.1 b2.1).1, (w_eq c.1 d.1).1]
