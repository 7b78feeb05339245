/-! Segments: what its reading methods answer, as functions of the arrays -/
def sideL (x y : Nat → Int32) (h : Nat) (px py : Int32) : Int64 := ((x (bk h) - x h).toInt64 * (py - y h).toInt64) - ((y (bk h) - y h).toInt64 * (px - x h).toInt64)
theorem s_side {x y : Nat → Int32} {h : Nat} {px py : Int32} {post : Int64 → Prop} (hh : h < 120) (k : post (sideL x y h px py)) : wp_X2_side x y (nI h) px py post := by
  simp only [wp_X2_side, xor_bk hh, cl (show h < 1000 by omega), cl (show bk h < 1000 by have := bk_lt hh; omega), vin hh (by decide), vin (bk_lt hh) (by decide), true_and, forall_eq]
  exact k
def turnL (x y : Nat → Int32) (g h : Nat) : Int64 := ((x (bk g) - x g).toInt64 * (y (bk h) - y h).toInt64) - ((y (bk g) - y g).toInt64 * (x (bk h) - x h).toInt64)
theorem s_turn {x y : Nat → Int32} {g h : Nat} {post : Int64 → Prop} (hg : g < 120) (hh : h < 120) (k : post (turnL x y g h)) : wp_X2_turn x y (nI g) (nI h) post := by
  simp only [wp_X2_turn, xor_bk hh, xor_bk hg, cl (show h < 1000 by omega), cl (show bk h < 1000 by have := bk_lt hh; omega), cl (show g < 1000 by omega), cl (show bk g < 1000 by have := bk_lt hg; omega), vin hh (by decide), vin (bk_lt hh) (by decide), vin hg (by decide), vin (bk_lt hg) (by decide), true_and, forall_eq]
  exact k
def sgL (v : Int64) : Int32 := if v < 0 then -1 else if 0 < v then 1 else 0
theorem s_signOf {v : Int64} {post : Int32 → Prop} (k : post (sgL v)) : wp_X2_signOf v post := by
  unfold wp_X2_signOf jn1
  unfold sgL at k
  refine ⟨fun h1 => ⟨fun h2 => ?_, fun h2 => ?_⟩, fun h1 => ?_⟩
  · rw [if_neg (by simpa using h1), if_neg (by simpa using h2)] at k
    exact k
  · rw [if_neg (by simpa using h1), if_pos (by simpa using h2)] at k
    exact k
  · rw [if_pos (by simpa using h1)] at k
    exact k
def soonL (x y : Nat → Int32) (b g h : Nat) : Prop := if sgL (turnL x y b g) = sgL (turnL x y b h) then turnL x y g h < 0 else sgL (turnL x y b g) < sgL (turnL x y b h)
theorem s_sooner {x y : Nat → Int32} {b g h : Nat} {post : Int32 → Prop} (hb : b < 120) (hg : g < 120) (hh : h < 120) (k : post (bi (soonL x y b g h))) : wp_X2_sooner x y (nI b) (nI g) (nI h) post := by
  unfold wp_X2_sooner
  refine s_turn hb hg (s_signOf (s_turn hb hh (s_signOf ?_)))
  obtain ⟨k1, k0⟩ := bi_lf k
  unfold soonL at k1 k0
  unfold jn1
  refine ⟨fun e => s_turn hg hh ⟨fun h1 => ⟨bz0, k0 ?_⟩, fun h1 => ⟨bz1, k1 ?_⟩⟩, fun e => ⟨fun h1 => ⟨bz0, k0 ?_⟩, fun h1 => ⟨bz1, k1 ?_⟩⟩⟩
  · rw [if_pos e]; simpa using h1
  · rw [if_pos e]; simpa using h1
  · rw [if_neg e]; simpa using h1
  · rw [if_neg e]; simpa using h1
def dotL (x y : Nat → Int32) (s : Nat) (px py : Int32) : Int64 := ((x (2 * s) - px).toInt64 * (x (2 * s + 1) - px).toInt64) + ((y (2 * s) - py).toInt64 * (y (2 * s + 1) - py).toInt64)
def holdsL (x y : Nat → Int32) (s : Nat) (px py : Int32) : Prop := sideL x y (2 * s) px py = 0 ∧ dotL x y s px py < 0
theorem s_holds {x y : Nat → Int32} {s : Nat} {px py : Int32} {post : Int32 → Prop} (hs : s < 60) (k : post (bi (holdsL x y s px py))) : wp_X2_holds x y (nI s) px py post := by
  obtain ⟨k1, k0⟩ := bi_lf k
  unfold wp_X2_holds
  simp only [dbl, dbl1, jn1, cl (show 2 * s < 1000 by omega), cl (show 2 * s + 1 < 1000 by omega), vin (show 2 * s < 120 by omega) (by decide), vin (show 2 * s + 1 < 120 by omega) (by decide), true_and, forall_eq]
  refine s_side (by omega) ⟨fun h1 => ⟨fun h2 => ⟨bz0, k0 ?_⟩, fun h2 => ⟨bz1, k1 ?_⟩⟩, fun h1 => ⟨bz0, k0 ?_⟩⟩
  · exact fun q => absurd q.2 (by simpa [dotL] using h2)
  · exact ⟨h1, by simpa [dotL] using h2⟩
  · exact fun q => h1 q.1
def touchL (x y : Nat → Int32) (s t : Nat) : Prop := holdsL x y s (x (2 * t)) (y (2 * t)) ∨ holdsL x y s (x (2 * t + 1)) (y (2 * t + 1))
theorem s_touches {x y : Nat → Int32} {s t : Nat} {post : Int32 → Prop} (hs : s < 60) (ht : t < 60) (k : post (bi (touchL x y s t))) : wp_X2_touches x y (nI s) (nI t) post := by
  obtain ⟨k1, k0⟩ := bi_lf k
  unfold wp_X2_touches
  simp only [dbl, dbl1, jn1, jn0, cl (show 2 * t < 1000 by omega), cl (show 2 * t + 1 < 1000 by omega), vin (show 2 * t < 120 by omega) (by decide), vin (show 2 * t + 1 < 120 by omega) (by decide), true_and]
  refine s_holds hs ⟨fun h1 => s_holds hs ⟨fun h2 => ⟨bz0, k0 ?_⟩, fun h2 => ⟨bz1, k1 ?_⟩⟩, fun h1 => ⟨bz1, k1 ?_⟩⟩
  · exact fun q => q.elim (bi0.mp h1) (bi0.mp h2)
  · exact Or.inr (Classical.byContradiction fun q => h2 (bi0.mpr q))
  · exact Or.inl (Classical.byContradiction fun q => h1 (bi0.mpr q))
def sameB (x y : Nat → Int32) (g h : Nat) : Prop := x g = x h ∧ y g = y h
theorem s_sameBegin {x y : Nat → Int32} {g h : Nat} {post : Int32 → Prop} (hg : g < 120) (hh : h < 120) (k : post (bi (sameB x y g h))) : wp_X2_sameBegin x y (nI g) (nI h) post := by
  obtain ⟨k1, k0⟩ := bi_lf k
  unfold wp_X2_sameBegin
  simp only [jn1, jn0, cl (show g < 1000 by omega), cl (show h < 1000 by omega), vin hg (by decide), vin hh (by decide), true_and]
  exact ⟨fun h1 => ⟨fun h2 => ⟨bz1, k1 ⟨h1, h2⟩⟩, fun h2 => ⟨bz0, k0 fun q => h2 q.2⟩⟩, fun h1 => ⟨bz0, k0 fun q => h1 q.1⟩⟩
theorem nb0 {P : Prop} (h : ¬ bi P = 0) : P := Classical.byContradiction fun q => h (bi0.mpr q)
def sameE (x y : Nat → Int32) (s t : Nat) : Prop := (sameB x y (2 * s) (2 * t) ∧ sameB x y (2 * s + 1) (2 * t + 1)) ∨ (sameB x y (2 * s) (2 * t + 1) ∧ sameB x y (2 * s + 1) (2 * t))
theorem s_sameEnds {x y : Nat → Int32} {s t : Nat} {post : Int32 → Prop} (hs : s < 60) (ht : t < 60) (k : post (bi (sameE x y s t))) : wp_X2_sameEnds x y (nI s) (nI t) post := by
  obtain ⟨k1, k0⟩ := bi_lf k
  unfold wp_X2_sameEnds
  simp only [dbl, dbl1, jn1, jn0]
  have second : (¬ (sameB x y (2 * s) (2 * t) ∧ sameB x y (2 * s + 1) (2 * t + 1))) → wp_X2_sameBegin x y (nI (2 * s)) (nI (2 * t + 1)) (fun r9 => (r9 = 0 → bz (0 : Int32) ∧ post 0) ∧ (¬ r9 = 0 → wp_X2_sameBegin x y (nI (2 * s + 1)) (nI (2 * t)) (fun r12 => (r12 = 0 → bz (0 : Int32) ∧ post 0) ∧ (¬ r12 = 0 → bz (1 : Int32) ∧ post 1)))) := by
    intro hn
    refine s_sameBegin (by omega) (by omega) ⟨fun h1 => ⟨bz0, k0 ?_⟩, fun h1 => s_sameBegin (by omega) (by omega) ⟨fun h2 => ⟨bz0, k0 ?_⟩, fun h2 => ⟨bz1, k1 ?_⟩⟩⟩
    · exact fun q => q.elim hn (fun q => bi0.mp h1 q.1)
    · exact fun q => q.elim hn (fun q => bi0.mp h2 q.2)
    · exact Or.inr ⟨nb0 h1, nb0 h2⟩
  refine s_sameBegin (by omega) (by omega) ⟨fun h1 => second fun q => bi0.mp h1 q.1, fun h1 => s_sameBegin (by omega) (by omega) ⟨fun h2 => second fun q => bi0.mp h2 q.2, fun h2 => ⟨bz1, k1 (Or.inl ⟨nb0 h1, nb0 h2⟩)⟩⟩⟩
def partsL (x y : Nat → Int32) (h g : Nat) : Prop := (sideL x y h (x g) (y g) < 0 ∧ 0 < sideL x y h (x (bk g)) (y (bk g))) ∨ (0 < sideL x y h (x g) (y g) ∧ sideL x y h (x (bk g)) (y (bk g)) < 0)
theorem s_parts {x y : Nat → Int32} {h g : Nat} {post : Int32 → Prop} (hh : h < 120) (hg : g < 120) (k : post (bi (partsL x y h g))) : wp_X2_parts x y (nI h) (nI g) post := by
  obtain ⟨k1, k0⟩ := bi_lf k
  unfold wp_X2_parts
  simp only [xor_bk hg, jn1, jn0, cl (show g < 1000 by omega), cl (show bk g < 1000 by have := bk_lt hg; omega), vin hg (by decide), vin (bk_lt hg) (by decide), true_and]
  refine s_side hh (s_side hh ?_)
  unfold partsL at k1 k0
  generalize sideL x y h (x g) (y g) = a at *
  generalize sideL x y h (x (bk g)) (y (bk g)) = c at *
  have second : ¬ (a < 0 ∧ 0 < c) → (a ≤ 0 → bz (0 : Int32) ∧ post 0) ∧ (¬ a ≤ 0 → (0 ≤ c → bz (0 : Int32) ∧ post 0) ∧ (¬ 0 ≤ c → bz (1 : Int32) ∧ post 1)) := fun hn =>
    ⟨fun h1 => ⟨bz0, k0 fun q => q.elim hn fun q => absurd h1 (by simpa using q.1)⟩, fun h1 => ⟨fun h2 => ⟨bz0, k0 fun q => q.elim hn fun q => absurd h2 (by simpa using q.2)⟩, fun h2 => ⟨bz1, k1 (Or.inr ⟨by simpa using h1, by simpa using h2⟩)⟩⟩⟩
  exact ⟨fun h1 => second fun q => absurd h1 (by simpa using q.1), fun h1 => ⟨fun h2 => ⟨bz1, k1 (Or.inl ⟨by simpa using h1, h2⟩)⟩, fun h2 => second fun q => h2 q.2⟩⟩
def crossL (x y : Nat → Int32) (s t : Nat) : Prop := partsL x y (2 * s) (2 * t) ∧ partsL x y (2 * t) (2 * s)
theorem s_crosses {x y : Nat → Int32} {s t : Nat} {post : Int32 → Prop} (hs : s < 60) (ht : t < 60) (k : post (bi (crossL x y s t))) : wp_X2_crosses x y (nI s) (nI t) post := by
  obtain ⟨k1, k0⟩ := bi_lf k
  unfold wp_X2_crosses
  simp only [dbl, jn1, jn0]
  exact s_parts (by omega) (by omega) ⟨fun h1 => ⟨bz0, k0 fun q => bi0.mp h1 q.1⟩, fun h1 => s_parts (by omega) (by omega) ⟨fun h2 => ⟨bz0, k0 fun q => bi0.mp h2 q.2⟩, fun h2 => ⟨bz1, k1 ⟨nb0 h1, nb0 h2⟩⟩⟩⟩
def clashL (x y : Nat → Int32) (s t : Nat) : Prop := touchL x y s t ∨ touchL x y t s ∨ sameE x y s t ∨ crossL x y s t
theorem s_clashes {x y u : Nat → Int32} {s : Nat} {post : Int32 → Prop} (hs : s < 60) (k : post (bi (∃ t, t < 60 ∧ ¬ u t = 0 ∧ clashL x y s t))) : wp_X2_clashes x y u (nI s) post := by
  obtain ⟨k1, k0⟩ := bi_lf k
  have main : ∀ n t, t + n = 60 → (∀ j, j < t → ¬ u j = 0 → ¬ clashL x y s j) → lp_X2_clashes_2 x y u (nI s) (bz (1 : Int32) ∧ post 1) (bz (0 : Int32) ∧ post 0) (n + 1) (nI t) := by
    intro n
    induction n with
    | zero =>
      intro t ht hj
      rw [lp_X2_clashes_2.eq_2]
      exact ⟨fun _ => ⟨bz0, k0 fun ⟨j, h1, h2, h3⟩ => hj j (by omega) h2 h3⟩, fun h => absurd ((lt60 (by omega)).mpr (by omega)) h⟩
    | succ n ih =>
      intro t ht hj
      rw [lp_X2_clashes_2.eq_2]
      refine ⟨fun h => absurd ((lt60 (by omega)).mp h) (by omega), fun _ => ⟨vin (by omega) (by decide), ?_⟩⟩
      have go : (¬ u t = 0 → ¬ clashL x y s t) → lp_X2_clashes_2 x y u (nI s) (bz (1 : Int32) ∧ post 1) (bz (0 : Int32) ∧ post 0) (n + 1) (nI t + 1) := fun hc => by
        rw [nI_1]
        exact ih (t + 1) (by omega) (fun j hj2 => by
          rcases Nat.lt_or_ge j t with q | q
          · exact hj j q
          · have : j = t := by omega
            rw [this]; exact hc)
      have found : ¬ u t = 0 → clashL x y s t → bz (1 : Int32) ∧ post 1 := fun h1 h2 => ⟨bz1, k1 ⟨t, by omega, h1, h2⟩⟩
      simp only [jn0, cl (show t < 1000 by omega)]
      refine ⟨fun h => go fun q => absurd h q, fun hu => s_touches hs (by omega) ⟨fun h1 => s_touches (by omega) hs ⟨fun h2 => s_sameEnds hs (by omega) ⟨fun h3 => s_crosses hs (by omega) ⟨fun h4 => go fun _ q => ?_, fun h4 => found hu (Or.inr (Or.inr (Or.inr (nb0 h4))))⟩, fun h3 => found hu (Or.inr (Or.inr (Or.inl (nb0 h3))))⟩, fun h2 => found hu (Or.inr (Or.inl (nb0 h2)))⟩, fun h1 => found hu (Or.inl (nb0 h1))⟩⟩
      rcases q with q | q | q | q
      · exact bi0.mp h1 q
      · exact bi0.mp h2 q
      · exact bi0.mp h3 q
      · exact bi0.mp h4 q
  exact ⟨61, main 60 0 (by omega) fun j h => absurd h (Nat.not_lt_zero j)⟩
