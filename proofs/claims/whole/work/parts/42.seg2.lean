/-! Segments (2): searches, writes, what is above -/
theorem s_has {u : Nat → Int32} {v : Int32} {post : Int32 → Prop} (k : post (bi (∃ s, s < 60 ∧ v = nI s ∧ ¬ u s = 0))) : wp_X2_has u v post := by
  obtain ⟨k1, k0⟩ := bi_lf k
  unfold wp_X2_has
  simp only [jn1, jn0]
  refine ⟨fun h1 => ⟨bz0, k0 ?_⟩, fun h1 => ⟨fun h2 => ⟨bz0, k0 ?_⟩, fun h2 => ?_⟩⟩
  · rintro ⟨s, hs, rfl, -⟩
    exact nneg (by omega) h1
  · rintro ⟨s, hs, rfl, -⟩
    exact absurd ((lt60 (by omega)).mp h2) (by omega)
  · rcases pk_ix v (n := 60) (by decide) with q | q | ⟨s, hs, rfl⟩
    · exact absurd q h1
    · exact absurd q h2
    · rw [cl (by omega)]
      refine ⟨vin hs (by decide), fun h3 => ⟨bz0, k0 ?_⟩, fun h3 => ⟨bz1, k1 ⟨s, hs, rfl, h3⟩⟩⟩
      rintro ⟨t, ht, e, h4⟩
      rw [nI_inj (by omega) (by omega) e] at h3
      exact h4 h3
theorem s_leastFree {u : Nat → Int32} {post : Int32 → Prop} (k1 : ∀ s, s < 60 → u s = 0 → (∀ t, t < s → ¬ u t = 0) → post (nI s)) (k0 : (∀ s, s < 60 → ¬ u s = 0) → post (-1)) : wp_X2_leastFree u post := by
  have main : ∀ n t, t + n = 60 → (∀ j, j < t → ¬ u j = 0) → lp_X2_leastFree_2 u (fun w => post w) (post (-1)) (n + 1) (nI t) := by
    intro n
    induction n with
    | zero =>
      intro t ht hj
      rw [lp_X2_leastFree_2.eq_2]
      exact ⟨fun _ => k0 fun s hs => hj s (by omega), fun h => absurd ((lt60 (by omega)).mpr (by omega)) h⟩
    | succ n ih =>
      intro t ht hj
      rw [lp_X2_leastFree_2.eq_2, cl (by omega)]
      refine ⟨fun h => absurd ((lt60 (by omega)).mp h) (by omega), fun _ => ⟨vin (by omega) (by decide), fun h => k1 t (by omega) h hj, fun h => ?_⟩⟩
      rw [nI_1]
      exact ih (t + 1) (by omega) (fun j hj2 => by
        rcases Nat.lt_or_ge j t with q | q
        · exact hj j q
        · have : j = t := by omega
          rw [this]; exact h)
  exact ⟨61, main 60 0 (by omega) fun j h => absurd h (Nat.not_lt_zero j)⟩
theorem s_draw {x y : Nat → Int32} {s : Nat} {ax ay bx b_y : Int32} {post : (Nat → Int32) → (Nat → Int32) → Prop} (hs : s < 60) (k : post (upd (upd x (2 * s) ax) (2 * s + 1) bx) (upd (upd y (2 * s) ay) (2 * s + 1) b_y)) : wp_X2_draw x y (nI s) ax ay bx b_y post := by
  unfold wp_X2_draw
  simp only [dbl, dbl1, cl (show 2 * s < 1000 by omega), cl (show 2 * s + 1 < 1000 by omega), vin (show 2 * s < 120 by omega) (by decide), vin (show 2 * s + 1 < 120 by omega) (by decide), true_and, forall_eq]
  exact k
theorem nar1 : vp_nar .boolean 1 = 1 := by decide
theorem nar0 : vp_nar .boolean 0 = 0 := by decide
theorem s_keep {u : Nat → Int32} {sn : Int32} {s : Nat} {post : (Nat → Int32) → Int32 → Prop} (hs : s < 60) (k : post (upd u s 1) (sn + 1)) : wp_X2_keep u sn (nI s) post := by
  unfold wp_X2_keep
  simp only [cl (show s < 1000 by omega), vin hs (by decide), true_and, forall_eq, nar1]
  exact k
theorem s_drop {u : Nat → Int32} {sn : Int32} {s : Nat} {post : (Nat → Int32) → Int32 → Prop} (hs : s < 60) (k : post (upd u s 0) (sn - 1)) : wp_X2_drop u sn (nI s) post := by
  unfold wp_X2_drop
  simp only [cl (show s < 1000 by omega), vin hs (by decide), true_and, forall_eq, nar0]
  exact k
theorem s_dropAll {u : Nat → Int32} {sn : Int32} {post : (Nat → Int32) → Int32 → Prop} (k : ∀ u2 : Nat → Int32, (∀ s, s < 60 → u2 s = 0) → post u2 0) : wp_X2_dropAll u sn post := by
  have main : ∀ n t (u : Nat → Int32), t + n = 60 → (∀ j, j < t → u j = 0) → lp_X2_dropAll_2 sn (fun w => post w 0) (n + 1) u (nI t) := by
    intro n
    induction n with
    | zero =>
      intro t u ht hj
      rw [lp_X2_dropAll_2.eq_2]
      exact ⟨fun _ => k u fun s hs => hj s (by omega), fun h => absurd ((lt60 (by omega)).mpr (by omega)) h⟩
    | succ n ih =>
      intro t u ht hj
      rw [lp_X2_dropAll_2.eq_2, cl (by omega)]
      refine ⟨fun h => absurd ((lt60 (by omega)).mp h) (by omega), fun _ => ⟨vin (by omega) (by decide), fun u1 e => ?_⟩⟩
      rw [nI_1, e, nar0]
      exact ih (t + 1) _ (by omega) (fun j hj2 => by
        by_cases q : j = t
        · rw [q]; exact pk_us
        · rw [pk_un q]; exact hj j (by omega))
  exact ⟨61, main 60 0 u (by omega) fun j h => absurd h (Nat.not_lt_zero j)⟩
/-- half h is used and begins at the place -/
def atP (x y u : Nat → Int32) (px py : Int32) (h : Nat) : Prop := ¬ u (h / 2) = 0 ∧ x h = px ∧ y h = py
theorem s_leastHalfAt {x y u : Nat → Int32} {px py : Int32} {post : Int32 → Prop} (k1 : ∀ h, h < 120 → atP x y u px py h → (∀ g, g < h → ¬ atP x y u px py g) → post (nI h)) (k0 : (∀ h, h < 120 → ¬ atP x y u px py h) → post (-1)) : wp_X2_leastHalfAt x y u px py post := by
  have main : ∀ n t, t + n = 120 → (∀ j, j < t → ¬ atP x y u px py j) → lp_X2_leastHalfAt_2 x y u px py (fun w => post w) (post (-1)) (n + 1) (nI t) := by
    intro n
    induction n with
    | zero =>
      intro t ht hj
      rw [lp_X2_leastHalfAt_2.eq_2]
      exact ⟨fun _ => k0 fun s hs => hj s (by omega), fun h => absurd ((lt120 (by omega)).mpr (by omega)) h⟩
    | succ n ih =>
      intro t ht hj
      rw [lp_X2_leastHalfAt_2.eq_2]
      have go : ¬ atP x y u px py t → lp_X2_leastHalfAt_2 x y u px py (fun w => post w) (post (-1)) (n + 1) (nI t + 1) := fun hc => by
        rw [nI_1]
        exact ih (t + 1) (by omega) (fun j hj2 => by
          rcases Nat.lt_or_ge j t with q | q
          · exact hj j q
          · have : j = t := by omega
            rw [this]; exact hc)
      simp only [jn0, shr_half (show t < 120 by omega), cl (show t < 1000 by omega), cl (show t / 2 < 1000 by omega), vin (show t < 120 by omega) (by decide), vin (show t / 2 < 60 by omega) (by decide), true_and]
      exact ⟨fun h => absurd ((lt120 (by omega)).mp h) (by omega), fun _ => ⟨fun h => go fun q => q.1 h, fun h => ⟨fun h2 => ⟨fun h3 => k1 t (by omega) ⟨h, h2, h3⟩ hj, fun h3 => go fun q => h3 q.2.2⟩, fun h2 => go fun q => h2 q.2.1⟩⟩⟩
  exact ⟨121, main 120 0 (by omega) fun j h => absurd h (Nat.not_lt_zero j)⟩
theorem s_segmentThrough {x y u : Nat → Int32} {px py : Int32} {post : Int32 → Prop} (k1 : ∀ s, s < 60 → ¬ u s = 0 → holdsL x y s px py → (∀ t, t < s → ¬ u t = 0 → ¬ holdsL x y t px py) → post (nI s)) (k0 : (∀ s, s < 60 → ¬ u s = 0 → ¬ holdsL x y s px py) → post (-1)) : wp_X2_segmentThrough x y u px py post := by
  have main : ∀ n t, t + n = 60 → (∀ j, j < t → ¬ u j = 0 → ¬ holdsL x y j px py) → lp_X2_segmentThrough_2 x y u px py (fun w => post w) (post (-1)) (n + 1) (nI t) := by
    intro n
    induction n with
    | zero =>
      intro t ht hj
      rw [lp_X2_segmentThrough_2.eq_2]
      exact ⟨fun _ => k0 fun s hs => hj s (by omega), fun h => absurd ((lt60 (by omega)).mpr (by omega)) h⟩
    | succ n ih =>
      intro t ht hj
      rw [lp_X2_segmentThrough_2.eq_2]
      have go : (¬ u t = 0 → ¬ holdsL x y t px py) → lp_X2_segmentThrough_2 x y u px py (fun w => post w) (post (-1)) (n + 1) (nI t + 1) := fun hc => by
        rw [nI_1]
        exact ih (t + 1) (by omega) (fun j hj2 => by
          rcases Nat.lt_or_ge j t with q | q
          · exact hj j q
          · have : j = t := by omega
            rw [this]; exact hc)
      simp only [jn0, cl (show t < 1000 by omega), vin (show t < 60 by omega) (by decide), true_and]
      exact ⟨fun h => absurd ((lt60 (by omega)).mp h) (by omega), fun _ => ⟨fun h => go fun q => absurd h q, fun h => s_holds (by omega) ⟨fun h2 => go fun _ => bi0.mp h2, fun h2 => k1 t (by omega) h (nb0 h2) hj⟩⟩⟩
  exact ⟨61, main 60 0 (by omega) fun j h => absurd h (Nat.not_lt_zero j)⟩
def sweepL (x y : Nat → Int32) (h : Nat) : Int64 := ((x h).toInt64 * (y (bk h)).toInt64) - ((x (bk h)).toInt64 * (y h).toInt64)
theorem s_sweep {x y : Nat → Int32} {h : Nat} {post : Int64 → Prop} (hh : h < 120) (k : post (sweepL x y h)) : wp_X2_sweep x y (nI h) post := by
  simp only [wp_X2_sweep, xor_bk hh, cl (show h < 1000 by omega), cl (show bk h < 1000 by have := bk_lt hh; omega), vin hh (by decide), vin (bk_lt hh) (by decide), true_and]
  exact k
def rwd (x : Nat → Int32) (s : Nat) : Nat := if x (2 * s + 1) < x (2 * s) then 2 * s + 1 else 2 * s
theorem rwd_lt {x : Nat → Int32} {s : Nat} (hs : s < 60) : rwd x s < 120 := by unfold rwd; split <;> omega
theorem s_rightward {x : Nat → Int32} {s : Nat} {post : Int32 → Prop} (hs : s < 60) (k : post (nI (rwd x s))) : wp_X2_rightward x (nI s) post := by
  unfold wp_X2_rightward
  simp only [dbl, dbl1, jn1, cl (show 2 * s < 1000 by omega), cl (show 2 * s + 1 < 1000 by omega), vin (show 2 * s < 120 by omega) (by decide), vin (show 2 * s + 1 < 120 by omega) (by decide), true_and]
  unfold rwd at k
  exact ⟨fun h => by rw [if_pos h] at k; exact k, fun h => by rw [if_neg h] at k; exact k⟩
def roofL (x y : Nat → Int32) (s : Nat) (px py : Int32) : Prop := x (rwd x s) ≤ px ∧ px < x (bk (rwd x s)) ∧ sideL x y (rwd x s) px py < 0
theorem s_roofs {x y : Nat → Int32} {s : Nat} {px py : Int32} {post : Int32 → Prop} (hs : s < 60) (k : post (bi (roofL x y s px py))) : wp_X2_roofs x y (nI s) px py post := by
  obtain ⟨k1, k0⟩ := bi_lf k
  unfold wp_X2_roofs
  have hr := rwd_lt (x := x) hs
  refine s_rightward hs ?_
  simp only [jn1, jn0, xor_bk hr, cl (show rwd x s < 1000 by omega), cl (show bk (rwd x s) < 1000 by have := bk_lt hr; omega), vin hr (by decide), vin (bk_lt hr) (by decide), true_and]
  refine ⟨fun h1 => ⟨bz0, k0 ?_⟩, fun h1 => ⟨fun h2 => ⟨bz0, k0 ?_⟩, fun h2 => s_side hr ⟨fun h3 => ⟨bz0, k0 ?_⟩, fun h3 => ⟨bz1, k1 ⟨by simpa using h1, by simpa using h2, by simpa using h3⟩⟩⟩⟩⟩
  · exact fun q => absurd q.1 (by simpa using h1)
  · exact fun q => absurd q.2.1 (by simpa using h2)
  · exact fun q => absurd q.2.2 (by simpa using h3)
