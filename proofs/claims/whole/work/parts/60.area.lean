/-! the sign of a round's area -/
theorem ex_min {T : Nat → Prop} {F : Nat → Int} {n : Nat} (h : ∃ h, h < n ∧ T h) : ∃ t, t < n ∧ T t ∧ ∀ h, h < n → T h → F t ≤ F h := by
  obtain ⟨t, a, b, c⟩ := ex_max (F := fun h => - F h) h
  exact ⟨t, a, b, fun g hg tg => by have := c g hg tg; omega⟩
theorem abel {n : Nat} : ∀ c (K : Nat → Prop) (s z : Nat → Int), cn K n ≤ c → (∀ k, k < n → K k → 0 ≤ z k) → (∀ k, k < n → K k → 0 ≤ su (fun g => pif (K g ∧ z k ≤ z g) (s g)) n) →
    0 ≤ su (fun g => pif (K g) (s g * z g)) n ∧ ((∀ k, k < n → K k → 0 < z k) → (∃ k, k < n ∧ K k ∧ 0 < su (fun g => pif (K g ∧ z k ≤ z g) (s g)) n) → 0 < su (fun g => pif (K g) (s g * z g)) n) := by
  intro c
  induction c with
  | zero =>
    intro K s z hc hz hp
    have no : ∀ k, k < n → ¬ K k := fun k hk q => by
      have := cn_lt (P := fun _ => False) (Q := K) (fun i _ w => w.elim) hk q id
      omega
    rw [su_0 fun g hg => pif_f (no g hg)]
    exact ⟨Int.le_refl 0, fun _ ⟨k, hk, q, _⟩ => absurd q (no k hk)⟩
  | succ c ih =>
    intro K s z hc hz hp
    by_cases ne : ∃ k, k < n ∧ K k
    · obtain ⟨m, hm, km, mm⟩ := ex_min (F := z) ne
      have tot : su (fun g => pif (K g ∧ z m ≤ z g) (s g)) n = su (fun g => pif (K g) (s g)) n := su_c fun g hg => pif_c ⟨fun w => w.1, fun w => ⟨w, mm g hg w⟩⟩
      have t0 := hp m hm km
      rw [tot] at t0
      have z0 := hz m hm km
      have dec : su (fun g => pif (K g) (s g * z g)) n = su (fun g => pif (K g ∧ z m < z g) (s g * (z g - z m))) n + z m * su (fun g => pif (K g) (s g)) n := by
        rw [← su_mul, ← su_add]
        refine su_c fun g hg => ?_
        by_cases q : K g
        · rw [pif_t q, pif_t q]
          by_cases w : z m < z g
          · rw [pif_t ⟨q, w⟩, Int.mul_sub, Int.mul_comm (z m)]; omega
          · have e : z g = z m := by have := mm g hg q; omega
            rw [pif_f fun v => w v.2, e, Int.mul_comm (z m)]; omega
        · rw [pif_f q, pif_f q, pif_f fun v => q v.1]; omega
      have lt := cn_lt (P := fun g => K g ∧ z m < z g) (Q := K) (n := n) (fun i _ w => w.1) hm km (fun w => by have := w.2; omega)
      have par : ∀ k, k < n → (K k ∧ z m < z k) → su (fun g => pif ((K g ∧ z m < z g) ∧ z k - z m ≤ z g - z m) (s g)) n = su (fun g => pif (K g ∧ z k ≤ z g) (s g)) n := fun k hk q => su_c fun g hg => pif_c ⟨fun w => ⟨w.1.1, by have := w.2; omega⟩, fun w => ⟨⟨w.1, by have := w.2; have := q.2; omega⟩, by have := w.2; omega⟩⟩
      obtain ⟨r1, r2⟩ := ih (fun g => K g ∧ z m < z g) s (fun g => z g - z m) (by omega) (fun k hk q => by have := q.2; show 0 ≤ z k - z m; omega) (fun k hk q => by rw [par k hk q]; exact hp k hk q.1)
      have x := Int.mul_nonneg z0 t0
      rw [dec]
      refine ⟨by omega, fun zp ex => ?_⟩
      by_cases q : 0 < su (fun g => pif (K g) (s g)) n
      · have y := Int.mul_pos (zp m hm km) q
        omega
      · obtain ⟨k, hk, kk, pk⟩ := ex
        have lk : z m < z k := by
          have a := mm k hk kk
          rcases Int.lt_or_le (z m) (z k) with w | w
          · exact w
          · exfalso
            have e : su (fun g => pif (K g ∧ z k ≤ z g) (s g)) n = su (fun g => pif (K g) (s g)) n := su_c fun g hg => pif_c ⟨fun w => w.1, fun w2 => ⟨w2, by have := mm g hg w2; omega⟩⟩
            rw [e] at pk
            exact q pk
        have := r2 (fun k hk q => by have := q.2; show 0 < z k - z m; omega) ⟨k, hk, ⟨kk, lk⟩, by rw [par k hk ⟨kk, lk⟩]; exact pk⟩
        omega
    · rw [su_0 fun g hg => pif_f fun q => ne ⟨g, hg, q⟩]
      exact ⟨Int.le_refl 0, fun _ ⟨k, hk, q, _⟩ => absurd ⟨k, hk, q⟩ ne⟩
noncomputable def Tc (X V : Nat → Int) (U Q : Nat → Prop) (i : Int) : Int := su (fun g => pif (Q g ∧ cov X (ri X g) i) (- sn X g * zZ X V U (ri X g) i)) 120
theorem z_pos {X V : Nat → Int} {U : Nat → Prop} {s : Nat} {i : Int} (hs : s < 120) (us : U s) (rs : rt X s) (v1 : -16000 ≤ V s) (v2 : -16000 ≤ V (bk s)) (c : cov X s i) : 0 < zZ X V U s i := by
  obtain ⟨hD, hE⟩ := eD_ok (X := X) (U := U)
  obtain ⟨ps, es⟩ := hE s hs us rs
  unfold zZ
  refine Int.mul_pos ps ?_
  unfold cov at c
  have e : y2 X V s i = (V s + 16001) * (2 * dl X s - (2 * (i - X s) + 1)) + (V (bk s) + 16001) * (2 * (i - X s) + 1) := by unfold y2 dl; grind
  rw [e]
  have a := Int.mul_pos (show 0 < V s + 16001 by omega) (show 0 < 2 * dl X s - (2 * (i - X s) + 1) by unfold dl; omega)
  have b := Int.mul_pos (show 0 < V (bk s) + 16001 by omega) (show 0 < 2 * (i - X s) + 1 by omega)
  omega
theorem Tc_seg {X V : Nat → Int} {U T Q : Nat → Prop} {N : Nat → Nat} (G : Geo X V U N) (P : Pie X U T) (C : Cir U N Q) (hQ : ∀ h, h < 120 → Q h → T h) {i : Int} : Tc X V U Q i = su (fun g => pif (U g ∧ rt X g ∧ T g ∧ cov X g i) ((pif (Q (bk g)) 1 - pif (Q g) 1) * zZ X V U g i)) 120 := by
  unfold Tc
  rw [seg_sum G C (fun w => cov X w i) (fun w => zZ X V U w i)]
  refine su_c fun g hg => ?_
  by_cases t : T g
  · exact pif_c ⟨fun w => ⟨w.1, w.2.1, t, w.2.2⟩, fun w => ⟨w.1, w.2.1, w.2.2.2⟩⟩
  · have n1 : ¬ Q g := fun q => t (hQ g hg q)
    have n2 : ¬ Q (bk g) := fun q => t (by have := P.2.1 _ (bk_lt hg) (hQ _ (bk_lt hg) q); rw [bk_bk] at this; exact this)
    rw [pif_f (P := U g ∧ rt X g ∧ T g ∧ _) fun w => t w.2.2.1, pif_f n1, pif_f n2]
    by_cases z : U g ∧ rt X g ∧ cov X g i
    · rw [pif_t z]; omega
    · rw [pif_f z]
/-- what lies at a segment's height or above it, in a column -/
theorem part_sum {X V : Nat → Int} {U T Q : Nat → Prop} {N : Nat → Nat} (G : Geo X V U N) (P : Pie X U T) (C : Cir U N Q) (hQ : ∀ h, h < 120 → Q h → T h) {i : Int} {s : Nat} (hs : s < 120) (us : U s) (rs : rt X s) (ts : T s) (cs : cov X s i) :
    su (fun g => pif ((U g ∧ rt X g ∧ T g ∧ cov X g i) ∧ zZ X V U s i ≤ zZ X V U g i) (pif (Q (bk g)) 1 - pif (Q g) 1)) 120 = Mv X V Q (bk s) := by
  have nb : ¬ rt X (bk s) := fun q => (rt_bk G hs us).mp q rs
  rw [Mv_f nb, bk_bk, W_col G C hs us rs cs]
  have e := seg_sum G C (fun w => cov X w i ∧ w ≠ s ∧ zZ X V U s i < zZ X V U w i) (fun _ => 1)
  have e1 : su (fun g => pif (Q g ∧ mM X V U s i g) (- sn X g)) 120 = su (fun g => pif (Q g ∧ (cov X (ri X g) i ∧ ri X g ≠ s ∧ zZ X V U s i < zZ X V U (ri X g) i)) (- sn X g * 1)) 120 := su_c fun g _ => by unfold mM; rw [Int.mul_one]
  have e2 : su (fun g => pif (g = s) (pif (Q (bk s)) 1 - pif (Q s) 1)) 120 = pif (Q (bk s)) 1 - pif (Q s) 1 := su_one hs
  rw [e1, e, ← e2, ← su_add]
  refine su_c fun g hg => ?_
  by_cases q : g = s
  · rw [q, pif_t ⟨⟨us, rs, ts, cs⟩, Int.le_refl _⟩, pif_t rfl, pif_f (P := U s ∧ rt X s ∧ cov X s i ∧ s ≠ s ∧ zZ X V U s i < zZ X V U s i) (fun w => w.2.2.2.1 rfl)]; omega
  · rw [pif_f q]
    by_cases k : U g ∧ rt X g ∧ cov X g i
    · have nse : g / 2 ≠ s / 2 := fun w => by
        have e2 : g = bk s := by unfold bk; split <;> omega
        rw [e2] at k; exact nb k.2.1
      have f := F_geo (V := V) G hs hg us k.1 nse rs k.2.1 cs k.2.2
      have zc := z_cmp (V := V) (i := i) hs hg us k.1 rs k.2.1
      have neq : zZ X V U s i ≠ zZ X V U g i := by
        by_cases w : startP (X s) (X (bk s)) (X g) (X (bk g)) (sS X V s g) (sS X V s (bk g)) (sS X V g s)
        · have := zc.1 (f.1 w); omega
        · have := zc.2 (f.2 w); omega
      by_cases t : T g
      · by_cases w : zZ X V U s i < zZ X V U g i
        · rw [pif_t ⟨⟨k.1, k.2.1, t, k.2.2⟩, by omega⟩, pif_t (P := U g ∧ rt X g ∧ cov X g i ∧ g ≠ s ∧ zZ X V U s i < zZ X V U g i) ⟨k.1, k.2.1, k.2.2, q, w⟩]; omega
        · rw [pif_f fun v => by have := v.2; omega, pif_f fun v => w v.2.2.2.2]; rfl
      · have n1 : ¬ Q g := fun q => t (hQ g hg q)
        have n2 : ¬ Q (bk g) := fun q => t (by have := P.2.1 _ (bk_lt hg) (hQ _ (bk_lt hg) q); rw [bk_bk] at this; exact this)
        rw [pif_f fun v => t v.1.2.2.1, pif_f n1, pif_f n2]
        have : ∀ B : Prop, pif B ((0 - 0) * 1) = 0 := fun B => by rw [show ((0 - 0) * 1 : Int) = 0 by rfl]; exact pif_0
        rw [this]; rfl
    · rw [pif_f fun v => k ⟨v.1.1, v.1.2.1, v.1.2.2.2⟩, pif_f fun v => k ⟨v.1, v.2.1, v.2.2.1⟩]; rfl
theorem col_sign {X V : Nat → Int} {U T Q : Nat → Prop} {N : Nat → Nat} (G : Geo X V U N) (P : Pie X U T) (C : Cir U N Q) (hQ : ∀ h, h < 120 → Q h → T h) (hV : ∀ h, h < 120 → U h → -16000 ≤ V h) {i : Int} :
    ((∀ h, h < 120 → T h → 0 ≤ Mv X V Q h) → 0 ≤ Tc X V U Q i ∧ ((∃ s, s < 120 ∧ T s ∧ rt X s ∧ cov X s i ∧ 0 < Mv X V Q (bk s)) → 0 < Tc X V U Q i)) ∧ ((∀ h, h < 120 → T h → Mv X V Q h ≤ 0) → Tc X V U Q i ≤ 0) := by
  have zp : ∀ k, k < 120 → (U k ∧ rt X k ∧ T k ∧ cov X k i) → 0 < zZ X V U k i := fun k hk q => z_pos hk q.1 q.2.1 (hV k hk q.1) (hV _ (bk_lt hk) (G.1 k q.1)) q.2.2.2
  rw [Tc_seg G P C hQ]
  constructor
  · intro hM
    obtain ⟨a, b⟩ := abel (n := 120) _ (fun g => U g ∧ rt X g ∧ T g ∧ cov X g i) (fun g => pif (Q (bk g)) 1 - pif (Q g) 1) (fun g => zZ X V U g i) (Nat.le_refl _) (fun k hk q => Int.le_of_lt (zp k hk q)) (fun k hk q => by rw [part_sum G P C hQ hk q.1 q.2.1 q.2.2.1 q.2.2.2]; exact hM _ (bk_lt hk) (P.2.1 k hk q.2.2.1))
    refine ⟨a, fun ⟨s, hs, ts, rs, cs, ms⟩ => b zp ⟨s, hs, ⟨P.1 s hs ts, rs, ts, cs⟩, ?_⟩⟩
    rw [part_sum G P C hQ hs (P.1 s hs ts) rs ts cs]; exact ms
  · intro hM
    have ng : ∀ k, su (fun g => pif ((U g ∧ rt X g ∧ T g ∧ cov X g i) ∧ zZ X V U k i ≤ zZ X V U g i) (-(pif (Q (bk g)) 1 - pif (Q g) 1))) 120 = - su (fun g => pif ((U g ∧ rt X g ∧ T g ∧ cov X g i) ∧ zZ X V U k i ≤ zZ X V U g i) (pif (Q (bk g)) 1 - pif (Q g) 1)) 120 := fun k => by
      rw [← su_neg]; exact su_c fun g _ => pif_neg
    obtain ⟨a, -⟩ := abel (n := 120) _ (fun g => U g ∧ rt X g ∧ T g ∧ cov X g i) (fun g => -(pif (Q (bk g)) 1 - pif (Q g) 1)) (fun g => zZ X V U g i) (Nat.le_refl _) (fun k hk q => Int.le_of_lt (zp k hk q)) (fun k hk q => by
      rw [ng k, part_sum G P C hQ hk q.1 q.2.1 q.2.2.1 q.2.2.2]
      have := hM _ (bk_lt hk) (P.2.1 k hk q.2.2.1)
      omega)
    have e : su (fun g => pif (U g ∧ rt X g ∧ T g ∧ cov X g i) (-(pif (Q (bk g)) 1 - pif (Q g) 1) * zZ X V U g i)) 120 = - su (fun g => pif (U g ∧ rt X g ∧ T g ∧ cov X g i) ((pif (Q (bk g)) 1 - pif (Q g) 1) * zZ X V U g i)) 120 := by
      rw [← su_neg]; exact su_c fun g _ => by rw [Int.neg_mul, pif_neg]
    rw [e] at a
    omega
/-! the columns' sum -/
theorem su_split (f : Nat → Int) (p : Nat) : ∀ q, su f (p + q) = su f p + su (fun k => f (p + k)) q := by
  intro q
  induction q with
  | zero => show su f p = su f p + 0; omega
  | succ q ih => show su f (p + q) + f (p + q) = su f p + (su (fun k => f (p + k)) q + f (p + q)); rw [ih]; omega
theorem su_win (F : Nat → Int) (a n r : Nat) : su (fun j => pif (a ≤ j ∧ j < a + n) (F j)) (a + (n + r)) = su (fun k => F (a + k)) n := by
  rw [su_split, su_split]
  rw [su_0 fun i hi => pif_f (by omega), su_0 (n := r) fun i hi => pif_f (by omega)]
  have : su (fun k => pif (a ≤ a + k ∧ a + k < a + n) (F (a + k))) n = su (fun k => F (a + k)) n := su_c fun k hk => pif_t (by omega)
  rw [this]; omega
theorem su_lin (c A B : Int) : ∀ n : Nat, su (fun k => c * (A + B * (2 * (k : Int) + 1))) n = c * ((n : Int) * A + B * ((n : Int) * n)) := by
  intro n
  induction n with
  | zero => show (0 : Int) = _; simp
  | succ n ih =>
    show su (fun k => c * (A + B * (2 * (k : Int) + 1))) n + c * (A + B * (2 * (n : Int) + 1)) = _
    rw [ih]
    have : ((n + 1 : Nat) : Int) = (n : Int) + 1 := by omega
    rw [this]; grind
theorem col_tot {X V : Nat → Int} {U : Nat → Prop} {w M : Nat} {lo : Int} (hw : w < 120) (uw : U w) (rw_ : rt X w) (l1 : lo ≤ X w) (l2 : X (bk w) ≤ lo + M) : 2 * su (fun j => pif (cov X w (lo + (j : Int))) (zZ X V U w (lo + (j : Int)))) M = cmD X U * (dl X w * (V w + V (bk w) + 32002)) := by
  obtain ⟨hD, hE⟩ := eD_ok (X := X) (U := U)
  obtain ⟨ps, es⟩ := hE w hw uw rw_
  unfold rt at rw_
  obtain ⟨a, ha⟩ : ∃ a : Nat, (a : Int) = X w - lo := ⟨(X w - lo).toNat, by omega⟩
  obtain ⟨n, hn⟩ : ∃ n : Nat, (n : Int) = dl X w := ⟨(dl X w).toNat, by unfold dl; omega⟩
  obtain ⟨r, hr⟩ : ∃ r : Nat, M = a + (n + r) := ⟨M - (a + n), by unfold dl at hn; omega⟩
  have e1 : su (fun j => pif (cov X w (lo + (j : Int))) (zZ X V U w (lo + (j : Int)))) M = su (fun j => pif (a ≤ j ∧ j < a + n) (zZ X V U w (lo + (j : Int)))) (a + (n + r)) := by
    rw [hr]
    exact su_c fun j _ => pif_c (by unfold cov; unfold dl at hn; omega)
  rw [e1, su_win]
  have e2 : su (fun k => zZ X V U w (lo + ((a + k : Nat) : Int))) n = su (fun k => eD X U w * (2 * dl X w * (V w + 16001) + dl V w * (2 * (k : Int) + 1))) n := su_c fun k _ => by
    unfold zZ y2
    rw [show lo + ((a + k : Nat) : Int) - X w = (k : Int) by omega]
  rw [e2, su_lin, hn, ← es]
  unfold dl; grind
noncomputable def AQ (X V : Nat → Int) (Q : Nat → Prop) : Int := su (fun g => pif (Q g) (X g * V (bk g) - X (bk g) * V g)) 120
theorem all_cols {X V : Nat → Int} {U Q : Nat → Prop} {N : Nat → Nat} {lo : Int} {M : Nat} (G : Geo X V U N) (C : Cir U N Q) (hX : ∀ h, h < 120 → U h → lo ≤ X h ∧ X h ≤ lo + M) : 2 * su (fun j => Tc X V U Q (lo + (j : Int))) M = cmD X U * AQ X V Q := by
  have e1 : su (fun j => Tc X V U Q (lo + (j : Int))) M = su (fun g => pif (Q g) (- sn X g * su (fun j => pif (cov X (ri X g) (lo + (j : Int))) (zZ X V U (ri X g) (lo + (j : Int)))) M)) 120 := by
    unfold Tc
    rw [← su_sw (f := fun g j => pif (Q g ∧ cov X (ri X g) (lo + (j : Int))) (- sn X g * zZ X V U (ri X g) (lo + (j : Int))))]
    refine su_c fun g hg => ?_
    by_cases q : Q g
    · rw [pif_t q, ← su_mul]
      refine su_c fun j _ => ?_
      by_cases w : cov X (ri X g) (lo + (j : Int))
      · rw [pif_t w, pif_t ⟨q, w⟩]
      · rw [pif_f w, pif_f fun v => w v.2]; omega
    · rw [pif_f q]; exact su_0 fun j _ => pif_f fun v => q v.1
  have e2 : 2 * su (fun g => pif (Q g) (- sn X g * su (fun j => pif (cov X (ri X g) (lo + (j : Int))) (zZ X V U (ri X g) (lo + (j : Int)))) M)) 120 = su (fun g => cmD X U * (pif (Q g) (X g * V (bk g) - X (bk g) * V g) + (pif (Q g) (X g * V g + 32002 * X g) - pif (Q g) (X (bk g) * V (bk g) + 32002 * X (bk g))))) 120 := by
    rw [← su_mul]
    refine su_c fun g hg => ?_
    by_cases q : Q g
    · have ug := C.1 g hg q
      rw [pif_t q, pif_t q, pif_t q, pif_t q]
      have rr := ri_rt G hg ug
      have bounds := hX _ rr.2.1 rr.2.2.1
      have bounds2 := hX _ (bk_lt rr.2.1) (G.1 _ rr.2.2.1)
      have t := col_tot (V := V) (M := M) (lo := lo) rr.2.1 rr.2.2.1 rr.1 bounds.1 bounds2.2
      rw [show (2 : Int) * (- sn X g * su (fun j => pif (cov X (ri X g) (lo + (j : Int))) (zZ X V U (ri X g) (lo + (j : Int)))) M) = - sn X g * (2 * su (fun j => pif (cov X (ri X g) (lo + (j : Int))) (zZ X V U (ri X g) (lo + (j : Int)))) M) by grind, t]
      by_cases r : rt X g
      · rw [(ri_t r).1, (ri_t r).2]; unfold dl; grind
      · rw [(ri_f r).1, (ri_f r).2]; unfold dl; rw [bk_bk]; grind
    · rw [pif_f q, pif_f q, pif_f q, pif_f q]; omega
  have e3 := cir_pt G C (fun p => X p * V p + 32002 * X p) (fun a b e1 e2 => by rw [e1, e2])
  rw [e1, e2, su_mul, su_add, su_sub]
  unfold AQ
  rw [e3]
  rw [Int.sub_self, Int.add_zero]
theorem area_sign {X V : Nat → Int} {U T : Nat → Prop} {N : Nat → Nat} {lo : Int} {M : Nat} (G : Geo X V U N) (P : Pie X U T) (hV : ∀ h, h < 120 → U h → -16000 ≤ V h) (hX : ∀ h, h < 120 → U h → lo ≤ X h ∧ X h ≤ lo + M) :
    ∃ f, f < 120 ∧ T f ∧ ∀ Q, CirI U N Q → (∀ h, h < 120 → Q h → T h) → (∃ h, h < 120 ∧ Q h) → (¬ Q f → 0 < AQ X V Q) ∧ (Q f → AQ X V Q ≤ 0) := by
  obtain ⟨f, hf, tf, val⟩ := M_val G P
  refine ⟨f, hf, tf, fun Q C hQ ne => ?_⟩
  have v := val Q C hQ
  have tot := all_cols (lo := lo) (M := M) G C.c hX
  have hD := (eD_ok (X := X) (U := U)).1
  constructor
  · intro nf
    have cs := fun i => (col_sign (i := i) G P C.c hQ hV).1 (fun h hh th => by rw [v h hh th, pif_f nf]; have := pif_nn (P := Q h) (v := 1) (fun _ => by decide); omega)
    have ex : ∃ h, h < 120 ∧ Q h ∧ ¬ rt X h := by
      refine Classical.byContradiction fun no => ?_
      obtain ⟨h, hh, qh⟩ := ne
      have e3 := cir_pt G C.c (fun p => X p) (fun a b e1 _ => e1)
      have e4 : su (fun g => pif (Q g) (X (bk g)) - pif (Q g) (X g)) 120 = 0 := by rw [su_sub, e3]; omega
      have rr : ∀ g, g < 120 → Q g → X g < X (bk g) := fun g hg q => Classical.byContradiction fun w => no ⟨g, hg, q, w⟩
      have := su_pos (f := fun g => pif (Q g) (X (bk g)) - pif (Q g) (X g)) (n := 120) (k := h) (fun g hg => by
        by_cases q : Q g
        · rw [pif_t q, pif_t q]; have := rr g hg q; omega
        · rw [pif_f q, pif_f q]; decide) hh
      rw [e4] at this
      rw [pif_t qh, pif_t qh] at this
      have := rr h hh qh
      omega
    obtain ⟨h, hh, qh, nr⟩ := ex
    have uh := C.1 h hh qh
    have hb := bk_lt hh
    have rb := (rt_bk G hh uh).mpr nr
    have th := hQ h hh qh
    have bounds := hX _ hb (G.1 h uh)
    have bounds2 := hX _ hh uh
    obtain ⟨j, hj⟩ : ∃ j : Nat, (j : Int) = X (bk h) - lo := ⟨(X (bk h) - lo).toNat, by omega⟩
    have rb' := rb
    unfold rt at rb'
    rw [bk_bk] at rb'
    have pos := (cs (lo + (j : Int))).2 ⟨bk h, hb, P.2.1 h hh th, rb, by unfold cov; rw [bk_bk]; omega, by rw [bk_bk, v h hh th, pif_t qh, pif_f nf]; decide⟩
    have sum := su_pos (f := fun j : Nat => Tc X V U Q (lo + (j : Int))) (n := M) (k := j) (fun i _ => (cs _).1) (by omega)
    have : 0 < cmD X U * AQ X V Q := by rw [← tot]; omega
    rw [Int.mul_comm] at this
    exact posf hD this
  · intro qf
    have cs := fun i => (col_sign (i := i) G P C.c hQ hV).2 (fun h hh th => by
      rw [v h hh th, pif_t qf]
      by_cases q : Q h
      · rw [pif_t q]; decide
      · rw [pif_f q]; decide)
    have sum := su_nn (f := fun j : Nat => - Tc X V U Q (lo + (j : Int))) (n := M) (fun i _ => by have := cs (lo + (i : Int)); omega)
    rw [su_neg] at sum
    rcases Int.lt_or_le 0 (AQ X V Q) with w | w
    · have := Int.mul_pos hD w
      omega
    · exact w
