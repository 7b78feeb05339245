/-! sound rows of segments are such a plane -/
def Xx (x y : Nat → Int32) (h : Nat) : Int := 40001 * (x h).toInt - (y h).toInt
def Vy (y : Nat → Int32) (h : Nat) : Int := (y h).toInt
theorem X_same {x y u : Nat → Int32} (C : Cfg x y u) {g h : Nat} (hg : g < 120) (hh : h < 120) (ug : us u g) (uh : us u h) : Xx x y g = Xx x y h ↔ sameB x y g h := by
  have bg := C.1 g hg ug
  have bh := C.1 h hh uh
  unfold inB at bg bh
  unfold Xx sameB
  constructor
  · intro e
    exact ⟨Int32.toInt_inj.mp (by omega), Int32.toInt_inj.mp (by omega)⟩
  · rintro ⟨e1, e2⟩
    rw [e1, e2]
theorem sS_link (x y : Nat → Int32) (h g : Nat) : sS (Xx x y) (Vy y) h g = 40001 * sdI x y h (x g) (y g) := by unfold sS sdI dl dX Xx Vy; grind
theorem cr_link (x y : Nat → Int32) (g h : Nat) : cr (Xx x y) (Vy y) g h = 40001 * crH x y g h := by unfold cr crH dl dX Xx Vy; grind
theorem dot_neg {ax ay bx b_y : Int} (hc : ax * b_y - ay * bx = 0) : ((40001 * ax - ay < 0 ∧ 0 < 40001 * bx - b_y) → ax * bx + ay * b_y < 0) ∧ (((0 < 40001 * ax - ay ∧ 0 < 40001 * bx - b_y) ∨ (40001 * ax - ay < 0 ∧ 40001 * bx - b_y < 0)) → 0 < ax * bx + ay * b_y) := by
  have e : (ax * bx + ay * b_y) * (40001 * ax - ay) = (ax * ax + ay * ay) * (40001 * bx - b_y) + (40001 * ay + ax) * (ax * b_y - ay * bx) := by grind
  rw [hc, Int.mul_zero, Int.add_zero] at e
  have nz1 : 40001 * ax - ay ≠ 0 → nz ax ay := fun h => by unfold nz; omega
  constructor
  · rintro ⟨h1, h2⟩
    have sq := sq_pos (nz1 (by omega))
    have p := Int.mul_pos sq h2
    rcases Int.lt_or_le (ax * bx + ay * b_y) 0 with q | q
    · exact q
    · have := Int.mul_nonpos_of_nonneg_of_nonpos q (Int.le_of_lt h1)
      omega
  · rintro (⟨h1, h2⟩ | ⟨h1, h2⟩)
    · have sq := sq_pos (nz1 (by omega))
      have p := Int.mul_pos sq h2
      exact posf h1 (by omega)
    · have sq := sq_pos (nz1 (by omega))
      have p := Int.mul_neg_of_pos_of_neg sq h2
      rcases Int.lt_or_le 0 (ax * bx + ay * b_y) with q | q
      · exact q
      · have := Int.mul_nonneg_of_nonpos_of_nonpos q (Int.le_of_lt h1)
        omega
theorem opp_parts {x y u : Nat → Int32} (C : Cfg x y u) {g h : Nat} (hg : g < 120) (hh : h < 120) (ug : us u g) (uh : us u h) (o : opp (sdI x y h (x g) (y g)) (sdI x y h (x (bk g)) (y (bk g)))) : partsL x y (2 * (h / 2)) (2 * (g / 2)) := by
  have h2 : 2 * (h / 2) < 120 := by omega
  have g2 : 2 * (g / 2) < 120 := by omega
  have uh2 : us u (2 * (h / 2)) := us_ev.mpr uh
  have ug2 : us u (2 * (g / 2)) := us_ev.mpr ug
  have bh := inBx C h2 uh2
  have bg := inBx C g2 ug2
  have s1 := lt0L (sideI (x := x) (y := y) bh bg.1 bg.2.1)
  have s2 := lt0L (sideI (x := x) (y := y) bh bg.2.2.1 bg.2.2.2)
  unfold partsL
  rw [s1.1, s1.2.1, s2.1, s2.2.1]
  have o1 : opp (sdI x y (2 * (h / 2)) (x g) (y g)) (sdI x y (2 * (h / 2)) (x (bk g)) (y (bk g))) := by
    rcases half_or h with e | e
    · rw [← e]; exact o
    · have e2 : 2 * (h / 2) = bk h := by
        have : bk h = bk (bk (2 * (h / 2))) := by rw [← e]
        rw [this, bk_bk]
      rw [e2, sdI_bk, sdI_bk]
      unfold opp at *
      omega
  rcases half_or g with e | e
  · rw [← e]; exact o1
  · have e2 : 2 * (g / 2) = bk g := by
      have : bk g = bk (bk (2 * (g / 2))) := by rw [← e]
      rw [this, bk_bk]
    rw [e2, bk_bk]
    unfold opp at o1
    omega
theorem opp_scale {a b : Int} (h : opp (40001 * a) (40001 * b)) : opp a b := by unfold opp at *; omega
theorem geo_of {x y u : Nat → Int32} (C : Cfg x y u) : Geo (Xx x y) (Vy y) (us u) (nxt x y u) := by
  refine ⟨fun h uh => us_bk uh, fun g h hg hh ug uh e => ?_, fun h hh uh e => ?_, fun g h hg hh ug uh ne l1 l2 z => ?_, fun g h hg hh ug uh ne o => ?_, fun g h hg hh ug uh ne e1 e2 => ?_, nx_of C, fun h hh uh => ?_, fun j hj uj => ?_, fun g h hg hh ug uh e ne ty z => ?_⟩
  · have := (X_same C hg hh ug uh).mp e
    unfold Vy; rw [this.2]
  · exact ends_ne C hh uh ((X_same C hh (bk_lt hh) uh (us_bk uh)).mp e)
  · rw [sS_link] at z
    have sd : sdI x y h (x g) (y g) = 0 := by omega
    have bh := inBx C hh uh
    have bg := C.1 g hg ug
    refine C.2.2 (h / 2) (g / 2) (hf_lt hh) (hf_lt hg) uh ug (fun q => ne q.symm) (touch_of ((holdsI bh bg.1 bg.2).mpr ⟨sd, ?_⟩))
    unfold dtI
    refine (dot_neg ?_).1 ?_
    · have : ((x h).toInt - (x g).toInt) * ((y (bk h)).toInt - (y g).toInt) - ((y h).toInt - (y g).toInt) * ((x (bk h)).toInt - (x g).toInt) = sdI x y h (x g) (y g) := by unfold sdI dX; grind
      rw [this, sd]
    · unfold Xx at l1 l2; omega
  · rw [sS_link, sS_link, sS_link, sS_link] at o
    exact C.2.2 (h / 2) (g / 2) (hf_lt hh) (hf_lt hg) uh ug (fun q => ne q.symm) (Or.inr (Or.inr (Or.inr ⟨opp_parts C hg hh ug uh (opp_scale o.1), opp_parts C hh hg uh ug (opp_scale o.2)⟩)))
  · exact C.2.2 (g / 2) (h / 2) (hf_lt hg) (hf_lt hh) ug uh ne (sameE_of ((X_same C hg hh ug uh).mp e1) ((X_same C (bk_lt hg) (bk_lt hh) (us_bk ug) (us_bk uh)).mp e2))
  · have := nxt_pt (x := x) (y := y) hh uh
    exact (X_same C this.1 (bk_lt hh) this.2.1 (us_bk uh)).mpr this.2.2
  · have en : nxt x y u (bk j) = sig x y u j := by unfold nxt; rw [bk_bk]
    rw [en]
    cases hb : sgB x y u j with
    | none =>
      have es : sig x y u j = j := by unfold sig; rw [hb]; rfl
      refine ⟨fun _ g hg ug e => ?_, fun q => absurd es q⟩
      by_cases w : g = j
      · exact w
      · exact absurd ⟨ug, (X_same C hg hj ug uj).mp e, w⟩ (bst_none hb g hg)
    | some b =>
      have es : sig x y u j = b := by unfold sig; rw [hb]; rfl
      have ob := bst_ok hb
      rw [es]
      refine ⟨fun q => absurd q ob.2.2.2, fun _ g hg ug e n1 n2 => ?_⟩
      have cg : cand x y u j g := ⟨ug, (X_same C hg hj ug uj).mp e, n1⟩
      have s := sgB_min C hj uj hb g hg cg n2
      rw [soon_cw C (cand_pt hj uj ob.1 hg ob.2 cg (fun q => n2 q.symm))] at s
      rw [cr_link, cr_link, cr_link]
      have nn := crH_neg x y g j
      unfold cw3 at *
      omega
  · rw [cr_link] at z
    have cz : crH x y g h = 0 := by omega
    refine nppH C hg hh ug uh ne ((X_same C hg hh ug uh).mp e) ⟨cz, (dot_neg cz).2 ?_⟩
    have d1 := ends_ne C hg ug
    have d2 := ends_ne C hh uh
    have m1 : Xx x y g ≠ Xx x y (bk g) := fun q => d1 ((X_same C hg (bk_lt hg) ug (us_bk ug)).mp q)
    have m2 : Xx x y h ≠ Xx x y (bk h) := fun q => d2 ((X_same C hh (bk_lt hh) uh (us_bk uh)).mp q)
    unfold rt at ty
    unfold Xx at ty m1 m2
    unfold dX
    omega
theorem pie_of {x y u lab : Nat → Int32} {sg : Nat → Nat} {n p : Nat} (C : Cfg x y u) (O : Pc x y u 120 lab sg n) (hp : p < n) : Pie (Xx x y) (us u) (fun h => us u h ∧ lab h = nI p) := by
  have hn := pc_R O
  refine ⟨fun h _ t => t.1, fun h hh t => ⟨us_bk t.1, ?_⟩, fun g h hg hh t uh e => ⟨uh, ?_⟩, fun P hP a b ha hb ta tb => ?_, ?_⟩
  · rw [O.2.2.1 h (bk h) hh (bk_lt hh) t.1 (us_bk t.1) (Or.inr (bk_bk h).symm) (by rw [t.2]; exact neqm1 (by omega))]; exact t.2
  · rw [O.2.2.1 g h hg hh t.1 uh (Or.inl ((X_same C hg hh t.1 uh).mp e)) (by rw [t.2]; exact neqm1 (by omega))]; exact t.2
  · refine O.2.2.2.2.2 P (fun g h hg hh ug uh tt => hP g h hg hh ug uh ?_) a b ha hb (by rw [ta.2]; exact neqm1 (by omega)) (by rw [ta.2, tb.2])
    exact tt.elim (fun q => Or.inl ((X_same C hg hh ug uh).mpr q)) Or.inr
  · obtain ⟨a, b, c, -⟩ := O.2.2.2.1 p hp
    exact ⟨sg p, a, b, c⟩
theorem cir_of {x y u rd : Nat → Int32} {sg : Nat → Nat} {tw : Nat → Int64} {R r : Nat} (O : Out (us u) (nxt x y u) (sweepL x y) 120 rd sg tw R) (hr : r < R) : CirI (us u) (nxt x y u) (fun h => us u h ∧ rd h = nI r) := by
  refine ⟨fun h _ q => q.1, fun h hh uh => ?_⟩
  have hn := nxt_pt (x := x) (y := y) hh uh
  have := O.2.2.1 h hh (O.2.1 h hh uh)
  constructor
  · intro q; exact ⟨uh, by rw [← this]; exact q.2⟩
  · intro q; exact ⟨hn.2.1, by rw [this]; exact q.2⟩
/-! areas as whole numbers -/
theorem suL_int {f : Nat → Int64} {g : Nat → Int} : ∀ {n : Nat}, n ≤ 120 → (∀ i, i < n → (f i).toInt = g i ∧ -1024000000 ≤ g i ∧ g i ≤ 1024000000) → (suL f n).toInt = su g n ∧ -1024000000 * (n : Int) ≤ su g n ∧ su g n ≤ 1024000000 * (n : Int) := by
  intro n
  induction n with
  | zero => intro _ _; exact ⟨rfl, by simp [su], by simp [su]⟩
  | succ n ih =>
    intro hn h
    obtain ⟨a, b, c⟩ := ih (by omega) fun i hi => h i (by omega)
    obtain ⟨d, e, f2⟩ := h n (by omega)
    have e2 : ((n + 1 : Nat) : Int) = (n : Int) + 1 := by omega
    refine ⟨?_, ?_, ?_⟩
    · show (suL f n + f n).toInt = su g n + g n
      rw [Int64.toInt_add, a, d, bm64 (by omega) (by omega)]
    · show _ ≤ su g n + g n
      rw [e2]; omega
    · show su g n + g n ≤ _
      rw [e2]; omega
theorem sweepI {x y u : Nat → Int32} (C : Cfg x y u) {h : Nat} (hh : h < 120) (uh : us u h) : (sweepL x y h).toInt = (x h).toInt * (y (bk h)).toInt - (x (bk h)).toInt * (y h).toInt ∧ -1024000000 ≤ (x h).toInt * (y (bk h)).toInt - (x (bk h)).toInt * (y h).toInt ∧ (x h).toInt * (y (bk h)).toInt - (x (bk h)).toInt * (y h).toInt ≤ 1024000000 := by
  obtain ⟨h1, h2, h3, h4⟩ := inBx C hh uh
  unfold inB at *
  have b : ∀ p q : Int, -16000 ≤ p → p ≤ 16000 → -16000 ≤ q → q ≤ 16000 → -256000000 ≤ p * q ∧ p * q ≤ 256000000 := by
    intro p q a b c d
    have h : (p * q).natAbs ≤ 16000 * 16000 := by
      rw [Int.natAbs_mul]
      exact Nat.mul_le_mul (by omega) (by omega)
    omega
  have b1 := b _ _ h1.1 h1.2 h4.1 h4.2
  have b2 := b _ _ h3.1 h3.2 h2.1 h2.2
  refine ⟨?_, by omega, by omega⟩
  unfold sweepL
  rw [Int64.toInt_sub, Int64.toInt_mul, Int64.toInt_mul, Int32.toInt_toInt64, Int32.toInt_toInt64, Int32.toInt_toInt64, Int32.toInt_toInt64, bm64 (x := (x h).toInt * _) (by omega) (by omega), bm64 (x := (x (bk h)).toInt * _) (by omega) (by omega), bm64 (by omega) (by omega)]
theorem tw_int {x y u rd : Nat → Int32} {sg : Nat → Nat} {tw : Nat → Int64} {R r : Nat} (C : Cfg x y u) (O : Out (us u) (nxt x y u) (sweepL x y) 120 rd sg tw R) (hr : r < R) : 40001 * (tw r).toInt = AQ (Xx x y) (Vy y) (fun h => us u h ∧ rd h = nI r) ∧ -122880000000 ≤ (tw r).toInt ∧ (tw r).toInt ≤ 122880000000 := by
  have hR := out_R O
  rw [O.2.2.2.2.2.2.2 r hr]
  have lab : ∀ h, h < 120 → rd h = nI r → us u h := fun h hh e => by
    rcases O.1 h hh with q | q
    · rw [q] at e; exact absurd e.symm (neqm1 (by omega))
    · exact q.1
  obtain ⟨a, b, c⟩ := suL_int (n := 120) (f := fun h => pifL (rd h = nI r) (sweepL x y h)) (g := fun h => pif (rd h = nI r) ((x h).toInt * (y (bk h)).toInt - (x (bk h)).toInt * (y h).toInt)) (Nat.le_refl _) (fun h hh => by
    by_cases q : rd h = nI r
    · rw [pifL_t q, pif_t q]; exact sweepI C hh (lab h hh q)
    · rw [pifL_f q, pif_f q]; decide)
  rw [a]
  refine ⟨?_, by omega, by omega⟩
  unfold AQ
  rw [← su_mul]
  refine su_c fun h hh => ?_
  by_cases q : rd h = nI r
  · rw [pif_t q, pif_t ⟨lab h hh q, q⟩]
    unfold Xx Vy; grind
  · rw [pif_f q, pif_f fun w => q w.2]; rfl
theorem tw_sgn {x y u rd : Nat → Int32} {sg : Nat → Nat} {tw : Nat → Int64} {R r : Nat} (C : Cfg x y u) (O : Out (us u) (nxt x y u) (sweepL x y) 120 rd sg tw R) (hr : r < R) : (0 < tw r ↔ 0 < AQ (Xx x y) (Vy y) (fun h => us u h ∧ rd h = nI r)) ∧ (tw r ≤ 0 ↔ AQ (Xx x y) (Vy y) (fun h => us u h ∧ rd h = nI r) ≤ 0) := by
  have e := (tw_int C O hr).1
  have l := lt0L (p := tw r) rfl
  rw [l.2.1, l.2.2.2.1]
  omega
/-- of the rounds of a piece, exactly one runs around it -/
theorem one_outer {x y u rd lab : Nat → Int32} {sg sgp : Nat → Nat} {tw : Nat → Int64} {R n p : Nat} (C : Cfg x y u) (O : Out (us u) (nxt x y u) (sweepL x y) 120 rd sg tw R) (P : Pc x y u 120 lab sgp n) (hp : p < n) : ∃ r0, r0 < R ∧ lab (sg r0) = nI p ∧ ∀ r, r < R → lab (sg r) = nI p → (tw r ≤ 0 ↔ r = r0) := by
  have G := geo_of C
  have T := pie_of C P hp
  have hn := pc_R P
  have hR := out_R O
  obtain ⟨f, hf, tf, sgn⟩ := area_sign (lo := -640032000) (M := 1280064000) G T (fun h hh uh => by
    have := (C.1 h hh uh).2; unfold inB at this; unfold Vy; omega) (fun h hh uh => by
    have a := (C.1 h hh uh).1; have b := (C.1 h hh uh).2; unfold inB at a b; unfold Xx; omega)
  obtain ⟨r0, hr0, e0⟩ := out_lab O hf tf.1
  -- a round lies in one piece
  have inP : ∀ r, r < R → ∀ h, h < 120 → us u h → rd h = nI r → lab h = lab (sg r) := by
    intro r hr h hh uh e
    obtain ⟨s1, s2, s3, s4⟩ := O.2.2.2.2.1 r hr
    have := O.2.2.2.2.2.2.1 (fun b => lab b = lab (sg r)) (fun a ha ua => by
      have hn2 := nxt_pt (x := x) (y := y) ha ua
      have c1 := P.2.2.1 a (bk a) ha (bk_lt ha) ua (us_bk ua) (Or.inr (bk_bk a).symm) (P.2.1 a ha ua)
      have c2 := P.2.2.1 (bk a) (nxt x y u a) (bk_lt ha) hn2.1 (us_bk ua) hn2.2.1 (Or.inl (sb_sym hn2.2.2)) (P.2.1 _ (bk_lt ha) (us_bk ua))
      dsimp only
      rw [c2, c1]) (sg r) h s1 hh (O.2.1 _ s1 s2) (s3.trans e.symm)
    exact this.mp rfl
  have sg0 : lab (sg r0) = nI p := by rw [← inP r0 hr0 f hf tf.1 e0]; exact tf.2
  refine ⟨r0, hr0, sg0, fun r hr e => ?_⟩
  obtain ⟨s1, s2, s3, s4⟩ := O.2.2.2.2.1 r hr
  obtain ⟨k1, k2⟩ := sgn (fun h => us u h ∧ rd h = nI r) (cir_of O hr) (fun h hh q => ⟨q.1, by rw [inP r hr h hh q.1 q.2]; exact e⟩) ⟨sg r, s1, s2, s3⟩
  have ts := tw_sgn C O hr
  rw [ts.2]
  constructor
  · intro a
    by_cases q : us u f ∧ rd f = nI r
    · exact nI_inj (by omega) (by omega) (q.2.symm.trans e0)
    · have := k1 q; omega
  · intro q
    exact k2 ⟨tf.1, by rw [q]; exact e0⟩
