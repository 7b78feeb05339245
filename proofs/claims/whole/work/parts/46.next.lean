/-! the halves around a point, clockwise -/
def crH (x y : Nat → Int32) (g h : Nat) : Int := dX x g * dX y h - dX y g * dX x h
theorem crH_neg (x y : Nat → Int32) (g h : Nat) : crH x y g h = - crH x y h g := by unfold crH; grind
def so (P Q R : Int) : Prop := (P < 0 ∧ 0 ≤ Q) ∨ (P ≤ 0 ∧ 0 < Q) ∨ (R < 0 ∧ ((P < 0 ∧ Q < 0) ∨ (P = 0 ∧ Q = 0) ∨ (0 < P ∧ 0 < Q)))
theorem sg_c {p : Int64} {i : Int} (hp : p.toInt = i) : (i < 0 → sgL p = -1) ∧ (i = 0 → sgL p = 0) ∧ (0 < i → sgL p = 1) := by
  obtain ⟨h1, h2, h3, h4, h5⟩ := lt0L hp
  unfold sgL
  refine ⟨fun h => if_pos (h1.mpr h), fun h => ?_, fun h => ?_⟩
  · rw [if_neg (fun q => by have := h1.mp q; omega), if_neg (fun q => by have := h2.mp q; omega)]
  · rw [if_neg (fun q => by have := h1.mp q; omega), if_pos (h2.mpr h)]
theorem soon_so {x y : Nat → Int32} {w g h : Nat} (bw : inB (x w) ∧ inB (y w) ∧ inB (x (bk w)) ∧ inB (y (bk w))) (bg : inB (x g) ∧ inB (y g) ∧ inB (x (bk g)) ∧ inB (y (bk g))) (bh : inB (x h) ∧ inB (y h) ∧ inB (x (bk h)) ∧ inB (y (bk h))) :
    soonL x y w g h ↔ so (crH x y w g) (crH x y w h) (crH x y g h) := by
  have e1 : (turnL x y w g).toInt = crH x y w g := turnI bw bg
  have e2 : (turnL x y w h).toInt = crH x y w h := turnI bw bh
  have e3 : (turnL x y g h).toInt = crH x y g h := turnI bg bh
  have s1 := sg_c e1
  have s2 := sg_c e2
  have e3 := (lt0L e3).1
  unfold soonL
  generalize crH x y w g = P at *
  generalize crH x y w h = Q at *
  generalize crH x y g h = R at *
  unfold so
  rcases Int.lt_trichotomy P 0 with p | p | p <;> rcases Int.lt_trichotomy Q 0 with q | q | q
  · rw [s1.1 p, s2.1 q, if_pos rfl, e3]; omega
  · rw [s1.1 p, s2.2.1 q, if_neg (by decide)]; exact ⟨fun _ => by omega, fun _ => by decide⟩
  · rw [s1.1 p, s2.2.2 q, if_neg (by decide)]; exact ⟨fun _ => by omega, fun _ => by decide⟩
  · rw [s1.2.1 p, s2.1 q, if_neg (by decide)]; exact ⟨fun h => absurd h (by decide), fun h => by omega⟩
  · rw [s1.2.1 p, s2.2.1 q, if_pos rfl, e3]; omega
  · rw [s1.2.1 p, s2.2.2 q, if_neg (by decide)]; exact ⟨fun _ => by omega, fun _ => by decide⟩
  · rw [s1.2.2 p, s2.1 q, if_neg (by decide)]; exact ⟨fun h => absurd h (by decide), fun h => by omega⟩
  · rw [s1.2.2 p, s2.2.1 q, if_neg (by decide)]; exact ⟨fun h => absurd h (by decide), fun h => by omega⟩
  · rw [s1.2.2 p, s2.2.2 q, if_pos rfl, e3]; omega
theorem so_cw {P Q R : Int} (T : cw3 P R (-Q) ∨ cw3 (-P) (-R) (-(-Q))) : so P Q R ↔ cw3 P R (-Q) := by
  unfold so cw3 at *; omega
/-- three halves of one point -/
def pt3 (x y u : Nat → Int32) (a b c : Nat) : Prop := (a < 120 ∧ us u a) ∧ (b < 120 ∧ us u b) ∧ (c < 120 ∧ us u c) ∧ sameB x y a b ∧ sameB x y b c ∧ a ≠ b ∧ b ≠ c ∧ a ≠ c
theorem pt3.rot {x y u : Nat → Int32} {a b c : Nat} (h : pt3 x y u a b c) : pt3 x y u b c a := by
  obtain ⟨h1, h2, h3, e1, e2, n1, n2, n3⟩ := h
  exact ⟨h2, h3, h1, e2, ⟨(e1.1.trans e2.1).symm, (e1.2.trans e2.2).symm⟩, n2, fun q => n3 q.symm, fun q => n1 q.symm⟩
theorem pt3.swap {x y u : Nat → Int32} {a b c : Nat} (h : pt3 x y u a b c) : pt3 x y u a c b := by
  obtain ⟨h1, h2, h3, e1, e2, n1, n2, n3⟩ := h
  exact ⟨h1, h3, h2, ⟨e1.1.trans e2.1, e1.2.trans e2.2⟩, ⟨e2.1.symm, e2.2.symm⟩, n3, fun q => n2 q.symm, n1⟩
theorem soon_tot {x y u : Nat → Int32} (C : Cfg x y u) {a b c : Nat} (h : pt3 x y u a b c) : cw3 (crH x y a b) (crH x y b c) (-(crH x y a c)) ∨ cw3 (-(crH x y a b)) (-(crH x y b c)) (-(-(crH x y a c))) := by
  obtain ⟨h1, h2, h3, e1, e2, n1, n2, n3⟩ := h
  have t := cw_total (nzH C h1.1 h1.2) (nzH C h2.1 h2.2) (nzH C h3.1 h3.2) (nppH C h1.1 h2.1 h1.2 h2.2 n1 e1) (nppH C h2.1 h3.1 h2.2 h3.2 n2 e2) (nppH C h1.1 h3.1 h1.2 h3.2 n3 ⟨e1.1.trans e2.1, e1.2.trans e2.2⟩)
  have e : dX x c * dX y a - dX y c * dX x a = -(crH x y a c) := by unfold crH; grind
  rw [e] at t
  exact t
theorem soon_cw {x y u : Nat → Int32} (C : Cfg x y u) {a b c : Nat} (h : pt3 x y u a b c) : soonL x y a b c ↔ cw3 (crH x y a b) (crH x y b c) (-(crH x y a c)) := by
  have t := soon_tot C h
  obtain ⟨h1, h2, h3, -⟩ := h
  rw [soon_so (inBx C h1.1 h1.2) (inBx C h2.1 h2.2) (inBx C h3.1 h3.2)]
  exact so_cw t
theorem soon_cyc {x y u : Nat → Int32} (C : Cfg x y u) {a b c : Nat} (h : pt3 x y u a b c) (q : soonL x y a b c) : soonL x y b c a := by
  rw [soon_cw C h] at q
  rw [soon_cw C h.rot]
  have e1 := crH_neg x y a b
  have e2 := crH_neg x y c a
  unfold cw3 at *
  omega
theorem soon_or {x y u : Nat → Int32} (C : Cfg x y u) {a b c : Nat} (h : pt3 x y u a b c) : soonL x y a b c ∨ soonL x y a c b := by
  rw [soon_cw C h, soon_cw C h.swap]
  have t := soon_tot C h
  have e1 := crH_neg x y c b
  unfold cw3 at *
  omega
theorem soon_asym {x y u : Nat → Int32} (C : Cfg x y u) {a b c : Nat} (h : pt3 x y u a b c) (q : soonL x y a b c) : ¬ soonL x y a c b := by
  rw [soon_cw C h] at q
  rw [soon_cw C h.swap]
  have e1 := crH_neg x y c b
  unfold cw3 at *
  omega
theorem soon_tr {x y u : Nat → Int32} (C : Cfg x y u) {w a b c : Nat} (h1 : pt3 x y u w a b) (h2 : pt3 x y u w b c) (n : a ≠ c) (q1 : soonL x y w a b) (q2 : soonL x y w b c) : soonL x y w a c := by
  obtain ⟨hw, ha, hb, e1, e2, n1, n2, n3⟩ := id h1
  obtain ⟨-, -, hc, e3, e4, m1, m2, m3⟩ := id h2
  have bw := inBx C hw.1 hw.2
  have ba := inBx C ha.1 ha.2
  have bb := inBx C hb.1 hb.2
  have bc := inBx C hc.1 hc.2
  rw [soon_so bw ba bb] at q1
  rw [soon_so bw bb bc] at q2
  rw [soon_so bw ba bc]
  have i1 : crH x y w b * crH x y a c = crH x y w a * crH x y b c + crH x y w c * crH x y a b := by unfold crH; grind
  have i2 : (dX x w * dX x w + dX y w * dX y w) * crH x y a b = (dX x w * dX x a + dX y w * dX y a) * crH x y w b - crH x y w a * (dX x w * dX x b + dX y w * dX y b) := by unfold crH; grind
  have hs := sq_pos (nzH C hw.1 hw.2)
  generalize crH x y w a = Pa at *
  generalize crH x y w b = Pb at *
  generalize crH x y w c = Pc at *
  generalize crH x y a b = Rab at *
  generalize crH x y b c = Rbc at *
  generalize crH x y a c = Rac at *
  have z : Pa = 0 → Pb = 0 → Rab = 0 := by
    intro z1 z2
    rw [z1, z2, Int.mul_zero, Int.zero_mul] at i2
    rcases Int.mul_eq_zero.mp i2 with q | q
    · omega
    · exact q
  unfold so at *
  by_cases hneg : Pa < 0 ∧ Pb < 0 ∧ Pc < 0
  · have r1 : Rab < 0 := by omega
    have r2 : Rbc < 0 := by omega
    have a1 := Int.mul_pos_of_neg_of_neg hneg.1 r2
    have a2 := Int.mul_pos_of_neg_of_neg hneg.2.2 r1
    have a3 : Rac < 0 := by
      rcases Int.lt_or_le Rac 0 with q | q
      · exact q
      · have := Int.mul_nonpos_of_nonpos_of_nonneg (Int.le_of_lt hneg.2.1) q
        omega
    omega
  · by_cases hpos : 0 < Pa ∧ 0 < Pb ∧ 0 < Pc
    · have r1 : Rab < 0 := by omega
      have r2 : Rbc < 0 := by omega
      have a1 := Int.mul_neg_of_pos_of_neg hpos.1 r2
      have a2 := Int.mul_neg_of_pos_of_neg hpos.2.2 r1
      have a3 : Rac < 0 := by
        rcases Int.lt_or_le Rac 0 with q | q
        · exact q
        · have := Int.mul_nonneg (Int.le_of_lt hpos.2.1) q
          omega
      omega
    · omega
def cand (x y u : Nat → Int32) (w k : Nat) : Prop := us u k ∧ sameB x y k w ∧ k ≠ w
noncomputable def sgB (x y u : Nat → Int32) (w : Nat) : Option Nat := bst (cand x y u w) (fun k b => soonL x y w k b) 120
noncomputable def sig (x y u : Nat → Int32) (w : Nat) : Nat := (sgB x y u w).getD w
noncomputable def nxt (x y u : Nat → Int32) (h : Nat) : Nat := sig x y u (bk h)
theorem sb_sym {x y : Nat → Int32} {g h : Nat} (e : sameB x y g h) : sameB x y h g := ⟨e.1.symm, e.2.symm⟩
theorem sb_tr {x y : Nat → Int32} {f g h : Nat} (e : sameB x y f g) (e2 : sameB x y g h) : sameB x y f h := ⟨e.1.trans e2.1, e.2.trans e2.2⟩
theorem cand_pt {x y u : Nat → Int32} {w a b : Nat} (hw : w < 120) (uw : us u w) (ha : a < 120) (hb : b < 120) (ca : cand x y u w a) (cb : cand x y u w b) (n : a ≠ b) : pt3 x y u w a b :=
  ⟨⟨hw, uw⟩, ⟨ha, ca.1⟩, ⟨hb, cb.1⟩, sb_sym ca.2.1, sb_tr ca.2.1 (sb_sym cb.2.1), fun q => ca.2.2 q.symm, n, fun q => cb.2.2 q.symm⟩
/-- the first clockwise from w comes before all others -/
theorem sgB_min {x y u : Nat → Int32} (C : Cfg x y u) {w b : Nat} (hw : w < 120) (uw : us u w) (h : sgB x y u w = some b) : ∀ j, j < 120 → cand x y u w j → j ≠ b → soonL x y w b j := by
  refine bst_min (n := 120) (fun a b c ha hb hc oa ob oc n1 n2 n3 q1 q2 => ?_) (fun a b ha hb oa ob n => ?_) h
  · exact soon_tr C (cand_pt hw uw ha hb oa ob n1) (cand_pt hw uw hb hc ob oc n2) n3 q1 q2
  · exact soon_or C (cand_pt hw uw ha hb oa ob n)
theorem sig_pt {x y u : Nat → Int32} {w : Nat} (hw : w < 120) (uw : us u w) : sig x y u w < 120 ∧ us u (sig x y u w) ∧ sameB x y (sig x y u w) w := by
  unfold sig
  cases h : sgB x y u w with
  | none => exact ⟨hw, uw, rfl, rfl⟩
  | some b =>
    have := bst_ok h
    exact ⟨this.1, this.2.1, this.2.2.1⟩
theorem sig_inj {x y u : Nat → Int32} (C : Cfg x y u) {v w : Nat} (hv : v < 120) (hw : w < 120) (uv : us u v) (uw : us u w) (e : sig x y u v = sig x y u w) : v = w := by
  have p1 := sig_pt (x := x) (y := y) hv uv
  have p2 := sig_pt (x := x) (y := y) hw uw
  by_cases n : v = w
  · exact n
  exfalso
  have svw : sameB x y v w := sb_tr (sb_sym p1.2.2) (by rw [e]; exact p2.2.2)
  have cvw : cand x y u v w := ⟨uw, sb_sym svw, fun q => n q.symm⟩
  have cwv : cand x y u w v := ⟨uv, svw, n⟩
  cases h1 : sgB x y u v with
  | none => exact bst_none h1 w hw cvw
  | some b =>
    cases h2 : sgB x y u w with
    | none => exact bst_none h2 v hv cwv
    | some b2 =>
      have ev : sig x y u v = b := by unfold sig; rw [h1]; rfl
      have ew : sig x y u w = b2 := by unfold sig; rw [h2]; rfl
      have eb : b = b2 := by rw [← ev, ← ew]; exact e
      subst eb
      have o1 := bst_ok h1
      have o2 := bst_ok h2
      have nb1 : w ≠ b := fun q => o2.2.2.2 q.symm
      have nb2 : v ≠ b := fun q => o1.2.2.2 q.symm
      have s1 := sgB_min C hv uv h1 w hw cvw nb1
      have s2 := sgB_min C hw uw h2 v hv cwv nb2
      have t1 := cand_pt hv uv o1.1 hw o1.2 cvw (fun q => nb1 q.symm)
      have s3 := soon_cyc C t1.rot (soon_cyc C t1 s1)
      exact soon_asym C t1.rot.rot s3 s2
theorem nxt_pt {x y u : Nat → Int32} {h : Nat} (hh : h < 120) (uh : us u h) : nxt x y u h < 120 ∧ us u (nxt x y u h) ∧ sameB x y (nxt x y u h) (bk h) := sig_pt (bk_lt hh) (us_bk uh)
theorem nxt_inj {x y u : Nat → Int32} (C : Cfg x y u) {g h : Nat} (hg : g < 120) (hh : h < 120) (ug : us u g) (uh : us u h) (e : nxt x y u g = nxt x y u h) : g = h :=
  bk_inj (sig_inj C (bk_lt hg) (bk_lt hh) (us_bk ug) (us_bk uh) e)
