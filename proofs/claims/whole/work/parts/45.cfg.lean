/-! a sound row of segments, and the halves around a point -/
def us (u : Nat → Int32) (h : Nat) : Prop := ¬ u (h / 2) = 0
def Cfg (x y u : Nat → Int32) : Prop := (∀ h, h < 120 → us u h → inB (x h) ∧ inB (y h)) ∧ (∀ s, s < 60 → ¬ u s = 0 → ¬ (x (2 * s) = x (2 * s + 1) ∧ y (2 * s) = y (2 * s + 1))) ∧ (∀ s t, s < 60 → t < 60 → ¬ u s = 0 → ¬ u t = 0 → s ≠ t → ¬ clashL x y s t)
theorem us_bk {u : Nat → Int32} {h : Nat} (hu : us u h) : us u (bk h) := by unfold us; rw [bk_half]; exact hu
def dX (x : Nat → Int32) (g : Nat) : Int := (x (bk g)).toInt - (x g).toInt
theorem dX_bk (x : Nat → Int32) (g : Nat) : dX x (bk g) = - dX x g := by unfold dX; rw [bk_bk]; omega
def sdI (x y : Nat → Int32) (h : Nat) (px py : Int32) : Int := dX x h * (py.toInt - (y h).toInt) - dX y h * (px.toInt - (x h).toInt)
def dtI (x y : Nat → Int32) (h : Nat) (px py : Int32) : Int := ((x h).toInt - px.toInt) * ((x (bk h)).toInt - px.toInt) + ((y h).toInt - py.toInt) * ((y (bk h)).toInt - py.toInt)
theorem sdI_bk (x y : Nat → Int32) (h : Nat) (px py : Int32) : sdI x y (bk h) px py = - sdI x y h px py := by unfold sdI dX; rw [bk_bk]; grind
theorem dtI_bk (x y : Nat → Int32) (h : Nat) (px py : Int32) : dtI x y (bk h) px py = dtI x y h px py := by unfold dtI; rw [bk_bk]; grind
theorem inBx {x y u : Nat → Int32} (C : Cfg x y u) {h : Nat} (hh : h < 120) (hu : us u h) : inB (x h) ∧ inB (y h) ∧ inB (x (bk h)) ∧ inB (y (bk h)) := by
  have h1 := C.1 h hh hu
  have h2 := C.1 (bk h) (bk_lt hh) (us_bk hu)
  exact ⟨h1.1, h1.2, h2.1, h2.2⟩
theorem sideI {x y : Nat → Int32} {h : Nat} {px py : Int32} (hb : inB (x h) ∧ inB (y h) ∧ inB (x (bk h)) ∧ inB (y (bk h))) (hx : inB px) (hy : inB py) : (sideL x y h px py).toInt = sdI x y h px py := by
  obtain ⟨h1, h2, h3, h4⟩ := hb
  exact subL (mulL h3 h1 hy h2) (mulL h4 h2 hx h1) (mulB h3 h1 hy h2) (mulB h4 h2 hx h1)
theorem turnI {x y : Nat → Int32} {g h : Nat} (hg : inB (x g) ∧ inB (y g) ∧ inB (x (bk g)) ∧ inB (y (bk g))) (hb : inB (x h) ∧ inB (y h) ∧ inB (x (bk h)) ∧ inB (y (bk h))) : (turnL x y g h).toInt = dX x g * dX y h - dX y g * dX x h := by
  obtain ⟨h1, h2, h3, h4⟩ := hb
  obtain ⟨g1, g2, g3, g4⟩ := hg
  exact subL (mulL g3 g1 h4 h2) (mulL g4 g2 h3 h1) (mulB g3 g1 h4 h2) (mulB g4 g2 h3 h1)
theorem half_or (h : Nat) : h = 2 * (h / 2) ∨ h = bk (2 * (h / 2)) := by rw [bk_ev]; omega
theorem holdsI {x y : Nat → Int32} {h : Nat} {px py : Int32} (hb : inB (x h) ∧ inB (y h) ∧ inB (x (bk h)) ∧ inB (y (bk h))) (hx : inB px) (hy : inB py) : holdsL x y (h / 2) px py ↔ sdI x y h px py = 0 ∧ dtI x y h px py < 0 := by
  have key : ∀ s, inB (x (2 * s)) ∧ inB (y (2 * s)) ∧ inB (x (2 * s + 1)) ∧ inB (y (2 * s + 1)) → (holdsL x y s px py ↔ sdI x y (2 * s) px py = 0 ∧ dtI x y (2 * s) px py < 0) := by
    intro s hs
    obtain ⟨h1, h2, h3, h4⟩ := id hs
    have e1 := sideI (h := 2 * s) (x := x) (y := y) (by rw [bk_ev]; exact hs) hx hy
    have e2 : (dotL x y s px py).toInt = dtI x y (2 * s) px py := by
      unfold dtI
      rw [bk_ev]
      exact addL (mulL h1 hx h3 hx) (mulL h2 hy h4 hy) (mulB h1 hx h3 hx) (mulB h2 hy h4 hy)
    unfold holdsL
    rw [(lt0L e1).2.2.1, (lt0L e2).1]
  rcases half_or h with e | e
  · rw [e] at hb
    rw [bk_ev] at hb
    rw [key (h / 2) hb, ← e]
  · have e' : bk h = 2 * (h / 2) := by rw [e]; rw [bk_half, bk_bk]; omega
    have hb' : inB (x (2 * (h / 2))) ∧ inB (y (2 * (h / 2))) ∧ inB (x (2 * (h / 2) + 1)) ∧ inB (y (2 * (h / 2) + 1)) := by
      obtain ⟨h1, h2, h3, h4⟩ := hb
      rw [e'] at h3 h4
      have e2 : h = 2 * (h / 2) + 1 := by rw [← bk_ev]; exact e
      rw [e2] at h1 h2
      have e3 : (2 * (h / 2) + 1) = 2 * (h / 2) + 1 := rfl
      refine ⟨h3, h4, h1, h2⟩
    rw [key (h / 2) hb', ← e', sdI_bk, dtI_bk]
    constructor <;> rintro ⟨q1, q2⟩ <;> exact ⟨by omega, q2⟩
theorem ends_ne {x y u : Nat → Int32} (C : Cfg x y u) {h : Nat} (hh : h < 120) (hu : us u h) : ¬ (x h = x (bk h) ∧ y h = y (bk h)) := by
  have h1 := C.2.1 (h / 2) (hf_lt hh) hu
  rcases half_or h with e | e
  · rw [e, bk_ev]; exact h1
  · rintro ⟨q1, q2⟩
    have e2 : bk h = 2 * (h / 2) := by rw [e, bk_half, bk_bk]; omega
    have e3 : h = 2 * (h / 2) + 1 := by rw [← bk_ev]; exact e
    rw [e2] at q1 q2
    exact h1 ⟨by rw [← e3]; exact q1.symm, by rw [← e3]; exact q2.symm⟩
theorem nzH {x y u : Nat → Int32} (C : Cfg x y u) {h : Nat} (hh : h < 120) (hu : us u h) : nz (dX x h) (dX y h) := by
  have h1 := ends_ne C hh hu
  unfold nz dX
  by_cases q : (x h).toInt = (x (bk h)).toInt
  · right
    intro q2
    exact h1 ⟨Int32.toInt_inj.mp q, Int32.toInt_inj.mp (by omega)⟩
  · left; omega
theorem sameB_I {x y : Nat → Int32} {g h : Nat} (e : sameB x y g h) : (x g).toInt = (x h).toInt ∧ (y g).toInt = (y h).toInt := ⟨by rw [e.1], by rw [e.2]⟩
theorem seg_ne {x y u : Nat → Int32} (C : Cfg x y u) {g h : Nat} (hg : g < 120) (ug : us u g) (hne : g ≠ h) (e : sameB x y g h) : g / 2 ≠ h / 2 := by
  intro q
  have e2 : h = bk g := by unfold bk; split <;> omega
  rw [e2] at e
  exact ends_ne C hg ug ⟨e.1, e.2⟩
theorem clash_sym {x y : Nat → Int32} {s t : Nat} (h : clashL x y s t) : clashL x y t s := by
  rcases h with h | h | h | h
  · exact Or.inr (Or.inl h)
  · exact Or.inl h
  · refine Or.inr (Or.inr (Or.inl ?_))
    rcases h with ⟨a, b⟩ | ⟨a, b⟩
    · exact Or.inl ⟨⟨a.1.symm, a.2.symm⟩, ⟨b.1.symm, b.2.symm⟩⟩
    · exact Or.inr ⟨⟨b.1.symm, b.2.symm⟩, ⟨a.1.symm, a.2.symm⟩⟩
  · exact Or.inr (Or.inr (Or.inr ⟨h.2, h.1⟩))
/-- an end of g's segment that lies on h's segment, at no end, is a clash -/
theorem touch_of {x y : Nat → Int32} {g h : Nat} (q : holdsL x y (h / 2) (x g) (y g)) : clashL x y (h / 2) (g / 2) := by
  refine Or.inl ?_
  unfold touchL
  rcases half_or g with e | e
  · left; rw [← e]; exact q
  · right
    have e3 : g = 2 * (g / 2) + 1 := by rw [← bk_ev]; exact e
    rw [← e3]; exact q
theorem sameE_of {x y : Nat → Int32} {g h : Nat} (e1 : sameB x y g h) (e2 : sameB x y (bk g) (bk h)) : clashL x y (g / 2) (h / 2) := by
  refine Or.inr (Or.inr (Or.inl ?_))
  unfold sameE
  rcases half_or g with a | a <;> rcases half_or h with b | b
  · left; rw [← bk_ev, ← bk_ev, ← a, ← b]; exact ⟨e1, e2⟩
  · right
    have b3 : bk h = 2 * (h / 2) := by rw [b, bk_half, bk_bk]; omega
    rw [← bk_ev, ← bk_ev, ← a, ← b, ← b3]; exact ⟨e1, e2⟩
  · right
    have a3 : bk g = 2 * (g / 2) := by rw [a, bk_half, bk_bk]; omega
    rw [← bk_ev, ← bk_ev, ← b, ← a, ← a3]; exact ⟨e2, e1⟩
  · left
    have a3 : bk g = 2 * (g / 2) := by rw [a, bk_half, bk_bk]; omega
    have b3 : bk h = 2 * (h / 2) := by rw [b, bk_half, bk_bk]; omega
    rw [← bk_ev, ← bk_ev, ← b, ← a, ← a3, ← b3]; exact ⟨e2, e1⟩
theorem id_dt (px py gx gy hx hy : Int) : (px - gx) * (hx - gx) + (py - gy) * (hy - gy) = ((gx - px) * (gx - px) + (gy - py) * (gy - py)) - ((gx - px) * (hx - px) + (gy - py) * (hy - py)) := by grind
theorem id_sd (px py gx gy hx hy : Int) : (hx - px) * (gy - py) - (hy - py) * (gx - px) = -((gx - px) * (hy - py) - (gy - py) * (hx - px)) := by grind
/-- where g and h begin at one point: the place of g's end against h -/
theorem at_end {x y : Nat → Int32} {g h : Nat} (e : sameB x y g h) : sdI x y h (x (bk g)) (y (bk g)) = -(dX x g * dX y h - dX y g * dX x h) ∧ dtI x y h (x (bk g)) (y (bk g)) = (dX x g * dX x g + dX y g * dX y g) - (dX x g * dX x h + dX y g * dX y h) := by
  obtain ⟨e1, e2⟩ := sameB_I e
  unfold sdI dtI dX
  rw [e1, e2]
  exact ⟨id_sd _ _ _ _ _ _, id_dt _ _ _ _ _ _⟩
theorem nppH {x y u : Nat → Int32} (C : Cfg x y u) {g h : Nat} (hg : g < 120) (hh : h < 120) (ug : us u g) (uh : us u h) (hne : g ≠ h) (e : sameB x y g h) : ¬ pp (dX x g) (dX y g) (dX x h) (dX y h) := by
  rintro ⟨q1, q2⟩
  have hs := seg_ne C hg ug hne e
  have hno := C.2.2 (g / 2) (h / 2) (hf_lt hg) (hf_lt hh) ug uh hs
  have hno2 : ¬ clashL x y (h / 2) (g / 2) := fun q => hno (clash_sym q)
  obtain ⟨e1, e2⟩ := sameB_I e
  have bg := inBx C hg ug
  have bh := inBx C hh uh
  have e' : sameB x y h g := ⟨e.1.symm, e.2.symm⟩
  have n1 : ¬ (dX x g * dX x g + dX y g * dX y g < dX x g * dX x h + dX y g * dX y h) := by
    intro q
    refine hno2 ?_
    have hq : holdsL x y (h / 2) (x (bk g)) (y (bk g)) := (holdsI bh bg.2.2.1 bg.2.2.2).mpr ⟨by rw [(at_end e).1, q1]; rfl, by rw [(at_end e).2]; omega⟩
    have := touch_of (g := bk g) hq
    rw [bk_half] at this; exact this
  have n2 : ¬ (dX x h * dX x h + dX y h * dX y h < dX x g * dX x h + dX y g * dX y h) := by
    intro q
    refine hno ?_
    have h8 : dX x h * dX y g - dX y h * dX x g = -(dX x g * dX y h - dX y g * dX x h) := by grind
    have h9 : dX x h * dX x g + dX y h * dX y g = dX x g * dX x h + dX y g * dX y h := by grind
    have hq : holdsL x y (g / 2) (x (bk h)) (y (bk h)) := (holdsI bg bh.2.2.1 bh.2.2.2).mpr ⟨by rw [(at_end e').1, h8, q1]; rfl, by rw [(at_end e').2]; omega⟩
    have := touch_of (g := bk h) hq
    rw [bk_half] at this; exact this
  have i1 : (dX x g * dX x g + dX y g * dX y g) * (dX x h * dX x h + dX y h * dX y h) = (dX x g * dX x h + dX y g * dX y h) * (dX x g * dX x h + dX y g * dX y h) + (dX x g * dX y h - dX y g * dX x h) * (dX x g * dX y h - dX y g * dX x h) := by grind
  rw [q1] at i1
  have i2 : (dX x g * dX x g + dX y g * dX y g) + (dX x h * dX x h + dX y h * dX y h) - (dX x g * dX x h + dX y g * dX y h) - (dX x g * dX x h + dX y g * dX y h) = (dX x g - dX x h) * (dX x g - dX x h) + (dX y g - dX y h) * (dX y g - dX y h) := by grind
  have eqs : dX x g = dX x h ∧ dX y g = dX y h := by
    by_cases hz : nz (dX x g - dX x h) (dX y g - dX y h)
    · exfalso
      have hp := sq_pos hz
      generalize dX x g * dX x g + dX y g * dX y g = S1 at *
      generalize dX x h * dX x h + dX y h * dX y h = S2 at *
      generalize dX x g * dX x h + dX y g * dX y h = D at *
      rcases Int.lt_or_le D S1 with c1 | c1
      · have a1 : D * D < S1 * D := Int.mul_lt_mul_of_pos_right c1 q2
        have a2 : S1 * D ≤ S1 * S2 := Int.mul_le_mul_of_nonneg_left (by omega) (by omega)
        omega
      · have c2 : D < S2 := by omega
        have a1 : D * D < D * S2 := Int.mul_lt_mul_of_pos_left c2 q2
        have a2 : D * S2 ≤ S1 * S2 := Int.mul_le_mul_of_nonneg_right (by omega) (by omega)
        omega
    · unfold nz at hz; omega
  refine hno (sameE_of e ⟨Int32.toInt_inj.mp ?_, Int32.toInt_inj.mp ?_⟩)
  · have := eqs.1; unfold dX at this; omega
  · have := eqs.2; unfold dX at this; omega
