/-! what the reference calls to meet is what the class calls to clash -/
theorem jn1_bi {t : (Int32 → Prop) → Prop} {k : Int32 → Prop} (P : Prop) (h : ∀ K : Int32 → Prop, K (bi P) → t K) (hk : k (bi P)) : jn1 t k := h k hk
def box (a b p : Int32) : Prop := (a.toInt ≤ p.toInt ∧ p.toInt ≤ b.toInt) ∨ (b.toInt ≤ p.toInt ∧ p.toInt ≤ a.toInt)
theorem boxT {v0 v2 v4 : Int32} {K : Int32 → Prop} (hK : K (bi (box v0 v2 v4))) : (v2 ≤ v0 → (v4 < v2 → K 0) ∧ (¬ v4 < v2 → (v0 < v4 → K 0) ∧ (¬ v0 < v4 → K 1))) ∧ (¬ v2 ≤ v0 → (v4 < v0 → K 0) ∧ (¬ v4 < v0 → (v2 < v4 → K 0) ∧ (¬ v2 < v4 → K 1))) := by
  simp only [Int32.lt_iff_toInt_lt, Int32.le_iff_toInt_le]
  obtain ⟨k1, k0⟩ := bi_lf hK
  unfold box at k1 k0
  exact ⟨fun a => ⟨fun b => k0 (by omega), fun b => ⟨fun c => k0 (by omega), fun c => k1 (by omega)⟩⟩, fun a => ⟨fun b => k0 (by omega), fun b => ⟨fun c => k0 (by omega), fun c => k1 (by omega)⟩⟩⟩
theorem sg_0 (v : Int64) : sgL v = 0 ↔ v = 0 := by
  unfold sgL
  by_cases h1 : v < 0
  · rw [if_pos h1]; exact ⟨fun q => absurd q (by decide), fun q => by rw [q] at h1; exact absurd h1 (by decide)⟩
  · rw [if_neg h1]
    by_cases h2 : 0 < v
    · rw [if_pos h2]; exact ⟨fun q => absurd q (by decide), fun q => by rw [q] at h2; exact absurd h2 (by decide)⟩
    · rw [if_neg h2]
      refine ⟨fun _ => ?_, fun _ => rfl⟩
      rw [← Int64.toInt_inj]
      rw [Int64.lt_iff_toInt_lt] at h1 h2
      have e0 : (0 : Int64).toInt = 0 := rfl
      omega
def onP (x y : Nat → Int32) (h : Nat) (px py : Int32) : Prop := sideL x y h px py = 0 ∧ box (x h) (x (bk h)) px ∧ box (y h) (y (bk h)) py
theorem m_isOn {x y : Nat → Int32} {h : Nat} {px py : Int32} {post : Int32 → Prop} (k : post (bi (onP x y h px py))) : wp_X4_isOn (x h) (y h) (x (bk h)) (y (bk h)) px py post := by
  refine m_side ?_
  refine jn1_bi (sideL x y h px py = 0) (fun K hK => ?_) ?_
  · obtain ⟨k1, k0⟩ := bi_lf hK
    exact ⟨fun q => k1 ((sg_0 _).mp q), fun q => k0 fun w => q ((sg_0 _).mpr w)⟩
  refine jn1_bi (box (x h) (x (bk h)) px) (fun K hK => boxT hK) ?_
  refine jn1_bi (box (y h) (y (bk h)) py) (fun K hK => boxT hK) ?_
  refine jn1_bi (onP x y h px py) (fun K hK => ?_) ⟨bz_bi _, k⟩
  obtain ⟨k1, k0⟩ := bi_lf hK
  exact ⟨fun a => k0 fun q => bi0.mp a q.1, fun a => ⟨fun b => k0 fun q => bi0.mp b q.2.1, fun b => ⟨fun c => k0 fun q => bi0.mp c q.2.2, fun c => k1 ⟨nb0 a, nb0 b, nb0 c⟩⟩⟩⟩
def endP (x y : Nat → Int32) (t : Nat) (px py : Int32) : Prop := (x (2 * t) = px ∧ y (2 * t) = py) ∨ (x (2 * t + 1) = px ∧ y (2 * t + 1) = py)
theorem m_isEnd {x y mxs mys : Nat → Int32} {t : Nat} (ht : t < 60) (e : mxs (2 * t) = x (2 * t) ∧ mys (2 * t) = y (2 * t) ∧ mxs (2 * t + 1) = x (2 * t + 1) ∧ mys (2 * t + 1) = y (2 * t + 1)) {px py : Int32} {post : Int32 → Prop} (k : post (bi (endP x y t px py))) : wp_X4_isEnd mxs mys (nI t) px py post := by
  obtain ⟨e1, e2, e3, e4⟩ := e
  unfold wp_X4_isEnd
  simp only [dbl, dbl1, cl (show 2 * t < 1000 by omega), cl (show 2 * t + 1 < 1000 by omega), vin (show 2 * t < 120 by omega) (by decide), vin (show 2 * t + 1 < 120 by omega) (by decide), true_and, e1, e2, e3, e4]
  refine jn1_bi (endP x y t px py) (fun K hK => ?_) ⟨bz_bi _, k⟩
  obtain ⟨k1, k0⟩ := bi_lf hK
  unfold endP at k1 k0
  have second : ¬ (x (2 * t) = px ∧ y (2 * t) = py) → ((x (2 * t + 1) = px → (y (2 * t + 1) = py → K 1) ∧ (¬ y (2 * t + 1) = py → K 0)) ∧ (¬ x (2 * t + 1) = px → K 0)) := fun n => ⟨fun a => ⟨fun b => k1 (Or.inr ⟨a, b⟩), fun b => k0 fun q => q.elim n fun w => b w.2⟩, fun a => k0 fun q => q.elim n fun w => a w.1⟩
  exact ⟨fun a => ⟨fun b => k1 (Or.inl ⟨a, b⟩), fun b => second fun q => b q.2⟩, fun a => second fun q => a q.1⟩
/-- on a line: within the box, at no end -/
theorem box_dot {ax ay bx b_y : Int} (hc : ax * b_y - ay * bx = 0) : (((ax ≤ 0 ∧ 0 ≤ bx) ∨ (bx ≤ 0 ∧ 0 ≤ ax)) ∧ ((ay ≤ 0 ∧ 0 ≤ b_y) ∨ (b_y ≤ 0 ∧ 0 ≤ ay)) ∧ ¬ (ax = 0 ∧ ay = 0) ∧ ¬ (bx = 0 ∧ b_y = 0)) ↔ ax * bx + ay * b_y < 0 := by
  constructor
  · rintro ⟨h1, h2, h3, h4⟩
    have p1 : ax * bx ≤ 0 := h1.elim (fun q => Int.mul_nonpos_of_nonpos_of_nonneg q.1 q.2) fun q => Int.mul_nonpos_of_nonneg_of_nonpos q.2 q.1
    have p2 : ay * b_y ≤ 0 := h2.elim (fun q => Int.mul_nonpos_of_nonpos_of_nonneg q.1 q.2) fun q => Int.mul_nonpos_of_nonneg_of_nonpos q.2 q.1
    rcases Int.lt_or_le (ax * bx + ay * b_y) 0 with q | q
    · exact q
    · exfalso
      have z1 : ax * bx = 0 := by omega
      have z2 : ay * b_y = 0 := by omega
      rcases Int.mul_eq_zero.mp z1 with w | w
      · rw [w, Int.zero_mul] at hc
        rcases Int.mul_eq_zero.mp z2 with v | v
        · exact h3 ⟨w, v⟩
        · have : ay * bx = 0 := by omega
          rcases Int.mul_eq_zero.mp this with r | r
          · exact h3 ⟨w, r⟩
          · exact h4 ⟨r, v⟩
      · rw [w, Int.mul_zero] at hc
        have : ax * b_y = 0 := by omega
        rcases Int.mul_eq_zero.mp this with v | v
        · rcases Int.mul_eq_zero.mp z2 with r | r
          · exact h3 ⟨v, r⟩
          · exact h4 ⟨w, r⟩
        · exact h4 ⟨w, v⟩
  · intro h
    have sq : 0 ≤ (ax * bx) * (ay * b_y) := by
      have e : (ax * bx) * (ay * b_y) = (ax * b_y) * (ax * b_y) - (ax * b_y) * (ax * b_y - ay * bx) := by grind
      rw [e, hc, Int.mul_zero, Int.sub_zero]
      rcases Int.le_total 0 (ax * b_y) with q | q
      · exact Int.mul_nonneg q q
      · exact Int.mul_nonneg_of_nonpos_of_nonpos q q
    have s1 : ax * bx ≤ 0 := by
      rcases Int.lt_or_le 0 (ax * bx) with q | q
      · have : ay * b_y < 0 := by omega
        have := Int.mul_neg_of_pos_of_neg q this
        omega
      · exact q
    have s2 : ay * b_y ≤ 0 := by
      rcases Int.lt_or_le 0 (ay * b_y) with q | q
      · have : ax * bx < 0 := by omega
        have := Int.mul_neg_of_neg_of_pos this q
        omega
      · exact q
    have sgn : ∀ p q : Int, p * q ≤ 0 → (p ≤ 0 ∧ 0 ≤ q) ∨ (q ≤ 0 ∧ 0 ≤ p) := by
      intro p q z
      rcases Int.lt_trichotomy p 0 with a | a | a
      · rcases Int.lt_or_le q 0 with b | b
        · have := Int.mul_pos_of_neg_of_neg a b; omega
        · omega
      · omega
      · rcases Int.lt_or_le 0 q with b | b
        · have := Int.mul_pos a b; omega
        · omega
    refine ⟨sgn _ _ s1, sgn _ _ s2, fun q => ?_, fun q => ?_⟩
    · rw [q.1, q.2] at h; omega
    · rw [q.1, q.2] at h; omega
theorem on_holds {x y : Nat → Int32} {h : Nat} {px py : Int32} (hb : inB (x h) ∧ inB (y h) ∧ inB (x (bk h)) ∧ inB (y (bk h))) (hx : inB px) (hy : inB py) : (onP x y h px py ∧ ¬ (px = x h ∧ py = y h) ∧ ¬ (px = x (bk h) ∧ py = y (bk h))) ↔ holdsL x y (h / 2) px py := by
  rw [holdsI hb hx hy]
  have sd := (lt0L (sideI (x := x) (y := y) hb hx hy)).2.2.1
  have e1 : ∀ a b : Int32, a = b ↔ a.toInt = b.toInt := fun a b => Int32.toInt_inj.symm
  unfold onP
  rw [sd]
  by_cases z : sdI x y h px py = 0
  · have hc : ((x h).toInt - px.toInt) * ((y (bk h)).toInt - py.toInt) - ((y h).toInt - py.toInt) * ((x (bk h)).toInt - px.toInt) = 0 := by
      rw [← z]; unfold sdI dX; grind
    have bd := box_dot hc
    unfold dtI
    rw [← bd, e1, e1, e1, e1]
    unfold box
    omega
  · exact ⟨fun q => absurd q.1.1 z, fun q => absurd q.1 z⟩
theorem sg_mul (p q : Int64) : (0 ≤ sgL p * sgL q) ↔ ¬ ((p < 0 ∧ 0 < q) ∨ (0 < p ∧ q < 0)) := by
  have s : ∀ v : Int64, (v < 0 ∧ ¬ 0 < v ∧ sgL v = -1) ∨ (0 < v ∧ ¬ v < 0 ∧ sgL v = 1) ∨ (¬ v < 0 ∧ ¬ 0 < v ∧ sgL v = 0) := by
    intro v
    unfold sgL
    by_cases h1 : v < 0
    · exact Or.inl ⟨h1, fun w => by rw [Int64.lt_iff_toInt_lt] at h1 w; omega, if_pos h1⟩
    · by_cases h2 : 0 < v
      · exact Or.inr (Or.inl ⟨h2, h1, by rw [if_neg h1, if_pos h2]⟩)
      · exact Or.inr (Or.inr ⟨h1, h2, by rw [if_neg h1, if_neg h2]⟩)
  rcases s p with ⟨a, b, c⟩ | ⟨a, b, c⟩ | ⟨a, b, c⟩ <;> rcases s q with ⟨d, e, f⟩ | ⟨d, e, f⟩ | ⟨d, e, f⟩ <;> rw [c, f] <;> simp only [a, b, d, e] <;> decide
theorem m_meets {x y mxs mys : Nat → Int32} {s t : Nat} (hs : s < 60) (ht : t < 60) (e : mxs (2 * t) = x (2 * t) ∧ mys (2 * t) = y (2 * t) ∧ mxs (2 * t + 1) = x (2 * t + 1) ∧ mys (2 * t + 1) = y (2 * t + 1))
    (bs : inB (x (2 * s)) ∧ inB (y (2 * s)) ∧ inB (x (2 * s + 1)) ∧ inB (y (2 * s + 1))) (bt : inB (x (2 * t)) ∧ inB (y (2 * t)) ∧ inB (x (2 * t + 1)) ∧ inB (y (2 * t + 1))) (nd : ¬ (x (2 * s) = x (2 * s + 1) ∧ y (2 * s) = y (2 * s + 1))) {post : Int32 → Prop} (k : post (bi (clashL x y s t))) :
    wp_X4_meets mxs mys (nI t) (x (2 * s)) (y (2 * s)) (x (2 * s + 1)) (y (2 * s + 1)) post := by
  obtain ⟨k1, k0⟩ := bi_lf k
  have b2s : bk (2 * s) = 2 * s + 1 := bk_ev s
  have b2t : bk (2 * t) = 2 * t + 1 := bk_ev t
  have h2s : 2 * s / 2 = s := by omega
  have h2t : 2 * t / 2 = t := by omega
  have onS := fun {px py : Int32} (hx : inB px) (hy : inB py) => on_holds (x := x) (y := y) (h := 2 * s) (px := px) (py := py) (by rw [b2s]; exact bs) hx hy
  have onT := fun {px py : Int32} (hx : inB px) (hy : inB py) => on_holds (x := x) (y := y) (h := 2 * t) (px := px) (py := py) (by rw [b2t]; exact bt) hx hy
  simp only [b2s, h2s] at onS
  simp only [b2t, h2t] at onT
  have isS := fun {px py : Int32} {post : Int32 → Prop} (k : post (bi (onP x y (2 * s) px py))) => m_isOn (x := x) (y := y) (h := 2 * s) k
  have isT := fun {px py : Int32} {post : Int32 → Prop} (k : post (bi (onP x y (2 * t) px py))) => m_isOn (x := x) (y := y) (h := 2 * t) k
  have sdS := fun {px py : Int32} {post : Int32 → Prop} (k : post (sgL (sideL x y (2 * s) px py))) => m_side (x := x) (y := y) (h := 2 * s) k
  have sdT := fun {px py : Int32} {post : Int32 → Prop} (k : post (sgL (sideL x y (2 * t) px py))) => m_side (x := x) (y := y) (h := 2 * t) k
  simp only [b2s] at isS sdS
  simp only [b2t] at isT sdT
  have cE : endP x y t (x (2 * s)) (y (2 * s)) → endP x y t (x (2 * s + 1)) (y (2 * s + 1)) → clashL x y s t := by
    intro a b
    refine Or.inr (Or.inr (Or.inl ?_))
    unfold endP at a b
    unfold sameE sameB
    rcases a with a | a <;> rcases b with b | b
    · exact absurd ⟨a.1.symm.trans b.1, a.2.symm.trans b.2⟩ nd
    · exact Or.inl ⟨⟨a.1.symm, a.2.symm⟩, ⟨b.1.symm, b.2.symm⟩⟩
    · exact Or.inr ⟨⟨a.1.symm, a.2.symm⟩, ⟨b.1.symm, b.2.symm⟩⟩
    · exact absurd ⟨a.1.symm.trans b.1, a.2.symm.trans b.2⟩ nd
  have cE2 : sameE x y s t → endP x y t (x (2 * s)) (y (2 * s)) ∧ endP x y t (x (2 * s + 1)) (y (2 * s + 1)) := by
    unfold sameE sameB endP
    rintro (⟨a, b⟩ | ⟨a, b⟩)
    · exact ⟨Or.inl ⟨a.1.symm, a.2.symm⟩, Or.inr ⟨b.1.symm, b.2.symm⟩⟩
    · exact ⟨Or.inr ⟨a.1.symm, a.2.symm⟩, Or.inl ⟨b.1.symm, b.2.symm⟩⟩
  obtain ⟨e1, e2, e3, e4⟩ := id e
  unfold wp_X4_meets
  simp only [dbl, dbl1, cl (show 2 * t < 1000 by omega), cl (show 2 * t + 1 < 1000 by omega), vin (show 2 * t < 120 by omega) (by decide), vin (show 2 * t + 1 < 120 by omega) (by decide), true_and, forall_eq, e1, e2, e3, e4, jn0]
  -- the last test
  have yes : clashL x y s t → bz 1 ∧ post 1 := fun c => ⟨bz1, k1 c⟩
  refine m_isEnd ht e ?_
  generalize hcont : wp_X4_isOn (x (2 * s)) (y (2 * s)) (x (2 * s + 1)) (y (2 * s + 1)) (x (2 * t)) (y (2 * t)) _ = cont
  have rest : ¬ sameE x y s t → cont := by
    intro nE
    rw [← hcont]
    refine isS ?_
    generalize hc2 : wp_X4_isOn (x (2 * s)) (y (2 * s)) (x (2 * s + 1)) (y (2 * s + 1)) (x (2 * t + 1)) (y (2 * t + 1)) _ = cont2
    have rest2 : ¬ holdsL x y s (x (2 * t)) (y (2 * t)) → cont2 := by
      intro n1
      rw [← hc2]
      refine isS ?_
      generalize hc3 : wp_X4_isOn (x (2 * t)) (y (2 * t)) (x (2 * t + 1)) (y (2 * t + 1)) (x (2 * s)) (y (2 * s)) _ = cont3
      have rest3 : ¬ holdsL x y s (x (2 * t + 1)) (y (2 * t + 1)) → cont3 := by
        intro n2
        rw [← hc3]
        refine isT ?_
        generalize hc4 : wp_X4_isOn (x (2 * t)) (y (2 * t)) (x (2 * t + 1)) (y (2 * t + 1)) (x (2 * s + 1)) (y (2 * s + 1)) _ = cont4
        have rest4 : ¬ holdsL x y t (x (2 * s)) (y (2 * s)) → cont4 := by
          intro n3
          rw [← hc4]
          refine isT ?_
          generalize hc5 : wp_X4_side (x (2 * s)) (y (2 * s)) (x (2 * s + 1)) (y (2 * s + 1)) (x (2 * t)) (y (2 * t)) _ = cont5
          have rest5 : ¬ holdsL x y t (x (2 * s + 1)) (y (2 * s + 1)) → cont5 := by
            intro n4
            rw [← hc5]
            have nt : clashL x y s t ↔ crossL x y s t := by
              unfold clashL touchL
              exact ⟨fun q => q.elim (fun q => absurd q (fun w => w.elim n1 n2)) fun q => q.elim (fun q => absurd q (fun w => w.elim n3 n4)) fun q => q.elim (fun q => absurd q nE) id, fun q => Or.inr (Or.inr (Or.inr q))⟩
            refine sdS (sdS (jn1_bi (clashL x y s t) (fun K hK => ?_) ⟨bz_bi _, k⟩))
            obtain ⟨j1, j0⟩ := bi_lf hK
            rw [nt] at j1 j0
            unfold crossL partsL at j1 j0
            rw [b2s, b2t] at j1 j0
            rw [sg_mul]
            refine ⟨fun a => j0 fun q => a q.1, fun a => sdT (sdT ?_)⟩
            rw [sg_mul]
            exact ⟨fun b => j0 fun q => b q.2, fun b => j1 ⟨Classical.not_not.mp a, Classical.not_not.mp b⟩⟩
          have f4 := onT bs.2.2.1 bs.2.2.2
          refine ⟨fun a => rest5 fun q => bi0.mp a (f4.mpr q).1, fun a => m_isEnd ht e ⟨fun b => yes (Or.inr (Or.inl (Or.inr (f4.mp ⟨nb0 a, fun q => bi0.mp b (Or.inl ⟨q.1.symm, q.2.symm⟩), fun q => bi0.mp b (Or.inr ⟨q.1.symm, q.2.symm⟩)⟩)))), fun b => rest5 fun q => ?_⟩⟩
          rcases nb0 b with w | w
          · exact (f4.mpr q).2.1 ⟨w.1.symm, w.2.symm⟩
          · exact (f4.mpr q).2.2 ⟨w.1.symm, w.2.symm⟩
        have f3 := onT bs.1 bs.2.1
        refine ⟨fun a => rest4 fun q => bi0.mp a (f3.mpr q).1, fun a => m_isEnd ht e ⟨fun b => yes (Or.inr (Or.inl (Or.inl (f3.mp ⟨nb0 a, fun q => bi0.mp b (Or.inl ⟨q.1.symm, q.2.symm⟩), fun q => bi0.mp b (Or.inr ⟨q.1.symm, q.2.symm⟩)⟩)))), fun b => rest4 fun q => ?_⟩⟩
        rcases nb0 b with w | w
        · exact (f3.mpr q).2.1 ⟨w.1.symm, w.2.symm⟩
        · exact (f3.mpr q).2.2 ⟨w.1.symm, w.2.symm⟩
      have f2 := onS bt.2.2.1 bt.2.2.2
      have go2 : ∀ (A B C D : Prop), (¬ (A ∧ B) → ¬ (C ∧ D) → bz 1 ∧ post 1) → ((A ∧ B) ∨ (C ∧ D) → cont3) → (A → (B → cont3) ∧ (¬ B → (C → (D → cont3) ∧ (¬ D → bz 1 ∧ post 1)) ∧ (¬ C → bz 1 ∧ post 1))) ∧ (¬ A → (C → (D → cont3) ∧ (¬ D → bz 1 ∧ post 1)) ∧ (¬ C → bz 1 ∧ post 1)) := fun A B C D p r => ⟨fun a => ⟨fun b => r (Or.inl ⟨a, b⟩), fun b => ⟨fun c => ⟨fun d => r (Or.inr ⟨c, d⟩), fun d => p (fun q => b q.2) fun q => d q.2⟩, fun c => p (fun q => b q.2) fun q => c q.1⟩⟩, fun a => ⟨fun c => ⟨fun d => r (Or.inr ⟨c, d⟩), fun d => p (fun q => a q.1) fun q => d q.2⟩, fun c => p (fun q => a q.1) fun q => c q.1⟩⟩
      exact ⟨fun a => rest3 fun q => bi0.mp a (f2.mpr q).1, fun a => go2 _ _ _ _ (fun n m => yes (Or.inl (Or.inr (f2.mp ⟨nb0 a, n, m⟩)))) fun w => rest3 fun q => w.elim (f2.mpr q).2.1 (f2.mpr q).2.2⟩
    have f1 := onS bt.1 bt.2.1
    have go1 : ∀ (A B C D : Prop), (¬ (A ∧ B) → ¬ (C ∧ D) → bz 1 ∧ post 1) → ((A ∧ B) ∨ (C ∧ D) → cont2) → (A → (B → cont2) ∧ (¬ B → (C → (D → cont2) ∧ (¬ D → bz 1 ∧ post 1)) ∧ (¬ C → bz 1 ∧ post 1))) ∧ (¬ A → (C → (D → cont2) ∧ (¬ D → bz 1 ∧ post 1)) ∧ (¬ C → bz 1 ∧ post 1)) := fun A B C D p r => ⟨fun a => ⟨fun b => r (Or.inl ⟨a, b⟩), fun b => ⟨fun c => ⟨fun d => r (Or.inr ⟨c, d⟩), fun d => p (fun q => b q.2) fun q => d q.2⟩, fun c => p (fun q => b q.2) fun q => c q.1⟩⟩, fun a => ⟨fun c => ⟨fun d => r (Or.inr ⟨c, d⟩), fun d => p (fun q => a q.1) fun q => d q.2⟩, fun c => p (fun q => a q.1) fun q => c q.1⟩⟩
    exact ⟨fun a => rest2 fun q => bi0.mp a (f1.mpr q).1, fun a => go1 _ _ _ _ (fun n m => yes (Or.inl (Or.inl (f1.mp ⟨nb0 a, n, m⟩)))) fun w => rest2 fun q => w.elim (f1.mpr q).2.1 (f1.mpr q).2.2⟩
  exact ⟨fun a => rest fun q => bi0.mp a (cE2 q).1, fun a => m_isEnd ht e ⟨fun b => rest fun q => bi0.mp b (cE2 q).2, fun b => yes (cE (nb0 a) (nb0 b))⟩⟩
