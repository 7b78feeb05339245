/-! areas by columns -/
theorem F_abs {us ue ug uh a b p q m F : Int} (h1 : us < ue) (h2 : ug < uh) (m1 : 2 * us < m) (m2 : m < 2 * ue) (m3 : 2 * ug < m) (m4 : m < 2 * uh)
    (i1 : F = a * (2 * uh - m) + b * (m - 2 * ug)) (i2 : F = -p * (2 * ue - m) + -q * (m - 2 * us)) (i3 : F * (ue - ug) = (uh - ug) * a * (2 * ue - m) + (ue - us) * -q * (m - 2 * ug)) (i4 : F * (uh - us) = (ue - us) * -p * (2 * uh - m) + (uh - ug) * b * (m - 2 * us))
    (n1 : ug < us → p ≠ 0) (n2 : ue < uh → q ≠ 0) (n3 : us < ug → a ≠ 0) (n4 : uh < ue → b ≠ 0) (z1 : ug = us → a = 0 ∧ p = 0) (z2 : uh = ue → b = 0 ∧ q = 0) (ns : ¬ (ug = us ∧ uh = ue)) (T : startP us ue ug uh a b p ↔ stopP us ue ug uh a b q) : (startP us ue ug uh a b p → 0 < F) ∧ (¬ startP us ue ug uh a b p → F < 0) := by
  have e1 : 0 < 2 * uh - m := by omega
  have e2 : 0 < m - 2 * ug := by omega
  have e3 : 0 < 2 * ue - m := by omega
  have e4 : 0 < m - 2 * us := by omega
  have S : 0 < ue - us := by omega
  have H : 0 < uh - ug := by omega
  -- two terms of one sign
  have two : ∀ {A B P Q R : Int}, 0 < P → 0 < Q → R = A * P + B * Q → ((0 < A ∧ 0 ≤ B) ∨ (0 ≤ A ∧ 0 < B) → 0 < R) ∧ ((A < 0 ∧ B ≤ 0) ∨ (A ≤ 0 ∧ B < 0) → R < 0) := by
    intro A B P Q R hP hQ e
    constructor
    · rintro (⟨a, b⟩ | ⟨a, b⟩)
      · have x := Int.mul_pos a hP
        have y := Int.mul_nonneg b (Int.le_of_lt hQ)
        omega
      · have x := Int.mul_nonneg a (Int.le_of_lt hP)
        have y := Int.mul_pos b hQ
        omega
    · rintro (⟨a, b⟩ | ⟨a, b⟩)
      · have x := Int.mul_neg_of_neg_of_pos a hP
        have y := Int.mul_nonpos_of_nonpos_of_nonneg b (Int.le_of_lt hQ)
        omega
      · have x := Int.mul_nonpos_of_nonpos_of_nonneg a (Int.le_of_lt hP)
        have y := Int.mul_neg_of_neg_of_pos b hQ
        omega
  have sg : ∀ {A P : Int}, 0 < P → ((0 < A → 0 < P * A) ∧ (A < 0 → P * A < 0) ∧ (0 ≤ A → 0 ≤ P * A) ∧ (A ≤ 0 → P * A ≤ 0)) := fun hP => ⟨fun h => Int.mul_pos hP h, fun h => Int.mul_neg_of_pos_of_neg hP h, fun h => Int.mul_nonneg (Int.le_of_lt hP) h, fun h => Int.mul_nonpos_of_nonneg_of_nonpos (Int.le_of_lt hP) h⟩
  have st : startP us ue ug uh a b p → stopP us ue ug uh a b q := T.mp
  have st2 : ¬ startP us ue ug uh a b p → ¬ stopP us ue ug uh a b q := fun h q => h (T.mpr q)
  rcases Int.lt_or_le ug us with c1 | c1
  · have np := n1 c1
    rcases Int.lt_or_le ue uh with c2 | c2
    · have nq := n2 c2
      have t := two e3 e4 i2
      exact ⟨fun h => t.1 (by have h2 := st h; unfold startP at h; unfold stopP at h2; omega), fun h => t.2 (by have h2 := st2 h; unfold startP at h; unfold stopP at h2; omega)⟩
    · have t := two e1 e4 i4
      have sp := sg (A := -p) S
      have sb := sg (A := b) H
      constructor
      · intro h
        have h2 := st h
        unfold startP at h; unfold stopP at h2
        refine posf (show 0 < uh - us by omega) (t.1 (Or.inl ⟨sp.1 (by omega), sb.2.2.1 ?_⟩))
        rcases Int.lt_or_le uh ue with c3 | c3
        · omega
        · have := (z2 (by omega)).1; omega
      · intro h
        have h2 := st2 h
        unfold startP at h; unfold stopP at h2
        refine negf (show 0 < uh - us by omega) (t.2 (Or.inl ⟨sp.2.1 (by omega), sb.2.2.2 ?_⟩))
        rcases Int.lt_or_le uh ue with c3 | c3
        · omega
        · have := (z2 (by omega)).1; omega
  · rcases Int.lt_or_le ue uh with c2 | c2
    · have nq := n2 c2
      have t := two e3 e2 i3
      have sa := sg (A := a) H
      have sq := sg (A := -q) S
      constructor
      · intro h
        have h2 := st h
        unfold startP at h; unfold stopP at h2
        refine posf (show 0 < ue - ug by omega) (t.1 (Or.inr ⟨sa.2.2.1 ?_, sq.1 (by omega)⟩))
        rcases Int.lt_or_le us ug with c3 | c3
        · omega
        · have := (z1 (by omega)).1; omega
      · intro h
        have h2 := st2 h
        unfold startP at h; unfold stopP at h2
        refine negf (show 0 < ue - ug by omega) (t.2 (Or.inr ⟨sa.2.2.2 ?_, sq.2.1 (by omega)⟩))
        rcases Int.lt_or_le us ug with c3 | c3
        · omega
        · have := (z1 (by omega)).1; omega
    · have t := two e1 e2 i1
      constructor
      · intro h
        have h2 := st h
        unfold startP at h; unfold stopP at h2
        refine t.1 ?_
        rcases Int.lt_or_le us ug with c3 | c3 <;> rcases Int.lt_or_le uh ue with c4 | c4
        · omega
        · have := (z2 (by omega)).1; omega
        · have := (z1 (by omega)).1; omega
        · omega
      · intro h
        have h2 := st2 h
        unfold startP at h; unfold stopP at h2
        refine t.2 ?_
        rcases Int.lt_or_le us ug with c3 | c3 <;> rcases Int.lt_or_le uh ue with c4 | c4
        · have := n3 c3; have := n4 c4; omega
        · have := n3 c3; have := (z2 (by omega)).1; omega
        · have := n4 c4; have := (z1 (by omega)).1; omega
        · omega
/-- twice the width times the height in the middle of a column, a shift added -/
def y2 (X V : Nat → Int) (s : Nat) (i : Int) : Int := 2 * dl X s * (V s + 16001) + dl V s * (2 * (i - X s) + 1)
def cov (X : Nat → Int) (s : Nat) (i : Int) : Prop := X s ≤ i ∧ i < X (bk s)
theorem F_geo {X V : Nat → Int} {U : Nat → Prop} {N : Nat → Nat} (G : Geo X V U N) {s g : Nat} {i : Int} (hs : s < 120) (hg : g < 120) (us : U s) (ug : U g) (ne : g / 2 ≠ s / 2) (rs : rt X s) (rg : rt X g) (cs : cov X s i) (cg : cov X g i) :
    (startP (X s) (X (bk s)) (X g) (X (bk g)) (sS X V s g) (sS X V s (bk g)) (sS X V g s) → 0 < dl X s * y2 X V g i - dl X g * y2 X V s i) ∧ (¬ startP (X s) (X (bk s)) (X g) (X (bk g)) (sS X V s g) (sS X V s (bk g)) (sS X V g s) → dl X s * y2 X V g i - dl X g * y2 X V s i < 0) := by
  have o1 : X g < X (bk s) := by unfold cov at cs cg; omega
  have o2 : X s < X (bk g) := by unfold cov at cs cg; omega
  have t := T_geo G hs hg us ug ne rs rg o1 o2
  obtain ⟨g1, g2, g3, g4, g5, g6, -⟩ := G
  have bs := bk_lt hs
  have bg := bk_lt hg
  unfold cov at cs cg
  refine F_abs (m := 2 * i + 1) rs rg (by omega) (by omega) (by omega) (by omega) ?_ ?_ ?_ ?_ (fun h => ?_) (fun h => ?_) (fun h => ?_) (fun h => ?_) (fun h => ?_) (fun h => ?_) (fun h => ?_) t
  · unfold sS y2 dl; grind
  · unfold sS y2 dl; grind
  · unfold sS y2 dl; grind
  · unfold sS y2 dl; grind
  · exact g4 s g hs hg us ug (fun q => ne q.symm) h o2
  · exact g4 (bk s) g bs hg (g1 s us) ug (fun q => ne (by rw [bk_half] at q; exact q.symm)) o1 h
  · exact g4 g s hg hs ug us ne h o1
  · exact g4 (bk g) s bg hs (g1 g ug) us (fun q => ne (by rw [bk_half] at q; exact q)) o2 h
  · have hv := g2 g s hg hs ug us h
    rw [sS_c (h := s) h hv, sS_self, sS_c (h := g) h.symm hv.symm, sS_self]; exact ⟨rfl, rfl⟩
  · have hv := g2 (bk g) (bk s) bg bs (g1 g ug) (g1 s us) h
    rw [sS_c (h := s) h hv, sS_end, sS_c (h := g) h.symm hv.symm, sS_end]; exact ⟨rfl, rfl⟩
  · exact g6 g s hg hs ug us ne h.1 h.2
/-! a common multiple of the widths -/
def prd (f : Nat → Int) : Nat → Int
  | 0 => 1
  | n + 1 => prd f n * f n
theorem prd_pos {f : Nat → Int} : ∀ {n : Nat}, (∀ i, i < n → 0 < f i) → 0 < prd f n := by
  intro n
  induction n with
  | zero => intro _; show (0 : Int) < 1; decide
  | succ n ih => intro h; exact Int.mul_pos (ih fun i hi => h i (by omega)) (h n (by omega))
theorem prd_div {f : Nat → Int} {k : Nat} : ∀ {n : Nat}, k < n → ∃ e, prd f n = e * f k := by
  intro n
  induction n with
  | zero => intro h; exact absurd h (Nat.not_lt_zero k)
  | succ n ih =>
    intro h
    by_cases q : k = n
    · exact ⟨prd f n, by rw [q]; rfl⟩
    · obtain ⟨e, he⟩ := ih (by omega)
      exact ⟨e * f n, by show prd f n * f n = _; rw [he]; grind⟩
noncomputable def wdD (X : Nat → Int) (U : Nat → Prop) (g : Nat) : Int := @ite _ (U g ∧ rt X g) (Classical.propDecidable _) (2 * dl X g) 1
noncomputable def cmD (X : Nat → Int) (U : Nat → Prop) : Int := prd (wdD X U) 120
noncomputable def eD (X : Nat → Int) (U : Nat → Prop) (g : Nat) : Int := cmD X U / (2 * dl X g)
theorem eD_ok {X : Nat → Int} {U : Nat → Prop} : 0 < cmD X U ∧ ∀ g, g < 120 → U g → rt X g → 0 < eD X U g ∧ eD X U g * (2 * dl X g) = cmD X U := by
  have pos : ∀ i, i < 120 → 0 < wdD X U i := fun i _ => by
    unfold wdD
    by_cases q : U i ∧ rt X i
    · rw [if_pos q]; have := q.2; unfold rt at this; unfold dl; omega
    · rw [if_neg q]; decide
  have hD := prd_pos pos
  refine ⟨hD, fun g hg ug rg => ?_⟩
  obtain ⟨e, he⟩ := prd_div (f := wdD X U) hg
  have ew : wdD X U g = 2 * dl X g := by unfold wdD; exact if_pos ⟨ug, rg⟩
  have wp := pos g hg
  rw [ew] at he wp
  have ee : eD X U g = e := by
    unfold eD cmD
    rw [he]
    exact Int.mul_ediv_cancel e (by omega)
  rw [ee]
  exact ⟨posf wp (by rw [← he]; exact hD), he.symm⟩
noncomputable def zZ (X V : Nat → Int) (U : Nat → Prop) (s : Nat) (i : Int) : Int := eD X U s * y2 X V s i
theorem z_cmp {X V : Nat → Int} {U : Nat → Prop} {s g : Nat} {i : Int} (hs : s < 120) (hg : g < 120) (us : U s) (ug : U g) (rs : rt X s) (rg : rt X g) : (0 < dl X s * y2 X V g i - dl X g * y2 X V s i → zZ X V U s i < zZ X V U g i) ∧ (dl X s * y2 X V g i - dl X g * y2 X V s i < 0 → zZ X V U g i < zZ X V U s i) := by
  obtain ⟨hD, hE⟩ := eD_ok (X := X) (U := U)
  obtain ⟨ps, es⟩ := hE s hs us rs
  obtain ⟨pg, eg⟩ := hE g hg ug rg
  have ws : 0 < dl X s := by unfold rt at rs; unfold dl; omega
  have wg : 0 < dl X g := by unfold rt at rg; unfold dl; omega
  have key : (zZ X V U g i - zZ X V U s i) * (2 * dl X g * dl X s) = cmD X U * (dl X s * y2 X V g i - dl X g * y2 X V s i) := by
    unfold zZ
    have a : eD X U g * y2 X V g i * (2 * dl X g * dl X s) = cmD X U * (dl X s * y2 X V g i) := by rw [← eg]; grind
    have b : eD X U s * y2 X V s i * (2 * dl X g * dl X s) = cmD X U * (dl X g * y2 X V s i) := by rw [← es]; grind
    rw [Int.sub_mul, a, b, Int.mul_sub]
  have pp : 0 < 2 * dl X g * dl X s := Int.mul_pos (by omega) ws
  constructor
  · intro h
    have := posf pp (a := zZ X V U g i - zZ X V U s i) (by rw [key]; exact Int.mul_pos hD h)
    omega
  · intro h
    have := negf pp (a := zZ X V U g i - zZ X V U s i) (by rw [key]; exact Int.mul_neg_of_pos_of_neg hD h)
    omega
/-! above a segment, within a column -/
def lI (X V : Nat → Int) (s : Nat) (i : Int) (p : Nat) : Prop := X s < X p ∧ X p ≤ i ∧ 0 < sS X V s p
def mM (X V : Nat → Int) (U : Nat → Prop) (s : Nat) (i : Int) (g : Nat) : Prop := cov X (ri X g) i ∧ ri X g ≠ s ∧ zZ X V U s i < zZ X V U (ri X g) i
theorem C_pair {X V : Nat → Int} {U : Nat → Prop} {N : Nat → Nat} (G : Geo X V U N) {k g : Nat} {i : Int} (hk : k < 120) (hg : g < 120) (uk : U k) (ug : U g) (rk : rt X k) (ck : cov X k i) : pif (aA X V k g) (- sn X g) - pif (mM X V U k i g) (- sn X g) = pif (lI X V k i g) 1 - pif (lI X V k i (bk g)) 1 := by
  have key : ∀ w, w < 120 → U w → rt X w → ri X g = w → pif (aA X V k g) 1 + pif (lI X V k i w) 1 = pif (mM X V U k i g) 1 + pif (lI X V k i (bk w)) 1 := by
    intro w hw uw rw_ ew
    have rk' : X k < X (bk k) := rk
    have rw' : X w < X (bk w) := rw_
    have ck' := ck
    unfold cov at ck'
    unfold aA mM ov
    rw [ew]
    by_cases same : w / 2 = k / 2
    · have e : w = k := by
        by_cases q : w = k
        · exact q
        · exfalso
          have e2 : w = bk k := by unfold bk; split <;> omega
          rw [e2, bk_bk] at rw'
          omega
      subst e
      rw [sS_end, pif_f (by omega), pif_f (by unfold lI; omega), pif_f (fun z => z.2.1 rfl), pif_f (by unfold lI; omega)]
    · by_cases o1 : X w ≤ i
      · by_cases o2 : X k < X (bk w)
        · have t := T_geo G hk hw uk uw same rk rw_ (by omega) o2
          have e1 : pif (startP (X k) (X (bk k)) (X w) (X (bk w)) (sS X V k w) (sS X V k (bk w)) (sS X V w k)) 1 = pif ((X w < X k ∧ X k < X (bk w) ∧ sS X V w k < 0) ∨ (X w = X k ∧ 0 < sS X V k (bk w))) 1 + pif (lI X V k i w) 1 := by
            refine pif_add ?_ ?_
            · unfold startP lI
              generalize sS X V k w = a
              generalize sS X V k (bk w) = b
              generalize sS X V w k = p
              omega
            · unfold lI; omega
          rw [← e1]
          by_cases o3 : X (bk w) ≤ i
          · rw [pif_f (P := cov X w i ∧ _) (fun z => by have := z.1.2; omega), pif_c (Q := lI X V k i (bk w))]
            · omega
            · rw [t]
              unfold stopP lI
              generalize sS X V k w = a
              generalize sS X V k (bk w) = b
              generalize sS X V w (bk k) = p
              omega
          · have cw : cov X w i := ⟨o1, by omega⟩
            rw [pif_f (P := lI X V k i (bk w)) (fun z => by have := z.2.1; omega)]
            have f := F_geo G hk hw uk uw same rk rw_ ck cw
            have zc := z_cmp (V := V) (i := i) hk hw uk uw rk rw_
            rw [pif_c (Q := cov X w i ∧ w ≠ k ∧ zZ X V U k i < zZ X V U w i)]
            · omega
            · constructor
              · intro z; exact ⟨cw, fun q => same (by rw [q]), zc.1 (f.1 z)⟩
              · intro z
                by_cases q : startP (X k) (X (bk k)) (X w) (X (bk w)) (sS X V k w) (sS X V k (bk w)) (sS X V w k)
                · exact q
                · have a := zc.2 (f.2 q)
                  have b := z.2.2
                  omega
        · rw [pif_f (by omega), pif_f (by unfold lI; omega), pif_f (fun z => by have := z.1.2; omega), pif_f (by unfold lI; omega)]
      · rw [pif_f (by omega), pif_f (by unfold lI; omega), pif_f (fun z => by have := z.1.1; omega), pif_f (by unfold lI; omega)]
  have g1 := G.1
  by_cases rg : rt X g
  · have := key g hg ug rg (ri_t rg).1
    rw [(ri_t rg).2, pif_neg, pif_neg]
    omega
  · have := key (bk g) (bk_lt hg) (g1 g ug) ((rt_bk G hg ug).mpr rg) (ri_f rg).1
    rw [bk_bk] at this
    rw [(ri_f rg).2, show -(-1 : Int) = 1 from rfl]
    omega
theorem W_col {X V : Nat → Int} {U : Nat → Prop} {N : Nat → Nat} {Q : Nat → Prop} (G : Geo X V U N) (C : Cir U N Q) {k : Nat} {i : Int} (hk : k < 120) (uk : U k) (rk : rt X k) (ck : cov X k i) : Ws X V Q k = su (fun g => pif (Q g ∧ mM X V U k i g) (- sn X g)) 120 := by
  have h : Ws X V Q k - su (fun g => pif (Q g ∧ mM X V U k i g) (- sn X g)) 120 = su (fun g => pif (Q g) (pif (lI X V k i g) 1)) 120 - su (fun g => pif (Q g) (pif (lI X V k i (bk g)) 1)) 120 := by
    unfold Ws
    rw [← su_sub, ← su_sub]
    refine su_c fun g hg => ?_
    rw [pif_and, pif_and, ← pif_sub, ← pif_sub]
    by_cases q : Q g
    · rw [pif_t q, pif_t q]; exact C_pair G hk hg uk (C.1 g hg q) rk ck
    · rw [pif_f q, pif_f q]
  have e := cir_pt G C (fun p => pif (lI X V k i p) 1) (fun a b e1 e2 => pif_c (by unfold lI; rw [e1, sS_c e1 e2]))
  rw [e] at h
  omega
/-- sums over a round, by the segments' halves that go right -/
theorem seg_sum {X V : Nat → Int} {U : Nat → Prop} {N : Nat → Nat} {Q : Nat → Prop} (G : Geo X V U N) (C : Cir U N Q) (B : Nat → Prop) (F : Nat → Int) : su (fun g => pif (Q g ∧ B (ri X g)) (- sn X g * F (ri X g))) 120 = su (fun g => pif (U g ∧ rt X g ∧ B g) ((pif (Q (bk g)) 1 - pif (Q g) 1) * F g)) 120 := by
  have e2 : su (fun g => pif (Q g ∧ B (ri X g)) (- sn X g * F (ri X g))) 120 = su (fun g => pif (Q (bk g) ∧ rt X g ∧ B g) (F g)) 120 - su (fun g => pif (Q g ∧ rt X g ∧ B g) (F g)) 120 := by
    rw [← su_bk (fun g => pif (Q (bk g) ∧ rt X g ∧ B g) (F g)), ← su_sub]
    refine su_c fun g hg => ?_
    rw [bk_bk]
    by_cases q : Q g
    · have ug := C.1 g hg q
      have rb := rt_bk G hg ug
      by_cases r : rt X g
      · rw [(ri_t r).1, (ri_t r).2, pif_f (P := Q g ∧ rt X (bk g) ∧ _) (fun z => rb.mp z.2.1 r), show (-1 : Int) * F g = -(F g) by omega, pif_neg, pif_c (P := Q g ∧ B g) (Q := Q g ∧ rt X g ∧ B g) ⟨fun z => ⟨z.1, r, z.2⟩, fun z => ⟨z.1, z.2.2⟩⟩]; omega
      · rw [(ri_f r).1, (ri_f r).2, show -(-1 : Int) * F (bk g) = F (bk g) by omega, pif_f (P := Q g ∧ rt X g ∧ _) (fun z => r z.2.1), pif_c (P := Q g ∧ B (bk g)) (Q := Q g ∧ rt X (bk g) ∧ B (bk g)) ⟨fun z => ⟨z.1, rb.mpr r, z.2⟩, fun z => ⟨z.1, z.2.2⟩⟩]; omega
    · rw [pif_f fun z => q z.1, pif_f fun z => q z.1, pif_f fun z => q z.1]; rfl
  rw [e2, ← su_sub]
  refine su_c fun g hg => ?_
  by_cases z : U g ∧ rt X g ∧ B g
  · rw [pif_t z]
    have q1 : pif (Q (bk g) ∧ rt X g ∧ B g) (F g) = pif (Q (bk g)) 1 * F g := by
      by_cases q : Q (bk g)
      · rw [pif_t q, pif_t ⟨q, z.2⟩]; omega
      · rw [pif_f q, pif_f fun w => q w.1]; omega
    have q2 : pif (Q g ∧ rt X g ∧ B g) (F g) = pif (Q g) 1 * F g := by
      by_cases q : Q g
      · rw [pif_t q, pif_t ⟨q, z.2⟩]; omega
      · rw [pif_f q, pif_f fun w => q w.1]; omega
    rw [q1, q2, Int.sub_mul]
  · have n1 : ¬ (Q (bk g) ∧ rt X g ∧ B g) := fun w => z ⟨by have := G.1 _ (C.1 _ (bk_lt hg) w.1); rw [bk_bk] at this; exact this, w.2⟩
    have n2 : ¬ (Q g ∧ rt X g ∧ B g) := fun w => z ⟨C.1 g hg w.1, w.2⟩
    rw [pif_f z, pif_f n1, pif_f n2]; rfl
