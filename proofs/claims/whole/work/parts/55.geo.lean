/-! the plane, leaned: no two points at one abscissa, no segment upright -/
def dl (X : Nat → Int) (h : Nat) : Int := X (bk h) - X h
def sS (X V : Nat → Int) (h g : Nat) : Int := dl X h * (V g - V h) - dl V h * (X g - X h)
def cr (X V : Nat → Int) (g h : Nat) : Int := dl X g * dl V h - dl V g * dl X h
def opp (a b : Int) : Prop := (a < 0 ∧ 0 < b) ∨ (0 < a ∧ b < 0)
def rt (X : Nat → Int) (h : Nat) : Prop := X h < X (bk h)
def Geo (X V : Nat → Int) (U : Nat → Prop) (N : Nat → Nat) : Prop :=
  (∀ h, U h → U (bk h)) ∧
  (∀ g h, g < 120 → h < 120 → U g → U h → X g = X h → V g = V h) ∧
  (∀ h, h < 120 → U h → X h ≠ X (bk h)) ∧
  (∀ g h, g < 120 → h < 120 → U g → U h → g / 2 ≠ h / 2 → X h < X g → X g < X (bk h) → sS X V h g ≠ 0) ∧
  (∀ g h, g < 120 → h < 120 → U g → U h → g / 2 ≠ h / 2 → ¬ (opp (sS X V h g) (sS X V h (bk g)) ∧ opp (sS X V g h) (sS X V g (bk h)))) ∧
  (∀ g h, g < 120 → h < 120 → U g → U h → g / 2 ≠ h / 2 → X g = X h → X (bk g) ≠ X (bk h)) ∧
  Nx U N ∧
  (∀ h, h < 120 → U h → X (N h) = X (bk h)) ∧
  (∀ j, j < 120 → U j → (N (bk j) = j → ∀ g, g < 120 → U g → X g = X j → g = j) ∧ (N (bk j) ≠ j → ∀ g, g < 120 → U g → X g = X j → g ≠ j → g ≠ N (bk j) → cw3 (cr X V j (N (bk j))) (cr X V (N (bk j)) g) (cr X V g j))) ∧
  (∀ g h, g < 120 → h < 120 → U g → U h → X g = X h → g ≠ h → (rt X g ↔ rt X h) → cr X V g h ≠ 0)
theorem dl_bk (X : Nat → Int) (h : Nat) : dl X (bk h) = - dl X h := by unfold dl; rw [bk_bk]; omega
theorem sS_bk (X V : Nat → Int) (h g : Nat) : sS X V (bk h) g = - sS X V h g := by unfold sS; rw [dl_bk, dl_bk]; unfold dl; grind
theorem sS_self (X V : Nat → Int) (h : Nat) : sS X V h h = 0 := by unfold sS; grind
theorem sS_end (X V : Nat → Int) (h : Nat) : sS X V h (bk h) = 0 := by unfold sS dl; grind
theorem sS_c {X V : Nat → Int} {h g k : Nat} (e1 : X g = X k) (e2 : V g = V k) : sS X V h g = sS X V h k := by unfold sS; rw [e1, e2]
/-! products and their signs -/
theorem pr (a b : Int) : (0 < a → 0 < b → 0 < a * b) ∧ (0 < a → b < 0 → a * b < 0) ∧ (a < 0 → 0 < b → a * b < 0) ∧ (a < 0 → b < 0 → 0 < a * b) ∧ (a = 0 → a * b = 0) ∧ (b = 0 → a * b = 0) :=
  ⟨Int.mul_pos, Int.mul_neg_of_pos_of_neg, Int.mul_neg_of_neg_of_pos, Int.mul_pos_of_neg_of_neg, fun h => by rw [h, Int.zero_mul], fun h => by rw [h, Int.mul_zero]⟩
theorem posf {a F : Int} (hF : 0 < F) (h : 0 < a * F) : 0 < a := by
  rcases Int.lt_trichotomy a 0 with q | q | q
  · have := Int.mul_neg_of_neg_of_pos q hF; omega
  · rw [q, Int.zero_mul] at h; omega
  · exact q
theorem negf {a F : Int} (hF : 0 < F) (h : a * F < 0) : a < 0 := by
  rcases Int.lt_trichotomy a 0 with q | q | q
  · exact q
  · rw [q, Int.zero_mul] at h; omega
  · have := Int.mul_pos q hF; omega
/-- two segments that do not clash: over the abscissas that they share, one is above -/
def startP (us ue ug uh a b p : Int) : Prop := (ug < us ∧ p < 0) ∨ (ug = us ∧ 0 < b) ∨ (us < ug ∧ 0 < a)
def stopP (us ue ug uh a b q : Int) : Prop := (ue < uh ∧ q < 0) ∨ (uh = ue ∧ 0 < a) ∨ (uh < ue ∧ 0 < b)
theorem T_abs {us ue ug uh a b p q : Int} (h1 : us < ue) (h2 : ug < uh) (o1 : ug < ue) (o2 : us < uh)
    (i1 : -p * (ue - us) = a * (uh - us) + b * (us - ug)) (i2 : -q * (ue - us) = a * (uh - ue) + b * (ue - ug)) (i3 : a * (uh - ug) = -p * (ue - ug) - q * (ug - us)) (i4 : b * (uh - ug) = -p * (ue - uh) - q * (uh - us))
    (n1 : ug < us → p ≠ 0) (n2 : ue < uh → q ≠ 0) (n3 : us < ug → a ≠ 0) (n4 : uh < ue → b ≠ 0) (z1 : ug = us → a = 0 ∧ p = 0) (z2 : uh = ue → b = 0 ∧ q = 0) (ns : ¬ (ug = us ∧ uh = ue)) (nc : ¬ (opp a b ∧ opp p q)) : startP us ue ug uh a b p ↔ stopP us ue ug uh a b q := by
  have E : 0 < ue - us := by omega
  have F : 0 < uh - ug := by omega
  unfold opp at nc
  unfold startP stopP
  rcases Int.lt_trichotomy ug us with c1 | c1 | c1 <;> rcases Int.lt_trichotomy uh ue with c2 | c2 | c2
  · have np := n1 c1
    have nb := n4 c2
    have key : ¬ (p < 0 ∧ b < 0) ∧ ¬ (0 < p ∧ 0 < b) := by
      constructor
      · rintro ⟨hp, hb⟩
        have x1 := Int.mul_pos (show 0 < -p by omega) E
        have x2 := Int.mul_neg_of_neg_of_pos hb (show 0 < us - ug by omega)
        have x3 := posf (a := a) (show 0 < uh - us by omega) (by omega)
        have y1 := Int.mul_neg_of_neg_of_pos hb F
        have y2 := Int.mul_pos (show 0 < -p by omega) (show 0 < ue - uh by omega)
        have y3 := posf (a := q) (show 0 < uh - us by omega) (by omega)
        omega
      · rintro ⟨hp, hb⟩
        have x1 := Int.mul_neg_of_neg_of_pos (show -p < 0 by omega) E
        have x2 := Int.mul_pos hb (show 0 < us - ug by omega)
        have x3 := negf (a := a) (show 0 < uh - us by omega) (by omega)
        have y1 := Int.mul_pos hb F
        have y2 := Int.mul_neg_of_neg_of_pos (show -p < 0 by omega) (show 0 < ue - uh by omega)
        have y3 := negf (a := q) (show 0 < uh - us by omega) (by omega)
        omega
    omega
  · have np := n1 c1
    obtain ⟨b0, q0⟩ := z2 c2
    rw [q0, Int.zero_mul] at i3
    have key : (p < 0 → 0 < a) ∧ (0 < p → a < 0) := by
      constructor
      · intro hp
        have x1 := Int.mul_pos (show 0 < -p by omega) (show 0 < ue - ug by omega)
        exact posf F (by omega)
      · intro hp
        have x1 := Int.mul_neg_of_neg_of_pos (show -p < 0 by omega) (show 0 < ue - ug by omega)
        exact negf F (by omega)
    omega
  · have np := n1 c1
    have nq := n2 c2
    have key : ¬ (p < 0 ∧ 0 < q) ∧ ¬ (0 < p ∧ q < 0) := by
      constructor
      · rintro ⟨hp, hq⟩
        have x1 := Int.mul_pos (show 0 < -p by omega) (show 0 < ue - ug by omega)
        have x2 := Int.mul_neg_of_pos_of_neg hq (show ug - us < 0 by omega)
        have x3 := posf (a := a) F (by omega)
        have y1 := Int.mul_neg_of_pos_of_neg (show 0 < -p by omega) (show ue - uh < 0 by omega)
        have y2 := Int.mul_pos hq (show 0 < uh - us by omega)
        have y3 := negf (a := b) F (by omega)
        omega
      · rintro ⟨hp, hq⟩
        have x1 := Int.mul_neg_of_neg_of_pos (show -p < 0 by omega) (show 0 < ue - ug by omega)
        have x2 := Int.mul_pos_of_neg_of_neg hq (show ug - us < 0 by omega)
        have x3 := negf (a := a) F (by omega)
        have y1 := Int.mul_pos_of_neg_of_neg (show -p < 0 by omega) (show ue - uh < 0 by omega)
        have y2 := Int.mul_neg_of_neg_of_pos hq (show 0 < uh - us by omega)
        have y3 := posf (a := b) F (by omega)
        omega
    omega
  · omega
  · omega
  · have nq := n2 c2
    obtain ⟨a0, p0⟩ := z1 c1
    rw [a0, Int.zero_mul] at i2
    have key : (q < 0 → 0 < b) ∧ (0 < q → b < 0) := by
      constructor
      · intro hq
        have x1 := Int.mul_pos (show 0 < -q by omega) E
        exact posf (show 0 < ue - ug by omega) (by omega)
      · intro hq
        have x1 := Int.mul_neg_of_neg_of_pos (show -q < 0 by omega) E
        exact negf (show 0 < ue - ug by omega) (by omega)
    omega
  · have na := n3 c1
    have nb := n4 c2
    have key : ¬ (0 < a ∧ b < 0) ∧ ¬ (a < 0 ∧ 0 < b) := by
      constructor
      · rintro ⟨ha, hb⟩
        have x1 := Int.mul_pos ha (show 0 < uh - us by omega)
        have x2 := Int.mul_pos_of_neg_of_neg hb (show us - ug < 0 by omega)
        have x3 := posf (a := -p) E (by omega)
        have y1 := Int.mul_neg_of_pos_of_neg ha (show uh - ue < 0 by omega)
        have y2 := Int.mul_neg_of_neg_of_pos hb (show 0 < ue - ug by omega)
        have y3 := negf (a := -q) E (by omega)
        omega
      · rintro ⟨ha, hb⟩
        have x1 := Int.mul_neg_of_neg_of_pos ha (show 0 < uh - us by omega)
        have x2 := Int.mul_neg_of_pos_of_neg hb (show us - ug < 0 by omega)
        have x3 := negf (a := -p) E (by omega)
        have y1 := Int.mul_pos_of_neg_of_neg ha (show uh - ue < 0 by omega)
        have y2 := Int.mul_pos hb (show 0 < ue - ug by omega)
        have y3 := posf (a := -q) E (by omega)
        omega
    omega
  · omega
  · have na := n3 c1
    have nq := n2 c2
    have key : ¬ (0 < a ∧ 0 < q) ∧ ¬ (a < 0 ∧ q < 0) := by
      constructor
      · rintro ⟨ha, hq⟩
        have x1 := Int.mul_neg_of_neg_of_pos (show -q < 0 by omega) E
        have x2 := Int.mul_pos ha (show 0 < uh - ue by omega)
        have x3 := negf (a := b) (show 0 < ue - ug by omega) (by omega)
        have y1 := Int.mul_pos ha F
        have y2 := Int.mul_pos hq (show 0 < ug - us by omega)
        have y3 := posf (a := -p) (show 0 < ue - ug by omega) (by omega)
        omega
      · rintro ⟨ha, hq⟩
        have x1 := Int.mul_pos (show 0 < -q by omega) E
        have x2 := Int.mul_neg_of_neg_of_pos ha (show 0 < uh - ue by omega)
        have x3 := posf (a := b) (show 0 < ue - ug by omega) (by omega)
        have y1 := Int.mul_neg_of_neg_of_pos ha F
        have y2 := Int.mul_neg_of_neg_of_pos hq (show 0 < ug - us by omega)
        have y3 := negf (a := -p) (show 0 < ue - ug by omega) (by omega)
        omega
    omega
theorem T_geo {X V : Nat → Int} {U : Nat → Prop} {N : Nat → Nat} (G : Geo X V U N) {s g : Nat} (hs : s < 120) (hg : g < 120) (us : U s) (ug : U g) (ne : g / 2 ≠ s / 2) (rs : rt X s) (rg : rt X g) (o1 : X g < X (bk s)) (o2 : X s < X (bk g)) :
    startP (X s) (X (bk s)) (X g) (X (bk g)) (sS X V s g) (sS X V s (bk g)) (sS X V g s) ↔ stopP (X s) (X (bk s)) (X g) (X (bk g)) (sS X V s g) (sS X V s (bk g)) (sS X V g (bk s)) := by
  obtain ⟨g1, g2, g3, g4, g5, g6, -⟩ := G
  have bs := bk_lt hs
  have bg := bk_lt hg
  refine T_abs rs rg o1 o2 ?_ ?_ ?_ ?_ (fun h => ?_) (fun h => ?_) (fun h => ?_) (fun h => ?_) (fun h => ?_) (fun h => ?_) (fun h => ?_) (g5 g s hg hs ug us ne)
  · unfold sS dl; grind
  · unfold sS dl; grind
  · unfold sS dl; grind
  · unfold sS dl; grind
  · exact g4 s g hs hg us ug (fun q => ne q.symm) h o2
  · exact g4 (bk s) g bs hg (g1 s us) ug (fun q => ne (by rw [bk_half] at q; exact q.symm)) o1 h
  · exact g4 g s hg hs ug us ne h o1
  · exact g4 (bk g) s bg hs (g1 g ug) us (fun q => ne (by rw [bk_half] at q; exact q)) o2 h
  · have hv := g2 g s hg hs ug us h
    rw [sS_c (h := s) h hv, sS_self, sS_c (h := g) h.symm hv.symm, sS_self]; exact ⟨rfl, rfl⟩
  · have hv := g2 (bk g) (bk s) bg bs (g1 g ug) (g1 s us) h
    rw [sS_c (h := s) h hv, sS_end, sS_c (h := g) h.symm hv.symm, sS_end]; exact ⟨rfl, rfl⟩
  · exact g6 g s hg hs ug us ne h.1 h.2
