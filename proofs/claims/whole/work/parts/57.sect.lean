/-! clockwise from straight up: the halves of a point in a row -/
def bef (X V : Nat → Int) (g k : Nat) : Prop := (rt X g ∧ ¬ rt X k) ∨ ((rt X g ↔ rt X k) ∧ cr X V g k < 0)
theorem cr_neg (X V : Nat → Int) (g h : Nat) : cr X V g h = - cr X V h g := by unfold cr; grind
theorem cr_id (X V : Nat → Int) (j k g : Nat) : cr X V j k * dl X g + cr X V k g * dl X j + cr X V g j * dl X k = 0 := by unfold cr; grind
theorem rt_dl {X V : Nat → Int} {U : Nat → Prop} {N : Nat → Nat} (G : Geo X V U N) {g : Nat} (hg : g < 120) (ug : U g) : (rt X g ↔ 0 < dl X g) ∧ dl X g ≠ 0 := by
  have := G.2.2.1 g hg ug
  unfold rt dl; omega
theorem mixA {A B C dj dk dg : Int} (e : A * dg + B * dj + C * dk = 0) (h : (0 < dj ∧ 0 < dk ∧ dg < 0) ∨ (dj < 0 ∧ dk < 0 ∧ 0 < dg)) (hB : B < 0) (hC : C < 0) : A < 0 := by
  rcases h with ⟨a, b, c⟩ | ⟨a, b, c⟩
  · have x1 := Int.mul_neg_of_neg_of_pos hB a
    have x2 := Int.mul_neg_of_neg_of_pos hC b
    rcases Int.lt_trichotomy A 0 with q | q | q
    · exact q
    · rw [q, Int.zero_mul] at e; omega
    · have := Int.mul_neg_of_pos_of_neg q c; omega
  · have x1 := Int.mul_pos_of_neg_of_neg hB a
    have x2 := Int.mul_pos_of_neg_of_neg hC b
    rcases Int.lt_trichotomy A 0 with q | q | q
    · exact q
    · rw [q, Int.zero_mul] at e; omega
    · have := Int.mul_pos q c; omega
theorem cyc_lin {A B C dj dk dg : Int} (e : A * dg + B * dj + C * dk = 0) (nj : dj ≠ 0) (nk : dk ≠ 0) (ng : dg ≠ 0) (h : cw3 A B C) :
    (((0 < dj ∧ ¬ 0 < dk) ∨ ((0 < dj ↔ 0 < dk) ∧ A < 0)) ∧ ((0 < dk ∧ ¬ 0 < dg) ∨ ((0 < dk ↔ 0 < dg) ∧ B < 0))) ∨ (((0 < dk ∧ ¬ 0 < dg) ∨ ((0 < dk ↔ 0 < dg) ∧ B < 0)) ∧ ((0 < dg ∧ ¬ 0 < dj) ∨ ((0 < dg ↔ 0 < dj) ∧ C < 0))) ∨ (((0 < dg ∧ ¬ 0 < dj) ∨ ((0 < dg ↔ 0 < dj) ∧ C < 0)) ∧ ((0 < dj ∧ ¬ 0 < dk) ∨ ((0 < dj ↔ 0 < dk) ∧ A < 0))) := by
  have m1 := fun (z : (0 < dj ∧ 0 < dk ∧ dg < 0) ∨ (dj < 0 ∧ dk < 0 ∧ 0 < dg)) (b : B < 0) (c : C < 0) => mixA e z b c
  have e2 : B * dj + C * dk + A * dg = 0 := by omega
  have m2 := fun (z : (0 < dk ∧ 0 < dg ∧ dj < 0) ∨ (dk < 0 ∧ dg < 0 ∧ 0 < dj)) (b : C < 0) (c : A < 0) => mixA e2 z b c
  have e3 : C * dk + A * dg + B * dj = 0 := by omega
  have m3 := fun (z : (0 < dg ∧ 0 < dj ∧ dk < 0) ∨ (dg < 0 ∧ dj < 0 ∧ 0 < dk)) (b : A < 0) (c : B < 0) => mixA e3 z b c
  have k1 : ((0 < dj ∧ 0 < dk ∧ dg < 0) ∨ (dj < 0 ∧ dk < 0 ∧ 0 < dg)) → A < 0 := fun z => by
    unfold cw3 at h
    by_cases q : A < 0
    · exact q
    · exact m1 z (by omega) (by omega)
  have k2 : ((0 < dk ∧ 0 < dg ∧ dj < 0) ∨ (dk < 0 ∧ dg < 0 ∧ 0 < dj)) → B < 0 := fun z => by
    unfold cw3 at h
    by_cases q : B < 0
    · exact q
    · exact m2 z (by omega) (by omega)
  have k3 : ((0 < dg ∧ 0 < dj ∧ dk < 0) ∨ (dg < 0 ∧ dj < 0 ∧ 0 < dk)) → C < 0 := fun z => by
    unfold cw3 at h
    by_cases q : C < 0
    · exact q
    · exact m3 z (by omega) (by omega)
  unfold cw3 at h
  clear e e2 e3 m1 m2 m3
  rcases Int.lt_or_lt_of_ne nj with a | a <;> rcases Int.lt_or_lt_of_ne nk with b | b <;> rcases Int.lt_or_lt_of_ne ng with c | c
  · omega
  · have := k1 (by omega); clear k1 k2 k3; omega
  · have := k3 (by omega); clear k1 k2 k3; omega
  · have := k2 (by omega); clear k1 k2 k3; omega
  · have := k2 (by omega); clear k1 k2 k3; omega
  · have := k3 (by omega); clear k1 k2 k3; omega
  · have := k1 (by omega); clear k1 k2 k3; omega
  · omega
theorem bef_irr {X V : Nat → Int} {k : Nat} : ¬ bef X V k k := by
  intro h
  have : cr X V k k = 0 := by unfold cr; grind
  unfold bef at h
  rw [this] at h
  rcases h with ⟨a, b⟩ | ⟨a, b⟩
  · exact b a
  · omega
theorem bef_asym {X V : Nat → Int} {g k : Nat} (h : bef X V g k) : ¬ bef X V k g := by
  intro q
  have := cr_neg X V g k
  unfold bef at h q
  rcases h with ⟨a, b⟩ | ⟨a, b⟩ <;> rcases q with ⟨c, d⟩ | ⟨c, d⟩
  · exact b c
  · exact b (c.mpr a)
  · exact d (a.mpr c)
  · omega
theorem bef_tot {X V : Nat → Int} {U : Nat → Prop} {N : Nat → Nat} (G : Geo X V U N) {g k : Nat} (hg : g < 120) (hk : k < 120) (ug : U g) (uk : U k) (e : X g = X k) (n : g ≠ k) : bef X V g k ∨ bef X V k g := by
  have c := cr_neg X V g k
  unfold bef
  by_cases a : rt X g <;> by_cases b : rt X k
  · have := G.2.2.2.2.2.2.2.2.2 g k hg hk ug uk e n ⟨fun _ => b, fun _ => a⟩
    rcases Int.lt_or_lt_of_ne this with q | q
    · exact Or.inl (Or.inr ⟨⟨fun _ => b, fun _ => a⟩, q⟩)
    · exact Or.inr (Or.inr ⟨⟨fun _ => a, fun _ => b⟩, by omega⟩)
  · exact Or.inl (Or.inl ⟨a, b⟩)
  · exact Or.inr (Or.inl ⟨b, a⟩)
  · have := G.2.2.2.2.2.2.2.2.2 g k hg hk ug uk e n ⟨fun z => absurd z a, fun z => absurd z b⟩
    rcases Int.lt_or_lt_of_ne this with q | q
    · exact Or.inl (Or.inr ⟨⟨fun z => absurd z a, fun z => absurd z b⟩, q⟩)
    · exact Or.inr (Or.inr ⟨⟨fun z => absurd z b, fun z => absurd z a⟩, by omega⟩)
theorem tr_abs {A B C dj dk dg : Int} (e : A * dg + B * dj + C * dk = 0) (h : (0 < dj ∧ 0 < dk ∧ 0 < dg) ∨ (dj < 0 ∧ dk < 0 ∧ dg < 0)) (hA : A < 0) (hB : B < 0) : 0 < C := by
  rcases h with ⟨a, b, c⟩ | ⟨a, b, c⟩
  · have x1 := Int.mul_neg_of_neg_of_pos hA c
    have x2 := Int.mul_neg_of_neg_of_pos hB a
    exact posf b (by omega)
  · have x1 := Int.mul_pos_of_neg_of_neg hA c
    have x2 := Int.mul_pos_of_neg_of_neg hB a
    rcases Int.lt_trichotomy C 0 with q | q | q
    · have := Int.mul_pos_of_neg_of_neg q b; omega
    · rw [q, Int.zero_mul] at e; omega
    · exact q
theorem bef_tr {X V : Nat → Int} {U : Nat → Prop} {N : Nat → Nat} (G : Geo X V U N) {a b c : Nat} (ha : a < 120) (hb : b < 120) (hc : c < 120) (ua : U a) (ub : U b) (uc : U c) (h1 : bef X V a b) (h2 : bef X V b c) : bef X V a c := by
  have da := rt_dl G ha ua
  have db := rt_dl G hb ub
  have dc := rt_dl G hc uc
  have e := cr_id X V a b c
  have n := cr_neg X V a c
  unfold bef at *
  rw [da.1, db.1] at h1
  rw [db.1, dc.1] at h2
  rw [da.1, dc.1]
  by_cases q : (0 < dl X a ∧ 0 < dl X b ∧ 0 < dl X c) ∨ (dl X a < 0 ∧ dl X b < 0 ∧ dl X c < 0)
  · have := tr_abs e q (by omega) (by omega)
    omega
  · clear e
    omega
/-- the value to the left of a half -/
noncomputable def Mv (X V : Nat → Int) (Q : Nat → Prop) (k : Nat) : Int := if X k < X (bk k) then Ws X V Q k else Ws X V Q (bk k) + (pif (Q k) 1 - pif (Q (bk k)) 1)
theorem Mv_t {X V : Nat → Int} {Q : Nat → Prop} {k : Nat} (h : rt X k) : Mv X V Q k = Ws X V Q k := if_pos h
theorem Mv_f {X V : Nat → Int} {Q : Nat → Prop} {k : Nat} (h : ¬ rt X k) : Mv X V Q k = Ws X V Q (bk k) + (pif (Q k) 1 - pif (Q (bk k)) 1) := if_neg h
theorem jump {X V : Nat → Int} {U : Nat → Prop} {N : Nat → Nat} {Q : Nat → Prop} (G : Geo X V U N) {h : Nat} (hh : h < 120) (uh : U h) : Mv X V Q (bk h) - pif (Q (bk h)) 1 = Mv X V Q h - pif (Q h) 1 := by
  have rb := rt_bk G hh uh
  by_cases r : rt X h
  · rw [Mv_t r, Mv_f (fun q => rb.mp q r), bk_bk]; omega
  · rw [Mv_f r, Mv_t (rb.mpr r)]; omega
theorem sS_far {X V : Nat → Int} {k g : Nat} (e1 : X g = X k) (e2 : V g = V k) : sS X V k (bk g) = - cr X V g k := by
  unfold sS cr dl
  rw [← e1, ← e2]; grind
theorem sS_far2 {X V : Nat → Int} {k g : Nat} (e1 : X g = X k) (e2 : V g = V k) : sS X V (bk k) (bk g) = cr X V g k := by
  rw [sS_bk, sS_far e1 e2]; omega
theorem base_c {X V : Nat → Int} {Q : Nat → Prop} {v w : Nat} (e1 : X v = X w) (e2 : V v = V w) : base X V Q v = base X V Q w := su_c fun g _ => pif_c (by unfold ov; rw [e1, sS_c e1 e2])
theorem M_form {X V : Nat → Int} {U : Nat → Prop} {N : Nat → Nat} {Q : Nat → Prop} (G : Geo X V U N) (C : Cir U N Q) {k : Nat} (hk : k < 120) (uk : U k) : Mv X V Q k = base X V Q k - Phi X U Q k (fun g => bef X V g k) := by
  by_cases r : rt X k
  · rw [Mv_t r, Ws_R G C]
    have : Phi X U Q k (fun g => rt X g ∧ 0 < sS X V k (bk g)) = Phi X U Q k (fun g => bef X V g k) := by
      refine Phi_c rfl fun g hg ug e => ?_
      have ev := G.2.1 g k hg hk ug uk e
      rw [sS_far e ev]
      unfold bef
      constructor
      · intro z; exact Or.inr ⟨⟨fun _ => r, fun _ => z.1⟩, by omega⟩
      · intro z
        rcases z with z | z
        · exact absurd r z.2
        · exact ⟨z.1.mpr r, by omega⟩
    rw [this]
  · have rb := (rt_bk G hk uk).mpr r
    have e1 := Bs_L G C (k := bk k)
    rw [bk_bk] at e1
    rw [Mv_f r, Y_eq G C (bk_lt hk) (G.1 k uk) rb, e1]
    have tot := Phi_all G C (v := k)
    have one := Phi_one (Q := Q) hk uk (rfl : X k = X k)
    have s1 : Phi X U Q k (fun _ => True) = Phi X U Q k (fun g => bef X V g k) + Phi X U Q k (fun g => g = k ∨ (¬ rt X g ∧ 0 < sS X V (bk k) (bk g))) := by
      refine Phi_add fun g hg ug e => ?_
      have ev := G.2.1 g k hg hk ug uk e
      rw [sS_far2 e ev]
      constructor
      · refine ⟨fun _ => ?_, fun _ => trivial⟩
        by_cases q : g = k
        · exact Or.inr (Or.inl q)
        · by_cases rg : rt X g
          · exact Or.inl (Or.inl ⟨rg, r⟩)
          · have nz := G.2.2.2.2.2.2.2.2.2 g k hg hk ug uk e q ⟨fun z => absurd z rg, fun z => absurd z r⟩
            rcases Int.lt_or_lt_of_ne nz with w | w
            · exact Or.inl (Or.inr ⟨⟨fun z => absurd z rg, fun z => absurd z r⟩, w⟩)
            · exact Or.inr (Or.inr ⟨rg, w⟩)
      · rintro ⟨z1, z2⟩
        rcases z2 with z2 | z2
        · rw [z2] at z1; exact bef_irr z1
        · rcases z1 with z1 | z1
          · exact z2.1 z1.1
          · have a := z1.2; have b := z2.2; omega
    have s2 : Phi X U Q k (fun g => g = k ∨ (¬ rt X g ∧ 0 < sS X V (bk k) (bk g))) = Phi X U Q k (fun g => g = k) + Phi X U Q k (fun g => ¬ rt X g ∧ 0 < sS X V (bk k) (bk g)) := by
      refine Phi_add fun g hg ug e => ⟨Iff.rfl, fun z => ?_⟩
      have a := z.2.2
      rw [z.1] at a
      have : sS X V (bk k) (bk k) = 0 := sS_self _ _ _
      omega
    have ep : ph Q k = pif (Q k) 1 - pif (Q (bk k)) 1 := rfl
    omega
/-- the value is the same along a round -/
theorem M_next {X V : Nat → Int} {U : Nat → Prop} {N : Nat → Nat} {Q : Nat → Prop} (G : Geo X V U N) (C : Cir U N Q) {h : Nat} (hh : h < 120) (uh : U h) : Mv X V Q (N h) = Mv X V Q h := by
  have hj := bk_lt hh
  have uj := G.1 h uh
  have hn := G.2.2.2.2.2.2.1.1 h hh uh
  have ex := G.2.2.2.2.2.2.2.1 h hh uh
  have sec := G.2.2.2.2.2.2.2.2.1 (bk h) hj uj
  rw [bk_bk] at sec
  have jp := jump (Q := Q) G hh uh
  have ev := G.2.1 _ _ hn.1 hj hn.2 uj ex
  have f1 := M_form G C hn.1 hn.2
  have f2 := M_form G C hj uj
  rw [base_c ex ev] at f1
  have tot := Phi_all G C (v := bk h)
  have one := Phi_one (Q := Q) hj uj (rfl : X (bk h) = X (bk h))
  have ep : ph Q (bk h) = pif (Q (bk h)) 1 - pif (Q h) 1 := by unfold ph; rw [bk_bk]
  have s2 : Phi X U Q (bk h) (fun g => bef X V g (bk h) ∨ g = bk h) = Phi X U Q (bk h) (fun g => bef X V g (bk h)) + Phi X U Q (bk h) (fun g => g = bk h) := by
    refine Phi_add fun g hg ug e => ⟨Iff.rfl, fun z => ?_⟩
    have a := z.1
    rw [z.2] at a
    exact bef_irr a
  have main : Phi X U Q (N h) (fun g => bef X V g (N h)) = Phi X U Q (bk h) (fun g => bef X V g (bk h) ∨ g = bk h) := by
    by_cases self : N h = bk h
    · have al := sec.1 self
      have z : Phi X U Q (N h) (fun g => bef X V g (N h)) = 0 := Phi_0 fun g hg ug e => by
        rw [al g hg ug (by rw [e, self]), self]; exact bef_irr
      have z2 : Phi X U Q (bk h) (fun g => bef X V g (bk h) ∨ g = bk h) = Phi X U Q (bk h) (fun _ => True) := Phi_c rfl fun g hg ug e => ⟨fun _ => trivial, fun _ => Or.inr (al g hg ug e)⟩
      rw [z, z2, tot]
    · have sec := sec.2 self
      have lin : ∀ g, g < 120 → U g → X g = X (bk h) → g ≠ bk h → g ≠ N h → (bef X V (bk h) (N h) ∧ bef X V (N h) g) ∨ (bef X V (N h) g ∧ bef X V g (bk h)) ∨ (bef X V g (bk h) ∧ bef X V (bk h) (N h)) := by
        intro g hg ug e n1 n2
        have d1 := rt_dl G hj uj
        have d2 := rt_dl G hn.1 hn.2
        have d3 := rt_dl G hg ug
        have := cyc_lin (cr_id X V (bk h) (N h) g) d1.2 d2.2 d3.2 (sec g hg ug e n1 n2)
        unfold bef
        rw [d1.1, d2.1, d3.1]
        exact this
      rcases bef_tot G hj hn.1 uj hn.2 ex.symm (fun q => self q.symm) with b | b
      · refine Phi_c ex fun g hg ug e => ?_
        rw [ex] at e
        by_cases q1 : g = bk h
        · rw [q1]; exact ⟨fun _ => Or.inr rfl, fun _ => b⟩
        · by_cases q2 : g = N h
          · rw [q2]; exact ⟨fun z => absurd z bef_irr, fun z => z.elim (fun z => absurd z (bef_asym b)) fun z => absurd z self⟩
          · constructor
            · intro z
              rcases lin g hg ug e q1 q2 with w | w | w
              · exact absurd w.2 (bef_asym z)
              · exact Or.inl w.2
              · exact Or.inl w.1
            · intro z
              rcases z with z | z
              · exact bef_tr G hg hj hn.1 ug uj hn.2 z b
              · exact absurd z q1
      · have z : Phi X U Q (N h) (fun g => bef X V g (N h)) = 0 := Phi_0 fun g hg ug e => by
          rw [ex] at e
          by_cases q1 : g = bk h
          · rw [q1]; exact bef_asym b
          · by_cases q2 : g = N h
            · rw [q2]; exact bef_irr
            · rcases lin g hg ug e q1 q2 with w | w | w
              · exact bef_asym w.2
              · exact bef_asym w.1
              · exact absurd w.2 (bef_asym b)
        have z2 : Phi X U Q (bk h) (fun g => bef X V g (bk h) ∨ g = bk h) = Phi X U Q (bk h) (fun _ => True) := Phi_c rfl fun g hg ug e => ⟨fun _ => trivial, fun _ => by
          by_cases q1 : g = bk h
          · exact Or.inr q1
          · by_cases q2 : g = N h
            · rw [q2]; exact Or.inl b
            · rcases lin g hg ug e q1 q2 with w | w | w
              · exact absurd w.1 (bef_asym b)
              · exact Or.inl w.2
              · exact Or.inl w.1⟩
        rw [z, z2, tot]
  omega
