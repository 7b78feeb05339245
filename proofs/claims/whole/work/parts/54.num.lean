/-! numbering of faces -/
def Num (B : Nat) (dom : Nat → Prop) (key : Nat → Option Nat) (z : Int32) (t : Nat) (nu lab : Nat → Int32) (sf : Nat → Nat) (c : Nat) : Prop :=
  (1 ≤ c ∧ c ≤ t + 1) ∧
  (∀ r, r < B → nu r = z ∨ ∃ f, 1 ≤ f ∧ f < c ∧ nu r = nI f) ∧
  (∀ r r', r < B → r' < B → nu r ≠ z → nu r = nu r' → r = r') ∧
  (∀ h, h < t → dom h → (key h = none → lab h = 0) ∧ (∀ r, key h = some r → lab h = nu r ∧ nu r ≠ z)) ∧
  (∀ k, 1 ≤ k → k < c → sf k < t ∧ dom (sf k) ∧ lab (sf k) = nI k ∧ ∀ h, h < t → dom h → lab h = nI k → sf k ≤ h) ∧
  (∀ k k', 1 ≤ k → k < k' → k' < c → sf k < sf k')
theorem num_put {B : Nat} {dom : Nat → Prop} {key : Nat → Option Nat} {z : Int32} {t : Nat} {nu lab : Nat → Int32} {sf : Nat → Nat} {c : Nat} (I : Num B dom key z t nu lab sf c) {v : Int32} (h : dom t → (key t = none → v = 0) ∧ (∀ r, key t = some r → v = nu r ∧ nu r ≠ z)) : Num B dom key z (t + 1) nu (upd lab t v) sf c := by
  obtain ⟨i0, i1, i2, i3, i4, i5⟩ := I
  refine ⟨⟨i0.1, by omega⟩, i1, i2, fun g hg dg => ?_, fun k hk hkc => ?_, i5⟩
  · by_cases q : g = t
    · rw [q] at dg ⊢; rw [pk_us]; exact h dg
    · rw [pk_un q]; exact i3 g (by omega) dg
  · obtain ⟨p1, p2, p3, p4⟩ := i4 k hk hkc
    refine ⟨by omega, p2, by rw [pk_un (by omega)]; exact p3, fun g hg dg e => ?_⟩
    by_cases q : g = t
    · omega
    · rw [pk_un q] at e; exact p4 g (by omega) dg e
theorem num_new {B : Nat} {dom : Nat → Prop} {key : Nat → Option Nat} {z : Int32} {t : Nat} {nu lab : Nat → Int32} {sf : Nat → Nat} {c : Nat} (I : Num B dom key z t nu lab sf c) (ht : t < 130) (hz : z = 0 ∨ z = -1) (hd : dom t) {r : Nat} (hr : r < B) (hk : key t = some r) (hkk : ∀ h s, h < t → dom h → key h = some s → s < B) (hn : nu r = z) : Num B dom key z (t + 1) (upd nu r (nI c)) (upd lab t (nI c)) (fun k => if k = c then t else sf k) (c + 1) := by
  obtain ⟨i0, i1, i2, i3, i4, i5⟩ := I
  have nz : ∀ f, 1 ≤ f → f < 1000 → nI f ≠ z := by
    intro f hf hf2 e
    rcases hz with q | q
    · rw [q] at e
      have := nI_inj (i := f) (j := 0) hf2 (by omega) e
      omega
    · rw [q] at e; exact neqm1 hf2 e
  have lc : ∀ h, h < t → dom h → lab h ≠ nI c := by
    intro h hh dh e
    cases hkh : key h with
    | none =>
      rw [(i3 h hh dh).1 hkh] at e
      have := nI_inj (i := 0) (j := c) (by omega) (by omega) e
      omega
    | some s =>
      obtain ⟨e1, e2⟩ := (i3 h hh dh).2 s hkh
      rcases i1 s (hkk h s hh dh hkh) with q | ⟨f, f1, f2, q⟩
      · exact e2 q
      · rw [e1, q] at e
        have := nI_inj (by omega) (by omega) e
        omega
  refine ⟨⟨by omega, by omega⟩, fun s hs => ?_, fun s s' hs hs' n e => ?_, fun h hh dh => ?_, fun k hk1 hkc => ?_, fun k k' hk1 hkk' hkc => ?_⟩
  · by_cases q : s = r
    · rw [q, pk_us]; exact Or.inr ⟨c, i0.1, by omega, rfl⟩
    · rw [pk_un q]
      rcases i1 s hs with w | ⟨f, f1, f2, w⟩
      · exact Or.inl w
      · exact Or.inr ⟨f, f1, by omega, w⟩
  · have old : ∀ s, s < B → s ≠ r → nu s ≠ nI c := by
      intro s hs q e
      rcases i1 s hs with w | ⟨f, f1, f2, w⟩
      · rw [w] at e; exact nz c i0.1 (by omega) e.symm
      · rw [w] at e; have := nI_inj (by omega) (by omega) e; omega
    by_cases q : s = r
    · by_cases q' : s' = r
      · rw [q, q']
      · rw [q, pk_us, pk_un q'] at e; exact absurd e.symm (old s' hs' q')
    · by_cases q' : s' = r
      · rw [q', pk_us, pk_un q] at e; exact absurd e (old s hs q)
      · rw [pk_un q, pk_un q'] at e; rw [pk_un q] at n; exact i2 s s' hs hs' n e
  · by_cases q : h = t
    · rw [q, pk_us]
      exact ⟨fun w => (by rw [hk] at w; cases w), fun s hs => (by rw [hk] at hs; cases hs; rw [pk_us]; exact ⟨rfl, nz c i0.1 (by omega)⟩)⟩
    · rw [pk_un q]
      refine ⟨(i3 h (by omega) dh).1, fun s hs => ?_⟩
      obtain ⟨e1, e2⟩ := (i3 h (by omega) dh).2 s hs
      have : s ≠ r := fun w => e2 (by rw [w]; exact hn)
      rw [pk_un this]; exact ⟨e1, e2⟩
  · dsimp only
    by_cases q : k = c
    · rw [if_pos q, q]
      refine ⟨by omega, hd, by rw [pk_us], fun h hh dh e => ?_⟩
      by_cases w : h = t
      · omega
      · rw [pk_un w] at e; exact absurd e (lc h (by omega) dh)
    · rw [if_neg q]
      obtain ⟨p1, p2, p3, p4⟩ := i4 k hk1 (by omega)
      refine ⟨by omega, p2, by rw [pk_un (by omega)]; exact p3, fun h hh dh e => ?_⟩
      by_cases w : h = t
      · omega
      · rw [pk_un w] at e; exact p4 h (by omega) dh e
  · show (if k = c then t else sf k) < (if k' = c then t else sf k')
    rw [if_neg (by omega)]
    by_cases q : k' = c
    · rw [if_pos q]; exact (i4 k hk1 (by omega)).1
    · rw [if_neg q]; exact i5 k k' hk1 hkk' (by omega)
theorem num_0 {B : Nat} {dom : Nat → Prop} {key : Nat → Option Nat} {z : Int32} {nu lab : Nat → Int32} (h : ∀ r, r < B → nu r = z) : Num B dom key z 0 nu lab (fun _ => 0) 1 :=
  ⟨⟨by omega, by omega⟩, fun r hr => Or.inl (h r hr), fun r _ hr _ n => absurd (h r hr) n, fun h hh => absurd hh (Nat.not_lt_zero h), fun k h1 h2 => by omega, fun k k' h1 h2 h3 => by omega⟩
/-- what a label says -/
theorem num_lab {B : Nat} {dom : Nat → Prop} {key : Nat → Option Nat} {z : Int32} {t : Nat} {nu lab : Nat → Int32} {sf : Nat → Nat} {c : Nat} (I : Num B dom key z t nu lab sf c) (hkk : ∀ h s, h < t → dom h → key h = some s → s < B) (ht : t < 130) {h : Nat} (hh : h < t) (dh : dom h) : ∃ f, f < c ∧ lab h = nI f ∧ (f = 0 ↔ key h = none) := by
  obtain ⟨i0, i1, i2, i3, i4, i5⟩ := I
  cases hk : key h with
  | none => exact ⟨0, by omega, (i3 h hh dh).1 hk, ⟨fun _ => rfl, fun _ => rfl⟩⟩
  | some s =>
    obtain ⟨e1, e2⟩ := (i3 h hh dh).2 s hk
    rcases i1 s (hkk h s hh dh hk) with q | ⟨f, f1, f2, q⟩
    · exact absurd q e2
    · exact ⟨f, f2, by rw [e1, q], ⟨fun w => by omega, fun w => by cases w⟩⟩
theorem num_ker {B : Nat} {dom : Nat → Prop} {key : Nat → Option Nat} {z : Int32} {t : Nat} {nu lab : Nat → Int32} {sf : Nat → Nat} {c : Nat} (I : Num B dom key z t nu lab sf c) (hkk : ∀ h s, h < t → dom h → key h = some s → s < B) (ht : t < 130) {g h : Nat} (hg : g < t) (hh : h < t) (dg : dom g) (dh : dom h) : lab g = lab h ↔ key g = key h := by
  obtain ⟨f1, l1, e1, z1⟩ := num_lab I hkk ht hg dg
  obtain ⟨f2, l2, e2, z2⟩ := num_lab I hkk ht hh dh
  have hc := I.1
  constructor
  · intro e
    have ef : f1 = f2 := nI_inj (by omega) (by omega) (by rw [← e1, ← e2]; exact e)
    cases kg : key g with
    | none => rw [(z2.mp (by rw [← ef]; exact z1.mpr kg))]
    | some s =>
      cases kh : key h with
      | none =>
        have := z1.mp (by rw [ef]; exact z2.mpr kh)
        rw [kg] at this; cases this
      | some s2 =>
        have a := (I.2.2.2.1 g hg dg).2 s kg
        have b := (I.2.2.2.1 h hh dh).2 s2 kh
        rw [I.2.2.1 s s2 (hkk g s hg dg kg) (hkk h s2 hh dh kh) a.2 (by rw [← a.1, ← b.1]; exact e)]
  · intro e
    cases kg : key g with
    | none => rw [(I.2.2.2.1 g hg dg).1 kg, (I.2.2.2.1 h hh dh).1 (by rw [← e]; exact kg)]
    | some s => rw [((I.2.2.2.1 g hg dg).2 s kg).1, ((I.2.2.2.1 h hh dh).2 s (by rw [← e]; exact kg)).1]
/-! homes -/
noncomputable def hom (x y u rd po : Nat → Int32) (sg : Nat → Nat) (tw : Nat → Int64) (R : Nat) (r : Nat) : Option Nat := if 0 < tw r then some r else encl x y u rd po sg tw R (x (sg r)) (y (sg r)) (po (sg r / 2))
theorem hom_lt {x y u rd po : Nat → Int32} {sg : Nat → Nat} {tw : Nat → Int64} {R r s : Nat} (hr : r < R) (h : hom x y u rd po sg tw R r = some s) : s < R ∧ 0 < tw s := by
  unfold hom at h
  by_cases q : 0 < tw r
  · rw [if_pos q] at h; cases h; exact ⟨hr, q⟩
  · rw [if_neg q] at h
    have := bst_ok h
    exact ⟨this.1, this.2.2.1⟩
theorem hom_self {x y u rd po : Nat → Int32} {sg : Nat → Nat} {tw : Nat → Int64} {R r : Nat} : hom x y u rd po sg tw R r = some r ↔ 0 < tw r := by
  unfold hom
  by_cases q : 0 < tw r
  · rw [if_pos q]; exact ⟨fun _ => q, fun _ => rfl⟩
  · rw [if_neg q]
    exact ⟨fun h => absurd rfl (bst_ok h).2.2.2, fun h => absurd h q⟩
theorem enc_eq {o : Option Nat} {r : Nat} (hr : r < 1000) (ho : ∀ s, o = some s → s < 1000) : enc o = nI r ↔ o = some r := by
  cases o with
  | none => exact ⟨fun e => absurd e.symm (neqm1 hr), fun e => by cases e⟩
  | some s => exact ⟨fun e => by rw [nI_inj (ho s rfl) hr e], fun e => by cases e; rfl⟩
theorem s_findHomes {x y u rd po st ho od : Nat → Int32} {sg : Nat → Nat} {tw : Nat → Int64} {R : Nat} {N : Nat → Nat} {sw : Nat → Int64} (O : Out (us u) N sw 120 rd sg tw R) (hs : ∀ r, r < R → st r = nI (sg r) ∧ sg r < 120) {post : (Nat → Int32) → (Nat → Int32) → Prop} (k : ∀ ho2 od2, (∀ r, r < R → ho2 r = enc (hom x y u rd po sg tw R r)) → post ho2 od2) : wp_X0_findHomes ho po rd st tw od (nI R) x y u post := by
  have hR := out_R O
  have main : ∀ n t (ho2 od2 : Nat → Int32), t + n = R → (∀ r, r < t → ho2 r = enc (hom x y u rd po sg tw R r)) → lp_X0_findHomes_2 po rd st tw (nI R) x y u (fun a b => post a b) (n + 1) ho2 od2 (nI t) := by
    intro n
    induction n with
    | zero =>
      intro t ho2 od2 ht h
      rw [lp_X0_findHomes_2.eq_2]
      have et : t = R := by omega
      subst et
      exact ⟨fun _ => k ho2 od2 h, fun q => absurd ((leN (by omega) (by omega)).mpr (by omega)) q⟩
    | succ n ih =>
      intro t ho2 od2 ht h
      rw [lp_X0_findHomes_2.eq_2]
      obtain ⟨e1, e2⟩ := hs t (by omega)
      simp only [jn3, cl (show t < 1000 by omega), e1, cl (show sg t < 1000 by omega), vin (show t < 120 by omega) (by decide), vin e2 (by decide), true_and, forall_eq, nI_1]
      have put : ∀ v od3, v = enc (hom x y u rd po sg tw R t) → lp_X0_findHomes_2 po rd st tw (nI R) x y u (fun a b => post a b) (n + 1) (upd ho2 t v) od3 (nI (t + 1)) := fun v od3 hv => ih (t + 1) _ _ (by omega) fun r hr => by
        by_cases q : r = t
        · rw [q, pk_us]; exact hv
        · rw [pk_un q]; exact h r (by omega)
      refine ⟨fun q => absurd ((leN (by omega) (by omega)).mp q) (by omega), fun _ => ⟨fun q => s_pieceOfRound hs (by omega) (by omega) (s_enclosing O hs fun od3 => put _ _ ?_), fun q => put _ _ ?_⟩⟩
      · unfold hom; rw [if_neg (by simpa using q)]
      · unfold hom; rw [if_pos (by simpa using q)]; rfl
  exact ⟨R + 1, main R 0 ho od (by omega) fun r hr => absurd hr (Nat.not_lt_zero r)⟩
/-- the round of a half, as a number -/
def rho (rd : Nat → Int32) (h : Nat) : Nat := (rd h).toNatClampNeg
theorem rho_eq {U : Nat → Prop} {N : Nat → Nat} {sw : Nat → Int64} {rd : Nat → Int32} {sg : Nat → Nat} {tw : Nat → Int64} {R : Nat} (O : Out U N sw 120 rd sg tw R) {h : Nat} (hh : h < 120) (uh : U h) : rho rd h < R ∧ rd h = nI (rho rd h) := by
  obtain ⟨r, hr, e⟩ := out_lab O hh uh
  have := out_R O
  unfold rho
  rw [e, cl (by omega)]; exact ⟨hr, rfl⟩
theorem s_numberFaces {x y u rd po ho nu fa : Nat → Int32} {sg : Nat → Nat} {tw : Nat → Int64} {R : Nat} {N : Nat → Nat} {sw : Nat → Int64} {fn : Int32} (O : Out (us u) N sw 120 rd sg tw R) (hh : ∀ r, r < R → ho r = enc (hom x y u rd po sg tw R r)) {post : (Nat → Int32) → (Nat → Int32) → Int32 → Prop} (k : ∀ nu2 fa2 sf c, Num 120 (us u) (fun h => hom x y u rd po sg tw R (rho rd h)) 0 120 nu2 fa2 sf c → post nu2 fa2 (nI c)) : wp_X0_numberFaces ho nu fa fn rd u post := by
  intro nu1 h1
  have hR := out_R O
  have main : ∀ n t nu2 fa2 sf c, t + n = 120 → Num 120 (us u) (fun h => hom x y u rd po sg tw R (rho rd h)) 0 t nu2 fa2 sf c → lp_X0_numberFaces_15 ho rd u (fun a b c => post a b c) (n + 1) nu2 fa2 (nI c) (nI t) := by
    intro n
    induction n with
    | zero =>
      intro t nu2 fa2 sf c ht I
      rw [lp_X0_numberFaces_15.eq_2]
      have et : t = 120 := by omega
      subst et
      exact ⟨fun _ => k _ _ _ _ I, fun h => absurd ((lt120 (by omega)).mpr (by omega)) h⟩
    | succ n ih =>
      intro t nu2 fa2 sf c ht I
      rw [lp_X0_numberFaces_15.eq_2]
      simp only [jn3, jn2, shr_half (show t < 120 by omega), cl (show t < 1000 by omega), cl (show t / 2 < 1000 by omega), vin (show t < 120 by omega) (by decide), vin (show t / 2 < 60 by omega) (by decide), true_and, forall_eq, nI_1]
      refine ⟨fun h => absurd ((lt120 (by omega)).mp h) (by omega), fun _ => ⟨fun h => ih (t + 1) _ _ sf c (by omega) (num_put I fun q => absurd h q), fun h => ?_⟩⟩
      obtain ⟨r1, r2⟩ := rho_eq O (show t < 120 by omega) h
      rw [r2, cl (show rho rd t < 1000 by omega), hh _ r1]
      refine ⟨vin (show rho rd t < 120 by omega) (by decide), ?_⟩
      have hkk : ∀ g s, g < t → us u g → hom x y u rd po sg tw R (rho rd g) = some s → s < 120 := fun g s hg ug e => by
        have := (hom_lt (rho_eq O (show g < 120 by omega) ug).1 e).1
        omega
      cases hk : hom x y u rd po sg tw R (rho rd t) with
      | none =>
        refine ⟨fun _ => ?_, fun q => absurd rfl q⟩
        unfold wp_X0_faceWithin jn1
        exact ⟨fun _ => ih (t + 1) _ _ sf c (by omega) (num_put I fun _ => ⟨fun _ => rfl, fun r q => (by rw [hk] at q; cases q)⟩), fun q => absurd rfl q⟩
      | some s =>
        have hs := hom_lt r1 hk
        have es : enc (some s) = nI s := rfl
        rw [es]
        simp only [cl (show s < 1000 by omega), vin (show s < 120 by omega) (by decide), true_and]
        refine ⟨fun q => absurd q (neqm1 (by omega)), fun _ => ⟨fun q => ?_, fun q => ?_⟩⟩
        · unfold wp_X0_faceWithin jn1
          simp only [cl (show s < 1000 by omega), vin (show s < 120 by omega) (by decide), true_and]
          rw [pk_us]
          exact ⟨fun q => absurd q (neqm1 (by omega)), fun _ => ih (t + 1) _ _ _ (c + 1) (by omega) (num_new I (by omega) (Or.inl rfl) h (by omega) hk hkk q)⟩
        · unfold wp_X0_faceWithin jn1
          simp only [cl (show s < 1000 by omega), vin (show s < 120 by omega) (by decide), true_and]
          exact ⟨fun q => absurd q (neqm1 (by omega)), fun _ => ih (t + 1) _ _ sf c (by omega) (num_put I fun _ => ⟨fun w => (by rw [hk] at w; cases w), fun r w => (by rw [hk] at w; cases w; exact ⟨rfl, q⟩)⟩)⟩
  exact ⟨121, main 120 0 nu1 fa _ 1 (by omega) (num_0 h1)⟩
theorem pc60 {x y u po : Nat → Int32} {sgp : Nat → Nat} {pn : Nat} (P : Pc x y u 120 (fun h => po (h / 2)) sgp pn) : pn ≤ 60 := by
  have hpn := pc_R P
  rcases Nat.eq_zero_or_pos pn with q | q
  · omega
  · have h1 := P.2.2.2.1
    have : ∀ j, j < pn → 2 * j ≤ sgp j := by
      intro j
      induction j with
      | zero => intro _; omega
      | succ j ihj =>
        intro hj
        have a := ihj (by omega)
        have b := P.2.2.2.2.1 j (j + 1) (by omega) hj
        -- two halves of one segment are of one piece
        rcases Nat.lt_or_ge (sgp j + 1) (sgp (j + 1)) with c | c
        · omega
        · have e : sgp (j + 1) = sgp j + 1 := by omega
          by_cases ev : sgp j % 2 = 0
          · exfalso
            have l1 := (h1 j (by omega)).2.2.1
            have l2 := (h1 (j + 1) hj).2.2.1
            dsimp only at l1 l2
            rw [e, show (sgp j + 1) / 2 = sgp j / 2 by omega, l1] at l2
            have := nI_inj (by omega) (by omega) l2
            omega
          · omega
    have a := this (pn - 1) (by omega)
    have b := (h1 (pn - 1) (by omega)).1
    omega
/-- of a piece's rounds that run around it, the last -/
def lastO (po : Nat → Int32) (sg : Nat → Nat) (tw : Nat → Int64) (t p r : Nat) : Prop := r < t ∧ tw r ≤ 0 ∧ po (sg r / 2) = nI p ∧ ∀ r', r < r' → r' < t → tw r' ≤ 0 → po (sg r' / 2) ≠ nI p
theorem s_settle {x y u rd po st ho nu fa ou od : Nat → Int32} {sg : Nat → Nat} {tw : Nat → Int64} {R : Nat} {N : Nat → Nat} {sw : Nat → Int64} {fn : Int32} {sgp : Nat → Nat} {pn : Nat} (O : Out (us u) N sw 120 rd sg tw R) (P : Pc x y u 120 (fun h => po (h / 2)) sgp pn) (hs : ∀ r, r < R → st r = nI (sg r)) {post : (Nat → Int32) → (Nat → Int32) → (Nat → Int32) → (Nat → Int32) → Int32 → (Nat → Int32) → Prop}
    (k : ∀ ho2 nu2 fa2 ou2 sf c od2, Num 120 (us u) (fun h => hom x y u rd po sg tw R (rho rd h)) 0 120 nu2 fa2 sf c → (∀ p r, p < 1000 → lastO po sg tw R p r → ou2 p = fa2 (sg r)) → post ho2 nu2 fa2 ou2 (nI c) od2) : wp_X0_findHomes ho po rd st tw od (nI R) x y u (fun ho2 od2 => wp_X0_numberFaces ho2 nu fa fn rd u (fun nu2 fa2 fn2 => wp_X0_findOutsides ho2 fa2 ou po st (nI R) (fun ou2 => post ho2 nu2 fa2 ou2 fn2 od2))) := by
  have hR := out_R O
  have hs2 : ∀ r, r < R → st r = nI (sg r) ∧ sg r < 120 := fun r hr => ⟨hs r hr, (O.2.2.2.2.1 r hr).1⟩
  refine s_findHomes O hs2 fun ho2 od2 hh => s_numberFaces O hh fun nu2 fa2 sf c I => ?_
  have main : ∀ n t (ou2 : Nat → Int32), t + n = R → (∀ p r, p < 1000 → lastO po sg tw t p r → ou2 p = fa2 (sg r)) → lp_X0_findOutsides_2 ho2 fa2 po st (nI R) (fun a => post ho2 nu2 fa2 a (nI c) od2) (n + 1) ou2 (nI t) := by
    intro n
    induction n with
    | zero =>
      intro t ou2 ht h
      rw [lp_X0_findOutsides_2.eq_2]
      have et : t = R := by omega
      subst et
      exact ⟨fun _ => k _ _ _ _ _ _ _ I h, fun q => absurd ((leN (by omega) (by omega)).mpr (by omega)) q⟩
    | succ n ih =>
      intro t ou2 ht h
      rw [lp_X0_findOutsides_2.eq_2]
      obtain ⟨e1, e2⟩ := hs2 t (by omega)
      simp only [jn1, cl (show t < 1000 by omega), e1, cl (show sg t < 1000 by omega), vin (show t < 120 by omega) (by decide), vin e2 (by decide), true_and, forall_eq, nI_1]
      rw [hh t (by omega), enc_eq (by omega) (fun s q => by have := (hom_lt (show t < R by omega) q).1; omega), hom_self]
      obtain ⟨p, hp, ep⟩ := pc_lab P e2 (O.2.2.2.2.1 t (by omega)).2.1
      have hpn := pc_R P
      have sgp60 := pc60 P
      refine ⟨fun q => absurd ((leN (by omega) (by omega)).mp q) (by omega), fun _ => ⟨fun q => ih (t + 1) _ (by omega) fun p' r' hp' l => ?_, fun q => s_pieceOfRound hs2 (by omega) (by omega) ?_⟩⟩
      · obtain ⟨l1, l2, l3, l4⟩ := l
        have : r' ≠ t := fun w => by rw [w] at l2; rw [Int64.le_iff_toInt_le] at l2; rw [Int64.lt_iff_toInt_lt] at q; omega
        exact h p' r' hp' ⟨by omega, l2, l3, fun r'' a b => l4 r'' a (by omega)⟩
      · have tle : tw t ≤ 0 := by simpa using q
        rw [ep]
        simp only [cl (show p < 1000 by omega), vin (show p < 60 by omega) (by decide), true_and]
        refine ih (t + 1) _ (by omega) fun p' r' hp' l => ?_
        obtain ⟨l1, l2, l3, l4⟩ := l
        by_cases w : p' = p
        · rw [w] at l3 l4 ⊢
          by_cases w2 : r' = t
          · rw [w2, pk_us]
          · exact absurd ep (l4 t (by omega) (by omega) tle)
        · by_cases w2 : r' = t
          · rw [w2, ep] at l3
            exact absurd (nI_inj (by omega) hp' l3).symm w
          · rw [pk_un w]; exact h p' r' hp' ⟨by omega, l2, l3, fun r'' a b => l4 r'' a (by omega)⟩
  exact Exists.intro (R + 1) (main R 0 ou (by omega) fun p r _ l => absurd l.1 (Nat.not_lt_zero r))
/-! the reference's numbers -/
theorem m_number {x y u mxs mys mth rd po mrd mfi mpo mfa mnu : Nat → Int32} {sg : Nat → Nat} {tw mar : Nat → Int64} {R : Nat} {mfn : Int32} (G : Ag x y u mxs mys mth) (A : AgR u rd po sg tw R mrd mfi mpo mar) (hR : R ≤ 120) {post : Int32 → (Nat → Int32) → (Nat → Int32) → Prop} (k : ∀ mfa2 mnu2 sf c, Num R (fun _ => True) (hom x y u rd po sg tw R) (-1) R mnu2 mfa2 sf c → post (nI c) mfa2 mnu2) : wp_X4_number mth mxs mys mpo (nI R) mrd mfi mar mfn mfa mnu post := by
  have main2 : ∀ n t mfa2 mnu2 sf c, t + n = R → Num R (fun _ => True) (hom x y u rd po sg tw R) (-1) t mnu2 mfa2 sf c → lp_X4_number_30 mth mxs mys mpo (nI R) mrd mfi mar (fun a b c => post a b c) (n + 1) (nI c) mfa2 mnu2 (nI t) := by
    intro n
    induction n with
    | zero =>
      intro t mfa2 mnu2 sf c ht I
      rw [lp_X4_number_30.eq_2]
      have et : t = R := by omega
      subst et
      exact ⟨fun _ => k _ _ _ _ I, fun q => absurd ((leN (by omega) (by omega)).mpr (by omega)) q⟩
    | succ n ih =>
      intro t mfa2 mnu2 sf c ht I
      rw [lp_X4_number_30.eq_2]
      obtain ⟨f1, f2, f3⟩ := A.2.1 t (by omega)
      simp only [jn3, jn2, jn1, cl (show t < 1000 by omega), f1, cl (show sg t < 1000 by omega), vin (show t < 120 by omega) (by decide), vin f2 (by decide), true_and, forall_eq, nI_1]
      rw [A.2.2.1 t (by omega), A.2.2.2 _ f2 f3, (G.2 _ f2 f3).1, (G.2 _ f2 f3).2]
      have hkk : ∀ g s, g < t → True → hom x y u rd po sg tw R g = some s → s < R := fun g s hg _ e => (hom_lt (show g < R by omega) e).1
      have go : ∀ v, v = enc (hom x y u rd po sg tw R t) → ((0 ≤ v → (vp_in v 122 ∧ (0 ≤ mnu2 v.toNatClampNeg → vp_in v 122 ∧ lp_X4_number_30 mth mxs mys mpo (nI R) mrd mfi mar (fun a b c => post a b c) (n + 1) (nI c) (upd mfa2 t (mnu2 v.toNatClampNeg)) mnu2 (nI (t + 1))) ∧ (¬ 0 ≤ mnu2 v.toNatClampNeg → vp_in v 122 ∧ vp_in v 122 ∧ lp_X4_number_30 mth mxs mys mpo (nI R) mrd mfi mar (fun a b c => post a b c) (n + 1) (nI (c + 1)) (upd mfa2 t (upd mnu2 v.toNatClampNeg (nI c) v.toNatClampNeg)) (upd mnu2 v.toNatClampNeg (nI c)) (nI (t + 1))))) ∧ (¬ 0 ≤ v → lp_X4_number_30 mth mxs mys mpo (nI R) mrd mfi mar (fun a b c => post a b c) (n + 1) (nI c) (upd mfa2 t 0) mnu2 (nI (t + 1)))) := by
        intro v hv
        cases hk : hom x y u rd po sg tw R t with
        | none =>
          rw [hk] at hv
          have hv : v = -1 := hv
          rw [hv]
          exact ⟨fun q => absurd q (by decide), fun _ => ih (t + 1) _ _ sf c (by omega) (num_put I fun _ => ⟨fun _ => rfl, fun r q => (by rw [hk] at q; cases q)⟩)⟩
        | some s =>
          rw [hk] at hv
          have hv : v = nI s := hv
          have hs := hom_lt (show t < R by omega) hk
          rw [hv]
          simp only [cl (show s < 1000 by omega), vin (show s < 122 by omega) (by decide), true_and, pk_us]
          refine ⟨fun _ => ⟨fun q => ih (t + 1) _ _ sf c (by omega) (num_put I fun _ => ⟨fun w => (by rw [hk] at w; cases w), fun r w => (by rw [hk] at w; cases w; exact ⟨rfl, fun e => (by rw [e] at q; exact absurd q (by decide))⟩)⟩), fun q => ih (t + 1) _ _ _ (c + 1) (by omega) (num_new I (by omega) (Or.inr rfl) trivial hs.1 hk hkk ?_)⟩, fun q => absurd (nI_pos' (show s < 2 ^ 31 by omega)) q⟩
          rcases I.2.1 s hs.1 with w | ⟨f, -, hf, w⟩
          · exact w
          · rw [w] at q
            have := I.1
            exact absurd (nI_pos' (show f < 2 ^ 31 by omega)) q
      refine ⟨fun q => absurd ((leN (by omega) (by omega)).mp q) (by omega), fun _ => ⟨fun q => m_least G A hR (go _ ?_), fun q => ?_⟩⟩
      · unfold hom; rw [if_neg (by simpa using q)]
      · have g := go (nI t) (by unfold hom; rw [if_pos (by simpa using q)]; rfl)
        rw [cl (show t < 1000 by omega)] at g
        exact g
  have main1 : ∀ n t (mnu2 : Nat → Int32), t + n = R + 1 → (∀ r, r < t → mnu2 r = -1) → lp_X4_number_7 mth mxs mys mpo (nI R) mrd mfi mar 1 mfa (fun a => (∃ n23 : Nat, lp_X4_number_30 mth mxs mys mpo (nI R) mrd mfi mar (fun a b c => post a b c) n23 1 mfa a 0)) (n + 1) mnu2 (nI t) := by
    intro n
    induction n with
    | zero =>
      intro t mnu2 ht h
      rw [lp_X4_number_7.eq_2]
      exact ⟨fun _ => ⟨R + 1, main2 R 0 mfa mnu2 _ 1 (by omega) (num_0 fun r hr => h r (by omega))⟩, fun q => absurd ((ltN (by omega) (by omega)).mpr (by omega)) q⟩
    | succ n ih =>
      intro t mnu2 ht h
      rw [lp_X4_number_7.eq_2]
      simp only [cl (show t < 1000 by omega), vin (show t < 122 by omega) (by decide), true_and, forall_eq, nI_1]
      refine ⟨fun q => absurd ((ltN (by omega) (by omega)).mp q) (by omega), fun _ => ih (t + 1) _ (by omega) fun r hr => ?_⟩
      by_cases q : r = t
      · rw [q, pk_us]
      · rw [pk_un q]; exact h r (by omega)
  exact ⟨R + 2, main1 (R + 1) 0 mnu (by omega) fun r hr => absurd hr (Nat.not_lt_zero r)⟩
/-- the faces are the same -/
theorem face_eq {x y u rd po nu fa mnu mfa : Nat → Int32} {sg sf sf' : Nat → Nat} {tw : Nat → Int64} {R c c' : Nat} {N : Nat → Nat} {sw : Nat → Int64} (O : Out (us u) N sw 120 rd sg tw R) (I : Num 120 (us u) (fun h => hom x y u rd po sg tw R (rho rd h)) 0 120 nu fa sf c) (M : Num R (fun _ => True) (hom x y u rd po sg tw R) (-1) R mnu mfa sf' c') : c = c' ∧ (∀ h, h < 120 → us u h → fa h = mfa (rho rd h)) := by
  have hR := out_R O
  have k1 : ∀ g s, g < 120 → us u g → hom x y u rd po sg tw R (rho rd g) = some s → s < 120 := fun g s hg ug e => by
    have := (hom_lt (rho_eq O hg ug).1 e).1
    omega
  have k2 : ∀ g s, g < R → True → hom x y u rd po sg tw R g = some s → s < R := fun g s hg _ e => (hom_lt hg e).1
  have l1 := fun {h : Nat} (hh : h < 120) (uh : us u h) => num_lab I k1 (by omega) hh uh
  have l2 := fun {h : Nat} (hh : h < 120) (uh : us u h) => num_lab M k2 (by omega) (rho_eq O hh uh).1 trivial
  have c1 := I.1
  have c2 := M.1
  have inv1 : ∀ h, h < 120 → us u h → fa h = nI (fa h).toNatClampNeg ∧ (fa h).toNatClampNeg < c := fun h hh uh => by
    obtain ⟨f, hf, e, -⟩ := l1 hh uh
    rw [e, cl (by omega)]; exact ⟨rfl, hf⟩
  have inv2 : ∀ h, h < 120 → us u h → mfa (rho rd h) = nI (mfa (rho rd h)).toNatClampNeg ∧ (mfa (rho rd h)).toNatClampNeg < c' := fun h hh uh => by
    obtain ⟨f, hf, e, -⟩ := l2 hh uh
    rw [e, cl (by omega)]; exact ⟨rfl, hf⟩
  have same : ∀ h, h < 120 → us u h → (fa h).toNatClampNeg = (mfa (rho rd h)).toNatClampNeg := by
    refine rg_uniq (b := 1) (fun h hh uh k hk hkc => ?_) (fun h hh uh k hk hkc => ?_) (fun s t hs ht us1 us2 => ?_) (fun h hh uh q => ?_)
    · obtain ⟨e1, e2⟩ := inv1 h hh uh
      obtain ⟨p1, p2, p3, p4⟩ := I.2.2.2.2.1 k hk (by omega)
      have q1 := I.2.2.2.2.2 k _ hk hkc e2
      have q2 := (I.2.2.2.2.1 _ (by omega) e2).2.2.2 h hh uh e1
      exact ⟨sf k, by omega, p2, by rw [p3, cl (by omega)]⟩
    · obtain ⟨e1, e2⟩ := inv2 h hh uh
      obtain ⟨r1, r2⟩ := rho_eq O hh uh
      obtain ⟨p1, p2, p3, p4⟩ := M.2.2.2.2.1 k hk (by omega)
      have q1 := M.2.2.2.2.2 k _ hk hkc e2
      have q2 := (M.2.2.2.2.1 _ (by omega) e2).2.2.2 _ r1 trivial e1
      obtain ⟨o1, o2, o3, o4⟩ := O.2.2.2.2.1 (sf' k) p1
      have o5 := O.2.2.2.2.2.1 (sf' k) (rho rd h) (by omega) r1
      have o6 := (O.2.2.2.2.1 (rho rd h) r1).2.2.2 h hh r2
      refine ⟨sg (sf' k), by omega, o2, ?_⟩
      have : rho rd (sg (sf' k)) = sf' k := by unfold rho; rw [o3, cl (by omega)]
      rw [this, p3, cl (by omega)]
    · obtain ⟨a1, a2⟩ := inv1 s hs us1
      obtain ⟨b1, b2⟩ := inv1 t ht us2
      obtain ⟨a3, a4⟩ := inv2 s hs us1
      obtain ⟨b3, b4⟩ := inv2 t ht us2
      have e1 := num_ker I k1 (by omega) hs ht us1 us2
      have e2 := num_ker M k2 (by omega) (rho_eq O hs us1).1 (rho_eq O ht us2).1 trivial trivial
      constructor
      · intro e
        have := e2.mpr (e1.mp (by rw [a1, b1, e]))
        rw [this]
      · intro e
        have := e1.mpr (e2.mp (by rw [a3, b3, e]))
        rw [this]
    · obtain ⟨f, hf, e, z⟩ := l1 hh uh
      obtain ⟨f', hf', e', z'⟩ := l2 hh uh
      rw [e, e', cl (by omega), cl (by omega)] at q ⊢
      rcases q with q | q
      · rw [z'.mpr (z.mp (by omega))]; omega
      · rw [z.mpr (z'.mp (by omega))]; omega
  refine ⟨?_, fun h hh uh => by rw [(inv1 h hh uh).1, same h hh uh, ← (inv2 h hh uh).1]⟩
  refine rg_cnt (b := 1) (N := 120) (dom := us u) (f := fun h => (fa h).toNatClampNeg) (g := fun h => (mfa (rho rd h)).toNatClampNeg) (fun h hh uh => (inv1 h hh uh).2) (fun k hk hkc => ?_) (fun h hh uh => (inv2 h hh uh).2) (fun k hk hkc => ?_) c1.1 c2.1 same
  · obtain ⟨p1, p2, p3, p4⟩ := I.2.2.2.2.1 k hk hkc
    exact ⟨sf k, p1, p2, by rw [p3, cl (by omega)]⟩
  · obtain ⟨p1, p2, p3, p4⟩ := M.2.2.2.2.1 k hk hkc
    obtain ⟨o1, o2, o3, o4⟩ := O.2.2.2.2.1 (sf' k) p1
    have : rho rd (sg (sf' k)) = sf' k := by unfold rho; rw [o3, cl (by omega)]
    exact ⟨sg (sf' k), o1, o2, by rw [this, p3, cl (by omega)]⟩
