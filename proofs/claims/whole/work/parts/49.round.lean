/-! rounds: what a walk along the next halves marks -/
def Nx (U : Nat → Prop) (N : Nat → Nat) : Prop := (∀ h, h < 120 → U h → N h < 120 ∧ U (N h)) ∧ ∀ g h, g < 120 → h < 120 → U g → U h → N g = N h → g = h
def cl1 (U : Nat → Prop) (N : Nat → Nat) (P : Nat → Prop) : Prop := ∀ a, a < 120 → U a → (P a ↔ P (N a))
def Out (U : Nat → Prop) (N : Nat → Nat) (sw : Nat → Int64) (t : Nat) (rd : Nat → Int32) (sg : Nat → Nat) (tw : Nat → Int64) (R : Nat) : Prop :=
  (∀ h, h < 120 → rd h = -1 ∨ (U h ∧ ∃ r, r < R ∧ rd h = nI r)) ∧
  (∀ h, h < t → U h → rd h ≠ -1) ∧
  (∀ h, h < 120 → rd h ≠ -1 → rd (N h) = rd h) ∧
  (∀ h, h < 120 → U h → rd (N h) ≠ -1 → rd h ≠ -1) ∧
  (∀ r, r < R → sg r < t ∧ U (sg r) ∧ rd (sg r) = nI r ∧ ∀ h, h < 120 → rd h = nI r → sg r ≤ h) ∧
  (∀ r r', r < r' → r' < R → sg r < sg r') ∧
  (∀ P, cl1 U N P → ∀ a b, a < 120 → b < 120 → rd a ≠ -1 → rd a = rd b → (P a ↔ P b)) ∧
  (∀ r, r < R → tw r = suL (fun h => pifL (rd h = nI r) (sw h)) 120)
theorem out_R {U : Nat → Prop} {N : Nat → Nat} {sw : Nat → Int64} {t : Nat} {rd : Nat → Int32} {sg : Nat → Nat} {tw : Nat → Int64} {R : Nat} (O : Out U N sw t rd sg tw R) : R ≤ t := by
  obtain ⟨o1, o2, o3, o4, o5, o6, o7, o8⟩ := O
  have : ∀ r, r < R → r ≤ sg r := by
    intro r
    induction r with
    | zero => intro _; omega
    | succ r ih => intro h; have := ih (by omega); have := o6 r (r + 1) (by omega) h; omega
  rcases Nat.eq_zero_or_pos R with q | q
  · omega
  · have := this (R - 1) (by omega)
    have := (o5 (R - 1) (by omega)).1
    omega
def Inn (U : Nat → Prop) (N : Nat → Nat) (sw : Nat → Int64) (h0 R : Nat) (rd0 rd : Nat → Int32) (tR : Int64) (k c : Nat) : Prop :=
  (∀ h, h < 120 → rd h = rd0 h ∨ (rd0 h = -1 ∧ U h ∧ rd h = nI R)) ∧
  (k < 120 ∧ U k) ∧
  (∀ P, cl1 U N P → (P k ↔ P h0) ∧ ∀ a, a < 120 → rd a = nI R → (P a ↔ P h0)) ∧
  tR = suL (fun h => pifL (rd h = nI R) (sw h)) 120 ∧
  cn (fun h => rd h = nI R) 120 = c ∧
  ((k = h0 ∧ ∀ h, h < 120 → rd h ≠ nI R) ∨ (∃ l, l < 120 ∧ rd l = nI R ∧ N l = k ∧ rd h0 = nI R ∧ (∀ h, h < 120 → rd h = nI R → h = l ∨ rd (N h) = nI R) ∧ ∀ h, h < 120 → rd h = nI R → h ≠ h0 → ∃ p, p < 120 ∧ rd p = nI R ∧ p ≠ l ∧ N p = h))
theorem in_0 {U : Nat → Prop} {N : Nat → Nat} {sw : Nat → Int64} {h0 R : Nat} {rd0 : Nat → Int32} {sg : Nat → Nat} {tw : Nat → Int64} (O : Out U N sw h0 rd0 sg tw R) (hh : h0 < 120) (uh : U h0) (hm : rd0 h0 = -1) : Inn U N sw h0 R rd0 rd0 0 h0 0 := by
  have hR := out_R O
  have no : ∀ h, h < 120 → rd0 h ≠ nI R := by
    intro h hh2 e
    rcases O.1 h hh2 with q | ⟨-, r, hr, q⟩
    · rw [q] at e; exact neqm1 (show R < 1000 by omega) e.symm
    · rw [q] at e; have := nI_inj (by omega) (by omega) e; omega
  refine ⟨fun h _ => Or.inl rfl, ⟨hh, uh⟩, fun P _ => ⟨Iff.rfl, fun a ha e => absurd e (no a ha)⟩, ?_, cn_0 no, Or.inl ⟨rfl, no⟩⟩
  have : ∀ n, n ≤ 120 → (0 : Int64) = suL (fun h => pifL (rd0 h = nI R) (sw h)) n := by
    intro n
    induction n with
    | zero => intro _; rfl
    | succ n ih =>
      intro hn
      show 0 = suL (fun h => pifL (rd0 h = nI R) (sw h)) n + pifL (rd0 n = nI R) (sw n)
      rw [← ih (by omega), pifL_f (no n (by omega))]; rfl
  exact this 120 (Nat.le_refl _)
theorem in_step {U : Nat → Prop} {N : Nat → Nat} {sw : Nat → Int64} {h0 R : Nat} {rd0 rd : Nat → Int32} {tR : Int64} {k c : Nat} (X : Nx U N) (hR : R < 1000) (hk : rd k = -1) (I : Inn U N sw h0 R rd0 rd tR k c) (h0u : rd0 h0 = -1) : Inn U N sw h0 R rd0 (upd rd k (nI R)) (tR + sw k) (N k) (c + 1) := by
  obtain ⟨i1, i2, i3, i4, i5, i6⟩ := I
  have kn : ¬ rd k = nI R := fun e => neqm1 hR (by rw [← e, hk])
  have up : ∀ i, upd rd k (nI R) i = nI R ↔ rd i = nI R ∨ i = k := by
    intro i
    by_cases q : i = k
    · rw [q, pk_us]; exact ⟨fun _ => Or.inr rfl, fun _ => rfl⟩
    · rw [pk_un q]; exact ⟨Or.inl, fun z => z.elim id fun z => absurd z q⟩
  refine ⟨fun h hh => ?_, X.1 k i2.1 i2.2, fun P hP => ?_, ?_, ?_, Or.inr ⟨k, i2.1, by rw [pk_us], rfl, ?_, fun h hh e => ?_, fun h hh e hne => ?_⟩⟩
  · by_cases q : h = k
    · rw [q, pk_us]
      rcases i1 k i2.1 with z | z
      · exact Or.inr ⟨by rw [← z]; exact hk, i2.2, rfl⟩
      · exact Or.inr ⟨z.1, z.2.1, rfl⟩
    · rw [pk_un q]; exact i1 h hh
  · refine ⟨(hP k i2.1 i2.2).symm.trans (i3 P hP).1, fun a ha e => ?_⟩
    rcases (up a).mp e with q | q
    · exact (i3 P hP).2 a ha q
    · rw [q]; exact (i3 P hP).1
  · rw [i4]
    exact ((suL_put (f := sw) kn up (n := 120)).1 i2.1).symm
  · rw [← i5]; exact (cn_put kn up (n := 120)).1 i2.1
  · rcases i6 with ⟨e, -⟩ | ⟨l, -, -, -, e, -⟩
    · rw [← e, pk_us]
    · exact (up h0).mpr (Or.inl e)
  · rcases (up h).mp e with q | q
    · right
      rcases i6 with ⟨-, z⟩ | ⟨l, hl, el, nl, -, z, -⟩
      · exact absurd q (z h hh)
      · rcases z h hh q with w | w
        · rw [w, nl]; exact (up k).mpr (Or.inr rfl)
        · exact (up _).mpr (Or.inl w)
    · exact Or.inl q
  · rcases i6 with ⟨e6, z⟩ | ⟨l, hl, el, nl, -, -, z⟩
    · rcases (up h).mp e with q | q
      · exact absurd q (z h hh)
      · exact absurd (q.trans e6) hne
    · rcases (up h).mp e with q | q
      · obtain ⟨p, hp, ep, -, np⟩ := z h hh q hne
        exact ⟨p, hp, (up p).mpr (Or.inl ep), fun w => kn (by rw [← w]; exact ep), np⟩
      · exact ⟨l, hl, (up l).mpr (Or.inl el), fun w => kn (by rw [← w]; exact el), by rw [nl, q]⟩
/-- a walk that comes to a marked half has come home -/
theorem in_home {U : Nat → Prop} {N : Nat → Nat} {sw : Nat → Int64} {h0 R : Nat} {rd0 rd : Nat → Int32} {tR : Int64} {k c : Nat} {sg : Nat → Nat} {tw : Nat → Int64} (X : Nx U N) (hR : R < 1000) (O : Out U N sw h0 rd0 sg tw R) (h0u : h0 < 120 ∧ U h0 ∧ rd0 h0 = -1) (I : Inn U N sw h0 R rd0 rd tR k c) (hk : rd k ≠ -1) : k = h0 ∧ rd h0 = nI R := by
  obtain ⟨i1, i2, i3, i4, i5, i6⟩ := I
  have lab : ∀ h, h < 120 → rd h = nI R → U h ∧ rd0 h = -1 := by
    intro h hh e
    rcases i1 h hh with q | q
    · exfalso
      rw [q] at e
      rcases O.1 h hh with z | ⟨-, r, hr, z⟩
      · rw [z] at e; exact neqm1 hR e.symm
      · rw [z] at e; have := nI_inj (by omega) hR e; omega
    · exact ⟨q.2.1, q.1⟩
  rcases i6 with ⟨e, z⟩ | ⟨l, hl, el, nl, eh, z1, z2⟩
  · exfalso
    rcases i1 k i2.1 with q | q
    · exact hk (by rw [q, e]; exact h0u.2.2)
    · exact z k i2.1 q.2.2
  · refine ⟨?_, eh⟩
    by_cases q : k = h0
    · exact q
    exfalso
    obtain ⟨ul, l0⟩ := lab l hl el
    rcases i1 k i2.1 with w | w
    · exact O.2.2.2.1 l hl ul (by rw [nl, ← w]; exact hk) l0
    · obtain ⟨p, hp, ep, pl, np⟩ := z2 k i2.1 w.2.2 q
      exact pl (X.2 p l hp hl (lab p hp ep).1 ul (np.trans nl.symm))
theorem in_done {U : Nat → Prop} {N : Nat → Nat} {sw : Nat → Int64} {h0 R : Nat} {rd0 rd : Nat → Int32} {tR : Int64} {k c : Nat} {sg : Nat → Nat} {tw tw2 : Nat → Int64} (X : Nx U N) (O : Out U N sw h0 rd0 sg tw R) (h0u : h0 < 120 ∧ U h0 ∧ rd0 h0 = -1) (I : Inn U N sw h0 R rd0 rd tR k c) (hk : k = h0 ∧ rd h0 = nI R) (ht : ∀ r, r < R → tw2 r = tw r) (ht2 : tw2 R = tR) :
    Out U N sw (h0 + 1) rd (fun r => if r = R then h0 else sg r) tw2 (R + 1) := by
  have hRt := out_R O
  have hR : R < 1000 := by omega
  obtain ⟨i1, i2, i3, i4, i5, i6⟩ := I
  obtain ⟨o1, o2, o3, o4, o5, o6, o7, o8⟩ := O
  have no : ∀ h, h < 120 → rd0 h ≠ nI R := by
    intro h hh2 e
    rcases o1 h hh2 with q | ⟨-, r, hr, q⟩
    · rw [q] at e; exact neqm1 hR e.symm
    · rw [q] at e; have := nI_inj (by omega) hR e; omega
  have lab : ∀ h, h < 120 → rd h = nI R → U h ∧ rd0 h = -1 := by
    intro h hh e
    rcases i1 h hh with q | q
    · rw [q] at e; exact absurd e (no h hh)
    · exact ⟨q.2.1, q.1⟩
  have old : ∀ h, h < 120 → rd0 h ≠ -1 → rd h = rd0 h := fun h hh q => (i1 h hh).elim id fun z => absurd z.1 q
  have oldr : ∀ h r, h < 120 → r < R → (rd h = nI r ↔ rd0 h = nI r) := by
    intro h r hh hr
    constructor
    · intro e
      rcases i1 h hh with q | q
      · rw [← q]; exact e
      · rw [q.2.2] at e; have := nI_inj hR (by omega) e; omega
    · intro e
      rw [old h hh (by rw [e]; exact neqm1 (by omega))]; exact e
  rcases i6 with ⟨-, z⟩ | ⟨l, hl, el, nl, eh, z1, z2⟩
  · exact absurd hk.2 (z h0 h0u.1)
  have el2 := lab l hl el
  refine ⟨fun h hh => ?_, fun h hh uh => ?_, fun h hh e => ?_, fun h hh uh e => ?_, fun r hr => ?_, fun r r' hr hr' => ?_, fun P hP a b ha hb e1 e2 => ?_, fun r hr => ?_⟩
  · rcases i1 h hh with q | q
    · rw [q]
      rcases o1 h hh with w | ⟨w, r, hr, w2⟩
      · exact Or.inl w
      · exact Or.inr ⟨w, r, by omega, w2⟩
    · exact Or.inr ⟨q.2.1, R, by omega, q.2.2⟩
  · rcases Nat.lt_or_ge h h0 with q | q
    · rw [old h (by omega) (o2 h q uh)]; exact o2 h q uh
    · have : h = h0 := by omega
      rw [this, hk.2]; exact neqm1 hR
  · rcases i1 h hh with q | q
    · have e0 : rd0 h ≠ -1 := by rw [← q]; exact e
      have uh : U h := (o1 h hh).elim (fun w => absurd w e0) fun w => w.1
      have e3 := o3 h hh e0
      rw [old (N h) (X.1 h hh uh).1 (by rw [e3]; exact e0), e3, q]
    · rw [q.2.2]
      rcases z1 h hh q.2.2 with w | w
      · rw [w, nl, hk.1]; exact hk.2
      · exact w
  · have hn := X.1 h hh uh
    rcases i1 (N h) hn.1 with q | q
    · have := o4 h hh uh (by rw [← q]; exact e)
      rw [old h hh this]; exact this
    · by_cases w : N h = h0
      · have : h = l := X.2 h l hh hl uh el2.1 (by rw [w, nl, hk.1])
        rw [this, el]; exact neqm1 hR
      · obtain ⟨p, hp, ep, -, np⟩ := z2 (N h) hn.1 q.2.2 w
        have : h = p := X.2 h p hh hp uh (lab p hp ep).1 np.symm
        rw [this, ep]; exact neqm1 hR
  · dsimp only
    by_cases q : r = R
    · subst q
      rw [if_pos rfl]
      refine ⟨by omega, h0u.2.1, hk.2, fun h hh e => ?_⟩
      rcases Nat.lt_or_ge h h0 with w | w
      · exact absurd (lab h hh e).2 (o2 h w (lab h hh e).1)
      · exact w
    · rw [if_neg q]
      obtain ⟨p1, p2, p3, p4⟩ := o5 r (by omega)
      exact ⟨by omega, p2, (oldr _ r (by omega) (by omega)).mpr p3, fun h hh e => p4 h hh ((oldr h r hh (by omega)).mp e)⟩
  · show (if r = R then h0 else sg r) < (if r' = R then h0 else sg r')
    rw [if_neg (by omega)]
    by_cases q : r' = R
    · rw [if_pos q]; exact (o5 r (by omega)).1
    · rw [if_neg q]; exact o6 r r' hr (by omega)
  · rcases i1 a ha with q | q
    · rcases i1 b hb with w | w
      · exact o7 P hP a b ha hb (by rw [← q]; exact e1) (by rw [← q, ← w]; exact e2)
      · rw [e2, w.2.2] at q
        exact absurd q.symm (no a ha)
    · have ea := (i3 P hP).2 a ha q.2.2
      have eb := (i3 P hP).2 b hb (by rw [← e2]; exact q.2.2)
      exact ea.trans eb.symm
  · by_cases q : r = R
    · rw [q, ht2]; exact i4
    · rw [ht r (by omega), o8 r (by omega)]
      exact suL_c fun h hh => pifL_c (oldr h r hh (by omega)).symm
