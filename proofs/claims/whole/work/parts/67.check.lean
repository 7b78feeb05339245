/-! which numbers are halves, pieces, faces -/
theorem shr1 (v : Int32) : (v >>> ((1 : Int32) &&& 31)).toInt = v.toInt / 2 := by
  have e : ((1 : Int32) &&& 31) = 1 := by decide
  have h : (v >>> (1 : Int32)).toBitVec = v.toBitVec.sshiftRight 1 := by rw [Int32.toBitVec_shiftRight]; rfl
  rw [e]
  show (v >>> (1 : Int32)).toBitVec.toInt = _
  rw [h, BitVec.toInt_sshiftRight, Int.shiftRight_eq_div_pow]
  rfl
def hfP (u : Nat → Int32) (v : Int32) : Prop := ∃ h, h < 120 ∧ v = nI h ∧ us u h
theorem hf_iff {u : Nat → Int32} {v : Int32} : (∃ s, s < 60 ∧ v >>> ((1 : Int32) &&& 31) = nI s ∧ ¬ u s = 0) ↔ hfP u v := by
  constructor
  · rintro ⟨s, hs, e, us1⟩
    have q := shr1 v
    rw [e, nI_toInt (show s < 2 ^ 31 by omega)] at q
    refine ⟨v.toInt.toNat, by omega, ?_, ?_⟩
    · rw [← Int32.toInt_inj, nI_toInt (by omega)]; omega
    · unfold us; rw [show v.toInt.toNat / 2 = s by omega]; exact us1
  · rintro ⟨h, hh, e, uh⟩
    exact ⟨h / 2, by omega, by rw [e]; exact shr_half hh, uh⟩
theorem s_rh {u : Nat → Int32} {v : Int32} {post : Prop} (h : hfP u v) (k : post) : wp_X3_requireHalf u v post := s_has ⟨fun q => absurd (hf_iff.mpr h) (bi0.mp q), fun _ => k⟩
theorem s_rhx {u : Nat → Int32} {v : Int32} {px : String → Prop} (h : ¬ hfP u v) (k : px "java/lang/IndexOutOfBoundsException") : wpx_X3_requireHalf u v px := s_has ⟨fun _ => k, fun q => h (hf_iff.mp (nb0 q))⟩
theorem m_isHalf {x y u mxs mys mth : Nat → Int32} (G : Ag x y u mxs mys mth) {v : Int32} {post : Int32 → Prop} (k : post (bi (hfP u v))) : wp_X4_isHalf mth v post := by
  unfold wp_X4_isHalf
  refine jn1_bi (hfP u v) (fun K hK => ?_) ⟨bz_bi _, k⟩
  obtain ⟨k1, k0⟩ := bi_lf hK
  refine ⟨fun a => k0 ?_, fun a => ⟨fun b => k0 ?_, fun b => ?_⟩⟩
  · rintro ⟨h, hh, e, -⟩; rw [e] at a; exact nneg (by omega) a
  · rintro ⟨h, hh, e, -⟩; rw [e] at b; have := (lt120 (by omega)).mp b; omega
  · obtain ⟨h, hh, e⟩ : ∃ h, h < 120 ∧ v = nI h := by
      rw [Int32.lt_iff_toInt_lt] at a
      rw [Int32.le_iff_toInt_le] at b
      have e0 : (0 : Int32).toInt = 0 := rfl
      have e1 : (120 : Int32).toInt = 120 := by decide
      exact ⟨v.toInt.toNat, by omega, by rw [← Int32.toInt_inj, nI_toInt (by omega)]; omega⟩
    rw [e]
    simp only [div_half hh, cl (show h / 2 < 1000 by omega), vin (show h / 2 < 60 by omega) (by decide), true_and]
    have ag := G.1 (h / 2) (by omega)
    refine ⟨fun q => k0 ?_, fun q => k1 ⟨h, hh, e, fun w => q (ag.mpr w)⟩⟩
    rintro ⟨g, hg, eg, ug⟩
    rw [e] at eg
    have := nI_inj (by omega) (by omega) eg
    exact ug (by rw [← this]; exact ag.mp q)
theorem num_in {v : Int32} {c : Nat} (hc : c < 1000) : (¬ v < 0 ∧ v < nI c) ↔ ∃ f, f < c ∧ v = nI f := by
  rw [Int32.lt_iff_toInt_lt, Int32.lt_iff_toInt_lt, nI_toInt (show c < 2 ^ 31 by omega)]
  have e0 : (0 : Int32).toInt = 0 := rfl
  constructor
  · rintro ⟨a, b⟩
    exact ⟨v.toInt.toNat, by omega, by rw [← Int32.toInt_inj, nI_toInt (by omega)]; omega⟩
  · rintro ⟨f, hf, e⟩
    rw [e, nI_toInt (show f < 2 ^ 31 by omega)]; omega
def inN (c : Nat) (v : Int32) : Prop := ∃ f, f < c ∧ v = nI f
theorem s_rf {v : Int32} {c : Nat} (hc : c < 1000) {post : Prop} (h : inN c v) (k : post) : wp_X3_requireFace (nI c) v post := by
  obtain ⟨a, b⟩ := (num_in hc).mpr h
  exact ⟨fun q => absurd q a, fun _ => ⟨fun _ => k, fun q => absurd b q⟩⟩
theorem s_rfx {v : Int32} {c : Nat} (hc : c < 1000) {px : String → Prop} (h : ¬ inN c v) (k : px "java/lang/IndexOutOfBoundsException") : wpx_X3_requireFace (nI c) v px :=
  ⟨fun _ => k, fun a => ⟨fun b => h ((num_in hc).mp ⟨a, b⟩), fun _ => k⟩⟩
theorem num_uniq {B B' t c c' : Nat} {dom : Nat → Prop} {key : Nat → Option Nat} {z z' : Int32} {nu lab nu' lab' : Nat → Int32} {sf sf' : Nat → Nat} (ht : t < 130) (k1 : ∀ h s, h < t → dom h → key h = some s → s < B) (k2 : ∀ h s, h < t → dom h → key h = some s → s < B') (I : Num B dom key z t nu lab sf c) (M : Num B' dom key z' t nu' lab' sf' c') : c = c' := by
  have c1 := I.1
  have c2 := M.1
  have inv1 : ∀ h, h < t → dom h → lab h = nI (lab h).toNatClampNeg ∧ (lab h).toNatClampNeg < c := fun h hh uh => by
    obtain ⟨f, hf, e, -⟩ := num_lab I k1 ht hh uh
    rw [e, cl (by omega)]; exact ⟨rfl, hf⟩
  have inv2 : ∀ h, h < t → dom h → lab' h = nI (lab' h).toNatClampNeg ∧ (lab' h).toNatClampNeg < c' := fun h hh uh => by
    obtain ⟨f, hf, e, -⟩ := num_lab M k2 ht hh uh
    rw [e, cl (by omega)]; exact ⟨rfl, hf⟩
  have grow : ∀ {B c : Nat} {z : Int32} {nu lab : Nat → Int32} {sf : Nat → Nat}, Num B dom key z t nu lab sf c → (∀ h, h < t → dom h → lab h = nI (lab h).toNatClampNeg ∧ (lab h).toNatClampNeg < c) → ∀ h, h < t → dom h → ∀ k, 1 ≤ k → k < (lab h).toNatClampNeg → ∃ s, s < h ∧ dom s ∧ (lab s).toNatClampNeg = k := by
    intro B c z nu lab sf I inv h hh uh k hk hkc
    have c1 := I.1
    obtain ⟨e1, e2⟩ := inv h hh uh
    obtain ⟨p1, p2, p3, p4⟩ := I.2.2.2.2.1 k hk (by omega)
    have q1 := I.2.2.2.2.2 k _ hk hkc e2
    have q2 := (I.2.2.2.2.1 _ (by omega) e2).2.2.2 h hh uh e1
    exact ⟨sf k, by omega, p2, by rw [p3, cl (by omega)]⟩
  have same : ∀ h, h < t → dom h → (lab h).toNatClampNeg = (lab' h).toNatClampNeg := by
    refine rg_uniq (b := 1) (grow I inv1) (grow M inv2) (fun s s' hs hs' us1 us2 => ?_) (fun h hh uh q => ?_)
    · obtain ⟨a1, a2⟩ := inv1 s hs us1
      obtain ⟨b1, b2⟩ := inv1 s' hs' us2
      obtain ⟨a3, a4⟩ := inv2 s hs us1
      obtain ⟨b3, b4⟩ := inv2 s' hs' us2
      have e1 := num_ker I k1 ht hs hs' us1 us2
      have e2 := num_ker M k2 ht hs hs' us1 us2
      constructor
      · intro e
        have := e2.mpr (e1.mp (by rw [a1, b1, e]))
        rw [this]
      · intro e
        have := e1.mpr (e2.mp (by rw [a3, b3, e]))
        rw [this]
    · obtain ⟨f, hf, e, zz⟩ := num_lab I k1 ht hh uh
      obtain ⟨f', hf', e', zz'⟩ := num_lab M k2 ht hh uh
      rw [e, e', cl (by omega), cl (by omega)] at q ⊢
      rcases q with q | q
      · rw [zz'.mpr (zz.mp (by omega))]; omega
      · rw [zz.mpr (zz'.mp (by omega))]; omega
  refine rg_cnt (b := 1) (N := t) (dom := dom) (f := fun h => (lab h).toNatClampNeg) (g := fun h => (lab' h).toNatClampNeg) (fun h hh uh => (inv1 h hh uh).2) (fun k hk hkc => ?_) (fun h hh uh => (inv2 h hh uh).2) (fun k hk hkc => ?_) c1.1 c2.1 same
  · obtain ⟨p1, p2, p3, p4⟩ := I.2.2.2.2.1 k hk hkc
    exact ⟨sf k, p1, p2, by rw [p3, cl (by omega)]⟩
  · obtain ⟨p1, p2, p3, p4⟩ := M.2.2.2.2.1 k hk hkc
    exact ⟨sf' k, p1, p2, by rw [p3, cl (by omega)]⟩
theorem DC_uniq {x y u fo co po rd st nu fa ou rd' po' fo2 co2 po2 rd2 st2 nu2 fa2 ou2 rd2' po2' : Nat → Int32} {pn rn fn pn2 rn2 fn2 : Int32} {tw tw2 : Nat → Int64} {sg sgp sf sg2 sgp2 sf2 : Nat → Nat} {R n c R2 n2 c2 : Nat} (C : Cfg x y u) (D : DC x y u fo co po pn rd st tw rn nu fa ou fn rd' po' sg sgp sf R n c) (D2 : DC x y u fo2 co2 po2 pn2 rd2 st2 tw2 rn2 nu2 fa2 ou2 fn2 rd2' po2' sg2 sgp2 sf2 R2 n2 c2) : n = n2 ∧ c = c2 := by
  obtain ⟨-, d2, -, d4, -, -, -, -, d9, -⟩ := D
  obtain ⟨-, f2, -, f4, -, -, -, -, f9, -⟩ := D2
  have X := nx_of C
  obtain ⟨eR, eL, eS, eT⟩ := out_uniq X d2 f2
  obtain ⟨eN, eP⟩ := pc_uniq d4 f4
  refine ⟨eN, ?_⟩
  have hR := out_R d2
  have homE : ∀ r, r < R → hom x y u rd2' po2' sg2 tw2 R2 r = hom x y u rd' po' sg tw R r := by
    intro r hr
    obtain ⟨s1, s2, -, -⟩ := d2.2.2.2.2.1 r hr
    unfold hom
    rw [← eT r hr, ← eS r hr]
    by_cases q : 0 < tw r
    · rw [if_pos q, if_pos q]
    · rw [if_neg q, if_neg q]
      have ep : po2' (sg r / 2) = po' (sg r / 2) := (eP (sg r) s1 s2).symm
      rw [ep]
      unfold encl
      rw [← eR]
      refine bst_congr (fun j hj => ?_) fun j b hj hb _ _ => by rw [← eT j hj, ← eT b (by omega)]
      unfold okE odR
      obtain ⟨t1, t2, -, -⟩ := d2.2.2.2.2.1 j hj
      have ep2 : po2' (sg j / 2) = po' (sg j / 2) := (eP (sg j) t1 t2).symm
      rw [← eT j hj, ← eS j hj, ep2, cn_c (P := odP x y u rd2' (x (sg r)) (y (sg r)) j) (Q := odP x y u rd' (x (sg r)) (y (sg r)) j)]
      intro h hh
      unfold odP
      by_cases uh : us u h
      · rw [eL h hh uh]
      · exact ⟨fun q => absurd q.1 uh, fun q => absurd q.1 uh⟩
  have keyE : ∀ h, h < 120 → us u h → hom x y u rd2' po2' sg2 tw2 R2 (rho rd2' h) = hom x y u rd' po' sg tw R (rho rd' h) := by
    intro h hh uh
    have e : rho rd2' h = rho rd' h := by unfold rho; rw [eL h hh uh]
    rw [e]; exact homE _ (rho_eq d2 hh uh).1
  have k1 : ∀ g s, g < 120 → us u g → hom x y u rd' po' sg tw R (rho rd' g) = some s → s < 120 := fun g s hg ug e => by
    have := (hom_lt (rho_eq d2 hg ug).1 e).1
    omega
  exact num_uniq (by omega) k1 k1 d9 (Num_c keyE f9)
/-- what there is of the class, before a call -/
def InvC (B : Prop) (Bm : (Nat → Int32) → (Nat → Int32) → (Nat → Int32) → (Nat → Nat) → (Nat → Int64) → Nat → Nat → Nat → Prop) (x y u : Nat → Int32) (sl : Int32) (fo co po : Nat → Int32) (pn : Int32) (rd st : Nat → Int32) (tw : Nat → Int64) (rn : Int32) (nu fa ou : Nat → Int32) (fn : Int32) : Prop :=
  (¬ sl = 0 ∧ B) ∨ (sl = 0 ∧ ∃ rd' po' sg sgp sf R n c, DC x y u fo co po pn rd st tw rn nu fa ou fn rd' po' sg sgp sf R n c ∧ (B ∨ Bm fa rd' po' sg tw R n c))
/-- a fact of the data that does not depend on how they came about, decided ahead -/
def dec2 (x y u : Nat → Int32) (A : Nat → Nat → Prop) : Prop := ∃ fo co po pn rd st tw rn nu fa ou fn rd' po' sg sgp sf R n c, DC x y u fo co po pn rd st tw rn nu fa ou fn rd' po' sg sgp sf R n c ∧ A n c
theorem dec2_iff {x y u fo co po rd st nu fa ou rd' po' : Nat → Int32} {pn rn fn : Int32} {tw : Nat → Int64} {sg sgp sf : Nat → Nat} {R n c : Nat} {A : Nat → Nat → Prop} (C : Cfg x y u) (D : DC x y u fo co po pn rd st tw rn nu fa ou fn rd' po' sg sgp sf R n c) : dec2 x y u A ↔ A n c := by
  constructor
  · rintro ⟨_, _, _, _, _, _, _, _, _, _, _, _, _, _, _, _, _, _, n2, c2, D2, a⟩
    obtain ⟨e1, e2⟩ := DC_uniq C D D2
    rw [e1, e2]; exact a
  · intro a
    exact ⟨_, _, _, _, _, _, _, _, _, _, _, _, _, _, _, _, _, _, _, _, D, a⟩
theorem DC_b {x y u fo co po rd st nu fa ou rd' po' : Nat → Int32} {pn rn fn : Int32} {tw : Nat → Int64} {sg sgp sf : Nat → Nat} {R n c : Nat} (D : DC x y u fo co po pn rd st tw rn nu fa ou fn rd' po' sg sgp sf R n c) : R ≤ 120 ∧ n ≤ 60 ∧ 1 ≤ c ∧ c ≤ 121 ∧ (∀ r, r < R → st r = nI (sg r) ∧ sg r < 120 ∧ us u (sg r) ∧ rho rd' (sg r) = r) := by
  have d9 := D.2.2.2.2.2.2.2.2.1.1
  exact ⟨out_R D.2.1, pc60 D.2.2.2.1, d9.1, d9.2, fun r hr => ⟨D.2.2.2.2.2.2.2.1 r hr, (D.2.1.2.2.2.2.1 r hr).1, (D.2.1.2.2.2.2.1 r hr).2.1, rho_sg D.2.1 hr⟩⟩
