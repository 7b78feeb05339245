/-! pieces lie within one another; one can go from every face to every face -/
theorem rho_sg {U : Nat → Prop} {N : Nat → Nat} {sw : Nat → Int64} {rd : Nat → Int32} {sg : Nat → Nat} {tw : Nat → Int64} {R r : Nat} (O : Out U N sw 120 rd sg tw R) (hr : r < R) : rho rd (sg r) = r := by
  have := out_R O
  unfold rho
  rw [(O.2.2.2.2.1 r hr).2.2.1, cl (by omega)]
/-- the class's roof over a point is a half above it in the leaned plane -/
theorem roof_ov {x y u : Nat → Int32} (C : Cfg x y u) {h v : Nat} (hh : h < 120) (hv : v < 120) (uh : us u h) (uv : us u v) : roofL x y (h / 2) (x v) (y v) ↔ ov (Xx x y) (Vy y) h v := by
  have bv := C.1 v hv uv
  have G := geo_of C
  have core : ∀ l, l < 120 → us u l → (l = h ∨ l = bk h) → (x l).toInt < (x (bk l)).toInt → ((x l ≤ x v ∧ x v < x (bk l) ∧ sideL x y l (x v) (y v) < 0) ↔ ov (Xx x y) (Vy y) h v) := by
    intro l hl ul el lt
    have bl := inBx C hl ul
    have sd := lt0L (sideI (x := x) (y := y) bl bv.1 bv.2)
    rw [sd.1, Int32.le_iff_toInt_le, Int32.lt_iff_toInt_lt]
    have rl : rt (Xx x y) l := by unfold rt Xx; unfold inB at bl; omega
    have er : ri (Xx x y) h = l := by
      rcases el with e | e
      · rw [← e]; exact (ri_t rl).1
      · have : ¬ rt (Xx x y) h := fun q => by rw [e] at rl; exact (rt_bk G hh uh).mp rl q
        rw [(ri_f this).1, e]
    unfold ov
    rw [er, sS_link]
    unfold Xx
    unfold sdI
    have hdX : 0 < dX x l := by unfold dX; omega
    have q1 : (x v).toInt = (x l).toInt → dX x l * ((y v).toInt - (y l).toInt) - dX y l * ((x v).toInt - (x l).toInt) < 0 → (y v).toInt < (y l).toInt := by
      intro e z
      rw [e, Int.sub_self, Int.mul_zero, Int.sub_zero, Int.mul_comm] at z
      have := negf hdX z
      omega
    have q2 : (x v).toInt = (x (bk l)).toInt → dX x l * ((y v).toInt - (y l).toInt) - dX y l * ((x v).toInt - (x l).toInt) < 0 → (y v).toInt < (y (bk l)).toInt := by
      intro e z
      have e2 : dX x l * ((y v).toInt - (y l).toInt) - dX y l * ((x v).toInt - (x l).toInt) = ((y v).toInt - (y (bk l)).toInt) * dX x l := by rw [e]; unfold dX; grind
      rw [e2] at z
      have := negf hdX z
      omega
    unfold inB at bl bv
    generalize dX x l * ((y v).toInt - (y l).toInt) - dX y l * ((x v).toInt - (x l).toInt) = D at *
    constructor
    · rintro ⟨a, b, c⟩
      refine ⟨?_, by omega, by omega⟩
      by_cases e : (x v).toInt = (x l).toInt
      · have := q1 e c; omega
      · omega
    · rintro ⟨a, b, c⟩
      refine ⟨by omega, ?_, by omega⟩
      by_cases e : (x v).toInt = (x (bk l)).toInt
      · have := q2 e (by omega); omega
      · omega
  by_cases le : x (bk h) ≤ x h
  · rw [roof_lo (bk h) (Or.inl ⟨le, rfl⟩)]
    rw [Int32.le_iff_toInt_le] at le
    by_cases e : (x (bk h)).toInt = (x h).toInt
    · -- upright
      rw [bk_bk]
      have n1 : ¬ (x (bk h) ≤ x v ∧ x v < x h ∧ sideL x y (bk h) (x v) (y v) < 0) := by
        rintro ⟨a, b, -⟩
        rw [Int32.le_iff_toInt_le] at a
        rw [Int32.lt_iff_toInt_lt] at b
        omega
      have n2 : ¬ ov (Xx x y) (Vy y) h v := by
        rintro ⟨a, b, c⟩
        rw [sS_link] at c
        have rr := ri_rt G hh uh
        have br := inBx C rr.2.1 rr.2.2.1
        have ex : (x (bk (ri (Xx x y) h))).toInt = (x (ri (Xx x y) h)).toInt := by
          rcases ri_or (Xx x y) h with q | q <;> rw [q]
          · exact e
          · rw [bk_bk]; exact e.symm
        generalize ri (Xx x y) h = w at a b c rr br ex
        unfold Xx at a b
        have ev : (x v).toInt = (x w).toInt := by unfold inB at br bv; omega
        have : sdI x y w (x v) (y v) = 0 := by
          unfold sdI dX
          rw [ex, ev, Int.sub_self, Int.zero_mul, Int.mul_zero]; rfl
        omega
      exact ⟨fun q => absurd q n1, fun q => absurd q n2⟩
    · exact core (bk h) (bk_lt hh) (us_bk uh) (Or.inr rfl) (by rw [bk_bk]; omega)
  · rw [roof_lo h (Or.inr ⟨le, rfl⟩)]
    rw [Int32.le_iff_toInt_le] at le
    exact core h hh uh (Or.inl rfl) (by omega)
theorem su_even {f : Nat → Int} : ∀ {n : Nat}, (∀ i, i < n → f i % 2 = 0) → su f n % 2 = 0 := by
  intro n
  induction n with
  | zero => intro _; rfl
  | succ n ih =>
    intro h
    show (su f n + f n) % 2 = 0
    have := ih fun i hi => h i (by omega)
    have := h n (by omega)
    omega
theorem odd_base {x y u rd : Nat → Int32} (C : Cfg x y u) {r v : Nat} (hv : v < 120) (uv : us u v) : odR x y u rd (x v) (y v) r ↔ base (Xx x y) (Vy y) (fun h => us u h ∧ rd h = nI r) v % 2 ≠ 0 := by
  have e : (cn (odP x y u rd (x v) (y v) r) 120 : Int) = su (fun g => pif ((us u g ∧ rd g = nI r) ∧ ov (Xx x y) (Vy y) g v) 1) 120 := by
    rw [cn_su]
    refine su_c fun g hg => pif_c ?_
    unfold odP
    constructor
    · rintro ⟨a, b, c⟩; exact ⟨⟨a, b⟩, (roof_ov C hg hv a uv).mp c⟩
    · rintro ⟨⟨a, b⟩, c⟩; exact ⟨a, b, (roof_ov C hg hv a uv).mpr c⟩
  have ev := su_even (n := 120) (f := fun g => pif ((us u g ∧ rd g = nI r) ∧ ov (Xx x y) (Vy y) g v) (- sn (Xx x y) g) - pif ((us u g ∧ rd g = nI r) ∧ ov (Xx x y) (Vy y) g v) 1) (fun g hg => by
    by_cases q : (us u g ∧ rd g = nI r) ∧ ov (Xx x y) (Vy y) g v
    · rw [pif_t q, pif_t q]
      by_cases r : rt (Xx x y) g
      · rw [(ri_t r).2]; decide
      · rw [(ri_f r).2]; decide
    · rw [pif_f q, pif_f q]; decide)
  rw [su_sub, ← e] at ev
  unfold odR
  show cn (odP x y u rd (x v) (y v) r) 120 % 2 = 1 ↔ su (fun g => pif ((us u g ∧ rd g = nI r) ∧ ov (Xx x y) (Vy y) g v) (- sn (Xx x y) g)) 120 % 2 ≠ 0
  omega
theorem base_far {X V : Nat → Int} {U T Q : Nat → Prop} {N : Nat → Nat} (G : Geo X V U N) (P : Pie X U T) (C : Cir U N Q) (hQ : ∀ h, h < 120 → Q h → ¬ T h) {h : Nat} (hh : h < 120) (th : T h) : base X V Q (bk h) = base X V Q h := by
  have ph0 : ∀ g, g < 120 → T g → ph Q g = 0 := fun g hg tg => by
    unfold ph
    rw [pif_f fun q => hQ g hg q tg, pif_f fun q => hQ _ (bk_lt hg) q (P.2.1 g hg tg)]; rfl
  have z : ∀ v, v < 120 → T v → ∀ R : Nat → Prop, Phi X U Q v R = 0 := fun v hv tv R => su_0 fun g hg => by
    by_cases q : U g ∧ X g = X v ∧ R g
    · rw [pif_t q]; exact ph0 g hg (P.2.2.1 v g hv hg tv q.1 q.2.1.symm)
    · rw [pif_f q]
  have main : ∀ k, k < 120 → T k → rt X k → base X V Q (bk k) = base X V Q k := fun k hk tk rk => by
    have a := Y_eq (V := V) G C hk (P.1 k hk tk) rk
    rw [Ws_R G C, Bs_L G C, z k hk tk, z _ (bk_lt hk) (P.2.1 k hk tk)] at a
    omega
  by_cases r : rt X h
  · exact main h hh th r
  · have := main (bk h) (bk_lt hh) (P.2.1 h hh th) ((rt_bk G hh (P.1 h hh th)).mpr r)
    rw [bk_bk] at this
    exact this.symm
theorem base_all {X V : Nat → Int} {U T Q : Nat → Prop} {N : Nat → Nat} (G : Geo X V U N) (P : Pie X U T) (C : Cir U N Q) (hQ : ∀ h, h < 120 → Q h → ¬ T h) {a b : Nat} (ha : a < 120) (hb : b < 120) (ta : T a) (tb : T b) : base X V Q a = base X V Q b := by
  have := (P.2.2.2.1 (fun h => T h ∧ base X V Q h = base X V Q a) (fun g h hg hh ug uh e => by
    have tt : T g ↔ T h := by
      rcases e with e | e
      · exact ⟨fun t => P.2.2.1 g h hg hh t uh e, fun t => P.2.2.1 h g hh hg t ug e.symm⟩
      · exact ⟨fun t => by have := P.2.1 g hg t; rw [e, bk_bk] at this; exact this, fun t => by rw [e]; exact P.2.1 h hh t⟩
    have eq : T g → base X V Q g = base X V Q h := fun t => by
      rcases e with e | e
      · exact base_c e (G.2.1 g h hg hh ug uh e)
      · rw [e]; exact base_far G P C hQ hh (tt.mp t)
    exact ⟨fun w => ⟨tt.mp w.1, by rw [← eq w.1]; exact w.2⟩, fun w => ⟨tt.mpr w.1, by rw [eq (tt.mpr w.1)]; exact w.2⟩⟩) a b ha hb ta tb).mp ⟨ta, rfl⟩
  exact this.2.symm
/-- a round lies in one piece -/
theorem rd_piece {x y u rd lab : Nat → Int32} {sg sgp : Nat → Nat} {tw : Nat → Int64} {R n : Nat} (O : Out (us u) (nxt x y u) (sweepL x y) 120 rd sg tw R) (P : Pc x y u 120 lab sgp n) : ∀ r, r < R → ∀ h, h < 120 → us u h → rd h = nI r → lab h = lab (sg r) := by
  intro r hr h hh uh e
  obtain ⟨s1, s2, s3, s4⟩ := O.2.2.2.2.1 r hr
  have := O.2.2.2.2.2.2.1 (fun b => lab b = lab (sg r)) (fun a ha ua => by
    have hn2 := nxt_pt (x := x) (y := y) ha ua
    have c1 := P.2.2.1 a (bk a) ha (bk_lt ha) ua (us_bk ua) (Or.inr (bk_bk a).symm) (P.2.1 a ha ua)
    have c2 := P.2.2.1 (bk a) (nxt x y u a) (bk_lt ha) hn2.1 (us_bk ua) hn2.2.1 (Or.inl (sb_sym hn2.2.2)) (P.2.1 _ (bk_lt ha) (us_bk ua))
    dsimp only
    rw [c2, c1]) (sg r) h s1 hh (O.2.1 _ s1 s2) (s3.trans e.symm)
  exact this.mp rfl
theorem face_conn {x y u rd po nu fa : Nat → Int32} {sg sgp sf : Nat → Nat} {tw : Nat → Int64} {R n c : Nat} (C : Cfg x y u) (O : Out (us u) (nxt x y u) (sweepL x y) 120 rd sg tw R) (P : Pc x y u 120 (fun h => po (h / 2)) sgp n) (I : Num 120 (us u) (fun h => hom x y u rd po sg tw R (rho rd h)) 0 120 nu fa sf c)
    (A : Int32 → Prop) (hA : ∀ h, h < 120 → us u h → (A (fa h) ↔ A (fa (bk h)))) : ∀ h, h < 120 → us u h → (A (fa h) ↔ A 0) := by
  have G := geo_of C
  have hn := pc_R P
  have hR := out_R O
  have k1 : ∀ g s, g < 120 → us u g → hom x y u rd po sg tw R (rho rd g) = some s → s < 120 := fun g s hg ug e => by
    have := (hom_lt (rho_eq O hg ug).1 e).1
    omega
  have faK := fun {g h : Nat} (hg : g < 120) (hh : h < 120) (ug : us u g) (uh : us u h) => num_ker I k1 (by omega) hg hh ug uh
  have aN : ∀ a, a < 120 → us u a → (A (fa a) ↔ A (fa (nxt x y u a))) := fun a ha ua => by
    have hn2 := nxt_pt (x := x) (y := y) ha ua
    have e := O.2.2.1 a ha (O.2.1 a ha ua)
    rw [(faK ha hn2.1 ua hn2.2.1).mpr (by unfold rho; rw [e])]
  have cl : ∀ g h, g < 120 → h < 120 → us u g → us u h → (Xx x y g = Xx x y h ∨ g = bk h) → (A (fa g) ↔ A (fa h)) := by
    intro g h hg hh ug uh e
    rcases e with e | e
    · exact rot G (P := fun a => A (fa a)) aN hA g h hg hh ug uh e
    · rw [e]; exact (hA h hh uh).symm
  have main : ∀ k : Nat, ∀ p, p < n → (∃ t, t < 120 ∧ us u t ∧ po (t / 2) = nI p ∧ 16000 - Vy y t < (k : Int)) → ∀ h, h < 120 → us u h → po (h / 2) = nI p → (A (fa h) ↔ A 0) := by
    intro k
    induction k with
    | zero =>
      intro p hp ⟨t, ht, ut, _, l⟩
      have := (C.1 t ht ut).2
      unfold inB at this
      unfold Vy at l
      omega
    | succ k ih =>
      intro p hp ⟨t0, ht0, ut0, et0, l0⟩ h hh uh eh
      have T := pie_of C P hp
      obtain ⟨t, ht, tt, mt⟩ := ex_max (T := fun h => us u h ∧ po (h / 2) = nI p) (F := Vy y) (n := 120) ⟨t0, ht0, ut0, et0⟩
      obtain ⟨r0, hr0, e0, only⟩ := one_outer C O P hp
      obtain ⟨s1, s2, s3, s4⟩ := O.2.2.2.2.1 r0 hr0
      have e0' : po (sg r0 / 2) = nI p := e0
      have step := T.2.2.2.1 (fun a => A (fa a)) cl h (sg r0) hh s1 ⟨uh, eh⟩ ⟨s2, e0'⟩
      refine step.trans ?_
      have ntw : ¬ 0 < tw r0 := fun q => by
        have := (only r0 hr0 e0).mpr rfl
        rw [Int64.lt_iff_toInt_lt] at q
        rw [Int64.le_iff_toInt_le] at this
        omega
      have hom0 : hom x y u rd po sg tw R (rho rd (sg r0)) = encl x y u rd po sg tw R (x (sg r0)) (y (sg r0)) (po (sg r0 / 2)) := by
        rw [rho_sg O hr0]; unfold hom; exact if_neg ntw
      cases hb : encl x y u rd po sg tw R (x (sg r0)) (y (sg r0)) (po (sg r0 / 2)) with
      | none =>
        rw [(I.2.2.2.1 (sg r0) s1 s2).1 (hom0.trans hb)]
      | some r =>
        obtain ⟨hr, odd, pos, dif⟩ := bst_ok hb
        obtain ⟨q1, q2, q3, q4⟩ := O.2.2.2.2.1 r hr
        have hs := (hom_self (x := x) (y := y) (u := u) (rd := rd) (po := po) (sg := sg) (tw := tw) (R := R) (r := r)).mpr pos
        rw [(faK s1 q1 s2 q2).mpr (by rw [hom0, hb, rho_sg O hr, hs])]
        obtain ⟨p', hp', ep'⟩ := pc_lab P q1 q2
        have ep2 : po (sg r / 2) = nI p' := ep'
        have pne : p' ≠ p := fun w => dif (by rw [ep2, e0', w])
        have rp := rd_piece O P r hr
        -- the way up from the piece's top meets the round
        have far : ∀ h, h < 120 → (us u h ∧ rd h = nI r) → ¬ (us u h ∧ po (h / 2) = nI p) := fun h hh q w => by
          have := rp h hh q.1 q.2
          have e9 : po (h / 2) = po (sg r / 2) := this
          rw [w.2, ep2] at e9
          exact pne (nI_inj (by omega) (by omega) e9).symm
        have bb := base_all (V := Vy y) G T (cir_of O hr).c far s1 ht ⟨s2, e0'⟩ tt
        have od := (odd_base C s1 s2).mp odd
        rw [bb] at od
        have ex : ∃ g, g < 120 ∧ (us u g ∧ rd g = nI r) ∧ ov (Xx x y) (Vy y) g t := Classical.byContradiction fun no => od (by
          unfold base
          rw [su_0 fun g hg => pif_f fun w => no ⟨g, hg, w⟩]; rfl)
        obtain ⟨g, hg, qg, og⟩ := ex
        have lg : po (g / 2) = nI p' := by
          have : po (g / 2) = po (sg r / 2) := rp g hg qg.1 qg.2
          rw [this, ep2]
        have mt0 := mt t0 ht0 ⟨ut0, et0⟩
        have hi : ∃ w, w < 120 ∧ us u w ∧ po (w / 2) = nI p' ∧ Vy y t < Vy y w := Classical.byContradiction fun no => by
          have up : ∀ w, w < 120 → us u w → po (w / 2) = nI p' → Vy y w ≤ Vy y t := fun w hw uw ew => by
            rcases Int.lt_or_le (Vy y t) (Vy y w) with z | z
            · exact absurd ⟨w, hw, uw, ew, z⟩ no
            · exact z
          have a1 := up g hg qg.1 lg
          have a2 := up (bk g) (bk_lt hg) (us_bk qg.1) (by rw [bk_half]; exact lg)
          refine no_over ?_ ?_ og
          · rcases ri_or (Xx x y) g with q | q <;> rw [q] <;> assumption
          · rcases ri_or (Xx x y) g with q | q <;> rw [q]
            · exact a2
            · rw [bk_bk]; exact a1
        obtain ⟨w, hw, uw, ew, lw⟩ := hi
        exact ih p' hp' ⟨w, hw, uw, ew, by omega⟩ (sg r) q1 q2 ep2
  intro h hh uh
  obtain ⟨p, hp, ep⟩ := pc_lab P hh uh
  have b := (C.1 h hh uh).2
  unfold inB at b
  exact main 32001 p hp ⟨h, hh, uh, ep, by unfold Vy; omega⟩ h hh uh ep
