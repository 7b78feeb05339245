/-! how often a round runs around a place just above a segment -/
def ri (X : Nat → Int) (g : Nat) : Nat := if X g < X (bk g) then g else bk g
def sn (X : Nat → Int) (g : Nat) : Int := if X g < X (bk g) then 1 else -1
theorem ri_t {X : Nat → Int} {g : Nat} (h : rt X g) : ri X g = g ∧ sn X g = 1 := ⟨if_pos h, if_pos h⟩
theorem ri_f {X : Nat → Int} {g : Nat} (h : ¬ rt X g) : ri X g = bk g ∧ sn X g = -1 := ⟨if_neg h, if_neg h⟩
def ov (X V : Nat → Int) (g v : Nat) : Prop := X (ri X g) < X v ∧ X v < X (bk (ri X g)) ∧ sS X V (ri X g) v < 0
def aA (X V : Nat → Int) (k g : Nat) : Prop := ov X V g k ∨ (X (ri X g) = X k ∧ 0 < sS X V k (bk (ri X g)))
def bB (X V : Nat → Int) (k g : Nat) : Prop := ov X V g (bk k) ∨ (X (bk (ri X g)) = X (bk k) ∧ 0 < sS X V k (ri X g))
def lL (X V : Nat → Int) (k p : Nat) : Prop := X k < X p ∧ X p < X (bk k) ∧ 0 < sS X V k p
theorem pif_add {P Q R : Prop} {v : Int} (h : R ↔ P ∨ Q) (n : ¬ (P ∧ Q)) : pif R v = pif P v + pif Q v := by
  by_cases p : P
  · rw [pif_t p, pif_t (h.mpr (Or.inl p)), pif_f (fun q => n ⟨p, q⟩)]; omega
  · by_cases q : Q
    · rw [pif_f p, pif_t q, pif_t (h.mpr (Or.inr q))]; omega
    · rw [pif_f p, pif_f q, pif_f (fun r => (h.mp r).elim p q)]; rfl
theorem pif_and {P Q : Prop} {v : Int} : pif (P ∧ Q) v = pif P (pif Q v) := by
  by_cases p : P
  · rw [pif_t p]; exact pif_c ⟨fun q => q.2, fun q => ⟨p, q⟩⟩
  · rw [pif_f p, pif_f fun q => p q.1]
theorem pif_neg {P : Prop} {v : Int} : pif P (-v) = - pif P v := by by_cases p : P <;> simp [pif_t, pif_f, p]
theorem pif_sub {P : Prop} {v w : Int} : pif P (v - w) = pif P v - pif P w := by
  by_cases p : P
  · rw [pif_t p, pif_t p, pif_t p]
  · rw [pif_f p, pif_f p, pif_f p]; rfl
theorem Y_pair {X V : Nat → Int} {U : Nat → Prop} {N : Nat → Nat} (G : Geo X V U N) {k g : Nat} (hk : k < 120) (hg : g < 120) (uk : U k) (ug : U g) (rk : rt X k) : pif (aA X V k g) (- sn X g) - pif (bB X V k g) (- sn X g) = pif (lL X V k g) 1 - pif (lL X V k (bk g)) 1 := by
  have key : ∀ w, w < 120 → U w → rt X w → ri X g = w → pif (aA X V k g) 1 + pif (lL X V k w) 1 = pif (bB X V k g) 1 + pif (lL X V k (bk w)) 1 := by
    intro w hw uw rw_ ew
    have rk' : X k < X (bk k) := rk
    have rw' : X w < X (bk w) := rw_
    unfold aA bB ov
    rw [ew]
    by_cases same : w / 2 = k / 2
    · have e : w = k := by
        by_cases q : w = k
        · exact q
        · exfalso
          have e2 : w = bk k := by unfold bk; split <;> omega
          rw [e2, bk_bk] at rw'
          omega
      subst e
      rw [sS_end, sS_self, pif_f (by omega), pif_f (by unfold lL; omega), pif_f (by omega), pif_f (by unfold lL; omega)]
    · by_cases o1 : X w < X (bk k)
      · by_cases o2 : X k < X (bk w)
        · have t := T_geo G hk hw uk uw same rk rw_ o1 o2
          have e1 : pif (startP (X k) (X (bk k)) (X w) (X (bk w)) (sS X V k w) (sS X V k (bk w)) (sS X V w k)) 1 = pif ((X w < X k ∧ X k < X (bk w) ∧ sS X V w k < 0) ∨ (X w = X k ∧ 0 < sS X V k (bk w))) 1 + pif (lL X V k w) 1 := by
            refine pif_add ?_ ?_
            · unfold startP lL
              generalize sS X V k w = a
              generalize sS X V k (bk w) = b
              generalize sS X V w k = p
              omega
            · unfold lL; omega
          have e2 : pif (stopP (X k) (X (bk k)) (X w) (X (bk w)) (sS X V k w) (sS X V k (bk w)) (sS X V w (bk k))) 1 = pif ((X w < X (bk k) ∧ X (bk k) < X (bk w) ∧ sS X V w (bk k) < 0) ∨ (X (bk w) = X (bk k) ∧ 0 < sS X V k w)) 1 + pif (lL X V k (bk w)) 1 := by
            refine pif_add ?_ ?_
            · unfold stopP lL
              generalize sS X V k w = a
              generalize sS X V k (bk w) = b
              generalize sS X V w (bk k) = p
              omega
            · unfold lL; omega
          rw [← e1, ← e2]
          exact pif_c t
        · rw [pif_f (by omega), pif_f (by unfold lL; omega), pif_f (by omega), pif_f (by unfold lL; omega)]
      · rw [pif_f (by omega), pif_f (by unfold lL; omega), pif_f (by omega), pif_f (by unfold lL; omega)]
  have g1 := G.1
  by_cases rg : rt X g
  · have := key g hg ug rg (ri_t rg).1
    rw [(ri_t rg).2, pif_neg, pif_neg]
    omega
  · have gne := G.2.2.1 g hg ug
    have rg' : rt X (bk g) := by unfold rt at *; rw [bk_bk]; omega
    have := key (bk g) (bk_lt hg) (g1 g ug) rg' (ri_f rg).1
    rw [bk_bk] at this
    rw [(ri_f rg).2, show -(-1 : Int) = 1 by rfl]
    omega
/-- a set of halves that the next halves lead back into -/
def Cir (U : Nat → Prop) (N : Nat → Nat) (Q : Nat → Prop) : Prop := (∀ h, h < 120 → Q h → U h) ∧ ∀ h, h < 120 → Q h → Q (N h)
theorem cir_sum {X V : Nat → Int} {U : Nat → Prop} {N : Nat → Nat} {Q : Nat → Prop} (G : Geo X V U N) (C : Cir U N Q) (F : Nat → Int) : su (fun g => pif (Q g) (F (N g))) 120 = su (fun g => pif (Q g) (F g)) 120 :=
  su_perm (fun i hi si => ⟨(G.2.2.2.2.2.2.1.1 i hi (C.1 i hi si)).1, C.2 i hi si⟩) (fun i j hi hj si sj e => G.2.2.2.2.2.2.1.2 i j hi hj (C.1 i hi si) (C.1 j hj sj) e) F
/-- what depends on the point alone -/
theorem cir_pt {X V : Nat → Int} {U : Nat → Prop} {N : Nat → Nat} {Q : Nat → Prop} (G : Geo X V U N) (C : Cir U N Q) (F : Nat → Int) (hF : ∀ a b, X a = X b → V a = V b → F a = F b) : su (fun g => pif (Q g) (F (bk g))) 120 = su (fun g => pif (Q g) (F g)) 120 := by
  rw [← cir_sum G C F]
  refine su_c fun g hg => ?_
  by_cases q : Q g
  · rw [pif_t q, pif_t q]
    have ug := C.1 g hg q
    have hn := G.2.2.2.2.2.2.1.1 g hg ug
    have ex := G.2.2.2.2.2.2.2.1 g hg ug
    exact hF _ _ ex.symm (G.2.1 _ _ hn.1 (bk_lt hg) hn.2 (G.1 g ug) ex).symm
  · rw [pif_f q, pif_f q]
noncomputable def Ws (X V : Nat → Int) (Q : Nat → Prop) (k : Nat) : Int := su (fun g => pif (Q g ∧ aA X V k g) (- sn X g)) 120
noncomputable def Bs (X V : Nat → Int) (Q : Nat → Prop) (k : Nat) : Int := su (fun g => pif (Q g ∧ bB X V k g) (- sn X g)) 120
theorem Y_eq {X V : Nat → Int} {U : Nat → Prop} {N : Nat → Nat} {Q : Nat → Prop} (G : Geo X V U N) (C : Cir U N Q) {k : Nat} (hk : k < 120) (uk : U k) (rk : rt X k) : Ws X V Q k = Bs X V Q k := by
  have h : Ws X V Q k - Bs X V Q k = su (fun g => pif (Q g) (pif (lL X V k g) 1)) 120 - su (fun g => pif (Q g) (pif (lL X V k (bk g)) 1)) 120 := by
    unfold Ws Bs
    rw [← su_sub, ← su_sub]
    refine su_c fun g hg => ?_
    rw [pif_and, pif_and, ← pif_sub, ← pif_sub]
    by_cases q : Q g
    · rw [pif_t q, pif_t q]; exact Y_pair G hk hg uk (C.1 g hg q) rk
    · rw [pif_f q, pif_f q]
  have e := cir_pt G C (fun p => pif (lL X V k p) 1) (fun a b e1 e2 => pif_c (by unfold lL; rw [e1, sS_c e1 e2]))
  rw [e] at h
  omega
/-! around a point -/
noncomputable def base (X V : Nat → Int) (Q : Nat → Prop) (v : Nat) : Int := su (fun g => pif (Q g ∧ ov X V g v) (- sn X g)) 120
noncomputable def ph (Q : Nat → Prop) (g : Nat) : Int := pif (Q g) 1 - pif (Q (bk g)) 1
noncomputable def Phi (X : Nat → Int) (U Q : Nat → Prop) (v : Nat) (P : Nat → Prop) : Int := su (fun g => pif (U g ∧ X g = X v ∧ P g) (ph Q g)) 120
theorem su_bk (f : Nat → Int) : su (fun g => f (bk g)) 120 = su f 120 := by
  have := su_perm (n := 120) (S := fun _ => True) (p := bk) (fun i hi _ => ⟨bk_lt hi, trivial⟩) (fun i j _ _ _ _ e => bk_inj e) f
  have e1 : su (fun g => f (bk g)) 120 = su (fun i => pif True (f (bk i))) 120 := su_c fun i _ => (pif_t trivial).symm
  have e2 : su f 120 = su (fun i => pif True (f i)) 120 := su_c fun i _ => (pif_t trivial).symm
  rw [e1, e2]; exact this
theorem rt_bk {X V : Nat → Int} {U : Nat → Prop} {N : Nat → Nat} (G : Geo X V U N) {g : Nat} (hg : g < 120) (ug : U g) : rt X (bk g) ↔ ¬ rt X g := by
  have := G.2.2.1 g hg ug
  unfold rt; rw [bk_bk]; omega
theorem Ws_R {X V : Nat → Int} {U : Nat → Prop} {N : Nat → Nat} {Q : Nat → Prop} (G : Geo X V U N) (C : Cir U N Q) {k : Nat} : Ws X V Q k = base X V Q k - Phi X U Q k (fun g => rt X g ∧ 0 < sS X V k (bk g)) := by
  have e1 : Ws X V Q k = base X V Q k + su (fun g => pif (Q g ∧ X (ri X g) = X k ∧ 0 < sS X V k (bk (ri X g))) (- sn X g)) 120 := by
    unfold Ws base
    rw [← su_add]
    refine su_c fun g hg => pif_add (by unfold aA; exact ⟨fun q => q.2.elim (fun z => Or.inl ⟨q.1, z⟩) fun z => Or.inr ⟨q.1, z⟩, fun q => q.elim (fun z => ⟨z.1, Or.inl z.2⟩) fun z => ⟨z.1, Or.inr z.2⟩⟩) fun q => ?_
    have a := q.1.2.1
    have b := q.2.2.1
    omega
  have e2 : su (fun g => pif (Q g ∧ X (ri X g) = X k ∧ 0 < sS X V k (bk (ri X g))) (- sn X g)) 120 = su (fun g => pif (Q (bk g) ∧ rt X g ∧ X g = X k ∧ 0 < sS X V k (bk g)) 1) 120 - su (fun g => pif (Q g ∧ rt X g ∧ X g = X k ∧ 0 < sS X V k (bk g)) 1) 120 := by
    rw [← su_bk (fun g => pif (Q (bk g) ∧ rt X g ∧ X g = X k ∧ 0 < sS X V k (bk g)) 1), ← su_sub]
    refine su_c fun g hg => ?_
    rw [bk_bk]
    by_cases q : Q g
    · have ug := C.1 g hg q
      have rb := rt_bk G hg ug
      by_cases r : rt X g
      · rw [(ri_t r).1, (ri_t r).2, pif_f (P := Q g ∧ rt X (bk g) ∧ _) (fun z => rb.mp z.2.1 r), pif_neg, pif_c (P := Q g ∧ X g = X k ∧ 0 < sS X V k (bk g)) (Q := Q g ∧ rt X g ∧ X g = X k ∧ 0 < sS X V k (bk g)) ⟨fun z => ⟨z.1, r, z.2⟩, fun z => ⟨z.1, z.2.2⟩⟩]; omega
      · rw [(ri_f r).1, (ri_f r).2, bk_bk, show -(-1 : Int) = 1 from rfl, pif_f (P := Q g ∧ rt X g ∧ _) (fun z => r z.2.1), pif_c (P := Q g ∧ X (bk g) = X k ∧ 0 < sS X V k g) (Q := Q g ∧ rt X (bk g) ∧ X (bk g) = X k ∧ 0 < sS X V k g) ⟨fun z => ⟨z.1, rb.mpr r, z.2⟩, fun z => ⟨z.1, z.2.2⟩⟩]; omega
    · rw [pif_f fun z => q z.1, pif_f fun z => q z.1, pif_f fun z => q z.1]; rfl
  have e3 : Phi X U Q k (fun g => rt X g ∧ 0 < sS X V k (bk g)) = su (fun g => pif (Q g ∧ rt X g ∧ X g = X k ∧ 0 < sS X V k (bk g)) 1) 120 - su (fun g => pif (Q (bk g) ∧ rt X g ∧ X g = X k ∧ 0 < sS X V k (bk g)) 1) 120 := by
    unfold Phi ph
    rw [← su_sub]
    refine su_c fun g hg => ?_
    rw [pif_sub, ← pif_and, ← pif_and]
    have c1 : ((U g ∧ X g = X k ∧ rt X g ∧ 0 < sS X V k (bk g)) ∧ Q g) ↔ (Q g ∧ rt X g ∧ X g = X k ∧ 0 < sS X V k (bk g)) := ⟨fun z => ⟨z.2, z.1.2.2.1, z.1.2.1, z.1.2.2.2⟩, fun z => ⟨⟨C.1 g hg z.1, z.2.2.1, z.2.1, z.2.2.2⟩, z.1⟩⟩
    have c2 : ((U g ∧ X g = X k ∧ rt X g ∧ 0 < sS X V k (bk g)) ∧ Q (bk g)) ↔ (Q (bk g) ∧ rt X g ∧ X g = X k ∧ 0 < sS X V k (bk g)) := ⟨fun z => ⟨z.2, z.1.2.2.1, z.1.2.1, z.1.2.2.2⟩, fun z => ⟨⟨by have := G.1 _ (C.1 _ (bk_lt hg) z.1); rw [bk_bk] at this; exact this, z.2.2.1, z.2.1, z.2.2.2⟩, z.1⟩⟩
    rw [pif_c c1, pif_c c2]
  rw [e1, e2, e3]; omega
theorem Bs_L {X V : Nat → Int} {U : Nat → Prop} {N : Nat → Nat} {Q : Nat → Prop} (G : Geo X V U N) (C : Cir U N Q) {k : Nat} : Bs X V Q k = base X V Q (bk k) + Phi X U Q (bk k) (fun g => ¬ rt X g ∧ 0 < sS X V k (bk g)) := by
  have e1 : Bs X V Q k = base X V Q (bk k) + su (fun g => pif (Q g ∧ X (bk (ri X g)) = X (bk k) ∧ 0 < sS X V k (ri X g)) (- sn X g)) 120 := by
    unfold Bs base
    rw [← su_add]
    refine su_c fun g hg => pif_add (by unfold bB; exact ⟨fun q => q.2.elim (fun z => Or.inl ⟨q.1, z⟩) fun z => Or.inr ⟨q.1, z⟩, fun q => q.elim (fun z => ⟨z.1, Or.inl z.2⟩) fun z => ⟨z.1, Or.inr z.2⟩⟩) fun q => ?_
    have a := q.1.2.2.1
    have b := q.2.2.1
    omega
  have e2 : su (fun g => pif (Q g ∧ X (bk (ri X g)) = X (bk k) ∧ 0 < sS X V k (ri X g)) (- sn X g)) 120 = su (fun g => pif (Q g ∧ ¬ rt X g ∧ X g = X (bk k) ∧ 0 < sS X V k (bk g)) 1) 120 - su (fun g => pif (Q (bk g) ∧ ¬ rt X g ∧ X g = X (bk k) ∧ 0 < sS X V k (bk g)) 1) 120 := by
    rw [← su_bk (fun g => pif (Q (bk g) ∧ ¬ rt X g ∧ X g = X (bk k) ∧ 0 < sS X V k (bk g)) 1), ← su_sub]
    refine su_c fun g hg => ?_
    rw [bk_bk]
    by_cases q : Q g
    · have ug := C.1 g hg q
      have rb := rt_bk G hg ug
      by_cases r : rt X g
      · rw [(ri_t r).1, (ri_t r).2, pif_f (P := Q g ∧ ¬ rt X g ∧ _) (fun z => z.2.1 r), pif_neg, pif_c (P := Q g ∧ X (bk g) = X (bk k) ∧ 0 < sS X V k g) (Q := Q g ∧ ¬ rt X (bk g) ∧ X (bk g) = X (bk k) ∧ 0 < sS X V k g) ⟨fun z => ⟨z.1, fun w => rb.mp w r, z.2⟩, fun z => ⟨z.1, z.2.2⟩⟩]; omega
      · rw [(ri_f r).1, (ri_f r).2, bk_bk, show -(-1 : Int) = 1 from rfl, pif_f (P := Q g ∧ ¬ rt X (bk g) ∧ _) (fun z => z.2.1 (rb.mpr r)), pif_c (P := Q g ∧ X g = X (bk k) ∧ 0 < sS X V k (bk g)) (Q := Q g ∧ ¬ rt X g ∧ X g = X (bk k) ∧ 0 < sS X V k (bk g)) ⟨fun z => ⟨z.1, r, z.2⟩, fun z => ⟨z.1, z.2.2⟩⟩]; omega
    · rw [pif_f fun z => q z.1, pif_f fun z => q z.1, pif_f fun z => q z.1]; rfl
  have e3 : Phi X U Q (bk k) (fun g => ¬ rt X g ∧ 0 < sS X V k (bk g)) = su (fun g => pif (Q g ∧ ¬ rt X g ∧ X g = X (bk k) ∧ 0 < sS X V k (bk g)) 1) 120 - su (fun g => pif (Q (bk g) ∧ ¬ rt X g ∧ X g = X (bk k) ∧ 0 < sS X V k (bk g)) 1) 120 := by
    unfold Phi ph
    rw [← su_sub]
    refine su_c fun g hg => ?_
    rw [pif_sub, ← pif_and, ← pif_and]
    have c1 : ((U g ∧ X g = X (bk k) ∧ ¬ rt X g ∧ 0 < sS X V k (bk g)) ∧ Q g) ↔ (Q g ∧ ¬ rt X g ∧ X g = X (bk k) ∧ 0 < sS X V k (bk g)) := ⟨fun z => ⟨z.2, z.1.2.2.1, z.1.2.1, z.1.2.2.2⟩, fun z => ⟨⟨C.1 g hg z.1, z.2.2.1, z.2.1, z.2.2.2⟩, z.1⟩⟩
    have c2 : ((U g ∧ X g = X (bk k) ∧ ¬ rt X g ∧ 0 < sS X V k (bk g)) ∧ Q (bk g)) ↔ (Q (bk g) ∧ ¬ rt X g ∧ X g = X (bk k) ∧ 0 < sS X V k (bk g)) := ⟨fun z => ⟨z.2, z.1.2.2.1, z.1.2.1, z.1.2.2.2⟩, fun z => ⟨⟨by have := G.1 _ (C.1 _ (bk_lt hg) z.1); rw [bk_bk] at this; exact this, z.2.2.1, z.2.1, z.2.2.2⟩, z.1⟩⟩
    rw [pif_c c1, pif_c c2]
  rw [e1, e2, e3]
/-- what comes to a point leaves it -/
theorem Phi_all {X V : Nat → Int} {U : Nat → Prop} {N : Nat → Nat} {Q : Nat → Prop} (G : Geo X V U N) (C : Cir U N Q) {v : Nat} : Phi X U Q v (fun _ => True) = 0 := by
  have e3 : Phi X U Q v (fun _ => True) = su (fun g => pif (Q g) (pif (X g = X v) 1)) 120 - su (fun g => pif (Q (bk g)) (pif (X g = X v) 1)) 120 := by
    unfold Phi ph
    rw [← su_sub]
    refine su_c fun g hg => ?_
    rw [pif_sub, ← pif_and, ← pif_and, ← pif_and, ← pif_and]
    have c1 : ((U g ∧ X g = X v ∧ True) ∧ Q g) ↔ (Q g ∧ X g = X v) := ⟨fun z => ⟨z.2, z.1.2.1⟩, fun z => ⟨⟨C.1 g hg z.1, z.2, trivial⟩, z.1⟩⟩
    have c2 : ((U g ∧ X g = X v ∧ True) ∧ Q (bk g)) ↔ (Q (bk g) ∧ X g = X v) := ⟨fun z => ⟨z.2, z.1.2.1⟩, fun z => ⟨⟨by have := G.1 _ (C.1 _ (bk_lt hg) z.1); rw [bk_bk] at this; exact this, z.2, trivial⟩, z.1⟩⟩
    rw [pif_c c1, pif_c c2]
  have e4 : su (fun g => pif (Q (bk g)) (pif (X g = X v) 1)) 120 = su (fun g => pif (Q g) (pif (X (bk g) = X v) 1)) 120 := by
    rw [← su_bk (fun g => pif (Q (bk g)) (pif (X g = X v) 1))]
    exact su_c fun g _ => by rw [bk_bk]
  have e5 := cir_pt G C (fun p => pif (X p = X v) 1) (fun a b e1 e2 => by rw [e1])
  rw [e3, e4]
  rw [e5]; omega
theorem Phi_c {X : Nat → Int} {U Q : Nat → Prop} {v w : Nat} {P P' : Nat → Prop} (e : X v = X w) (h : ∀ g, g < 120 → U g → X g = X v → (P g ↔ P' g)) : Phi X U Q v P = Phi X U Q w P' := by
  refine su_c fun g hg => pif_c ⟨fun z => ⟨z.1, by rw [← e]; exact z.2.1, (h g hg z.1 z.2.1).mp z.2.2⟩, fun z => ⟨z.1, by rw [e]; exact z.2.1, (h g hg z.1 (by rw [e]; exact z.2.1)).mpr z.2.2⟩⟩
theorem Phi_add {X : Nat → Int} {U Q : Nat → Prop} {v : Nat} {P P1 P2 : Nat → Prop} (h : ∀ g, g < 120 → U g → X g = X v → ((P g ↔ P1 g ∨ P2 g) ∧ ¬ (P1 g ∧ P2 g))) : Phi X U Q v P = Phi X U Q v P1 + Phi X U Q v P2 := by
  unfold Phi
  rw [← su_add]
  refine su_c fun g hg => ?_
  by_cases z : U g ∧ X g = X v
  · obtain ⟨h1, h2⟩ := h g hg z.1 z.2
    exact pif_add ⟨fun w => (h1.mp w.2.2).elim (fun q => Or.inl ⟨w.1, w.2.1, q⟩) fun q => Or.inr ⟨w.1, w.2.1, q⟩, fun w => w.elim (fun q => ⟨q.1, q.2.1, h1.mpr (Or.inl q.2.2)⟩) fun q => ⟨q.1, q.2.1, h1.mpr (Or.inr q.2.2)⟩⟩ fun w => h2 ⟨w.1.2.2, w.2.2.2⟩
  · rw [pif_f fun q => z ⟨q.1, q.2.1⟩, pif_f fun q => z ⟨q.1, q.2.1⟩, pif_f fun q => z ⟨q.1, q.2.1⟩]; rfl
theorem Phi_one {X : Nat → Int} {U Q : Nat → Prop} {v k : Nat} (hk : k < 120) (uk : U k) (e : X k = X v) : Phi X U Q v (fun g => g = k) = ph Q k := by
  unfold Phi
  have : su (fun g => pif (U g ∧ X g = X v ∧ g = k) (ph Q g)) 120 = su (fun g => pif (g = k) (ph Q k)) 120 := su_c fun g hg => by
    by_cases q : g = k
    · rw [q, pif_t ⟨uk, e, rfl⟩, pif_t rfl]
    · rw [pif_f q, pif_f fun z => q z.2.2]
  rw [this, su_one hk]
theorem Phi_0 {X : Nat → Int} {U Q : Nat → Prop} {v : Nat} {P : Nat → Prop} (h : ∀ g, g < 120 → U g → X g = X v → ¬ P g) : Phi X U Q v P = 0 := su_0 fun g hg => pif_f fun z => h g hg z.1 z.2.1 z.2.2
