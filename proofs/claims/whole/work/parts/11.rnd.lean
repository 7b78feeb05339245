-- X1_findCorners
abbrev rm_X1_findCorners : Room := { frames := 1, cells := 0, slots := 0, locals := 23 }
theorem f_X1_findCorners_0 : (Cond.fieldLink RX1 18 "PlaneFaces$Rounds" "corner" "[I") ∈ wsX1_findCorners := by decide +kernel
theorem f_X1_findCorners_1 : ∀ w ∈ wsX10, w ∈ wsX1_findCorners := by decide +kernel
theorem f_X1_findCorners_2 : (Cond.fieldLink RX1 12 "PlaneFaces$Rounds" "segments" "LPlaneFaces$Segments;") ∈ wsX1_findCorners := by decide +kernel
theorem f_X1_findCorners_3 : (Cond.fieldLink RX1 54 "PlaneFaces$Segments" "used" "[Z") ∈ wsX1_findCorners := by decide +kernel
theorem f_X1_findCorners_4 : ∀ w ∈ wsX20, w ∈ wsX1_findCorners := by decide +kernel
theorem f_X1_findCorners_5 : (Cond.fieldLink RX1 71 "PlaneFaces$Segments" "x" "[I") ∈ wsX1_findCorners := by decide +kernel
theorem f_X1_findCorners_6 : (Cond.fieldLink RX1 74 "PlaneFaces$Segments" "y" "[I") ∈ wsX1_findCorners := by decide +kernel
set_option maxRecDepth 100000 in
set_option maxHeartbeats 4000000 in
theorem l_X1_findCorners_2 {p : Program} {l : Launch} {e : Env} {s : State} {m : MethodId} {args : Array Value} {below : List Frame} {meth : Method} {c : Code} {Q : State → Prop} {dC : Nat → ClassId} {dI : Nat → Nat → Nat} {cI cJ cZ : ClassId} {ad : Nat → Nat} {fo : Nat → Int32} {ro : Nat → Int32} {po : Nat → Int32} {pn : Int32} {rd : Nat → Int32} {st : Nat → Int32} {tw : Nat → Int64} {od : Nat → Int32} {rn : Int32} {x : Nat → Int32} {y : Nat → Int32} {u : Nat → Int32} {sn : Int32}  {K63 : (Nat → Int32) → Prop} (C : CallFix p m c cX1_findCorners 2 s args wsX1_findCorners RX1) (hK : va_K (dC, dI) vwCl (tyL cI cJ cZ) s) {A : Nat → Prop} (hA : ∀ q : Nat, s.heap.size ≤ q → A q) (hk63 : ∀ (co_w : Nat → Int32) (ls : Array Slot) (H : Heap) (locs : List Loc), lv_has ls 2 [(0, .ref (ad 7))] → va_P (dC, dI) vwCl (wRnd ad cI cJ cZ co_w fo ro po pn rd st tw od rn x y u sn) H → va_D A (wRnd ad cI cJ cZ co_w fo ro po pn rd st tw od rn x y u sn) → va_S A s.heap H locs → K63 co_w → W p l e rm_X1_findCorners s m args below meth c H locs 0 0 Q (F0 m 63 ls [])) : ∀ (n : Nat) (co : Nat → Int32) (v1 : Int32) (ls : Array Slot) (H : Heap) (locs : List Loc), lv_has ls 2 [(0, .ref (ad 7)), (1, .int v1)] → va_P (dC, dI) vwCl (wRnd ad cI cJ cZ co fo ro po pn rd st tw od rn x y u sn) H → va_D A (wRnd ad cI cJ cZ co fo ro po pn rd st tw od rn x y u sn) → va_S A s.heap H locs → lp_X1_findCorners_2 x y u K63 n co v1 → W p l e rm_X1_findCorners s m args below meth c H locs 0 0 Q (F0 m 2 ls []) := by
  obtain ⟨hx, hb, hml, hown, hts⟩ := id C
  intro n
  induction n with
  | zero =>
    intro co v1 ls H locs hl hP hD hS hw
    rw [lp_X1_findCorners_2.eq_1] at hw
    exact hw.elim
  | succ n ih =>
    intro co v1 ls H locs hl hP hD hS hw
    rw [lp_X1_findCorners_2.eq_2] at hw
    refine lv_iload_n hx hb dX1_findCorners_2 rfl (lv_at hl 1 rfl) ?_
    refine lv_bipush (v := 120) hx hb dX1_findCorners_3 (by decide) ?_
    refine lv_icmp_ge (tgt := 63) hx hb dX1_findCorners_5 (by decide) (fun hc => ?_) (fun hc => ?_)
    · have hw := hw.1 (hc)
      exact hk63 co ls _ _ (lv_sub hl [0] rfl) hP hD hS hw
    · have hw := hw.2 hc
      refine lv_aload_n hx hb dX1_findCorners_8 rfl (lv_at hl 0 rfl) ?_
      refine va_get (D := (dC, dI)) (ci := 1) (v := .ref (ad 8)) (C := RX1) (T := TX1) (N := 11) hx hb hts f_X1_findCorners_1 hown hK hP 0 rfl rfl 1 (by decide) (hts _ f_X1_findCorners_0) (fun _ h9 => h9) rfl dX1_findCorners_9 ?_
      refine lv_iload_n hx hb dX1_findCorners_12 rfl (lv_at hl 1 rfl) ?_
      refine lv_aload_n hx hb dX1_findCorners_13 rfl (lv_at hl 0 rfl) ?_
      refine va_get (D := (dC, dI)) (ci := 1) (v := .ref (ad 16)) (C := RX1) (T := TX1) (N := 11) hx hb hts f_X1_findCorners_1 hown hK hP 0 rfl rfl 0 (by decide) (hts _ f_X1_findCorners_2) (fun _ h9 => h9) rfl dX1_findCorners_14 ?_
      refine va_get (D := (dC, dI)) (ci := 2) (v := .ref (ad 19)) (C := RX2) (T := TX2) (N := 4) hx hb hts f_X1_findCorners_4 hown hK hP 9 rfl rfl 2 (by decide) (hts _ f_X1_findCorners_3) (fun _ h9 => h9) rfl dX1_findCorners_17 ?_
      refine lv_iload_n hx hb dX1_findCorners_20 rfl (lv_at hl 1 rfl) ?_
      refine lv_iconst (v := 1) hx hb dX1_findCorners_21 (by decide) ?_
      refine lv_ishr hx hb dX1_findCorners_22 ?_
      have hi := hw.1
      have hw := hw.2
      refine va_zald hx hb hK hP 12 2 rfl rfl hi dX1_findCorners_23 ?_
      refine jn2_use (J := fun (k1 : Int32) (k2 : Int32) => ∀ (ls : Array Slot) (H : Heap) (locs : List Loc), lv_has ls 2 [(0, .ref (ad 7)), (1, .int v1)] → va_P (dC, dI) vwCl (wRnd ad cI cJ cZ co fo ro po pn rd st tw od rn x y u sn) H → va_D A (wRnd ad cI cJ cZ co fo ro po pn rd st tw od rn x y u sn) → va_S A s.heap H locs → W p l e rm_X1_findCorners s m args below meth c H locs 0 0 Q (F0 m 56 ls [.int k1, .int k2, .ref (ad 8)])) hw (fun k1 k2 hw ls H locs hl hP hD hS => ?_) (fun hw hj0 => ?_)
      · have hi := hw.1
        have hw := hw.2 _ rfl
        refine va_iast hx hb hK hP hD hS 1 0 rfl rfl hi dX1_findCorners_56 (fun H locs hP hD hS => ?_)
        generalize hco_5 : (upd co k2.toNatClampNeg k1) = co_5 at hw hP hD
        have hP : va_P (dC, dI) vwCl (wRnd ad cI cJ cZ co_5 fo ro po pn rd st tw od rn x y u sn) H := hP
        have hD : va_D A (wRnd ad cI cJ cZ co_5 fo ro po pn rd st tw od rn x y u sn) := hD
        refine lv_iinc (v := (v1 + (1 : Int32))) (lv' := [(1, .int (v1 + (1 : Int32))), (0, .ref (ad 7))]) hx hb dX1_findCorners_57 hl (k := 1) rfl rfl (by decide) rfl (fun ls hl => ?_)
        refine lv_goto (tgt := 2) hx hb dX1_findCorners_60 (by decide) ?_
        exact ih co_5 (v1 + (1 : Int32)) ls _ _ (lv_sub hl [1, 0] rfl) hP hD hS hw
      · have hj4 := hj0
        refine lv_if_eq (tgt := 55) hx hb dX1_findCorners_24 (by decide) (fun hc => ?_) (fun hc => ?_)
        · have hw := hw.1 (hc)
          refine lv_iconst (v := -1) hx hb dX1_findCorners_55 (by decide) ?_
          exact hj4 (-1 : Int32) v1 hw ls _ _ (lv_sub hl [0, 1] rfl) hP hD hS
        · have hw := hw.2 hc
          refine lv_aload_n hx hb dX1_findCorners_27 rfl (lv_at hl 0 rfl) ?_
          refine va_get (D := (dC, dI)) (ci := 1) (v := .ref (ad 16)) (C := RX1) (T := TX1) (N := 11) hx hb hts f_X1_findCorners_1 hown hK hP 0 rfl rfl 0 (by decide) (hts _ f_X1_findCorners_2) (fun _ h9 => h9) rfl dX1_findCorners_28 ?_
          refine lv_aload_n hx hb dX1_findCorners_31 rfl (lv_at hl 0 rfl) ?_
          refine va_get (D := (dC, dI)) (ci := 1) (v := .ref (ad 16)) (C := RX1) (T := TX1) (N := 11) hx hb hts f_X1_findCorners_1 hown hK hP 0 rfl rfl 0 (by decide) (hts _ f_X1_findCorners_2) (fun _ h9 => h9) rfl dX1_findCorners_32 ?_
          refine va_get (D := (dC, dI)) (ci := 2) (v := .ref (ad 17)) (C := RX2) (T := TX2) (N := 4) hx hb hts f_X1_findCorners_4 hown hK hP 9 rfl rfl 0 (by decide) (hts _ f_X1_findCorners_5) (fun _ h9 => h9) rfl dX1_findCorners_35 ?_
          refine lv_iload_n hx hb dX1_findCorners_38 rfl (lv_at hl 1 rfl) ?_
          have hi := hw.1
          have hw := hw.2
          refine va_iald hx hb hK hP 10 0 rfl rfl hi dX1_findCorners_39 ?_
          refine lv_aload_n hx hb dX1_findCorners_40 rfl (lv_at hl 0 rfl) ?_
          refine va_get (D := (dC, dI)) (ci := 1) (v := .ref (ad 16)) (C := RX1) (T := TX1) (N := 11) hx hb hts f_X1_findCorners_1 hown hK hP 0 rfl rfl 0 (by decide) (hts _ f_X1_findCorners_2) (fun _ h9 => h9) rfl dX1_findCorners_41 ?_
          refine va_get (D := (dC, dI)) (ci := 2) (v := .ref (ad 18)) (C := RX2) (T := TX2) (N := 4) hx hb hts f_X1_findCorners_4 hown hK hP 9 rfl rfl 1 (by decide) (hts _ f_X1_findCorners_6) (fun _ h9 => h9) rfl dX1_findCorners_44 ?_
          refine lv_iload_n hx hb dX1_findCorners_47 rfl (lv_at hl 1 rfl) ?_
          have hi := hw.1
          have hw := hw.2
          refine va_iald hx hb hK hP 11 0 rfl rfl hi dX1_findCorners_48 ?_
          have hPc := hP.sub (ws' := (wSeg ad cI cJ cZ x y u sn)) [9, 10, 11, 12] rfl
          refine vp_callSi (W.runV (As := [.int (x v1.toNatClampNeg), .int (y v1.toNatClampNeg)]) (rest := [.int v1, .ref (ad 8)]) C (c_X2_leastHalfAt l dC dI cI cJ cZ ad x y u sn (x v1.toNatClampNeg) (y v1.toNatClampNeg) hw) (cwV 2 hts gX1_findCorners_X2_leastHalfAt rfl rfl rfl (by decide +kernel) ⟨Nat.le_of_ble_eq_true rfl, Nat.le_of_ble_eq_true rfl⟩) ⟨fb_ro, va_recv hK hPc (ci := 2) (q0 := 0) rfl rfl, fun U hU hW => ⟨rfl, by rw [hU]; exact hPc, va_K.moved hW.alike hK⟩⟩ rfl rfl hl.1 rfl (lv_room (Nat.le_of_ble_eq_true rfl)) dX1_findCorners_49 ⟨Nat.zero_le _, Nat.zero_le _⟩) (fun r6 hw => ?_)
          refine lv_goto (tgt := 56) hx hb dX1_findCorners_52 (by decide) ?_
          exact hj4 r6 v1 hw ls _ _ (lv_sub hl [0, 1] rfl) hP hD hS
set_option maxRecDepth 100000 in
set_option maxHeartbeats 4000000 in
theorem c_X1_findCorners (l : Launch) (dC : Nat → ClassId) (dI : Nat → Nat → Nat) (cI cJ cZ : ClassId) (ad : Nat → Nat) (sz : Nat) (co : Nat → Int32) (fo : Nat → Int32) (ro : Nat → Int32) (po : Nat → Int32) (pn : Int32) (rd : Nat → Int32) (st : Nat → Int32) (tw : Nat → Int64) (od : Nat → Int32) (rn : Int32) (x : Nat → Int32) (y : Nat → Int32) (u : Nat → Int32) (sn : Int32)  {post : (Nat → Int32) → Prop} (hw : wp_X1_findCorners co x y u post) : Met l yX1_findCorners wsX1_findCorners rm_X1_findCorners (va_Pc [.ref (ad 7)] (fun U => U.heap.size = sz ∧ va_P (dC, dI) vwCl (wRnd ad cI cJ cZ co fo ro po pn rd st tw od rn x y u sn) U.heap ∧ va_K (dC, dI) vwCl (tyL cI cJ cZ) U ∧ va_D (fun _ => True) (wRnd ad cI cJ cZ co fo ro po pn rd st tw od rn x y u sn))) (va_Qv (fun uu : (Nat → Int32) => post uu) (fun (uu : (Nat → Int32)) (t : State) => va_P (dC, dI) vwCl (wRnd ad cI cJ cZ uu fo ro po pn rd st tw od rn x y u sn) t.heap ∧ va_D (va_A (wRnd ad cI cJ cZ co fo ro po pn rd st tw od rn x y u sn) sz) (wRnd ad cI cJ cZ uu fo ro po pn rd st tw od rn x y u sn)) (va_A (wRnd ad cI cJ cZ co fo ro po pn rd st tw od rn x y u sn) sz)) 0 0 (va_A (wRnd ad cI cJ cZ co fo ro po pn rd st tw od rn x y u sn) sz) := by
  unfold wp_X1_findCorners at hw
  refine Met.ofW (cc := cX1_findCorners) (maxL := 2) (ret := none) (by decide) rfl ?_
  intro p e s m args below meth c s₁ B hml hv
  obtain ⟨hav, hsz, hP, hK, hD0⟩ := hv
  have hx := B.exec
  have hb := B.bytes
  have hr := B.returns
  have hts := atoms_spec (ws := wsX1_findCorners) B.pre
  have hown : s.vm.findClass RX1 = some m.cls := findClass_of_methodNamed B.named
  have hlocks := B.notSynchronized
  have C : CallFix p m c cX1_findCorners 2 s args wsX1_findCorners RX1 := ⟨hx, hb, hml, hown, hts⟩
  obtain ⟨ls, hE, hl⟩ := mx_entry (m := m) [.ref (ad 7)] (n := 2) (Nat.le_of_ble_eq_true rfl)
  have hl : lv_has ls 2 [(0, .ref (ad 7))] := hl
  rw [show entryFrame m args 2 = F0 m 0 ls [] by rw [hav]; exact hE]
  subst hsz
  have hD := hD0.self (sz := s.heap.size)
  generalize hAe : va_A (wRnd ad cI cJ cZ co fo ro po pn rd st tw od rn x y u sn) s.heap.size = A at hD ⊢
  have hA : ∀ q : Nat, s.heap.size ≤ q → A q := fun q h => by rw [← hAe]; exact Or.inr h
  have hS : va_S A s.heap s.heap [] := va_S.rf
  obtain ⟨Q, hQ⟩ : ∃ Q, MQ below (va_Qv (fun uu : (Nat → Int32) => post uu) (fun (uu : (Nat → Int32)) (t : State) => va_P (dC, dI) vwCl (wRnd ad cI cJ cZ uu fo ro po pn rd st tw od rn x y u sn) t.heap ∧ va_D A (wRnd ad cI cJ cZ uu fo ro po pn rd st tw od rn x y u sn)) A) args s 0 0 A = Q := ⟨_, rfl⟩
  rw [hQ]
  obtain ⟨H, hH⟩ : ∃ H, s.heap = H := ⟨_, rfl⟩
  have hS : va_S A s.heap H [] := by rw [← hH]; exact hS
  rw [hH] at hP
  show W p l e rm_X1_findCorners s m args below meth c s.heap [] 0 0 Q (F0 m 0 ls [])
  suffices hg : W p l e rm_X1_findCorners s m args below meth c H [] 0 0 Q (F0 m 0 ls []) by rw [hH]; exact hg
  clear hH
  generalize hlo : ([] : List Loc) = locs at hS ⊢
  refine lv_iconst (v := 0) hx hb dX1_findCorners_0 (by decide) ?_
  refine lv_istore_n (lv' := [(1, .int (0 : Int32)), (0, .ref (ad 7))]) hx hb dX1_findCorners_1 rfl hl (by decide) rfl (fun ls hl => ?_)
  obtain ⟨n8, hw⟩ := hw
  refine l_X1_findCorners_2 C hK hA (fun co_7 ls H locs hl hP hD hS hw => ?_) n8 co (0 : Int32) ls _ _ (lv_sub hl [1, 0] rfl) hP hD hS hw
  rw [← hQ]
  exact W.vret hx hb hr (fun t ht hW => ⟨⟨co_7, rfl, hw, by rw [ht]; exact hP, hD⟩, hS.F ht⟩) hS.2.2 dX1_findCorners_63
-- X1_corners
abbrev rm_X1_corners : Room := { frames := 0, cells := 0, slots := 0, locals := 0 }
theorem f_X1_corners_0 : (Cond.fieldLink RX1 12 "PlaneFaces$Rounds" "segments" "LPlaneFaces$Segments;") ∈ wsX1_corners := by decide +kernel
theorem f_X1_corners_1 : ∀ w ∈ wsX10, w ∈ wsX1_corners := by decide +kernel
theorem f_X1_corners_2 : (Cond.fieldLink RX1 54 "PlaneFaces$Segments" "used" "[Z") ∈ wsX1_corners := by decide +kernel
theorem f_X1_corners_3 : ∀ w ∈ wsX20, w ∈ wsX1_corners := by decide +kernel
theorem f_X1_corners_4 : (Cond.fieldLink RX1 18 "PlaneFaces$Rounds" "corner" "[I") ∈ wsX1_corners := by decide +kernel
set_option maxRecDepth 100000 in
set_option maxHeartbeats 4000000 in
theorem l_X1_corners_4 {p : Program} {l : Launch} {e : Env} {s : State} {m : MethodId} {args : Array Value} {below : List Frame} {meth : Method} {c : Code} {Q : State → Prop} {dC : Nat → ClassId} {dI : Nat → Nat → Nat} {cI cJ cZ : ClassId} {ad : Nat → Nat} {co : Nat → Int32} {fo : Nat → Int32} {ro : Nat → Int32} {po : Nat → Int32} {pn : Int32} {rd : Nat → Int32} {st : Nat → Int32} {tw : Nat → Int64} {od : Nat → Int32} {rn : Int32} {x : Nat → Int32} {y : Nat → Int32} {u : Nat → Int32} {sn : Int32}  {K43 : Int32 → Prop} (C : CallFix p m c cX1_corners 3 s args wsX1_corners RX1) (hK : va_K (dC, dI) vwCl (tyL cI cJ cZ) s) {H : Heap} (hP : va_P (dC, dI) vwCl (wRnd ad cI cJ cZ co fo ro po pn rd st tw od rn x y u sn) H) (hk43 : ∀ (w1 : Int32) (ls : Array Slot), lv_has ls 3 [(0, .ref (ad 7)), (1, .int w1)] → K43 w1 → W p l e rm_X1_corners s m args below meth c H [] 0 0 Q (F0 m 43 ls [])) : ∀ (n : Nat) (v1 : Int32) (v2 : Int32) (ls : Array Slot), lv_has ls 3 [(0, .ref (ad 7)), (1, .int v1), (2, .int v2)] → lp_X1_corners_4 co u K43 n v1 v2 → W p l e rm_X1_corners s m args below meth c H [] 0 0 Q (F0 m 4 ls []) := by
  obtain ⟨hx, hb, hml, hown, hts⟩ := id C
  intro n
  induction n with
  | zero =>
    intro v1 v2 ls hl hw
    rw [lp_X1_corners_4.eq_1] at hw
    exact hw.elim
  | succ n ih =>
    intro v1 v2 ls hl hw
    rw [lp_X1_corners_4.eq_2] at hw
    refine lv_iload_n hx hb dX1_corners_4 rfl (lv_at hl 2 rfl) ?_
    refine lv_bipush (v := 120) hx hb dX1_corners_5 (by decide) ?_
    refine lv_icmp_ge (tgt := 43) hx hb dX1_corners_7 (by decide) (fun hc => ?_) (fun hc => ?_)
    · have hw := hw.1 (hc)
      exact hk43 v1 ls (lv_sub hl [0, 1] rfl) hw
    · have hw := hw.2 hc
      refine lv_aload_n hx hb dX1_corners_10 rfl (lv_at hl 0 rfl) ?_
      refine va_get (D := (dC, dI)) (ci := 1) (v := .ref (ad 16)) (C := RX1) (T := TX1) (N := 11) hx hb hts f_X1_corners_1 hown hK hP 0 rfl rfl 0 (by decide) (hts _ f_X1_corners_0) (fun _ h9 => h9) rfl dX1_corners_11 ?_
      refine va_get (D := (dC, dI)) (ci := 2) (v := .ref (ad 19)) (C := RX2) (T := TX2) (N := 4) hx hb hts f_X1_corners_3 hown hK hP 9 rfl rfl 2 (by decide) (hts _ f_X1_corners_2) (fun _ h9 => h9) rfl dX1_corners_14 ?_
      refine lv_iload_n hx hb dX1_corners_17 rfl (lv_at hl 2 rfl) ?_
      refine lv_iconst (v := 1) hx hb dX1_corners_18 (by decide) ?_
      refine lv_ishr hx hb dX1_corners_19 ?_
      have hi := hw.1
      have hw := hw.2
      refine va_zald hx hb hK hP 12 2 rfl rfl hi dX1_corners_20 ?_
      refine jn1_use (J := fun (j1 : Int32) => ∀ ls : Array Slot, lv_has ls 3 [(0, .ref (ad 7)), (1, .int j1), (2, .int v2)] → W p l e rm_X1_corners s m args below meth c H [] 0 0 Q (F0 m 37 ls [])) hw (fun j1 hw ls hl => ?_) (fun hw hj0 => ?_)
      · refine lv_iinc (v := (v2 + (1 : Int32))) (lv' := [(2, .int (v2 + (1 : Int32))), (0, .ref (ad 7)), (1, .int j1)]) hx hb dX1_corners_37 hl (k := 2) rfl rfl (by decide) rfl (fun ls hl => ?_)
        refine lv_goto (tgt := 4) hx hb dX1_corners_40 (by decide) ?_
        exact ih j1 (v2 + (1 : Int32)) ls (lv_sub hl [1, 2, 0] rfl) hw
      · have hj3 := hj0
        refine lv_if_eq (tgt := 37) hx hb dX1_corners_21 (by decide) (fun hc => ?_) (fun hc => ?_)
        · have hw := hw.1 (hc)
          exact hj3 v1 hw ls (lv_sub hl [0, 1, 2] rfl)
        · have hw := hw.2 hc
          refine lv_aload_n hx hb dX1_corners_24 rfl (lv_at hl 0 rfl) ?_
          refine va_get (D := (dC, dI)) (ci := 1) (v := .ref (ad 8)) (C := RX1) (T := TX1) (N := 11) hx hb hts f_X1_corners_1 hown hK hP 0 rfl rfl 1 (by decide) (hts _ f_X1_corners_4) (fun _ h9 => h9) rfl dX1_corners_25 ?_
          refine lv_iload_n hx hb dX1_corners_28 rfl (lv_at hl 2 rfl) ?_
          have hi := hw.1
          have hw := hw.2
          refine va_iald hx hb hK hP 1 0 rfl rfl hi dX1_corners_29 ?_
          refine lv_iload_n hx hb dX1_corners_30 rfl (lv_at hl 2 rfl) ?_
          refine lv_icmp_ne (tgt := 37) hx hb dX1_corners_31 (by decide) (fun hc => ?_) (fun hc => ?_)
          · have hw := hw.2 hc
            exact hj3 v1 hw ls (lv_sub hl [0, 1, 2] rfl)
          · have hw := hw.1 (hc)
            refine lv_iinc (v := (v1 + (1 : Int32))) (lv' := [(1, .int (v1 + (1 : Int32))), (0, .ref (ad 7)), (2, .int v2)]) hx hb dX1_corners_34 hl (k := 1) rfl rfl (by decide) rfl (fun ls hl => ?_)
            exact hj3 (v1 + (1 : Int32)) hw ls (lv_sub hl [1, 0, 2] rfl)
set_option maxRecDepth 100000 in
set_option maxHeartbeats 4000000 in
theorem c_X1_corners (l : Launch) (dC : Nat → ClassId) (dI : Nat → Nat → Nat) (cI cJ cZ : ClassId) (ad : Nat → Nat) (co : Nat → Int32) (fo : Nat → Int32) (ro : Nat → Int32) (po : Nat → Int32) (pn : Int32) (rd : Nat → Int32) (st : Nat → Int32) (tw : Nat → Int64) (od : Nat → Int32) (rn : Int32) (x : Nat → Int32) (y : Nat → Int32) (u : Nat → Int32) (sn : Int32)  {post : Int32 → Prop} (hw : wp_X1_corners co u post) : Met l yX1_corners wsX1_corners rm_X1_corners (va_Pc [.ref (ad 7)] (fun U => va_P (dC, dI) vwCl (wRnd ad cI cJ cZ co fo ro po pn rd st tw od rn x y u sn) U.heap ∧ va_K (dC, dI) vwCl (tyL cI cJ cZ) U)) (vp_Si post) 0 0 (fun _ => False) := by
  unfold wp_X1_corners at hw
  refine Met.ofW (cc := cX1_corners) (maxL := 3) (ret := (some .int)) (by decide) rfl ?_
  intro p e s m args below meth c s₁ B hml hv
  obtain ⟨hav, hP, hK⟩ := hv
  have hx := B.exec
  have hb := B.bytes
  have hr := B.returns
  have hts := atoms_spec (ws := wsX1_corners) B.pre
  have hown : s.vm.findClass RX1 = some m.cls := findClass_of_methodNamed B.named
  have hlocks := B.notSynchronized
  have C : CallFix p m c cX1_corners 3 s args wsX1_corners RX1 := ⟨hx, hb, hml, hown, hts⟩
  obtain ⟨ls, hE, hl⟩ := mx_entry (m := m) [.ref (ad 7)] (n := 3) (Nat.le_of_ble_eq_true rfl)
  have hl : lv_has ls 3 [(0, .ref (ad 7))] := hl
  rw [show entryFrame m args 3 = F0 m 0 ls [] by rw [hav]; exact hE]
  obtain ⟨Q, hQ⟩ : ∃ Q, MQ below (vp_Si post) args s 0 0 (fun _ => False) = Q := ⟨_, rfl⟩
  rw [hQ]
  obtain ⟨H, hH⟩ : ∃ H, s.heap = H := ⟨_, rfl⟩
  rw [hH]
  rw [hH] at hP
  show W p l e rm_X1_corners s m args below meth c H [] 0 0 Q (F0 m 0 ls [])
  refine lv_iconst (v := 0) hx hb dX1_corners_0 (by decide) ?_
  refine lv_istore_n (lv' := [(1, .int (0 : Int32)), (0, .ref (ad 7))]) hx hb dX1_corners_1 rfl hl (by decide) rfl (fun ls hl => ?_)
  refine lv_iconst (v := 0) hx hb dX1_corners_2 (by decide) ?_
  refine lv_istore_n (lv' := [(2, .int (0 : Int32)), (1, .int (0 : Int32)), (0, .ref (ad 7))]) hx hb dX1_corners_3 rfl hl (by decide) rfl (fun ls hl => ?_)
  obtain ⟨n5, hw⟩ := hw
  refine l_X1_corners_4 C hK hP (fun w4 ls hl hw => ?_) n5 (0 : Int32) (0 : Int32) ls (lv_sub hl [2, 1, 0] rfl) hw
  refine lv_iload_n hx hb dX1_corners_43 rfl (lv_at hl 1 rfl) ?_
  rw [← hQ]
  exact W.iret (v := w4) hx hb hr (fun t ht hW => ⟨_, rfl, hw, ht.trans hH.symm⟩) (fun q h => by cases h) dX1_corners_44
-- X1_firstClockwise
abbrev rm_X1_firstClockwise : Room := { frames := 2, cells := 0, slots := 0, locals := 51 }
theorem f_X1_firstClockwise_0 : (Cond.fieldLink RX1 18 "PlaneFaces$Rounds" "corner" "[I") ∈ wsX1_firstClockwise := by decide +kernel
theorem f_X1_firstClockwise_1 : ∀ w ∈ wsX10, w ∈ wsX1_firstClockwise := by decide +kernel
theorem f_X1_firstClockwise_2 : (Cond.fieldLink RX1 12 "PlaneFaces$Rounds" "segments" "LPlaneFaces$Segments;") ∈ wsX1_firstClockwise := by decide +kernel
set_option maxRecDepth 100000 in
set_option maxHeartbeats 4000000 in
theorem l_X1_firstClockwise_4 {p : Program} {l : Launch} {e : Env} {s : State} {m : MethodId} {args : Array Value} {below : List Frame} {meth : Method} {c : Code} {Q : State → Prop} {dC : Nat → ClassId} {dI : Nat → Nat → Nat} {cI cJ cZ : ClassId} {ad : Nat → Nat} {co : Nat → Int32} {fo : Nat → Int32} {ro : Nat → Int32} {po : Nat → Int32} {pn : Int32} {rd : Nat → Int32} {st : Nat → Int32} {tw : Nat → Int64} {od : Nat → Int32} {rn : Int32} {x : Nat → Int32} {y : Nat → Int32} {u : Nat → Int32} {sn : Int32} {v1 : Int32} {K68 : Int32 → Prop} (C : CallFix p m c cX1_firstClockwise 5 s args wsX1_firstClockwise RX1) (hK : va_K (dC, dI) vwCl (tyL cI cJ cZ) s) {H : Heap} (hP : va_P (dC, dI) vwCl (wRnd ad cI cJ cZ co fo ro po pn rd st tw od rn x y u sn) H) (hk68 : ∀ (w2 : Int32) (ls : Array Slot), lv_has ls 5 [(0, .ref (ad 7)), (2, .int w2)] → K68 w2 → W p l e rm_X1_firstClockwise s m args below meth c H [] 0 0 Q (F0 m 68 ls [])) : ∀ (n : Nat) (v2 : Int32) (v3 : Int32) (ls : Array Slot), lv_has ls 5 [(0, .ref (ad 7)), (1, .int v1), (2, .int v2), (3, .int v3)] → lp_X1_firstClockwise_4 co x y v1 K68 n v2 v3 → W p l e rm_X1_firstClockwise s m args below meth c H [] 0 0 Q (F0 m 4 ls []) := by
  obtain ⟨hx, hb, hml, hown, hts⟩ := id C
  intro n
  induction n with
  | zero =>
    intro v2 v3 ls hl hw
    rw [lp_X1_firstClockwise_4.eq_1] at hw
    exact hw.elim
  | succ n ih =>
    intro v2 v3 ls hl hw
    rw [lp_X1_firstClockwise_4.eq_2] at hw
    refine lv_iload_n hx hb dX1_firstClockwise_4 rfl (lv_at hl 3 rfl) ?_
    refine lv_bipush (v := 120) hx hb dX1_firstClockwise_5 (by decide) ?_
    refine lv_icmp_ge (tgt := 68) hx hb dX1_firstClockwise_7 (by decide) (fun hc => ?_) (fun hc => ?_)
    · have hw := hw.1 (hc)
      exact hk68 v2 ls (lv_sub hl [0, 2] rfl) hw
    · have hw := hw.2 hc
      refine lv_aload_n hx hb dX1_firstClockwise_10 rfl (lv_at hl 0 rfl) ?_
      refine va_get (D := (dC, dI)) (ci := 1) (v := .ref (ad 8)) (C := RX1) (T := TX1) (N := 11) hx hb hts f_X1_firstClockwise_1 hown hK hP 0 rfl rfl 1 (by decide) (hts _ f_X1_firstClockwise_0) (fun _ h9 => h9) rfl dX1_firstClockwise_11 ?_
      refine lv_iload_n hx hb dX1_firstClockwise_14 rfl (lv_at hl 3 rfl) ?_
      have hi := hw.1
      have hw := hw.2
      refine va_iald hx hb hK hP 1 0 rfl rfl hi dX1_firstClockwise_15 ?_
      refine lv_aload_n hx hb dX1_firstClockwise_16 rfl (lv_at hl 0 rfl) ?_
      refine va_get (D := (dC, dI)) (ci := 1) (v := .ref (ad 8)) (C := RX1) (T := TX1) (N := 11) hx hb hts f_X1_firstClockwise_1 hown hK hP 0 rfl rfl 1 (by decide) (hts _ f_X1_firstClockwise_0) (fun _ h9 => h9) rfl dX1_firstClockwise_17 ?_
      refine lv_iload_n hx hb dX1_firstClockwise_20 rfl (lv_at hl 1 rfl) ?_
      have hi := hw.1
      have hw := hw.2
      refine va_iald hx hb hK hP 1 0 rfl rfl hi dX1_firstClockwise_21 ?_
      refine jn1_use (J := fun (k1 : Int32) => ∀ ls : Array Slot, lv_has ls 5 [(0, .ref (ad 7)), (1, .int v1), (2, .int v2), (3, .int v3)] → W p l e rm_X1_firstClockwise s m args below meth c H [] 0 0 Q (F0 m 35 ls [.int k1])) hw (fun k1 hw ls hl => ?_) (fun hw hj0 => ?_)
      · refine lv_istore (lv' := [(4, .int k1), (0, .ref (ad 7)), (1, .int v1), (2, .int v2), (3, .int v3)]) hx hb dX1_firstClockwise_35 hl (by decide) rfl (fun ls hl => ?_)
        refine lv_iload hx hb dX1_firstClockwise_37 (lv_at hl 0 rfl) ?_
        refine jn1_use (J := fun (j4 : Int32) => ∀ ls : Array Slot, lv_has ls 5 [(0, .ref (ad 7)), (1, .int v1), (2, .int j4), (3, .int v3)] → W p l e rm_X1_firstClockwise s m args below meth c H [] 0 0 Q (F0 m 62 ls [])) hw (fun j4 hw ls hl => ?_) (fun hw hj0 => ?_)
        · refine lv_iinc (v := (v3 + (1 : Int32))) (lv' := [(3, .int (v3 + (1 : Int32))), (0, .ref (ad 7)), (1, .int v1), (2, .int j4)]) hx hb dX1_firstClockwise_62 hl (k := 3) rfl rfl (by decide) rfl (fun ls hl => ?_)
          refine lv_goto (tgt := 4) hx hb dX1_firstClockwise_65 (by decide) ?_
          exact ih j4 (v3 + (1 : Int32)) ls (lv_sub hl [1, 2, 3, 0] rfl) hw
        · have hj6 := hj0
          refine lv_if_eq (tgt := 62) hx hb dX1_firstClockwise_39 (by decide) (fun hc => ?_) (fun hc => ?_)
          · have hw := hw.1 (hc)
            exact hj6 v2 hw ls (lv_sub hl [1, 2, 3, 4] rfl)
          · have hw := hw.2 hc
            refine lv_iload_n hx hb dX1_firstClockwise_42 rfl (lv_at hl 3 rfl) ?_
            refine lv_iload_n hx hb dX1_firstClockwise_43 rfl (lv_at hl 2 rfl) ?_
            refine jn0_use (J := ∀ ls : Array Slot, lv_has ls 5 [(0, .ref (ad 7)), (1, .int v1), (3, .int v3)] → W p l e rm_X1_firstClockwise s m args below meth c H [] 0 0 Q (F0 m 60 ls [])) hw (fun hw ls hl => ?_) (fun hw hj0 => ?_)
            · refine lv_iload_n hx hb dX1_firstClockwise_60 rfl (lv_at hl 2 rfl) ?_
              refine lv_istore_n (lv' := [(2, .int v3), (0, .ref (ad 7)), (1, .int v1), (3, .int v3)]) hx hb dX1_firstClockwise_61 rfl hl (by decide) rfl (fun ls hl => ?_)
              exact hj6 v3 hw ls (lv_sub hl [1, 2, 0, 3] rfl)
            · have hj8 := hj0
              refine lv_icmp_eq (tgt := 60) hx hb dX1_firstClockwise_44 (by decide) (fun hc => ?_) (fun hc => ?_)
              · have hw := hw.1 (hc)
                exact hj8 hw ls (lv_sub hl [1, 2, 4] rfl)
              · have hw := hw.2 hc
                refine lv_aload_n hx hb dX1_firstClockwise_47 rfl (lv_at hl 1 rfl) ?_
                refine va_get (D := (dC, dI)) (ci := 1) (v := .ref (ad 16)) (C := RX1) (T := TX1) (N := 11) hx hb hts f_X1_firstClockwise_1 hown hK hP 0 rfl rfl 0 (by decide) (hts _ f_X1_firstClockwise_2) (fun _ h9 => h9) rfl dX1_firstClockwise_48 ?_
                refine lv_iload_n hx hb dX1_firstClockwise_51 rfl (lv_at hl 2 rfl) ?_
                refine lv_iload_n hx hb dX1_firstClockwise_52 rfl (lv_at hl 4 rfl) ?_
                refine lv_iload_n hx hb dX1_firstClockwise_53 rfl (lv_at hl 3 rfl) ?_
                have hPc := hP.sub (ws' := (wSeg ad cI cJ cZ x y u sn)) [9, 10, 11, 12] rfl
                refine vp_callSi (W.runV (As := [.int v1, .int v3, .int v2]) (rest := []) C (c_X2_sooner l dC dI cI cJ cZ ad x y u sn v1 v3 v2 hw) (cwV 3 hts gX1_firstClockwise_X2_sooner rfl rfl rfl (by decide +kernel) ⟨Nat.le_of_ble_eq_true rfl, Nat.le_of_ble_eq_true rfl⟩) ⟨fb_ro, va_recv hK hPc (ci := 2) (q0 := 0) rfl rfl, fun U hU hW => ⟨rfl, by rw [hU]; exact hPc, va_K.moved hW.alike hK⟩⟩ rfl rfl hl.1 rfl (lv_room (Nat.le_of_ble_eq_true rfl)) dX1_firstClockwise_54 ⟨Nat.zero_le _, Nat.zero_le _⟩) (fun r9 hw => ?_)
                refine lv_if_eq (tgt := 62) hx hb dX1_firstClockwise_57 (by decide) (fun hc => ?_) (fun hc => ?_)
                · have hw := hw.1 (hc)
                  exact hj6 v2 hw ls (lv_sub hl [1, 2, 3, 4] rfl)
                · have hw := hw.2 hc
                  exact hj8 hw ls (lv_sub hl [1, 2, 4] rfl)
      · have hj3 := hj0
        refine jn0_use (J := ∀ ls : Array Slot, lv_has ls 5 [(0, .ref (ad 7)), (1, .int v1), (2, .int v2), (3, .int v3)] → W p l e rm_X1_firstClockwise s m args below meth c H [] 0 0 Q (F0 m 34 ls [])) hw (fun hw ls hl => ?_) (fun hw hj0 => ?_)
        · refine lv_iconst (v := 0) hx hb dX1_firstClockwise_34 (by decide) ?_
          exact hj3 (0 : Int32) hw ls (lv_sub hl [0, 1, 2, 3] rfl)
        · have hj11 := hj0
          refine lv_icmp_ne (tgt := 34) hx hb dX1_firstClockwise_22 (by decide) (fun hc => ?_) (fun hc => ?_)
          · have hw := hw.2 hc
            exact hj11 hw ls (lv_sub hl [0, 1, 2, 3] rfl)
          · have hw := hw.1 (hc)
            refine lv_iload_n hx hb dX1_firstClockwise_25 rfl (lv_at hl 3 rfl) ?_
            refine lv_iload_n hx hb dX1_firstClockwise_26 rfl (lv_at hl 1 rfl) ?_
            refine lv_icmp_eq (tgt := 34) hx hb dX1_firstClockwise_27 (by decide) (fun hc => ?_) (fun hc => ?_)
            · have hw := hw.1 (hc)
              exact hj11 hw ls (lv_sub hl [0, 1, 2, 3] rfl)
            · have hw := hw.2 hc
              refine lv_iconst (v := 1) hx hb dX1_firstClockwise_30 (by decide) ?_
              refine lv_goto (tgt := 35) hx hb dX1_firstClockwise_31 (by decide) ?_
              exact hj3 (1 : Int32) hw ls (lv_sub hl [0, 1, 2, 3] rfl)
set_option maxRecDepth 100000 in
set_option maxHeartbeats 4000000 in
theorem c_X1_firstClockwise (l : Launch) (dC : Nat → ClassId) (dI : Nat → Nat → Nat) (cI cJ cZ : ClassId) (ad : Nat → Nat) (co : Nat → Int32) (fo : Nat → Int32) (ro : Nat → Int32) (po : Nat → Int32) (pn : Int32) (rd : Nat → Int32) (st : Nat → Int32) (tw : Nat → Int64) (od : Nat → Int32) (rn : Int32) (x : Nat → Int32) (y : Nat → Int32) (u : Nat → Int32) (sn : Int32) (v1 : Int32) {post : Int32 → Prop} (hw : wp_X1_firstClockwise co x y v1 post) : Met l yX1_firstClockwise wsX1_firstClockwise rm_X1_firstClockwise (va_Pc [.ref (ad 7), .int v1] (fun U => va_P (dC, dI) vwCl (wRnd ad cI cJ cZ co fo ro po pn rd st tw od rn x y u sn) U.heap ∧ va_K (dC, dI) vwCl (tyL cI cJ cZ) U)) (vp_Si post) 0 0 (fun _ => False) := by
  unfold wp_X1_firstClockwise at hw
  refine Met.ofW (cc := cX1_firstClockwise) (maxL := 5) (ret := (some .int)) (by decide) rfl ?_
  intro p e s m args below meth c s₁ B hml hv
  obtain ⟨hav, hP, hK⟩ := hv
  have hx := B.exec
  have hb := B.bytes
  have hr := B.returns
  have hts := atoms_spec (ws := wsX1_firstClockwise) B.pre
  have hown : s.vm.findClass RX1 = some m.cls := findClass_of_methodNamed B.named
  have hlocks := B.notSynchronized
  have C : CallFix p m c cX1_firstClockwise 5 s args wsX1_firstClockwise RX1 := ⟨hx, hb, hml, hown, hts⟩
  obtain ⟨ls, hE, hl⟩ := mx_entry (m := m) [.ref (ad 7), .int v1] (n := 5) (Nat.le_of_ble_eq_true rfl)
  have hl : lv_has ls 5 [(0, .ref (ad 7)), (1, .int v1)] := hl
  rw [show entryFrame m args 5 = F0 m 0 ls [] by rw [hav]; exact hE]
  obtain ⟨Q, hQ⟩ : ∃ Q, MQ below (vp_Si post) args s 0 0 (fun _ => False) = Q := ⟨_, rfl⟩
  rw [hQ]
  obtain ⟨H, hH⟩ : ∃ H, s.heap = H := ⟨_, rfl⟩
  rw [hH]
  rw [hH] at hP
  show W p l e rm_X1_firstClockwise s m args below meth c H [] 0 0 Q (F0 m 0 ls [])
  refine lv_iload_n hx hb dX1_firstClockwise_0 rfl (lv_at hl 1 rfl) ?_
  refine lv_istore_n (lv' := [(2, .int v1), (0, .ref (ad 7)), (1, .int v1)]) hx hb dX1_firstClockwise_1 rfl hl (by decide) rfl (fun ls hl => ?_)
  refine lv_iconst (v := 0) hx hb dX1_firstClockwise_2 (by decide) ?_
  refine lv_istore_n (lv' := [(3, .int (0 : Int32)), (2, .int v1), (0, .ref (ad 7)), (1, .int v1)]) hx hb dX1_firstClockwise_3 rfl hl (by decide) rfl (fun ls hl => ?_)
  obtain ⟨n13, hw⟩ := hw
  refine l_X1_firstClockwise_4 C hK hP (fun w12 ls hl hw => ?_) n13 v1 (0 : Int32) ls (lv_sub hl [2, 3, 1, 0] rfl) hw
  refine lv_iload_n hx hb dX1_firstClockwise_68 rfl (lv_at hl 1 rfl) ?_
  rw [← hQ]
  exact W.iret (v := w12) hx hb hr (fun t ht hW => ⟨_, rfl, hw, ht.trans hH.symm⟩) (fun q h => by cases h) dX1_firstClockwise_69
-- X1_joinRoots
abbrev rm_X1_joinRoots : Room := { frames := 1, cells := 0, slots := 0, locals := 21 }
theorem f_X1_joinRoots_0 : (Cond.fieldLink RX1 25 "PlaneFaces$Rounds" "root" "[I") ∈ wsX1_joinRoots := by decide +kernel
theorem f_X1_joinRoots_1 : ∀ w ∈ wsX10, w ∈ wsX1_joinRoots := by decide +kernel
theorem f_X1_joinRoots_2 : (Cond.methodLink RX1 89 Lib.Math.max.name) ∈ wsX1_joinRoots := by decide +kernel
theorem f_X1_joinRoots_3 : (Cond.static Lib.Math.max.name) ∈ wsX1_joinRoots := by decide +kernel
theorem f_X1_joinRoots_4 : (Cond.initialized "java/lang/Math") ∈ wsX1_joinRoots := by decide +kernel
theorem f_X1_joinRoots_5 : (Cond.code Lib.Math.max.name Lib.Math.max.code 2 (some .int)) ∈ wsX1_joinRoots := by decide +kernel
theorem f_X1_joinRoots_6 : (Cond.methodLink RX1 94 Lib.Math.min.name) ∈ wsX1_joinRoots := by decide +kernel
theorem f_X1_joinRoots_7 : (Cond.static Lib.Math.min.name) ∈ wsX1_joinRoots := by decide +kernel
theorem f_X1_joinRoots_8 : (Cond.code Lib.Math.min.name Lib.Math.min.code 2 (some .int)) ∈ wsX1_joinRoots := by decide +kernel
set_option maxRecDepth 100000 in
set_option maxHeartbeats 4000000 in
theorem l_X1_joinRoots_8 {p : Program} {l : Launch} {e : Env} {s : State} {m : MethodId} {args : Array Value} {below : List Frame} {meth : Method} {c : Code} {Q : State → Prop} {dC : Nat → ClassId} {dI : Nat → Nat → Nat} {cI cJ cZ : ClassId} {ad : Nat → Nat} {co : Nat → Int32} {fo : Nat → Int32} {po : Nat → Int32} {pn : Int32} {rd : Nat → Int32} {st : Nat → Int32} {tw : Nat → Int64} {od : Nat → Int32} {rn : Int32} {x : Nat → Int32} {y : Nat → Int32} {u : Nat → Int32} {sn : Int32} {v1 : Int32} {v2 : Int32} {K45 : (Nat → Int32) → Prop} (C : CallFix p m c cX1_joinRoots 4 s args wsX1_joinRoots RX1) (hK : va_K (dC, dI) vwCl (tyL cI cJ cZ) s) {A : Nat → Prop} (hA : ∀ q : Nat, s.heap.size ≤ q → A q) (hk45 : ∀ (ro_w : Nat → Int32) (ls : Array Slot) (H : Heap) (locs : List Loc), lv_has ls 4 [(0, .ref (ad 7))] → va_P (dC, dI) vwCl (wRnd ad cI cJ cZ co fo ro_w po pn rd st tw od rn x y u sn) H → va_D A (wRnd ad cI cJ cZ co fo ro_w po pn rd st tw od rn x y u sn) → va_S A s.heap H locs → K45 ro_w → W p l e rm_X1_joinRoots s m args below meth c H locs 0 0 Q (F0 m 45 ls [])) : ∀ (n : Nat) (ro : Nat → Int32) (v3 : Int32) (ls : Array Slot) (H : Heap) (locs : List Loc), lv_has ls 4 [(0, .ref (ad 7)), (1, .int v1), (2, .int v2), (3, .int v3)] → va_P (dC, dI) vwCl (wRnd ad cI cJ cZ co fo ro po pn rd st tw od rn x y u sn) H → va_D A (wRnd ad cI cJ cZ co fo ro po pn rd st tw od rn x y u sn) → va_S A s.heap H locs → lp_X1_joinRoots_8 v1 v2 K45 n ro v3 → W p l e rm_X1_joinRoots s m args below meth c H locs 0 0 Q (F0 m 8 ls []) := by
  obtain ⟨hx, hb, hml, hown, hts⟩ := id C
  intro n
  induction n with
  | zero =>
    intro ro v3 ls H locs hl hP hD hS hw
    rw [lp_X1_joinRoots_8.eq_1] at hw
    exact hw.elim
  | succ n ih =>
    intro ro v3 ls H locs hl hP hD hS hw
    rw [lp_X1_joinRoots_8.eq_2] at hw
    refine lv_iload_n hx hb dX1_joinRoots_8 rfl (lv_at hl 3 rfl) ?_
    refine lv_bipush (v := 60) hx hb dX1_joinRoots_9 (by decide) ?_
    refine lv_icmp_ge (tgt := 45) hx hb dX1_joinRoots_11 (by decide) (fun hc => ?_) (fun hc => ?_)
    · have hw := hw.1 (hc)
      exact hk45 ro ls _ _ (lv_sub hl [0] rfl) hP hD hS hw
    · have hw := hw.2 hc
      refine lv_aload_n hx hb dX1_joinRoots_14 rfl (lv_at hl 0 rfl) ?_
      refine va_get (D := (dC, dI)) (ci := 1) (v := .ref (ad 10)) (C := RX1) (T := TX1) (N := 11) hx hb hts f_X1_joinRoots_1 hown hK hP 0 rfl rfl 3 (by decide) (hts _ f_X1_joinRoots_0) (fun _ h9 => h9) rfl dX1_joinRoots_15 ?_
      refine lv_iload_n hx hb dX1_joinRoots_18 rfl (lv_at hl 3 rfl) ?_
      have hi := hw.1
      have hw := hw.2
      refine va_iald hx hb hK hP 3 0 rfl rfl hi dX1_joinRoots_19 ?_
      refine lv_iload_n hx hb dX1_joinRoots_20 rfl (lv_at hl 1 rfl) ?_
      refine lv_iload_n hx hb dX1_joinRoots_21 rfl (lv_at hl 2 rfl) ?_
      refine va_mmax hx hb (hml.trans hl.1.symm) hown (hts _ f_X1_joinRoots_2) (hts _ f_X1_joinRoots_3) (hts _ f_X1_joinRoots_4) (hts _ f_X1_joinRoots_5) (Nat.le_of_ble_eq_true rfl) (Nat.le_of_ble_eq_true rfl) (Nat.zero_le _) (Nat.zero_le _) dX1_joinRoots_22 ?_
      refine jn1_use (J := fun (ro_1 : Nat → Int32) => ∀ (ls : Array Slot) (H : Heap) (locs : List Loc), lv_has ls 4 [(0, .ref (ad 7)), (1, .int v1), (2, .int v2), (3, .int v3)] → va_P (dC, dI) vwCl (wRnd ad cI cJ cZ co fo ro_1 po pn rd st tw od rn x y u sn) H → va_D A (wRnd ad cI cJ cZ co fo ro_1 po pn rd st tw od rn x y u sn) → va_S A s.heap H locs → W p l e rm_X1_joinRoots s m args below meth c H locs 0 0 Q (F0 m 39 ls [])) hw (fun ro_1 hw ls H locs hl hP hD hS => ?_) (fun hw hj0 => ?_)
      · refine lv_iinc (v := (v3 + (1 : Int32))) (lv' := [(3, .int (v3 + (1 : Int32))), (0, .ref (ad 7)), (1, .int v1), (2, .int v2)]) hx hb dX1_joinRoots_39 hl (k := 3) rfl rfl (by decide) rfl (fun ls hl => ?_)
        refine lv_goto (tgt := 8) hx hb dX1_joinRoots_42 (by decide) ?_
        exact ih ro_1 (v3 + (1 : Int32)) ls _ _ (lv_sub hl [1, 2, 3, 0] rfl) hP hD hS hw
      · have hj3 := hj0
        refine lv_icmp_ne (tgt := 39) hx hb dX1_joinRoots_25 (by decide) (fun hc => ?_) (fun hc => ?_)
        · have hw := hw.2 hc
          exact hj3 ro hw ls _ _ (lv_sub hl [0, 1, 2, 3] rfl) hP hD hS
        · have hw := hw.1 (hc)
          refine lv_aload_n hx hb dX1_joinRoots_28 rfl (lv_at hl 0 rfl) ?_
          refine va_get (D := (dC, dI)) (ci := 1) (v := .ref (ad 10)) (C := RX1) (T := TX1) (N := 11) hx hb hts f_X1_joinRoots_1 hown hK hP 0 rfl rfl 3 (by decide) (hts _ f_X1_joinRoots_0) (fun _ h9 => h9) rfl dX1_joinRoots_29 ?_
          refine lv_iload_n hx hb dX1_joinRoots_32 rfl (lv_at hl 3 rfl) ?_
          refine lv_iload_n hx hb dX1_joinRoots_33 rfl (lv_at hl 1 rfl) ?_
          refine lv_iload_n hx hb dX1_joinRoots_34 rfl (lv_at hl 2 rfl) ?_
          refine va_mmin hx hb (hml.trans hl.1.symm) hown (hts _ f_X1_joinRoots_6) (hts _ f_X1_joinRoots_7) (hts _ f_X1_joinRoots_4) (hts _ f_X1_joinRoots_8) (Nat.le_of_ble_eq_true rfl) (Nat.le_of_ble_eq_true rfl) (Nat.zero_le _) (Nat.zero_le _) dX1_joinRoots_35 ?_
          have hi := hw.1
          have hw := hw.2 _ rfl
          refine va_iast hx hb hK hP hD hS 3 0 rfl rfl hi dX1_joinRoots_38 (fun H locs hP hD hS => ?_)
          generalize hro_4 : (upd ro v3.toNatClampNeg (if v2 < v1 then v2 else v1)) = ro_4 at hw hP hD
          have hP : va_P (dC, dI) vwCl (wRnd ad cI cJ cZ co fo ro_4 po pn rd st tw od rn x y u sn) H := hP
          have hD : va_D A (wRnd ad cI cJ cZ co fo ro_4 po pn rd st tw od rn x y u sn) := hD
          exact hj3 ro_4 hw ls _ _ (lv_sub hl [0, 1, 2, 3] rfl) hP hD hS
set_option maxRecDepth 100000 in
set_option maxHeartbeats 4000000 in
theorem c_X1_joinRoots (l : Launch) (dC : Nat → ClassId) (dI : Nat → Nat → Nat) (cI cJ cZ : ClassId) (ad : Nat → Nat) (sz : Nat) (co : Nat → Int32) (fo : Nat → Int32) (ro : Nat → Int32) (po : Nat → Int32) (pn : Int32) (rd : Nat → Int32) (st : Nat → Int32) (tw : Nat → Int64) (od : Nat → Int32) (rn : Int32) (x : Nat → Int32) (y : Nat → Int32) (u : Nat → Int32) (sn : Int32) (v1 : Int32) (v2 : Int32) {post : (Nat → Int32) → Prop} (hw : wp_X1_joinRoots ro v1 v2 post) : Met l yX1_joinRoots wsX1_joinRoots rm_X1_joinRoots (va_Pc [.ref (ad 7), .int v1, .int v2] (fun U => U.heap.size = sz ∧ va_P (dC, dI) vwCl (wRnd ad cI cJ cZ co fo ro po pn rd st tw od rn x y u sn) U.heap ∧ va_K (dC, dI) vwCl (tyL cI cJ cZ) U ∧ va_D (fun _ => True) (wRnd ad cI cJ cZ co fo ro po pn rd st tw od rn x y u sn))) (va_Qv (fun uu : (Nat → Int32) => post uu) (fun (uu : (Nat → Int32)) (t : State) => va_P (dC, dI) vwCl (wRnd ad cI cJ cZ co fo uu po pn rd st tw od rn x y u sn) t.heap ∧ va_D (va_A (wRnd ad cI cJ cZ co fo ro po pn rd st tw od rn x y u sn) sz) (wRnd ad cI cJ cZ co fo uu po pn rd st tw od rn x y u sn)) (va_A (wRnd ad cI cJ cZ co fo ro po pn rd st tw od rn x y u sn) sz)) 0 0 (va_A (wRnd ad cI cJ cZ co fo ro po pn rd st tw od rn x y u sn) sz) := by
  unfold wp_X1_joinRoots at hw
  refine Met.ofW (cc := cX1_joinRoots) (maxL := 4) (ret := none) (by decide) rfl ?_
  intro p e s m args below meth c s₁ B hml hv
  obtain ⟨hav, hsz, hP, hK, hD0⟩ := hv
  have hx := B.exec
  have hb := B.bytes
  have hr := B.returns
  have hts := atoms_spec (ws := wsX1_joinRoots) B.pre
  have hown : s.vm.findClass RX1 = some m.cls := findClass_of_methodNamed B.named
  have hlocks := B.notSynchronized
  have C : CallFix p m c cX1_joinRoots 4 s args wsX1_joinRoots RX1 := ⟨hx, hb, hml, hown, hts⟩
  obtain ⟨ls, hE, hl⟩ := mx_entry (m := m) [.ref (ad 7), .int v1, .int v2] (n := 4) (Nat.le_of_ble_eq_true rfl)
  have hl : lv_has ls 4 [(0, .ref (ad 7)), (1, .int v1), (2, .int v2)] := hl
  rw [show entryFrame m args 4 = F0 m 0 ls [] by rw [hav]; exact hE]
  subst hsz
  have hD := hD0.self (sz := s.heap.size)
  generalize hAe : va_A (wRnd ad cI cJ cZ co fo ro po pn rd st tw od rn x y u sn) s.heap.size = A at hD ⊢
  have hA : ∀ q : Nat, s.heap.size ≤ q → A q := fun q h => by rw [← hAe]; exact Or.inr h
  have hS : va_S A s.heap s.heap [] := va_S.rf
  obtain ⟨Q, hQ⟩ : ∃ Q, MQ below (va_Qv (fun uu : (Nat → Int32) => post uu) (fun (uu : (Nat → Int32)) (t : State) => va_P (dC, dI) vwCl (wRnd ad cI cJ cZ co fo uu po pn rd st tw od rn x y u sn) t.heap ∧ va_D A (wRnd ad cI cJ cZ co fo uu po pn rd st tw od rn x y u sn)) A) args s 0 0 A = Q := ⟨_, rfl⟩
  rw [hQ]
  obtain ⟨H, hH⟩ : ∃ H, s.heap = H := ⟨_, rfl⟩
  have hS : va_S A s.heap H [] := by rw [← hH]; exact hS
  rw [hH] at hP
  show W p l e rm_X1_joinRoots s m args below meth c s.heap [] 0 0 Q (F0 m 0 ls [])
  suffices hg : W p l e rm_X1_joinRoots s m args below meth c H [] 0 0 Q (F0 m 0 ls []) by rw [hH]; exact hg
  clear hH
  generalize hlo : ([] : List Loc) = locs at hS ⊢
  refine lv_iload_n hx hb dX1_joinRoots_0 rfl (lv_at hl 1 rfl) ?_
  refine lv_iload_n hx hb dX1_joinRoots_1 rfl (lv_at hl 2 rfl) ?_
  refine lv_icmp_ne (tgt := 6) hx hb dX1_joinRoots_2 (by decide) (fun hc => ?_) (fun hc => ?_)
  · have hw := hw.2 hc
    refine lv_iconst (v := 0) hx hb dX1_joinRoots_6 (by decide) ?_
    refine lv_istore_n (lv' := [(3, .int (0 : Int32)), (0, .ref (ad 7)), (1, .int v1), (2, .int v2)]) hx hb dX1_joinRoots_7 rfl hl (by decide) rfl (fun ls hl => ?_)
    obtain ⟨n6, hw⟩ := hw
    refine l_X1_joinRoots_8 C hK hA (fun ro_5 ls H locs hl hP hD hS hw => ?_) n6 ro (0 : Int32) ls _ _ (lv_sub hl [1, 2, 3, 0] rfl) hP hD hS hw
    rw [← hQ]
    exact W.vret hx hb hr (fun t ht hW => ⟨⟨ro_5, rfl, hw, by rw [ht]; exact hP, hD⟩, hS.F ht⟩) hS.2.2 dX1_joinRoots_45
  · have hw := hw.1 (hc)
    rw [← hQ]
    exact W.vret hx hb hr (fun t ht hW => ⟨⟨ro, rfl, hw, by rw [ht]; exact hP, hD⟩, hS.F ht⟩) hS.2.2 dX1_joinRoots_5
-- X1_joinPieces
abbrev rm_X1_joinPieces : Room := { frames := 2, cells := 0, slots := 0, locals := 44 }
theorem f_X1_joinPieces_0 : (Cond.fieldLink RX1 25 "PlaneFaces$Rounds" "root" "[I") ∈ wsX1_joinPieces := by decide +kernel
theorem f_X1_joinPieces_1 : ∀ w ∈ wsX10, w ∈ wsX1_joinPieces := by decide +kernel
theorem f_X1_joinPieces_2 : (Cond.fieldLink RX1 12 "PlaneFaces$Rounds" "segments" "LPlaneFaces$Segments;") ∈ wsX1_joinPieces := by decide +kernel
theorem f_X1_joinPieces_3 : (Cond.fieldLink RX1 54 "PlaneFaces$Segments" "used" "[Z") ∈ wsX1_joinPieces := by decide +kernel
theorem f_X1_joinPieces_4 : ∀ w ∈ wsX20, w ∈ wsX1_joinPieces := by decide +kernel
theorem f_X1_joinPieces_5 : (Cond.fieldLink RX1 18 "PlaneFaces$Rounds" "corner" "[I") ∈ wsX1_joinPieces := by decide +kernel
set_option maxRecDepth 100000 in
set_option maxHeartbeats 4000000 in
theorem l_X1_joinPieces_2 {p : Program} {l : Launch} {e : Env} {s : State} {m : MethodId} {args : Array Value} {below : List Frame} {meth : Method} {c : Code} {Q : State → Prop} {dC : Nat → ClassId} {dI : Nat → Nat → Nat} {cI cJ cZ : ClassId} {ad : Nat → Nat} {co : Nat → Int32} {fo : Nat → Int32} {po : Nat → Int32} {pn : Int32} {rd : Nat → Int32} {st : Nat → Int32} {tw : Nat → Int64} {od : Nat → Int32} {rn : Int32} {x : Nat → Int32} {y : Nat → Int32} {u : Nat → Int32} {sn : Int32}  {K21 : (Nat → Int32) → Prop} (C : CallFix p m c cX1_joinPieces 2 s args wsX1_joinPieces RX1) (hK : va_K (dC, dI) vwCl (tyL cI cJ cZ) s) {A : Nat → Prop} (hA : ∀ q : Nat, s.heap.size ≤ q → A q) (hk21 : ∀ (ro_w : Nat → Int32) (ls : Array Slot) (H : Heap) (locs : List Loc), lv_has ls 2 [(0, .ref (ad 7))] → va_P (dC, dI) vwCl (wRnd ad cI cJ cZ co fo ro_w po pn rd st tw od rn x y u sn) H → va_D A (wRnd ad cI cJ cZ co fo ro_w po pn rd st tw od rn x y u sn) → va_S A s.heap H locs → K21 ro_w → W p l e rm_X1_joinPieces s m args below meth c H locs 0 0 Q (F0 m 21 ls [])) : ∀ (n : Nat) (ro : Nat → Int32) (v1 : Int32) (ls : Array Slot) (H : Heap) (locs : List Loc), lv_has ls 2 [(0, .ref (ad 7)), (1, .int v1)] → va_P (dC, dI) vwCl (wRnd ad cI cJ cZ co fo ro po pn rd st tw od rn x y u sn) H → va_D A (wRnd ad cI cJ cZ co fo ro po pn rd st tw od rn x y u sn) → va_S A s.heap H locs → lp_X1_joinPieces_2 co u K21 n ro v1 → W p l e rm_X1_joinPieces s m args below meth c H locs 0 0 Q (F0 m 2 ls []) := by
  obtain ⟨hx, hb, hml, hown, hts⟩ := id C
  intro n
  induction n with
  | zero =>
    intro ro v1 ls H locs hl hP hD hS hw
    rw [lp_X1_joinPieces_2.eq_1] at hw
    exact hw.elim
  | succ n ih =>
    intro ro v1 ls H locs hl hP hD hS hw
    rw [lp_X1_joinPieces_2.eq_2] at hw
    refine lv_iload_n hx hb dX1_joinPieces_2 rfl (lv_at hl 1 rfl) ?_
    refine lv_bipush (v := 60) hx hb dX1_joinPieces_3 (by decide) ?_
    refine lv_icmp_ge (tgt := 21) hx hb dX1_joinPieces_5 (by decide) (fun hc => ?_) (fun hc => ?_)
    · have hw := hw.1 (hc)
      exact hk21 ro ls _ _ (lv_sub hl [0] rfl) hP hD hS hw
    · have hw := hw.2 hc
      refine lv_aload_n hx hb dX1_joinPieces_8 rfl (lv_at hl 0 rfl) ?_
      refine va_get (D := (dC, dI)) (ci := 1) (v := .ref (ad 10)) (C := RX1) (T := TX1) (N := 11) hx hb hts f_X1_joinPieces_1 hown hK hP 0 rfl rfl 3 (by decide) (hts _ f_X1_joinPieces_0) (fun _ h9 => h9) rfl dX1_joinPieces_9 ?_
      refine lv_iload_n hx hb dX1_joinPieces_12 rfl (lv_at hl 1 rfl) ?_
      refine lv_iload_n hx hb dX1_joinPieces_13 rfl (lv_at hl 1 rfl) ?_
      have hi := hw.1
      have hw := hw.2 _ rfl
      refine va_iast hx hb hK hP hD hS 3 0 rfl rfl hi dX1_joinPieces_14 (fun H locs hP hD hS => ?_)
      generalize hro_1 : (upd ro v1.toNatClampNeg v1) = ro_1 at hw hP hD
      have hP : va_P (dC, dI) vwCl (wRnd ad cI cJ cZ co fo ro_1 po pn rd st tw od rn x y u sn) H := hP
      have hD : va_D A (wRnd ad cI cJ cZ co fo ro_1 po pn rd st tw od rn x y u sn) := hD
      refine lv_iinc (v := (v1 + (1 : Int32))) (lv' := [(1, .int (v1 + (1 : Int32))), (0, .ref (ad 7))]) hx hb dX1_joinPieces_15 hl (k := 1) rfl rfl (by decide) rfl (fun ls hl => ?_)
      refine lv_goto (tgt := 2) hx hb dX1_joinPieces_18 (by decide) ?_
      exact ih ro_1 (v1 + (1 : Int32)) ls _ _ (lv_sub hl [1, 0] rfl) hP hD hS hw
set_option maxRecDepth 100000 in
set_option maxHeartbeats 4000000 in
theorem l_X1_joinPieces_23 {p : Program} {l : Launch} {e : Env} {s : State} {m : MethodId} {args : Array Value} {below : List Frame} {meth : Method} {c : Code} {Q : State → Prop} {dC : Nat → ClassId} {dI : Nat → Nat → Nat} {cI cJ cZ : ClassId} {ad : Nat → Nat} {co : Nat → Int32} {fo : Nat → Int32} {po : Nat → Int32} {pn : Int32} {rd : Nat → Int32} {st : Nat → Int32} {tw : Nat → Int64} {od : Nat → Int32} {rn : Int32} {x : Nat → Int32} {y : Nat → Int32} {u : Nat → Int32} {sn : Int32}  {K74 : (Nat → Int32) → Prop} (C : CallFix p m c cX1_joinPieces 2 s args wsX1_joinPieces RX1) (hK : va_K (dC, dI) vwCl (tyL cI cJ cZ) s) {A : Nat → Prop} (hA : ∀ q : Nat, s.heap.size ≤ q → A q) (hk74 : ∀ (ro_w : Nat → Int32) (ls : Array Slot) (H : Heap) (locs : List Loc), lv_has ls 2 [(0, .ref (ad 7))] → va_P (dC, dI) vwCl (wRnd ad cI cJ cZ co fo ro_w po pn rd st tw od rn x y u sn) H → va_D A (wRnd ad cI cJ cZ co fo ro_w po pn rd st tw od rn x y u sn) → va_S A s.heap H locs → K74 ro_w → W p l e rm_X1_joinPieces s m args below meth c H locs 0 0 Q (F0 m 74 ls [])) : ∀ (n : Nat) (ro : Nat → Int32) (v1 : Int32) (ls : Array Slot) (H : Heap) (locs : List Loc), lv_has ls 2 [(0, .ref (ad 7)), (1, .int v1)] → va_P (dC, dI) vwCl (wRnd ad cI cJ cZ co fo ro po pn rd st tw od rn x y u sn) H → va_D A (wRnd ad cI cJ cZ co fo ro po pn rd st tw od rn x y u sn) → va_S A s.heap H locs → lp_X1_joinPieces_23 co u K74 n ro v1 → W p l e rm_X1_joinPieces s m args below meth c H locs 0 0 Q (F0 m 23 ls []) := by
  obtain ⟨hx, hb, hml, hown, hts⟩ := id C
  intro n
  induction n with
  | zero =>
    intro ro v1 ls H locs hl hP hD hS hw
    rw [lp_X1_joinPieces_23.eq_1] at hw
    exact hw.elim
  | succ n ih =>
    intro ro v1 ls H locs hl hP hD hS hw
    rw [lp_X1_joinPieces_23.eq_2] at hw
    refine lv_iload_n hx hb dX1_joinPieces_23 rfl (lv_at hl 1 rfl) ?_
    refine lv_bipush (v := 120) hx hb dX1_joinPieces_24 (by decide) ?_
    refine lv_icmp_ge (tgt := 74) hx hb dX1_joinPieces_26 (by decide) (fun hc => ?_) (fun hc => ?_)
    · have hw := hw.1 (hc)
      exact hk74 ro ls _ _ (lv_sub hl [0] rfl) hP hD hS hw
    · have hw := hw.2 hc
      refine lv_aload_n hx hb dX1_joinPieces_29 rfl (lv_at hl 0 rfl) ?_
      refine va_get (D := (dC, dI)) (ci := 1) (v := .ref (ad 16)) (C := RX1) (T := TX1) (N := 11) hx hb hts f_X1_joinPieces_1 hown hK hP 0 rfl rfl 0 (by decide) (hts _ f_X1_joinPieces_2) (fun _ h9 => h9) rfl dX1_joinPieces_30 ?_
      refine va_get (D := (dC, dI)) (ci := 2) (v := .ref (ad 19)) (C := RX2) (T := TX2) (N := 4) hx hb hts f_X1_joinPieces_4 hown hK hP 9 rfl rfl 2 (by decide) (hts _ f_X1_joinPieces_3) (fun _ h9 => h9) rfl dX1_joinPieces_33 ?_
      refine lv_iload_n hx hb dX1_joinPieces_36 rfl (lv_at hl 1 rfl) ?_
      refine lv_iconst (v := 1) hx hb dX1_joinPieces_37 (by decide) ?_
      refine lv_ishr hx hb dX1_joinPieces_38 ?_
      have hi := hw.1
      have hw := hw.2
      refine va_zald hx hb hK hP 12 2 rfl rfl hi dX1_joinPieces_39 ?_
      refine jn1_use (J := fun (ro_3 : Nat → Int32) => ∀ (ls : Array Slot) (H : Heap) (locs : List Loc), lv_has ls 2 [(0, .ref (ad 7)), (1, .int v1)] → va_P (dC, dI) vwCl (wRnd ad cI cJ cZ co fo ro_3 po pn rd st tw od rn x y u sn) H → va_D A (wRnd ad cI cJ cZ co fo ro_3 po pn rd st tw od rn x y u sn) → va_S A s.heap H locs → W p l e rm_X1_joinPieces s m args below meth c H locs 0 0 Q (F0 m 68 ls [])) hw (fun ro_3 hw ls H locs hl hP hD hS => ?_) (fun hw hj0 => ?_)
      · refine lv_iinc (v := (v1 + (1 : Int32))) (lv' := [(1, .int (v1 + (1 : Int32))), (0, .ref (ad 7))]) hx hb dX1_joinPieces_68 hl (k := 1) rfl rfl (by decide) rfl (fun ls hl => ?_)
        refine lv_goto (tgt := 23) hx hb dX1_joinPieces_71 (by decide) ?_
        exact ih ro_3 (v1 + (1 : Int32)) ls _ _ (lv_sub hl [1, 0] rfl) hP hD hS hw
      · have hj5 := hj0
        refine lv_if_eq (tgt := 68) hx hb dX1_joinPieces_40 (by decide) (fun hc => ?_) (fun hc => ?_)
        · have hw := hw.1 (hc)
          exact hj5 ro hw ls _ _ (lv_sub hl [0, 1] rfl) hP hD hS
        · have hw := hw.2 hc
          refine lv_aload_n hx hb dX1_joinPieces_43 rfl (lv_at hl 0 rfl) ?_
          refine lv_aload_n hx hb dX1_joinPieces_44 rfl (lv_at hl 0 rfl) ?_
          refine va_get (D := (dC, dI)) (ci := 1) (v := .ref (ad 10)) (C := RX1) (T := TX1) (N := 11) hx hb hts f_X1_joinPieces_1 hown hK hP 0 rfl rfl 3 (by decide) (hts _ f_X1_joinPieces_0) (fun _ h9 => h9) rfl dX1_joinPieces_45 ?_
          refine lv_iload_n hx hb dX1_joinPieces_48 rfl (lv_at hl 1 rfl) ?_
          refine lv_iconst (v := 1) hx hb dX1_joinPieces_49 (by decide) ?_
          refine lv_ishr hx hb dX1_joinPieces_50 ?_
          have hi := hw.1
          have hw := hw.2
          refine va_iald hx hb hK hP 3 0 rfl rfl hi dX1_joinPieces_51 ?_
          refine lv_aload_n hx hb dX1_joinPieces_52 rfl (lv_at hl 0 rfl) ?_
          refine va_get (D := (dC, dI)) (ci := 1) (v := .ref (ad 10)) (C := RX1) (T := TX1) (N := 11) hx hb hts f_X1_joinPieces_1 hown hK hP 0 rfl rfl 3 (by decide) (hts _ f_X1_joinPieces_0) (fun _ h9 => h9) rfl dX1_joinPieces_53 ?_
          refine lv_aload_n hx hb dX1_joinPieces_56 rfl (lv_at hl 0 rfl) ?_
          refine va_get (D := (dC, dI)) (ci := 1) (v := .ref (ad 8)) (C := RX1) (T := TX1) (N := 11) hx hb hts f_X1_joinPieces_1 hown hK hP 0 rfl rfl 1 (by decide) (hts _ f_X1_joinPieces_5) (fun _ h9 => h9) rfl dX1_joinPieces_57 ?_
          refine lv_iload_n hx hb dX1_joinPieces_60 rfl (lv_at hl 1 rfl) ?_
          have hi := hw.1
          have hw := hw.2
          refine va_iald hx hb hK hP 1 0 rfl rfl hi dX1_joinPieces_61 ?_
          refine lv_iconst (v := 1) hx hb dX1_joinPieces_62 (by decide) ?_
          refine lv_ishr hx hb dX1_joinPieces_63 ?_
          have hi := hw.1
          have hw := hw.2
          refine va_iald hx hb hK hP 3 0 rfl rfl hi dX1_joinPieces_64 ?_
          have hPc := hP.sub (ws' := (wRnd ad cI cJ cZ co fo ro po pn rd st tw od rn x y u sn)) [0, 1, 2, 3, 4, 5, 6, 7, 8, 9, 10, 11, 12] rfl
          have hDc := hD.sub (ws' := (wRnd ad cI cJ cZ co fo ro po pn rd st tw od rn x y u sn)) [0, 1, 2, 3, 4, 5, 6, 7, 8, 9, 10, 11, 12] (by decide) rfl
          have hFc := va_free (wc := (wRnd ad cI cJ cZ co fo ro po pn rd st tw od rn x y u sn)) hD hS hA [0, 1, 2, 3, 4, 5, 6, 7, 8, 9, 10, 11, 12] rfl
          refine va_callv (va_runV (As := [.int (ro (v1 >>> ((1 : Int32) &&& 31)).toNatClampNeg), .int (ro ((co v1.toNatClampNeg) >>> ((1 : Int32) &&& 31)).toNatClampNeg)]) (rest := []) C (c_X1_joinRoots l dC dI cI cJ cZ ad _ co fo ro po pn rd st tw od rn x y u sn (ro (v1 >>> ((1 : Int32) &&& 31)).toNatClampNeg) (ro ((co v1.toNatClampNeg) >>> ((1 : Int32) &&& 31)).toNatClampNeg) hw) (cwV 2 hts gX1_joinPieces_X1_joinRoots rfl rfl rfl (by decide +kernel) ⟨Nat.le_of_ble_eq_true rfl, Nat.le_of_ble_eq_true rfl⟩) ⟨fb_rw, va_recv hK hPc (ci := 1) (q0 := 0) rfl rfl, fun U hU hW => ⟨rfl, by rw [hU], by rw [hU]; exact hPc, va_K.moved hW.alike hK, hDc.weaken (fun _ _ _ _ => trivial)⟩⟩ rfl rfl hl.1 rfl (lv_room (Nat.le_of_ble_eq_true rfl)) dX1_joinPieces_65 ⟨Nat.zero_le _, Nat.zero_le _⟩) hS (fun q _ h => hFc q h) hFc (fun uu t H1 locs ht hvm hw hB hz1 hk1 hS => ?_)
          obtain ⟨ro_6, rfl⟩ : ∃ z, z = uu := ⟨_, rfl⟩
          obtain ⟨hP1, hD1⟩ := hB
          rw [ht] at hP1
          try dsimp only at hw hP1 hD1
          obtain ⟨hP, hD⟩ := va_join (wr := []) (w1 := (wRnd ad cI cJ cZ co fo ro_6 po pn rd st tw od rn x y u sn)) hP hD [0, 1, 2, 3, 4, 5, 6, 7, 8, 9, 10, 11, 12] [] rfl rfl (by decide) (by decide) hk1 hFc hP1 hD1
          generalize H1 = H at hP hS ⊢
          have hP : va_P (dC, dI) vwCl (wRnd ad cI cJ cZ co fo ro_6 po pn rd st tw od rn x y u sn) H := hP
          have hD : va_D A (wRnd ad cI cJ cZ co fo ro_6 po pn rd st tw od rn x y u sn) := hD
          exact hj5 ro_6 hw ls _ _ (lv_sub hl [0, 1] rfl) hP hD hS
set_option maxRecDepth 100000 in
set_option maxHeartbeats 4000000 in
theorem c_X1_joinPieces (l : Launch) (dC : Nat → ClassId) (dI : Nat → Nat → Nat) (cI cJ cZ : ClassId) (ad : Nat → Nat) (sz : Nat) (co : Nat → Int32) (fo : Nat → Int32) (ro : Nat → Int32) (po : Nat → Int32) (pn : Int32) (rd : Nat → Int32) (st : Nat → Int32) (tw : Nat → Int64) (od : Nat → Int32) (rn : Int32) (x : Nat → Int32) (y : Nat → Int32) (u : Nat → Int32) (sn : Int32)  {post : (Nat → Int32) → Prop} (hw : wp_X1_joinPieces co ro u post) : Met l yX1_joinPieces wsX1_joinPieces rm_X1_joinPieces (va_Pc [.ref (ad 7)] (fun U => U.heap.size = sz ∧ va_P (dC, dI) vwCl (wRnd ad cI cJ cZ co fo ro po pn rd st tw od rn x y u sn) U.heap ∧ va_K (dC, dI) vwCl (tyL cI cJ cZ) U ∧ va_D (fun _ => True) (wRnd ad cI cJ cZ co fo ro po pn rd st tw od rn x y u sn))) (va_Qv (fun uu : (Nat → Int32) => post uu) (fun (uu : (Nat → Int32)) (t : State) => va_P (dC, dI) vwCl (wRnd ad cI cJ cZ co fo uu po pn rd st tw od rn x y u sn) t.heap ∧ va_D (va_A (wRnd ad cI cJ cZ co fo ro po pn rd st tw od rn x y u sn) sz) (wRnd ad cI cJ cZ co fo uu po pn rd st tw od rn x y u sn)) (va_A (wRnd ad cI cJ cZ co fo ro po pn rd st tw od rn x y u sn) sz)) 0 0 (va_A (wRnd ad cI cJ cZ co fo ro po pn rd st tw od rn x y u sn) sz) := by
  unfold wp_X1_joinPieces at hw
  refine Met.ofW (cc := cX1_joinPieces) (maxL := 2) (ret := none) (by decide) rfl ?_
  intro p e s m args below meth c s₁ B hml hv
  obtain ⟨hav, hsz, hP, hK, hD0⟩ := hv
  have hx := B.exec
  have hb := B.bytes
  have hr := B.returns
  have hts := atoms_spec (ws := wsX1_joinPieces) B.pre
  have hown : s.vm.findClass RX1 = some m.cls := findClass_of_methodNamed B.named
  have hlocks := B.notSynchronized
  have C : CallFix p m c cX1_joinPieces 2 s args wsX1_joinPieces RX1 := ⟨hx, hb, hml, hown, hts⟩
  obtain ⟨ls, hE, hl⟩ := mx_entry (m := m) [.ref (ad 7)] (n := 2) (Nat.le_of_ble_eq_true rfl)
  have hl : lv_has ls 2 [(0, .ref (ad 7))] := hl
  rw [show entryFrame m args 2 = F0 m 0 ls [] by rw [hav]; exact hE]
  subst hsz
  have hD := hD0.self (sz := s.heap.size)
  generalize hAe : va_A (wRnd ad cI cJ cZ co fo ro po pn rd st tw od rn x y u sn) s.heap.size = A at hD ⊢
  have hA : ∀ q : Nat, s.heap.size ≤ q → A q := fun q h => by rw [← hAe]; exact Or.inr h
  have hS : va_S A s.heap s.heap [] := va_S.rf
  obtain ⟨Q, hQ⟩ : ∃ Q, MQ below (va_Qv (fun uu : (Nat → Int32) => post uu) (fun (uu : (Nat → Int32)) (t : State) => va_P (dC, dI) vwCl (wRnd ad cI cJ cZ co fo uu po pn rd st tw od rn x y u sn) t.heap ∧ va_D A (wRnd ad cI cJ cZ co fo uu po pn rd st tw od rn x y u sn)) A) args s 0 0 A = Q := ⟨_, rfl⟩
  rw [hQ]
  obtain ⟨H, hH⟩ : ∃ H, s.heap = H := ⟨_, rfl⟩
  have hS : va_S A s.heap H [] := by rw [← hH]; exact hS
  rw [hH] at hP
  show W p l e rm_X1_joinPieces s m args below meth c s.heap [] 0 0 Q (F0 m 0 ls [])
  suffices hg : W p l e rm_X1_joinPieces s m args below meth c H [] 0 0 Q (F0 m 0 ls []) by rw [hH]; exact hg
  clear hH
  generalize hlo : ([] : List Loc) = locs at hS ⊢
  refine lv_iconst (v := 0) hx hb dX1_joinPieces_0 (by decide) ?_
  refine lv_istore_n (lv' := [(1, .int (0 : Int32)), (0, .ref (ad 7))]) hx hb dX1_joinPieces_1 rfl hl (by decide) rfl (fun ls hl => ?_)
  obtain ⟨n9, hw⟩ := hw
  refine l_X1_joinPieces_2 C hK hA (fun ro_2 ls H locs hl hP hD hS hw => ?_) n9 ro (0 : Int32) ls _ _ (lv_sub hl [1, 0] rfl) hP hD hS hw
  refine lv_iconst (v := 0) hx hb dX1_joinPieces_21 (by decide) ?_
  refine lv_istore_n (lv' := [(1, .int (0 : Int32)), (0, .ref (ad 7))]) hx hb dX1_joinPieces_22 rfl hl (by decide) rfl (fun ls hl => ?_)
  obtain ⟨n8, hw⟩ := hw
  refine l_X1_joinPieces_23 C hK hA (fun ro_7 ls H locs hl hP hD hS hw => ?_) n8 ro_2 (0 : Int32) ls _ _ (lv_sub hl [1, 0] rfl) hP hD hS hw
  rw [← hQ]
  exact W.vret hx hb hr (fun t ht hW => ⟨⟨ro_7, rfl, hw, by rw [ht]; exact hP, hD⟩, hS.F ht⟩) hS.2.2 dX1_joinPieces_74
-- X1_numberPieces
abbrev rm_X1_numberPieces : Room := { frames := 0, cells := 0, slots := 0, locals := 0 }
theorem f_X1_numberPieces_0 : (Cond.fieldLink RX1 31 "PlaneFaces$Rounds" "pieces" "I") ∈ wsX1_numberPieces := by decide +kernel
theorem f_X1_numberPieces_1 : ∀ w ∈ wsX10, w ∈ wsX1_numberPieces := by decide +kernel
theorem f_X1_numberPieces_2 : (Cond.fieldLink RX1 12 "PlaneFaces$Rounds" "segments" "LPlaneFaces$Segments;") ∈ wsX1_numberPieces := by decide +kernel
theorem f_X1_numberPieces_3 : (Cond.fieldLink RX1 54 "PlaneFaces$Segments" "used" "[Z") ∈ wsX1_numberPieces := by decide +kernel
theorem f_X1_numberPieces_4 : ∀ w ∈ wsX20, w ∈ wsX1_numberPieces := by decide +kernel
theorem f_X1_numberPieces_5 : (Cond.fieldLink RX1 28 "PlaneFaces$Rounds" "pieceOf" "[I") ∈ wsX1_numberPieces := by decide +kernel
theorem f_X1_numberPieces_6 : (Cond.fieldLink RX1 25 "PlaneFaces$Rounds" "root" "[I") ∈ wsX1_numberPieces := by decide +kernel
set_option maxRecDepth 100000 in
set_option maxHeartbeats 4000000 in
theorem l_X1_numberPieces_7 {p : Program} {l : Launch} {e : Env} {s : State} {m : MethodId} {args : Array Value} {below : List Frame} {meth : Method} {c : Code} {Q : State → Prop} {dC : Nat → ClassId} {dI : Nat → Nat → Nat} {cI cJ cZ : ClassId} {ad : Nat → Nat} {co : Nat → Int32} {fo : Nat → Int32} {ro : Nat → Int32} {rd : Nat → Int32} {st : Nat → Int32} {tw : Nat → Int64} {od : Nat → Int32} {rn : Int32} {x : Nat → Int32} {y : Nat → Int32} {u : Nat → Int32} {sn : Int32}  {K97 : (Nat → Int32) → Int32 → Prop} (C : CallFix p m c cX1_numberPieces 2 s args wsX1_numberPieces RX1) (hK : va_K (dC, dI) vwCl (tyL cI cJ cZ) s) {A : Nat → Prop} (hA : ∀ q : Nat, s.heap.size ≤ q → A q) (hk97 : ∀ (po_w : Nat → Int32) (pn_w : Int32) (ls : Array Slot) (H : Heap) (locs : List Loc), lv_has ls 2 [(0, .ref (ad 7))] → va_P (dC, dI) vwCl (wRnd ad cI cJ cZ co fo ro po_w pn_w rd st tw od rn x y u sn) H → va_D A (wRnd ad cI cJ cZ co fo ro po_w pn_w rd st tw od rn x y u sn) → va_S A s.heap H locs → K97 po_w pn_w → W p l e rm_X1_numberPieces s m args below meth c H locs 0 0 Q (F0 m 97 ls [])) : ∀ (n : Nat) (po : Nat → Int32) (pn : Int32) (v1 : Int32) (ls : Array Slot) (H : Heap) (locs : List Loc), lv_has ls 2 [(0, .ref (ad 7)), (1, .int v1)] → va_P (dC, dI) vwCl (wRnd ad cI cJ cZ co fo ro po pn rd st tw od rn x y u sn) H → va_D A (wRnd ad cI cJ cZ co fo ro po pn rd st tw od rn x y u sn) → va_S A s.heap H locs → lp_X1_numberPieces_7 ro u K97 n po pn v1 → W p l e rm_X1_numberPieces s m args below meth c H locs 0 0 Q (F0 m 7 ls []) := by
  obtain ⟨hx, hb, hml, hown, hts⟩ := id C
  intro n
  induction n with
  | zero =>
    intro po pn v1 ls H locs hl hP hD hS hw
    rw [lp_X1_numberPieces_7.eq_1] at hw
    exact hw.elim
  | succ n ih =>
    intro po pn v1 ls H locs hl hP hD hS hw
    rw [lp_X1_numberPieces_7.eq_2] at hw
    refine lv_iload_n hx hb dX1_numberPieces_7 rfl (lv_at hl 1 rfl) ?_
    refine lv_bipush (v := 60) hx hb dX1_numberPieces_8 (by decide) ?_
    refine lv_icmp_ge (tgt := 97) hx hb dX1_numberPieces_10 (by decide) (fun hc => ?_) (fun hc => ?_)
    · have hw := hw.1 (hc)
      exact hk97 po pn ls _ _ (lv_sub hl [0] rfl) hP hD hS hw
    · have hw := hw.2 hc
      refine lv_aload_n hx hb dX1_numberPieces_13 rfl (lv_at hl 0 rfl) ?_
      refine va_get (D := (dC, dI)) (ci := 1) (v := .ref (ad 16)) (C := RX1) (T := TX1) (N := 11) hx hb hts f_X1_numberPieces_1 hown hK hP 0 rfl rfl 0 (by decide) (hts _ f_X1_numberPieces_2) (fun _ h9 => h9) rfl dX1_numberPieces_14 ?_
      refine va_get (D := (dC, dI)) (ci := 2) (v := .ref (ad 19)) (C := RX2) (T := TX2) (N := 4) hx hb hts f_X1_numberPieces_4 hown hK hP 9 rfl rfl 2 (by decide) (hts _ f_X1_numberPieces_3) (fun _ h9 => h9) rfl dX1_numberPieces_17 ?_
      refine lv_iload_n hx hb dX1_numberPieces_20 rfl (lv_at hl 1 rfl) ?_
      have hi := hw.1
      have hw := hw.2
      refine va_zald hx hb hK hP 12 2 rfl rfl hi dX1_numberPieces_21 ?_
      refine jn2_use (J := fun (po_1 : Nat → Int32) (pn_2 : Int32) => ∀ (ls : Array Slot) (H : Heap) (locs : List Loc), lv_has ls 2 [(0, .ref (ad 7)), (1, .int v1)] → va_P (dC, dI) vwCl (wRnd ad cI cJ cZ co fo ro po_1 pn_2 rd st tw od rn x y u sn) H → va_D A (wRnd ad cI cJ cZ co fo ro po_1 pn_2 rd st tw od rn x y u sn) → va_S A s.heap H locs → W p l e rm_X1_numberPieces s m args below meth c H locs 0 0 Q (F0 m 91 ls [])) hw (fun po_1 pn_2 hw ls H locs hl hP hD hS => ?_) (fun hw hj0 => ?_)
      · refine lv_iinc (v := (v1 + (1 : Int32))) (lv' := [(1, .int (v1 + (1 : Int32))), (0, .ref (ad 7))]) hx hb dX1_numberPieces_91 hl (k := 1) rfl rfl (by decide) rfl (fun ls hl => ?_)
        refine lv_goto (tgt := 7) hx hb dX1_numberPieces_94 (by decide) ?_
        exact ih po_1 pn_2 (v1 + (1 : Int32)) ls _ _ (lv_sub hl [1, 0] rfl) hP hD hS hw
      · have hj4 := hj0
        refine jn0_use (J := ∀ (ls : Array Slot) (H : Heap) (locs : List Loc), lv_has ls 2 [(0, .ref (ad 7)), (1, .int v1)] → va_P (dC, dI) vwCl (wRnd ad cI cJ cZ co fo ro po pn rd st tw od rn x y u sn) H → va_D A (wRnd ad cI cJ cZ co fo ro po pn rd st tw od rn x y u sn) → va_S A s.heap H locs → W p l e rm_X1_numberPieces s m args below meth c H locs 0 0 Q (F0 m 58 ls [])) hw (fun hw ls H locs hl hP hD hS => ?_) (fun hw hj0 => ?_)
        · refine lv_aload_n hx hb dX1_numberPieces_58 rfl (lv_at hl 0 rfl) ?_
          refine va_get (D := (dC, dI)) (ci := 1) (v := .ref (ad 11)) (C := RX1) (T := TX1) (N := 11) hx hb hts f_X1_numberPieces_1 hown hK hP 0 rfl rfl 4 (by decide) (hts _ f_X1_numberPieces_5) (fun _ h9 => h9) rfl dX1_numberPieces_59 ?_
          refine lv_iload_n hx hb dX1_numberPieces_62 rfl (lv_at hl 1 rfl) ?_
          refine lv_aload_n hx hb dX1_numberPieces_63 rfl (lv_at hl 0 rfl) ?_
          refine va_get (D := (dC, dI)) (ci := 1) (v := .ref (ad 16)) (C := RX1) (T := TX1) (N := 11) hx hb hts f_X1_numberPieces_1 hown hK hP 0 rfl rfl 0 (by decide) (hts _ f_X1_numberPieces_2) (fun _ h9 => h9) rfl dX1_numberPieces_64 ?_
          refine va_get (D := (dC, dI)) (ci := 2) (v := .ref (ad 19)) (C := RX2) (T := TX2) (N := 4) hx hb hts f_X1_numberPieces_4 hown hK hP 9 rfl rfl 2 (by decide) (hts _ f_X1_numberPieces_3) (fun _ h9 => h9) rfl dX1_numberPieces_67 ?_
          refine lv_iload_n hx hb dX1_numberPieces_70 rfl (lv_at hl 1 rfl) ?_
          have hi := hw.1
          have hw := hw.2
          refine va_zald hx hb hK hP 12 2 rfl rfl hi dX1_numberPieces_71 ?_
          refine jn2_use (J := fun (k7 : Int32) (k8 : Int32) => ∀ (ls : Array Slot) (H : Heap) (locs : List Loc), lv_has ls 2 [(0, .ref (ad 7)), (1, .int v1)] → va_P (dC, dI) vwCl (wRnd ad cI cJ cZ co fo ro po pn rd st tw od rn x y u sn) H → va_D A (wRnd ad cI cJ cZ co fo ro po pn rd st tw od rn x y u sn) → va_S A s.heap H locs → W p l e rm_X1_numberPieces s m args below meth c H locs 0 0 Q (F0 m 90 ls [.int k7, .int k8, .ref (ad 11)])) hw (fun k7 k8 hw ls H locs hl hP hD hS => ?_) (fun hw hj0 => ?_)
          · have hi := hw.1
            have hw := hw.2 _ rfl
            refine va_iast hx hb hK hP hD hS 4 0 rfl rfl hi dX1_numberPieces_90 (fun H locs hP hD hS => ?_)
            generalize hpo_11 : (upd po k8.toNatClampNeg k7) = po_11 at hw hP hD
            have hP : va_P (dC, dI) vwCl (wRnd ad cI cJ cZ co fo ro po_11 pn rd st tw od rn x y u sn) H := hP
            have hD : va_D A (wRnd ad cI cJ cZ co fo ro po_11 pn rd st tw od rn x y u sn) := hD
            exact hj4 po_11 pn hw ls _ _ (lv_sub hl [0, 1] rfl) hP hD hS
          · have hj10 := hj0
            refine lv_if_eq (tgt := 89) hx hb dX1_numberPieces_72 (by decide) (fun hc => ?_) (fun hc => ?_)
            · have hw := hw.1 (hc)
              refine lv_iconst (v := -1) hx hb dX1_numberPieces_89 (by decide) ?_
              exact hj10 (-1 : Int32) v1 hw ls _ _ (lv_sub hl [0, 1] rfl) hP hD hS
            · have hw := hw.2 hc
              refine lv_aload_n hx hb dX1_numberPieces_75 rfl (lv_at hl 0 rfl) ?_
              refine va_get (D := (dC, dI)) (ci := 1) (v := .ref (ad 11)) (C := RX1) (T := TX1) (N := 11) hx hb hts f_X1_numberPieces_1 hown hK hP 0 rfl rfl 4 (by decide) (hts _ f_X1_numberPieces_5) (fun _ h9 => h9) rfl dX1_numberPieces_76 ?_
              refine lv_aload_n hx hb dX1_numberPieces_79 rfl (lv_at hl 0 rfl) ?_
              refine va_get (D := (dC, dI)) (ci := 1) (v := .ref (ad 10)) (C := RX1) (T := TX1) (N := 11) hx hb hts f_X1_numberPieces_1 hown hK hP 0 rfl rfl 3 (by decide) (hts _ f_X1_numberPieces_6) (fun _ h9 => h9) rfl dX1_numberPieces_80 ?_
              refine lv_iload_n hx hb dX1_numberPieces_83 rfl (lv_at hl 1 rfl) ?_
              have hi := hw.1
              have hw := hw.2
              refine va_iald hx hb hK hP 3 0 rfl rfl hi dX1_numberPieces_84 ?_
              have hi := hw.1
              have hw := hw.2
              refine va_iald hx hb hK hP 4 0 rfl rfl hi dX1_numberPieces_85 ?_
              refine lv_goto (tgt := 90) hx hb dX1_numberPieces_86 (by decide) ?_
              exact hj10 (po (ro v1.toNatClampNeg).toNatClampNeg) v1 hw ls _ _ (lv_sub hl [0, 1] rfl) hP hD hS
        · have hj6 := hj0
          refine lv_if_eq (tgt := 58) hx hb dX1_numberPieces_22 (by decide) (fun hc => ?_) (fun hc => ?_)
          · have hw := hw.1 (hc)
            exact hj6 hw ls _ _ (lv_sub hl [0, 1] rfl) hP hD hS
          · have hw := hw.2 hc
            refine lv_aload_n hx hb dX1_numberPieces_25 rfl (lv_at hl 0 rfl) ?_
            refine va_get (D := (dC, dI)) (ci := 1) (v := .ref (ad 10)) (C := RX1) (T := TX1) (N := 11) hx hb hts f_X1_numberPieces_1 hown hK hP 0 rfl rfl 3 (by decide) (hts _ f_X1_numberPieces_6) (fun _ h9 => h9) rfl dX1_numberPieces_26 ?_
            refine lv_iload_n hx hb dX1_numberPieces_29 rfl (lv_at hl 1 rfl) ?_
            have hi := hw.1
            have hw := hw.2
            refine va_iald hx hb hK hP 3 0 rfl rfl hi dX1_numberPieces_30 ?_
            refine lv_iload_n hx hb dX1_numberPieces_31 rfl (lv_at hl 1 rfl) ?_
            refine lv_icmp_ne (tgt := 58) hx hb dX1_numberPieces_32 (by decide) (fun hc => ?_) (fun hc => ?_)
            · have hw := hw.2 hc
              exact hj6 hw ls _ _ (lv_sub hl [0, 1] rfl) hP hD hS
            · have hw := hw.1 (hc)
              refine lv_aload_n hx hb dX1_numberPieces_35 rfl (lv_at hl 0 rfl) ?_
              refine va_get (D := (dC, dI)) (ci := 1) (v := .ref (ad 11)) (C := RX1) (T := TX1) (N := 11) hx hb hts f_X1_numberPieces_1 hown hK hP 0 rfl rfl 4 (by decide) (hts _ f_X1_numberPieces_5) (fun _ h9 => h9) rfl dX1_numberPieces_36 ?_
              refine lv_iload_n hx hb dX1_numberPieces_39 rfl (lv_at hl 1 rfl) ?_
              refine lv_aload_n hx hb dX1_numberPieces_40 rfl (lv_at hl 0 rfl) ?_
              refine va_get (D := (dC, dI)) (ci := 1) (v := .int pn) (C := RX1) (T := TX1) (N := 11) hx hb hts f_X1_numberPieces_1 hown hK hP 0 rfl rfl 5 (by decide) (hts _ f_X1_numberPieces_0) (fun _ h9 => h9) rfl dX1_numberPieces_41 ?_
              have hi := hw.1
              have hw := hw.2 _ rfl
              refine va_iast hx hb hK hP hD hS 4 0 rfl rfl hi dX1_numberPieces_44 (fun H locs hP hD hS => ?_)
              generalize hpo_12 : (upd po v1.toNatClampNeg pn) = po_12 at hw hP hD
              have hP : va_P (dC, dI) vwCl (wRnd ad cI cJ cZ co fo ro po_12 pn rd st tw od rn x y u sn) H := hP
              have hD : va_D A (wRnd ad cI cJ cZ co fo ro po_12 pn rd st tw od rn x y u sn) := hD
              refine lv_aload_n hx hb dX1_numberPieces_45 rfl (lv_at hl 0 rfl) ?_
              refine lv_dup hx hb dX1_numberPieces_46 rfl ?_
              refine va_get (D := (dC, dI)) (ci := 1) (v := .int pn) (C := RX1) (T := TX1) (N := 11) hx hb hts f_X1_numberPieces_1 hown hK hP 0 rfl rfl 5 (by decide) (hts _ f_X1_numberPieces_0) (fun _ h9 => h9) rfl dX1_numberPieces_47 ?_
              refine lv_iconst (v := 1) hx hb dX1_numberPieces_50 (by decide) ?_
              refine lv_iadd hx hb dX1_numberPieces_51 ?_
              refine va_put (D := (dC, dI)) (ci := 1) (v := .int (pn + (1 : Int32))) (ty := .int) (C := RX1) (T := TX1) (N := 11) hx hb hts f_X1_numberPieces_1 tyX1 tyX1_ok nmX1 hown hK hP hD hS 0 rfl rfl 5 (by decide) (hts _ f_X1_numberPieces_0) (fun _ h9 => h9) rfl (by decide +kernel) rfl rfl (Nat.le_of_ble_eq_true rfl) dX1_numberPieces_52 (fun H locs hP hD hS => ?_)
              have hP : va_P (dC, dI) vwCl (wRnd ad cI cJ cZ co fo ro po_12 (pn + (1 : Int32)) rd st tw od rn x y u sn) H := hP
              have hD : va_D A (wRnd ad cI cJ cZ co fo ro po_12 (pn + (1 : Int32)) rd st tw od rn x y u sn) := hD
              refine lv_goto (tgt := 91) hx hb dX1_numberPieces_55 (by decide) ?_
              exact hj4 po_12 (pn + (1 : Int32)) hw ls _ _ (lv_sub hl [0, 1] rfl) hP hD hS
set_option maxRecDepth 100000 in
set_option maxHeartbeats 4000000 in
theorem c_X1_numberPieces (l : Launch) (dC : Nat → ClassId) (dI : Nat → Nat → Nat) (cI cJ cZ : ClassId) (ad : Nat → Nat) (sz : Nat) (co : Nat → Int32) (fo : Nat → Int32) (ro : Nat → Int32) (po : Nat → Int32) (pn : Int32) (rd : Nat → Int32) (st : Nat → Int32) (tw : Nat → Int64) (od : Nat → Int32) (rn : Int32) (x : Nat → Int32) (y : Nat → Int32) (u : Nat → Int32) (sn : Int32)  {post : (Nat → Int32) → Int32 → Prop} (hw : wp_X1_numberPieces ro po pn u post) : Met l yX1_numberPieces wsX1_numberPieces rm_X1_numberPieces (va_Pc [.ref (ad 7)] (fun U => U.heap.size = sz ∧ va_P (dC, dI) vwCl (wRnd ad cI cJ cZ co fo ro po pn rd st tw od rn x y u sn) U.heap ∧ va_K (dC, dI) vwCl (tyL cI cJ cZ) U ∧ va_D (fun _ => True) (wRnd ad cI cJ cZ co fo ro po pn rd st tw od rn x y u sn))) (va_Qv (fun uu : (Nat → Int32) × Int32 => post uu.1 uu.2) (fun (uu : (Nat → Int32) × Int32) (t : State) => va_P (dC, dI) vwCl (wRnd ad cI cJ cZ co fo ro uu.1 uu.2 rd st tw od rn x y u sn) t.heap ∧ va_D (va_A (wRnd ad cI cJ cZ co fo ro po pn rd st tw od rn x y u sn) sz) (wRnd ad cI cJ cZ co fo ro uu.1 uu.2 rd st tw od rn x y u sn)) (va_A (wRnd ad cI cJ cZ co fo ro po pn rd st tw od rn x y u sn) sz)) 0 0 (va_A (wRnd ad cI cJ cZ co fo ro po pn rd st tw od rn x y u sn) sz) := by
  unfold wp_X1_numberPieces at hw
  refine Met.ofW (cc := cX1_numberPieces) (maxL := 2) (ret := none) (by decide) rfl ?_
  intro p e s m args below meth c s₁ B hml hv
  obtain ⟨hav, hsz, hP, hK, hD0⟩ := hv
  have hx := B.exec
  have hb := B.bytes
  have hr := B.returns
  have hts := atoms_spec (ws := wsX1_numberPieces) B.pre
  have hown : s.vm.findClass RX1 = some m.cls := findClass_of_methodNamed B.named
  have hlocks := B.notSynchronized
  have C : CallFix p m c cX1_numberPieces 2 s args wsX1_numberPieces RX1 := ⟨hx, hb, hml, hown, hts⟩
  obtain ⟨ls, hE, hl⟩ := mx_entry (m := m) [.ref (ad 7)] (n := 2) (Nat.le_of_ble_eq_true rfl)
  have hl : lv_has ls 2 [(0, .ref (ad 7))] := hl
  rw [show entryFrame m args 2 = F0 m 0 ls [] by rw [hav]; exact hE]
  subst hsz
  have hD := hD0.self (sz := s.heap.size)
  generalize hAe : va_A (wRnd ad cI cJ cZ co fo ro po pn rd st tw od rn x y u sn) s.heap.size = A at hD ⊢
  have hA : ∀ q : Nat, s.heap.size ≤ q → A q := fun q h => by rw [← hAe]; exact Or.inr h
  have hS : va_S A s.heap s.heap [] := va_S.rf
  obtain ⟨Q, hQ⟩ : ∃ Q, MQ below (va_Qv (fun uu : (Nat → Int32) × Int32 => post uu.1 uu.2) (fun (uu : (Nat → Int32) × Int32) (t : State) => va_P (dC, dI) vwCl (wRnd ad cI cJ cZ co fo ro uu.1 uu.2 rd st tw od rn x y u sn) t.heap ∧ va_D A (wRnd ad cI cJ cZ co fo ro uu.1 uu.2 rd st tw od rn x y u sn)) A) args s 0 0 A = Q := ⟨_, rfl⟩
  rw [hQ]
  obtain ⟨H, hH⟩ : ∃ H, s.heap = H := ⟨_, rfl⟩
  have hS : va_S A s.heap H [] := by rw [← hH]; exact hS
  rw [hH] at hP
  show W p l e rm_X1_numberPieces s m args below meth c s.heap [] 0 0 Q (F0 m 0 ls [])
  suffices hg : W p l e rm_X1_numberPieces s m args below meth c H [] 0 0 Q (F0 m 0 ls []) by rw [hH]; exact hg
  clear hH
  generalize hlo : ([] : List Loc) = locs at hS ⊢
  refine lv_aload_n hx hb dX1_numberPieces_0 rfl (lv_at hl 0 rfl) ?_
  refine lv_iconst (v := 0) hx hb dX1_numberPieces_1 (by decide) ?_
  refine va_put (D := (dC, dI)) (ci := 1) (v := .int (0 : Int32)) (ty := .int) (C := RX1) (T := TX1) (N := 11) hx hb hts f_X1_numberPieces_1 tyX1 tyX1_ok nmX1 hown hK hP hD hS 0 rfl rfl 5 (by decide) (hts _ f_X1_numberPieces_0) (fun _ h9 => h9) rfl (by decide +kernel) rfl rfl (Nat.le_of_ble_eq_true rfl) dX1_numberPieces_2 (fun H locs hP hD hS => ?_)
  have hP : va_P (dC, dI) vwCl (wRnd ad cI cJ cZ co fo ro po (0 : Int32) rd st tw od rn x y u sn) H := hP
  have hD : va_D A (wRnd ad cI cJ cZ co fo ro po (0 : Int32) rd st tw od rn x y u sn) := hD
  refine lv_iconst (v := 0) hx hb dX1_numberPieces_5 (by decide) ?_
  refine lv_istore_n (lv' := [(1, .int (0 : Int32)), (0, .ref (ad 7))]) hx hb dX1_numberPieces_6 rfl hl (by decide) rfl (fun ls hl => ?_)
  obtain ⟨n15, hw⟩ := hw
  refine l_X1_numberPieces_7 C hK hA (fun po_13 pn_14 ls H locs hl hP hD hS hw => ?_) n15 po (0 : Int32) (0 : Int32) ls _ _ (lv_sub hl [1, 0] rfl) hP hD hS hw
  rw [← hQ]
  exact W.vret hx hb hr (fun t ht hW => ⟨⟨(po_13, pn_14), rfl, hw, by rw [ht]; exact hP, hD⟩, hS.F ht⟩) hS.2.2 dX1_numberPieces_97
-- X1_walk
abbrev rm_X1_walk : Room := { frames := 1, cells := 0, slots := 0, locals := 21 }
theorem f_X1_walk_0 : (Cond.fieldLink RX1 38 "PlaneFaces$Rounds" "start" "[I") ∈ wsX1_walk := by decide +kernel
theorem f_X1_walk_1 : ∀ w ∈ wsX10, w ∈ wsX1_walk := by decide +kernel
theorem f_X1_walk_2 : (Cond.fieldLink RX1 48 "PlaneFaces$Rounds" "size" "I") ∈ wsX1_walk := by decide +kernel
theorem f_X1_walk_3 : (Cond.fieldLink RX1 41 "PlaneFaces$Rounds" "twice" "[J") ∈ wsX1_walk := by decide +kernel
theorem f_X1_walk_4 : (Cond.fieldLink RX1 35 "PlaneFaces$Rounds" "roundOf" "[I") ∈ wsX1_walk := by decide +kernel
theorem f_X1_walk_5 : (Cond.fieldLink RX1 12 "PlaneFaces$Rounds" "segments" "LPlaneFaces$Segments;") ∈ wsX1_walk := by decide +kernel
theorem f_X1_walk_6 : (Cond.fieldLink RX1 22 "PlaneFaces$Rounds" "following" "[I") ∈ wsX1_walk := by decide +kernel
set_option maxRecDepth 100000 in
set_option maxHeartbeats 4000000 in
theorem l_X1_walk_24 {p : Program} {l : Launch} {e : Env} {s : State} {m : MethodId} {args : Array Value} {below : List Frame} {meth : Method} {c : Code} {Q : State → Prop} {dC : Nat → ClassId} {dI : Nat → Nat → Nat} {cI cJ cZ : ClassId} {ad : Nat → Nat} {co : Nat → Int32} {fo : Nat → Int32} {ro : Nat → Int32} {po : Nat → Int32} {pn : Int32} {st : Nat → Int32} {od : Nat → Int32} {rn : Int32} {x : Nat → Int32} {y : Nat → Int32} {u : Nat → Int32} {sn : Int32}  {K83 : (Nat → Int32) → (Nat → Int64) → Prop} (C : CallFix p m c cX1_walk 4 s args wsX1_walk RX1) (hK : va_K (dC, dI) vwCl (tyL cI cJ cZ) s) {A : Nat → Prop} (hA : ∀ q : Nat, s.heap.size ≤ q → A q) (hk83 : ∀ (rd_w : Nat → Int32) (tw_w : Nat → Int64) (ls : Array Slot) (H : Heap) (locs : List Loc), lv_has ls 4 [(0, .ref (ad 7))] → va_P (dC, dI) vwCl (wRnd ad cI cJ cZ co fo ro po pn rd_w st tw_w od rn x y u sn) H → va_D A (wRnd ad cI cJ cZ co fo ro po pn rd_w st tw_w od rn x y u sn) → va_S A s.heap H locs → K83 rd_w tw_w → W p l e rm_X1_walk s m args below meth c H locs 0 0 Q (F0 m 83 ls [])) : ∀ (n : Nat) (rd : Nat → Int32) (tw : Nat → Int64) (v2 : Int32) (v3 : Int32) (ls : Array Slot) (H : Heap) (locs : List Loc), lv_has ls 4 [(0, .ref (ad 7)), (2, .int v2), (3, .int v3)] → va_P (dC, dI) vwCl (wRnd ad cI cJ cZ co fo ro po pn rd st tw od rn x y u sn) H → va_D A (wRnd ad cI cJ cZ co fo ro po pn rd st tw od rn x y u sn) → va_S A s.heap H locs → lp_X1_walk_24 fo st rn x y K83 n rd tw v2 v3 → W p l e rm_X1_walk s m args below meth c H locs 0 0 Q (F0 m 24 ls []) := by
  obtain ⟨hx, hb, hml, hown, hts⟩ := id C
  intro n
  induction n with
  | zero =>
    intro rd tw v2 v3 ls H locs hl hP hD hS hw
    rw [lp_X1_walk_24.eq_1] at hw
    exact hw.elim
  | succ n ih =>
    intro rd tw v2 v3 ls H locs hl hP hD hS hw
    rw [lp_X1_walk_24.eq_2] at hw
    refine lv_iload_n hx hb dX1_walk_24 rfl (lv_at hl 2 rfl) ?_
    refine lv_bipush (v := 120) hx hb dX1_walk_25 (by decide) ?_
    refine lv_icmp_ge (tgt := 83) hx hb dX1_walk_27 (by decide) (fun hc => ?_) (fun hc => ?_)
    · have hw := hw.1 (hc)
      exact hk83 rd tw ls _ _ (lv_sub hl [0] rfl) hP hD hS hw
    · have hw := hw.2 hc
      refine lv_aload_n hx hb dX1_walk_30 rfl (lv_at hl 0 rfl) ?_
      refine va_get (D := (dC, dI)) (ci := 1) (v := .ref (ad 12)) (C := RX1) (T := TX1) (N := 11) hx hb hts f_X1_walk_1 hown hK hP 0 rfl rfl 6 (by decide) (hts _ f_X1_walk_4) (fun _ h9 => h9) rfl dX1_walk_31 ?_
      refine lv_iload_n hx hb dX1_walk_34 rfl (lv_at hl 1 rfl) ?_
      have hi := hw.1
      have hw := hw.2
      refine va_iald hx hb hK hP 5 0 rfl rfl hi dX1_walk_35 ?_
      refine lv_iconst (v := -1) hx hb dX1_walk_36 (by decide) ?_
      refine lv_icmp_ne (tgt := 83) hx hb dX1_walk_37 (by decide) (fun hc => ?_) (fun hc => ?_)
      · have hw := hw.2 hc
        exact hk83 rd tw ls _ _ (lv_sub hl [0] rfl) hP hD hS hw
      · have hw := hw.1 (hc)
        refine lv_aload_n hx hb dX1_walk_40 rfl (lv_at hl 0 rfl) ?_
        refine va_get (D := (dC, dI)) (ci := 1) (v := .ref (ad 12)) (C := RX1) (T := TX1) (N := 11) hx hb hts f_X1_walk_1 hown hK hP 0 rfl rfl 6 (by decide) (hts _ f_X1_walk_4) (fun _ h9 => h9) rfl dX1_walk_41 ?_
        refine lv_iload_n hx hb dX1_walk_44 rfl (lv_at hl 1 rfl) ?_
        refine lv_aload_n hx hb dX1_walk_45 rfl (lv_at hl 0 rfl) ?_
        refine va_get (D := (dC, dI)) (ci := 1) (v := .int rn) (C := RX1) (T := TX1) (N := 11) hx hb hts f_X1_walk_1 hown hK hP 0 rfl rfl 10 (by decide) (hts _ f_X1_walk_2) (fun _ h9 => h9) rfl dX1_walk_46 ?_
        have hi := hw.1
        have hw := hw.2 _ rfl
        refine va_iast hx hb hK hP hD hS 5 0 rfl rfl hi dX1_walk_49 (fun H locs hP hD hS => ?_)
        generalize hrd_3 : (upd rd v2.toNatClampNeg rn) = rd_3 at hw hP hD
        have hP : va_P (dC, dI) vwCl (wRnd ad cI cJ cZ co fo ro po pn rd_3 st tw od rn x y u sn) H := hP
        have hD : va_D A (wRnd ad cI cJ cZ co fo ro po pn rd_3 st tw od rn x y u sn) := hD
        refine lv_aload_n hx hb dX1_walk_50 rfl (lv_at hl 0 rfl) ?_
        refine va_get (D := (dC, dI)) (ci := 1) (v := .ref (ad 14)) (C := RX1) (T := TX1) (N := 11) hx hb hts f_X1_walk_1 hown hK hP 0 rfl rfl 8 (by decide) (hts _ f_X1_walk_3) (fun _ h9 => h9) rfl dX1_walk_51 ?_
        refine lv_aload_n hx hb dX1_walk_54 rfl (lv_at hl 0 rfl) ?_
        refine va_get (D := (dC, dI)) (ci := 1) (v := .int rn) (C := RX1) (T := TX1) (N := 11) hx hb hts f_X1_walk_1 hown hK hP 0 rfl rfl 10 (by decide) (hts _ f_X1_walk_2) (fun _ h9 => h9) rfl dX1_walk_55 ?_
        refine lv_dup2_11 hx hb dX1_walk_58 rfl rfl ?_
        have hi := hw.1
        have hw := hw.2
        refine va_lald hx hb hK hP 7 1 rfl rfl hi dX1_walk_59 ?_
        refine lv_aload_n hx hb dX1_walk_60 rfl (lv_at hl 0 rfl) ?_
        refine va_get (D := (dC, dI)) (ci := 1) (v := .ref (ad 16)) (C := RX1) (T := TX1) (N := 11) hx hb hts f_X1_walk_1 hown hK hP 0 rfl rfl 0 (by decide) (hts _ f_X1_walk_5) (fun _ h9 => h9) rfl dX1_walk_61 ?_
        refine lv_iload_n hx hb dX1_walk_64 rfl (lv_at hl 1 rfl) ?_
        have hPc := hP.sub (ws' := (wSeg ad cI cJ cZ x y u sn)) [9, 10, 11, 12] rfl
        refine vp_callSl (W.runV (As := [.int v2]) (rest := [.long (tw rn.toNatClampNeg), .int rn, .ref (ad 14)]) C (c_X2_sweep l dC dI cI cJ cZ ad x y u sn v2 hw) (cwV 1 hts gX1_walk_X2_sweep rfl rfl rfl (by decide +kernel) ⟨Nat.le_of_ble_eq_true rfl, Nat.le_of_ble_eq_true rfl⟩) ⟨fb_ro, va_recv hK hPc (ci := 2) (q0 := 0) rfl rfl, fun U hU hW => ⟨rfl, by rw [hU]; exact hPc, va_K.moved hW.alike hK⟩⟩ rfl rfl hl.1 rfl (lv_room (Nat.le_of_ble_eq_true rfl)) dX1_walk_65 ⟨Nat.zero_le _, Nat.zero_le _⟩) (fun r4 hw => ?_)
        refine lv_ladd hx hb dX1_walk_68 ?_
        have hi := hw.1
        have hw := hw.2 _ rfl
        refine va_last hx hb hK hP hD hS 7 1 rfl rfl hi dX1_walk_69 (fun H locs hP hD hS => ?_)
        generalize htw_5 : (vp_updL tw rn.toNatClampNeg ((tw rn.toNatClampNeg) + r4)) = tw_5 at hw hP hD
        have hP : va_P (dC, dI) vwCl (wRnd ad cI cJ cZ co fo ro po pn rd_3 st tw_5 od rn x y u sn) H := hP
        have hD : va_D A (wRnd ad cI cJ cZ co fo ro po pn rd_3 st tw_5 od rn x y u sn) := hD
        refine lv_aload_n hx hb dX1_walk_70 rfl (lv_at hl 0 rfl) ?_
        refine va_get (D := (dC, dI)) (ci := 1) (v := .ref (ad 9)) (C := RX1) (T := TX1) (N := 11) hx hb hts f_X1_walk_1 hown hK hP 0 rfl rfl 2 (by decide) (hts _ f_X1_walk_6) (fun _ h9 => h9) rfl dX1_walk_71 ?_
        refine lv_iload_n hx hb dX1_walk_74 rfl (lv_at hl 1 rfl) ?_
        have hi := hw.1
        have hw := hw.2
        refine va_iald hx hb hK hP 2 0 rfl rfl hi dX1_walk_75 ?_
        refine lv_topi (fun a6 ea6 => ?_)
        have hw := hw a6 ea6
        refine lv_istore_n (lv' := [(2, .int a6), (0, .ref (ad 7)), (3, .int v3)]) hx hb dX1_walk_76 rfl hl (by decide) rfl (fun ls hl => ?_)
        refine lv_iinc (v := (v3 + (1 : Int32))) (lv' := [(3, .int (v3 + (1 : Int32))), (2, .int a6), (0, .ref (ad 7))]) hx hb dX1_walk_77 hl (k := 2) rfl rfl (by decide) rfl (fun ls hl => ?_)
        refine lv_goto (tgt := 24) hx hb dX1_walk_80 (by decide) ?_
        exact ih rd_3 tw_5 a6 (v3 + (1 : Int32)) ls _ _ (lv_sub hl [2, 1, 0] rfl) hP hD hS hw
set_option maxRecDepth 100000 in
set_option maxHeartbeats 4000000 in
theorem c_X1_walk (l : Launch) (dC : Nat → ClassId) (dI : Nat → Nat → Nat) (cI cJ cZ : ClassId) (ad : Nat → Nat) (sz : Nat) (co : Nat → Int32) (fo : Nat → Int32) (ro : Nat → Int32) (po : Nat → Int32) (pn : Int32) (rd : Nat → Int32) (st : Nat → Int32) (tw : Nat → Int64) (od : Nat → Int32) (rn : Int32) (x : Nat → Int32) (y : Nat → Int32) (u : Nat → Int32) (sn : Int32) (v1 : Int32) {post : (Nat → Int32) → (Nat → Int32) → (Nat → Int64) → Prop} (hw : wp_X1_walk fo rd st tw rn x y v1 post) : Met l yX1_walk wsX1_walk rm_X1_walk (va_Pc [.ref (ad 7), .int v1] (fun U => U.heap.size = sz ∧ va_P (dC, dI) vwCl (wRnd ad cI cJ cZ co fo ro po pn rd st tw od rn x y u sn) U.heap ∧ va_K (dC, dI) vwCl (tyL cI cJ cZ) U ∧ va_D (fun _ => True) (wRnd ad cI cJ cZ co fo ro po pn rd st tw od rn x y u sn))) (va_Qv (fun uu : (Nat → Int32) × (Nat → Int32) × (Nat → Int64) => post uu.1 uu.2.1 uu.2.2) (fun (uu : (Nat → Int32) × (Nat → Int32) × (Nat → Int64)) (t : State) => va_P (dC, dI) vwCl (wRnd ad cI cJ cZ co fo ro po pn uu.1 uu.2.1 uu.2.2 od rn x y u sn) t.heap ∧ va_D (va_A (wRnd ad cI cJ cZ co fo ro po pn rd st tw od rn x y u sn) sz) (wRnd ad cI cJ cZ co fo ro po pn uu.1 uu.2.1 uu.2.2 od rn x y u sn)) (va_A (wRnd ad cI cJ cZ co fo ro po pn rd st tw od rn x y u sn) sz)) 0 0 (va_A (wRnd ad cI cJ cZ co fo ro po pn rd st tw od rn x y u sn) sz) := by
  unfold wp_X1_walk at hw
  refine Met.ofW (cc := cX1_walk) (maxL := 4) (ret := none) (by decide) rfl ?_
  intro p e s m args below meth c s₁ B hml hv
  obtain ⟨hav, hsz, hP, hK, hD0⟩ := hv
  have hx := B.exec
  have hb := B.bytes
  have hr := B.returns
  have hts := atoms_spec (ws := wsX1_walk) B.pre
  have hown : s.vm.findClass RX1 = some m.cls := findClass_of_methodNamed B.named
  have hlocks := B.notSynchronized
  have C : CallFix p m c cX1_walk 4 s args wsX1_walk RX1 := ⟨hx, hb, hml, hown, hts⟩
  obtain ⟨ls, hE, hl⟩ := mx_entry (m := m) [.ref (ad 7), .int v1] (n := 4) (Nat.le_of_ble_eq_true rfl)
  have hl : lv_has ls 4 [(0, .ref (ad 7)), (1, .int v1)] := hl
  rw [show entryFrame m args 4 = F0 m 0 ls [] by rw [hav]; exact hE]
  subst hsz
  have hD := hD0.self (sz := s.heap.size)
  generalize hAe : va_A (wRnd ad cI cJ cZ co fo ro po pn rd st tw od rn x y u sn) s.heap.size = A at hD ⊢
  have hA : ∀ q : Nat, s.heap.size ≤ q → A q := fun q h => by rw [← hAe]; exact Or.inr h
  have hS : va_S A s.heap s.heap [] := va_S.rf
  obtain ⟨Q, hQ⟩ : ∃ Q, MQ below (va_Qv (fun uu : (Nat → Int32) × (Nat → Int32) × (Nat → Int64) => post uu.1 uu.2.1 uu.2.2) (fun (uu : (Nat → Int32) × (Nat → Int32) × (Nat → Int64)) (t : State) => va_P (dC, dI) vwCl (wRnd ad cI cJ cZ co fo ro po pn uu.1 uu.2.1 uu.2.2 od rn x y u sn) t.heap ∧ va_D A (wRnd ad cI cJ cZ co fo ro po pn uu.1 uu.2.1 uu.2.2 od rn x y u sn)) A) args s 0 0 A = Q := ⟨_, rfl⟩
  rw [hQ]
  obtain ⟨H, hH⟩ : ∃ H, s.heap = H := ⟨_, rfl⟩
  have hS : va_S A s.heap H [] := by rw [← hH]; exact hS
  rw [hH] at hP
  show W p l e rm_X1_walk s m args below meth c s.heap [] 0 0 Q (F0 m 0 ls [])
  suffices hg : W p l e rm_X1_walk s m args below meth c H [] 0 0 Q (F0 m 0 ls []) by rw [hH]; exact hg
  clear hH
  generalize hlo : ([] : List Loc) = locs at hS ⊢
  refine lv_aload_n hx hb dX1_walk_0 rfl (lv_at hl 0 rfl) ?_
  refine va_get (D := (dC, dI)) (ci := 1) (v := .ref (ad 13)) (C := RX1) (T := TX1) (N := 11) hx hb hts f_X1_walk_1 hown hK hP 0 rfl rfl 7 (by decide) (hts _ f_X1_walk_0) (fun _ h9 => h9) rfl dX1_walk_1 ?_
  refine lv_aload_n hx hb dX1_walk_4 rfl (lv_at hl 0 rfl) ?_
  refine va_get (D := (dC, dI)) (ci := 1) (v := .int rn) (C := RX1) (T := TX1) (N := 11) hx hb hts f_X1_walk_1 hown hK hP 0 rfl rfl 10 (by decide) (hts _ f_X1_walk_2) (fun _ h9 => h9) rfl dX1_walk_5 ?_
  refine lv_iload_n hx hb dX1_walk_8 rfl (lv_at hl 1 rfl) ?_
  have hi := hw.1
  have hw := hw.2 _ rfl
  refine va_iast hx hb hK hP hD hS 6 0 rfl rfl hi dX1_walk_9 (fun H locs hP hD hS => ?_)
  generalize hst_1 : (upd st rn.toNatClampNeg v1) = st_1 at hw hP hD
  have hP : va_P (dC, dI) vwCl (wRnd ad cI cJ cZ co fo ro po pn rd st_1 tw od rn x y u sn) H := hP
  have hD : va_D A (wRnd ad cI cJ cZ co fo ro po pn rd st_1 tw od rn x y u sn) := hD
  refine lv_aload_n hx hb dX1_walk_10 rfl (lv_at hl 0 rfl) ?_
  refine va_get (D := (dC, dI)) (ci := 1) (v := .ref (ad 14)) (C := RX1) (T := TX1) (N := 11) hx hb hts f_X1_walk_1 hown hK hP 0 rfl rfl 8 (by decide) (hts _ f_X1_walk_3) (fun _ h9 => h9) rfl dX1_walk_11 ?_
  refine lv_aload_n hx hb dX1_walk_14 rfl (lv_at hl 0 rfl) ?_
  refine va_get (D := (dC, dI)) (ci := 1) (v := .int rn) (C := RX1) (T := TX1) (N := 11) hx hb hts f_X1_walk_1 hown hK hP 0 rfl rfl 10 (by decide) (hts _ f_X1_walk_2) (fun _ h9 => h9) rfl dX1_walk_15 ?_
  refine lv_lconst (v := 0) hx hb dX1_walk_18 (by decide) ?_
  have hi := hw.1
  have hw := hw.2 _ rfl
  refine va_last hx hb hK hP hD hS 7 1 rfl rfl hi dX1_walk_19 (fun H locs hP hD hS => ?_)
  generalize htw_2 : (vp_updL tw rn.toNatClampNeg (0 : Int64)) = tw_2 at hw hP hD
  have hP : va_P (dC, dI) vwCl (wRnd ad cI cJ cZ co fo ro po pn rd st_1 tw_2 od rn x y u sn) H := hP
  have hD : va_D A (wRnd ad cI cJ cZ co fo ro po pn rd st_1 tw_2 od rn x y u sn) := hD
  refine lv_iload_n hx hb dX1_walk_20 rfl (lv_at hl 1 rfl) ?_
  refine lv_istore_n (lv' := [(2, .int v1), (0, .ref (ad 7)), (1, .int v1)]) hx hb dX1_walk_21 rfl hl (by decide) rfl (fun ls hl => ?_)
  refine lv_iconst (v := 0) hx hb dX1_walk_22 (by decide) ?_
  refine lv_istore_n (lv' := [(3, .int (0 : Int32)), (2, .int v1), (0, .ref (ad 7)), (1, .int v1)]) hx hb dX1_walk_23 rfl hl (by decide) rfl (fun ls hl => ?_)
  obtain ⟨n9, hw⟩ := hw
  refine l_X1_walk_24 C hK hA (fun rd_7 tw_8 ls H locs hl hP hD hS hw => ?_) n9 rd tw_2 v1 (0 : Int32) ls _ _ (lv_sub hl [2, 1, 0] rfl) hP hD hS hw
  rw [← hQ]
  exact W.vret hx hb hr (fun t ht hW => ⟨⟨(rd_7, st_1, tw_8), rfl, hw, by rw [ht]; exact hP, hD⟩, hS.F ht⟩) hS.2.2 dX1_walk_83
-- X1_walkRounds
abbrev rm_X1_walkRounds : Room := { frames := 2, cells := 0, slots := 0, locals := 44 }
theorem f_X1_walkRounds_0 : (Cond.fieldLink RX1 35 "PlaneFaces$Rounds" "roundOf" "[I") ∈ wsX1_walkRounds := by decide +kernel
theorem f_X1_walkRounds_1 : ∀ w ∈ wsX10, w ∈ wsX1_walkRounds := by decide +kernel
theorem f_X1_walkRounds_2 : (Cond.fieldLink RX1 48 "PlaneFaces$Rounds" "size" "I") ∈ wsX1_walkRounds := by decide +kernel
theorem f_X1_walkRounds_3 : (Cond.fieldLink RX1 12 "PlaneFaces$Rounds" "segments" "LPlaneFaces$Segments;") ∈ wsX1_walkRounds := by decide +kernel
theorem f_X1_walkRounds_4 : (Cond.fieldLink RX1 54 "PlaneFaces$Segments" "used" "[Z") ∈ wsX1_walkRounds := by decide +kernel
theorem f_X1_walkRounds_5 : ∀ w ∈ wsX20, w ∈ wsX1_walkRounds := by decide +kernel
set_option maxRecDepth 100000 in
set_option maxHeartbeats 4000000 in
theorem l_X1_walkRounds_15 {p : Program} {l : Launch} {e : Env} {s : State} {m : MethodId} {args : Array Value} {below : List Frame} {meth : Method} {c : Code} {Q : State → Prop} {dC : Nat → ClassId} {dI : Nat → Nat → Nat} {cI cJ cZ : ClassId} {ad : Nat → Nat} {co : Nat → Int32} {fo : Nat → Int32} {ro : Nat → Int32} {po : Nat → Int32} {pn : Int32} {od : Nat → Int32} {x : Nat → Int32} {y : Nat → Int32} {u : Nat → Int32} {sn : Int32}  {K66 : (Nat → Int32) → (Nat → Int32) → (Nat → Int64) → Int32 → Prop} (C : CallFix p m c cX1_walkRounds 2 s args wsX1_walkRounds RX1) (hK : va_K (dC, dI) vwCl (tyL cI cJ cZ) s) {A : Nat → Prop} (hA : ∀ q : Nat, s.heap.size ≤ q → A q) (hk66 : ∀ (rd_w : Nat → Int32) (st_w : Nat → Int32) (tw_w : Nat → Int64) (rn_w : Int32) (ls : Array Slot) (H : Heap) (locs : List Loc), lv_has ls 2 [(0, .ref (ad 7))] → va_P (dC, dI) vwCl (wRnd ad cI cJ cZ co fo ro po pn rd_w st_w tw_w od rn_w x y u sn) H → va_D A (wRnd ad cI cJ cZ co fo ro po pn rd_w st_w tw_w od rn_w x y u sn) → va_S A s.heap H locs → K66 rd_w st_w tw_w rn_w → W p l e rm_X1_walkRounds s m args below meth c H locs 0 0 Q (F0 m 66 ls [])) : ∀ (n : Nat) (rd : Nat → Int32) (st : Nat → Int32) (tw : Nat → Int64) (rn : Int32) (v1 : Int32) (ls : Array Slot) (H : Heap) (locs : List Loc), lv_has ls 2 [(0, .ref (ad 7)), (1, .int v1)] → va_P (dC, dI) vwCl (wRnd ad cI cJ cZ co fo ro po pn rd st tw od rn x y u sn) H → va_D A (wRnd ad cI cJ cZ co fo ro po pn rd st tw od rn x y u sn) → va_S A s.heap H locs → lp_X1_walkRounds_15 fo x y u K66 n rd st tw rn v1 → W p l e rm_X1_walkRounds s m args below meth c H locs 0 0 Q (F0 m 15 ls []) := by
  obtain ⟨hx, hb, hml, hown, hts⟩ := id C
  intro n
  induction n with
  | zero =>
    intro rd st tw rn v1 ls H locs hl hP hD hS hw
    rw [lp_X1_walkRounds_15.eq_1] at hw
    exact hw.elim
  | succ n ih =>
    intro rd st tw rn v1 ls H locs hl hP hD hS hw
    rw [lp_X1_walkRounds_15.eq_2] at hw
    refine lv_iload_n hx hb dX1_walkRounds_15 rfl (lv_at hl 1 rfl) ?_
    refine lv_bipush (v := 120) hx hb dX1_walkRounds_16 (by decide) ?_
    refine lv_icmp_ge (tgt := 66) hx hb dX1_walkRounds_18 (by decide) (fun hc => ?_) (fun hc => ?_)
    · have hw := hw.1 (hc)
      exact hk66 rd st tw rn ls _ _ (lv_sub hl [0] rfl) hP hD hS hw
    · have hw := hw.2 hc
      refine lv_aload_n hx hb dX1_walkRounds_21 rfl (lv_at hl 0 rfl) ?_
      refine va_get (D := (dC, dI)) (ci := 1) (v := .ref (ad 16)) (C := RX1) (T := TX1) (N := 11) hx hb hts f_X1_walkRounds_1 hown hK hP 0 rfl rfl 0 (by decide) (hts _ f_X1_walkRounds_3) (fun _ h9 => h9) rfl dX1_walkRounds_22 ?_
      refine va_get (D := (dC, dI)) (ci := 2) (v := .ref (ad 19)) (C := RX2) (T := TX2) (N := 4) hx hb hts f_X1_walkRounds_5 hown hK hP 9 rfl rfl 2 (by decide) (hts _ f_X1_walkRounds_4) (fun _ h9 => h9) rfl dX1_walkRounds_25 ?_
      refine lv_iload_n hx hb dX1_walkRounds_28 rfl (lv_at hl 1 rfl) ?_
      refine lv_iconst (v := 1) hx hb dX1_walkRounds_29 (by decide) ?_
      refine lv_ishr hx hb dX1_walkRounds_30 ?_
      have hi := hw.1
      have hw := hw.2
      refine va_zald hx hb hK hP 12 2 rfl rfl hi dX1_walkRounds_31 ?_
      refine jn4_use (J := fun (rd_2 : Nat → Int32) (st_3 : Nat → Int32) (tw_4 : Nat → Int64) (rn_5 : Int32) => ∀ (ls : Array Slot) (H : Heap) (locs : List Loc), lv_has ls 2 [(0, .ref (ad 7)), (1, .int v1)] → va_P (dC, dI) vwCl (wRnd ad cI cJ cZ co fo ro po pn rd_2 st_3 tw_4 od rn_5 x y u sn) H → va_D A (wRnd ad cI cJ cZ co fo ro po pn rd_2 st_3 tw_4 od rn_5 x y u sn) → va_S A s.heap H locs → W p l e rm_X1_walkRounds s m args below meth c H locs 0 0 Q (F0 m 60 ls [])) hw (fun rd_2 st_3 tw_4 rn_5 hw ls H locs hl hP hD hS => ?_) (fun hw hj0 => ?_)
      · refine lv_iinc (v := (v1 + (1 : Int32))) (lv' := [(1, .int (v1 + (1 : Int32))), (0, .ref (ad 7))]) hx hb dX1_walkRounds_60 hl (k := 1) rfl rfl (by decide) rfl (fun ls hl => ?_)
        refine lv_goto (tgt := 15) hx hb dX1_walkRounds_63 (by decide) ?_
        exact ih rd_2 st_3 tw_4 rn_5 (v1 + (1 : Int32)) ls _ _ (lv_sub hl [1, 0] rfl) hP hD hS hw
      · have hj7 := hj0
        refine lv_if_eq (tgt := 60) hx hb dX1_walkRounds_32 (by decide) (fun hc => ?_) (fun hc => ?_)
        · have hw := hw.1 (hc)
          exact hj7 rd st tw rn hw ls _ _ (lv_sub hl [0, 1] rfl) hP hD hS
        · have hw := hw.2 hc
          refine lv_aload_n hx hb dX1_walkRounds_35 rfl (lv_at hl 0 rfl) ?_
          refine va_get (D := (dC, dI)) (ci := 1) (v := .ref (ad 12)) (C := RX1) (T := TX1) (N := 11) hx hb hts f_X1_walkRounds_1 hown hK hP 0 rfl rfl 6 (by decide) (hts _ f_X1_walkRounds_0) (fun _ h9 => h9) rfl dX1_walkRounds_36 ?_
          refine lv_iload_n hx hb dX1_walkRounds_39 rfl (lv_at hl 1 rfl) ?_
          have hi := hw.1
          have hw := hw.2
          refine va_iald hx hb hK hP 5 0 rfl rfl hi dX1_walkRounds_40 ?_
          refine lv_iconst (v := -1) hx hb dX1_walkRounds_41 (by decide) ?_
          refine lv_icmp_ne (tgt := 60) hx hb dX1_walkRounds_42 (by decide) (fun hc => ?_) (fun hc => ?_)
          · have hw := hw.2 hc
            exact hj7 rd st tw rn hw ls _ _ (lv_sub hl [0, 1] rfl) hP hD hS
          · have hw := hw.1 (hc)
            refine lv_aload_n hx hb dX1_walkRounds_45 rfl (lv_at hl 0 rfl) ?_
            refine lv_iload_n hx hb dX1_walkRounds_46 rfl (lv_at hl 1 rfl) ?_
            have hPc := hP.sub (ws' := (wRnd ad cI cJ cZ co fo ro po pn rd st tw od rn x y u sn)) [0, 1, 2, 3, 4, 5, 6, 7, 8, 9, 10, 11, 12] rfl
            have hDc := hD.sub (ws' := (wRnd ad cI cJ cZ co fo ro po pn rd st tw od rn x y u sn)) [0, 1, 2, 3, 4, 5, 6, 7, 8, 9, 10, 11, 12] (by decide) rfl
            have hFc := va_free (wc := (wRnd ad cI cJ cZ co fo ro po pn rd st tw od rn x y u sn)) hD hS hA [0, 1, 2, 3, 4, 5, 6, 7, 8, 9, 10, 11, 12] rfl
            refine va_callv (va_runV (As := [.int v1]) (rest := []) C (c_X1_walk l dC dI cI cJ cZ ad _ co fo ro po pn rd st tw od rn x y u sn v1 hw) (cwV 1 hts gX1_walkRounds_X1_walk rfl rfl rfl (by decide +kernel) ⟨Nat.le_of_ble_eq_true rfl, Nat.le_of_ble_eq_true rfl⟩) ⟨fb_rw, va_recv hK hPc (ci := 1) (q0 := 0) rfl rfl, fun U hU hW => ⟨rfl, by rw [hU], by rw [hU]; exact hPc, va_K.moved hW.alike hK, hDc.weaken (fun _ _ _ _ => trivial)⟩⟩ rfl rfl hl.1 rfl (lv_room (Nat.le_of_ble_eq_true rfl)) dX1_walkRounds_47 ⟨Nat.zero_le _, Nat.zero_le _⟩) hS (fun q _ h => hFc q h) hFc (fun uu t H1 locs ht hvm hw hB hz1 hk1 hS => ?_)
            obtain ⟨rd_8, st_9, tw_10⟩ := uu
            obtain ⟨hP1, hD1⟩ := hB
            rw [ht] at hP1
            try dsimp only at hw hP1 hD1
            obtain ⟨hP, hD⟩ := va_join (wr := []) (w1 := (wRnd ad cI cJ cZ co fo ro po pn rd_8 st_9 tw_10 od rn x y u sn)) hP hD [0, 1, 2, 3, 4, 5, 6, 7, 8, 9, 10, 11, 12] [] rfl rfl (by decide) (by decide) hk1 hFc hP1 hD1
            generalize H1 = H at hP hS ⊢
            have hP : va_P (dC, dI) vwCl (wRnd ad cI cJ cZ co fo ro po pn rd_8 st_9 tw_10 od rn x y u sn) H := hP
            have hD : va_D A (wRnd ad cI cJ cZ co fo ro po pn rd_8 st_9 tw_10 od rn x y u sn) := hD
            refine lv_aload_n hx hb dX1_walkRounds_50 rfl (lv_at hl 0 rfl) ?_
            refine lv_dup hx hb dX1_walkRounds_51 rfl ?_
            refine va_get (D := (dC, dI)) (ci := 1) (v := .int rn) (C := RX1) (T := TX1) (N := 11) hx hb hts f_X1_walkRounds_1 hown hK hP 0 rfl rfl 10 (by decide) (hts _ f_X1_walkRounds_2) (fun _ h9 => h9) rfl dX1_walkRounds_52 ?_
            refine lv_iconst (v := 1) hx hb dX1_walkRounds_55 (by decide) ?_
            refine lv_iadd hx hb dX1_walkRounds_56 ?_
            refine va_put (D := (dC, dI)) (ci := 1) (v := .int (rn + (1 : Int32))) (ty := .int) (C := RX1) (T := TX1) (N := 11) hx hb hts f_X1_walkRounds_1 tyX1 tyX1_ok nmX1 hown hK hP hD hS 0 rfl rfl 10 (by decide) (hts _ f_X1_walkRounds_2) (fun _ h9 => h9) rfl (by decide +kernel) rfl rfl (Nat.le_of_ble_eq_true rfl) dX1_walkRounds_57 (fun H locs hP hD hS => ?_)
            have hP : va_P (dC, dI) vwCl (wRnd ad cI cJ cZ co fo ro po pn rd_8 st_9 tw_10 od (rn + (1 : Int32)) x y u sn) H := hP
            have hD : va_D A (wRnd ad cI cJ cZ co fo ro po pn rd_8 st_9 tw_10 od (rn + (1 : Int32)) x y u sn) := hD
            exact hj7 rd_8 st_9 tw_10 (rn + (1 : Int32)) hw ls _ _ (lv_sub hl [0, 1] rfl) hP hD hS
set_option maxRecDepth 100000 in
set_option maxHeartbeats 4000000 in
theorem c_X1_walkRounds (l : Launch) (dC : Nat → ClassId) (dI : Nat → Nat → Nat) (cI cJ cZ : ClassId) (ad : Nat → Nat) (sz : Nat) (co : Nat → Int32) (fo : Nat → Int32) (ro : Nat → Int32) (po : Nat → Int32) (pn : Int32) (rd : Nat → Int32) (st : Nat → Int32) (tw : Nat → Int64) (od : Nat → Int32) (rn : Int32) (x : Nat → Int32) (y : Nat → Int32) (u : Nat → Int32) (sn : Int32)  {post : (Nat → Int32) → (Nat → Int32) → (Nat → Int64) → Int32 → Prop} (hw : wp_X1_walkRounds fo rd st tw rn x y u post) : Met l yX1_walkRounds wsX1_walkRounds rm_X1_walkRounds (va_Pc [.ref (ad 7)] (fun U => U.heap.size = sz ∧ va_P (dC, dI) vwCl (wRnd ad cI cJ cZ co fo ro po pn rd st tw od rn x y u sn) U.heap ∧ va_K (dC, dI) vwCl (tyL cI cJ cZ) U ∧ va_D (fun _ => True) (wRnd ad cI cJ cZ co fo ro po pn rd st tw od rn x y u sn))) (va_Qv (fun uu : (Nat → Int32) × (Nat → Int32) × (Nat → Int64) × Int32 => post uu.1 uu.2.1 uu.2.2.1 uu.2.2.2) (fun (uu : (Nat → Int32) × (Nat → Int32) × (Nat → Int64) × Int32) (t : State) => va_P (dC, dI) vwCl (wRnd ad cI cJ cZ co fo ro po pn uu.1 uu.2.1 uu.2.2.1 od uu.2.2.2 x y u sn) t.heap ∧ va_D (va_A (wRnd ad cI cJ cZ co fo ro po pn rd st tw od rn x y u sn) sz) (wRnd ad cI cJ cZ co fo ro po pn uu.1 uu.2.1 uu.2.2.1 od uu.2.2.2 x y u sn)) (va_A (wRnd ad cI cJ cZ co fo ro po pn rd st tw od rn x y u sn) sz)) 0 0 (va_A (wRnd ad cI cJ cZ co fo ro po pn rd st tw od rn x y u sn) sz) := by
  unfold wp_X1_walkRounds at hw
  refine Met.ofW (cc := cX1_walkRounds) (maxL := 2) (ret := none) (by decide) rfl ?_
  intro p e s m args below meth c s₁ B hml hv
  obtain ⟨hav, hsz, hP, hK, hD0⟩ := hv
  have hx := B.exec
  have hb := B.bytes
  have hr := B.returns
  have hts := atoms_spec (ws := wsX1_walkRounds) B.pre
  have hown : s.vm.findClass RX1 = some m.cls := findClass_of_methodNamed B.named
  have hlocks := B.notSynchronized
  have C : CallFix p m c cX1_walkRounds 2 s args wsX1_walkRounds RX1 := ⟨hx, hb, hml, hown, hts⟩
  obtain ⟨ls, hE, hl⟩ := mx_entry (m := m) [.ref (ad 7)] (n := 2) (Nat.le_of_ble_eq_true rfl)
  have hl : lv_has ls 2 [(0, .ref (ad 7))] := hl
  rw [show entryFrame m args 2 = F0 m 0 ls [] by rw [hav]; exact hE]
  subst hsz
  have hD := hD0.self (sz := s.heap.size)
  generalize hAe : va_A (wRnd ad cI cJ cZ co fo ro po pn rd st tw od rn x y u sn) s.heap.size = A at hD ⊢
  have hA : ∀ q : Nat, s.heap.size ≤ q → A q := fun q h => by rw [← hAe]; exact Or.inr h
  have hS : va_S A s.heap s.heap [] := va_S.rf
  obtain ⟨Q, hQ⟩ : ∃ Q, MQ below (va_Qv (fun uu : (Nat → Int32) × (Nat → Int32) × (Nat → Int64) × Int32 => post uu.1 uu.2.1 uu.2.2.1 uu.2.2.2) (fun (uu : (Nat → Int32) × (Nat → Int32) × (Nat → Int64) × Int32) (t : State) => va_P (dC, dI) vwCl (wRnd ad cI cJ cZ co fo ro po pn uu.1 uu.2.1 uu.2.2.1 od uu.2.2.2 x y u sn) t.heap ∧ va_D A (wRnd ad cI cJ cZ co fo ro po pn uu.1 uu.2.1 uu.2.2.1 od uu.2.2.2 x y u sn)) A) args s 0 0 A = Q := ⟨_, rfl⟩
  rw [hQ]
  obtain ⟨H, hH⟩ : ∃ H, s.heap = H := ⟨_, rfl⟩
  have hS : va_S A s.heap H [] := by rw [← hH]; exact hS
  rw [hH] at hP
  show W p l e rm_X1_walkRounds s m args below meth c s.heap [] 0 0 Q (F0 m 0 ls [])
  suffices hg : W p l e rm_X1_walkRounds s m args below meth c H [] 0 0 Q (F0 m 0 ls []) by rw [hH]; exact hg
  clear hH
  generalize hlo : ([] : List Loc) = locs at hS ⊢
  refine lv_aload_n hx hb dX1_walkRounds_0 rfl (lv_at hl 0 rfl) ?_
  refine va_get (D := (dC, dI)) (ci := 1) (v := .ref (ad 12)) (C := RX1) (T := TX1) (N := 11) hx hb hts f_X1_walkRounds_1 hown hK hP 0 rfl rfl 6 (by decide) (hts _ f_X1_walkRounds_0) (fun _ h9 => h9) rfl dX1_walkRounds_1 ?_
  refine lv_iconst (v := -1) hx hb dX1_walkRounds_4 (by decide) ?_
  have hPc := hP.sub (ws' := [(ad 12, .inl (cI, 120, .inl rd))]) [5] rfl
  have hDc := hD.sub (ws' := [(ad 12, .inl (cI, 120, .inl rd))]) [5] (by decide) rfl
  have hFc := va_free (wc := [(ad 12, .inl (cI, 120, .inl rd))]) hD hS hA [5] rfl
  refine va_callv (va_runS (As := [.ref (ad 12), .int (-1 : Int32)]) (rest := []) C (c_fill l dC dI cI cJ cZ _ (ad 12) 120 (by decide) rd (-1 : Int32)) (va_cwS 2 hts gX1_walkRounds_J7_fill_53178 rfl rfl rfl (by decide +kernel) ⟨Nat.le_of_ble_eq_true rfl, Nat.le_of_ble_eq_true rfl⟩) ⟨fb_rw, fun U hU hW => ⟨rfl, by rw [hU], by rw [hU]; exact hPc, va_K.moved hW.alike hK, hDc.weaken (fun _ _ _ _ => trivial)⟩⟩ rfl rfl hl.1 rfl (lv_room (Nat.le_of_ble_eq_true rfl)) dX1_walkRounds_5 ⟨Nat.zero_le _, Nat.zero_le _⟩) hS (fun q _ h => hFc q h) hFc (fun rd_1 t H1 locs ht hvm hq hB hz1 hk1 hS => ?_)
  have hw := hw rd_1 hq
  obtain ⟨hP1, hD1⟩ := hB
  rw [ht] at hP1
  obtain ⟨hP, hD⟩ := va_join (wr := [(ad 7, .inr (1, [.ref (ad 16), .ref (ad 8), .ref (ad 9), .ref (ad 10), .ref (ad 11), .int pn, .ref (ad 12), .ref (ad 13), .ref (ad 14), .ref (ad 15), .int rn])), (ad 8, .inl (cI, 120, .inl co)), (ad 9, .inl (cI, 120, .inl fo)), (ad 10, .inl (cI, 60, .inl ro)), (ad 11, .inl (cI, 60, .inl po)), (ad 13, .inl (cI, 120, .inl st)), (ad 14, .inl (cJ, 120, .inr (.inl tw))), (ad 15, .inl (cI, 120, .inl od)), (ad 16, .inr (2, [.ref (ad 17), .ref (ad 18), .ref (ad 19), .int sn])), (ad 17, .inl (cI, 120, .inl x)), (ad 18, .inl (cI, 120, .inl y)), (ad 19, .inl (cZ, 60, .inl u))]) (w1 := [(ad 12, .inl (cI, 120, .inl rd_1))]) hP hD [5] [0, 1, 2, 3, 4, 6, 7, 8, 9, 10, 11, 12] rfl rfl (by decide) (by decide) hk1 hFc hP1 hD1
  have hP := hP.sub (ws' := (wRnd ad cI cJ cZ co fo ro po pn rd_1 st tw od rn x y u sn)) [0, 1, 2, 3, 4, 12, 5, 6, 7, 8, 9, 10, 11] rfl
  have hD := hD.sub (ws' := (wRnd ad cI cJ cZ co fo ro po pn rd_1 st tw od rn x y u sn)) [0, 1, 2, 3, 4, 12, 5, 6, 7, 8, 9, 10, 11] (by decide) rfl
  generalize H1 = H at hP hS ⊢
  refine lv_aload_n hx hb dX1_walkRounds_8 rfl (lv_at hl 0 rfl) ?_
  refine lv_iconst (v := 0) hx hb dX1_walkRounds_9 (by decide) ?_
  refine va_put (D := (dC, dI)) (ci := 1) (v := .int (0 : Int32)) (ty := .int) (C := RX1) (T := TX1) (N := 11) hx hb hts f_X1_walkRounds_1 tyX1 tyX1_ok nmX1 hown hK hP hD hS 0 rfl rfl 10 (by decide) (hts _ f_X1_walkRounds_2) (fun _ h9 => h9) rfl (by decide +kernel) rfl rfl (Nat.le_of_ble_eq_true rfl) dX1_walkRounds_10 (fun H locs hP hD hS => ?_)
  have hP : va_P (dC, dI) vwCl (wRnd ad cI cJ cZ co fo ro po pn rd_1 st tw od (0 : Int32) x y u sn) H := hP
  have hD : va_D A (wRnd ad cI cJ cZ co fo ro po pn rd_1 st tw od (0 : Int32) x y u sn) := hD
  refine lv_iconst (v := 0) hx hb dX1_walkRounds_13 (by decide) ?_
  refine lv_istore_n (lv' := [(1, .int (0 : Int32)), (0, .ref (ad 7))]) hx hb dX1_walkRounds_14 rfl hl (by decide) rfl (fun ls hl => ?_)
  obtain ⟨n15, hw⟩ := hw
  refine l_X1_walkRounds_15 C hK hA (fun rd_11 st_12 tw_13 rn_14 ls H locs hl hP hD hS hw => ?_) n15 rd_1 st tw (0 : Int32) (0 : Int32) ls _ _ (lv_sub hl [1, 0] rfl) hP hD hS hw
  rw [← hQ]
  exact W.vret hx hb hr (fun t ht hW => ⟨⟨(rd_11, st_12, tw_13, rn_14), rfl, hw, by rw [ht]; exact hP, hD⟩, hS.F ht⟩) hS.2.2 dX1_walkRounds_66
-- X1_trace
abbrev rm_X1_trace : Room := { frames := 3, cells := 0, slots := 0, locals := 75 }
theorem f_X1_trace_0 : (Cond.fieldLink RX1 22 "PlaneFaces$Rounds" "following" "[I") ∈ wsX1_trace := by decide +kernel
theorem f_X1_trace_1 : ∀ w ∈ wsX10, w ∈ wsX1_trace := by decide +kernel
theorem f_X1_trace_2 : (Cond.fieldLink RX1 12 "PlaneFaces$Rounds" "segments" "LPlaneFaces$Segments;") ∈ wsX1_trace := by decide +kernel
theorem f_X1_trace_3 : (Cond.fieldLink RX1 54 "PlaneFaces$Segments" "used" "[Z") ∈ wsX1_trace := by decide +kernel
theorem f_X1_trace_4 : ∀ w ∈ wsX20, w ∈ wsX1_trace := by decide +kernel
set_option maxRecDepth 100000 in
set_option maxHeartbeats 4000000 in
theorem l_X1_trace_6 {p : Program} {l : Launch} {e : Env} {s : State} {m : MethodId} {args : Array Value} {below : List Frame} {meth : Method} {c : Code} {Q : State → Prop} {dC : Nat → ClassId} {dI : Nat → Nat → Nat} {cI cJ cZ : ClassId} {ad : Nat → Nat} {co : Nat → Int32} {ro : Nat → Int32} {po : Nat → Int32} {pn : Int32} {rd : Nat → Int32} {st : Nat → Int32} {tw : Nat → Int64} {od : Nat → Int32} {rn : Int32} {x : Nat → Int32} {y : Nat → Int32} {u : Nat → Int32} {sn : Int32}  {K49 : (Nat → Int32) → Prop} (C : CallFix p m c cX1_trace 2 s args wsX1_trace RX1) (hK : va_K (dC, dI) vwCl (tyL cI cJ cZ) s) {A : Nat → Prop} (hA : ∀ q : Nat, s.heap.size ≤ q → A q) (hk49 : ∀ (fo_w : Nat → Int32) (ls : Array Slot) (H : Heap) (locs : List Loc), lv_has ls 2 [(0, .ref (ad 7))] → va_P (dC, dI) vwCl (wRnd ad cI cJ cZ co fo_w ro po pn rd st tw od rn x y u sn) H → va_D A (wRnd ad cI cJ cZ co fo_w ro po pn rd st tw od rn x y u sn) → va_S A s.heap H locs → K49 fo_w → W p l e rm_X1_trace s m args below meth c H locs 0 0 Q (F0 m 49 ls [])) : ∀ (n : Nat) (fo : Nat → Int32) (v1 : Int32) (ls : Array Slot) (H : Heap) (locs : List Loc), lv_has ls 2 [(0, .ref (ad 7)), (1, .int v1)] → va_P (dC, dI) vwCl (wRnd ad cI cJ cZ co fo ro po pn rd st tw od rn x y u sn) H → va_D A (wRnd ad cI cJ cZ co fo ro po pn rd st tw od rn x y u sn) → va_S A s.heap H locs → lp_X1_trace_6 co ro po pn rd st tw rn x y u K49 n fo v1 → W p l e rm_X1_trace s m args below meth c H locs 0 0 Q (F0 m 6 ls []) := by
  obtain ⟨hx, hb, hml, hown, hts⟩ := id C
  intro n
  induction n with
  | zero =>
    intro fo v1 ls H locs hl hP hD hS hw
    rw [lp_X1_trace_6.eq_1] at hw
    exact hw.elim
  | succ n ih =>
    intro fo v1 ls H locs hl hP hD hS hw
    rw [lp_X1_trace_6.eq_2] at hw
    refine lv_iload_n hx hb dX1_trace_6 rfl (lv_at hl 1 rfl) ?_
    refine lv_bipush (v := 120) hx hb dX1_trace_7 (by decide) ?_
    refine lv_icmp_ge (tgt := 49) hx hb dX1_trace_9 (by decide) (fun hc => ?_) (fun hc => ?_)
    · have hw := hw.1 (hc)
      exact hk49 fo ls _ _ (lv_sub hl [0] rfl) hP hD hS hw
    · have hw := hw.2 hc
      refine lv_aload_n hx hb dX1_trace_12 rfl (lv_at hl 0 rfl) ?_
      refine va_get (D := (dC, dI)) (ci := 1) (v := .ref (ad 9)) (C := RX1) (T := TX1) (N := 11) hx hb hts f_X1_trace_1 hown hK hP 0 rfl rfl 2 (by decide) (hts _ f_X1_trace_0) (fun _ h9 => h9) rfl dX1_trace_13 ?_
      refine lv_iload_n hx hb dX1_trace_16 rfl (lv_at hl 1 rfl) ?_
      refine lv_aload_n hx hb dX1_trace_17 rfl (lv_at hl 0 rfl) ?_
      refine va_get (D := (dC, dI)) (ci := 1) (v := .ref (ad 16)) (C := RX1) (T := TX1) (N := 11) hx hb hts f_X1_trace_1 hown hK hP 0 rfl rfl 0 (by decide) (hts _ f_X1_trace_2) (fun _ h9 => h9) rfl dX1_trace_18 ?_
      refine va_get (D := (dC, dI)) (ci := 2) (v := .ref (ad 19)) (C := RX2) (T := TX2) (N := 4) hx hb hts f_X1_trace_4 hown hK hP 9 rfl rfl 2 (by decide) (hts _ f_X1_trace_3) (fun _ h9 => h9) rfl dX1_trace_21 ?_
      refine lv_iload_n hx hb dX1_trace_24 rfl (lv_at hl 1 rfl) ?_
      refine lv_iconst (v := 1) hx hb dX1_trace_25 (by decide) ?_
      refine lv_ishr hx hb dX1_trace_26 ?_
      have hi := hw.1
      have hw := hw.2
      refine va_zald hx hb hK hP 12 2 rfl rfl hi dX1_trace_27 ?_
      refine jn2_use (J := fun (k2 : Int32) (k3 : Int32) => ∀ (ls : Array Slot) (H : Heap) (locs : List Loc), lv_has ls 2 [(0, .ref (ad 7)), (1, .int v1)] → va_P (dC, dI) vwCl (wRnd ad cI cJ cZ co fo ro po pn rd st tw od rn x y u sn) H → va_D A (wRnd ad cI cJ cZ co fo ro po pn rd st tw od rn x y u sn) → va_S A s.heap H locs → W p l e rm_X1_trace s m args below meth c H locs 0 0 Q (F0 m 42 ls [.int k2, .int k3, .ref (ad 9)])) hw (fun k2 k3 hw ls H locs hl hP hD hS => ?_) (fun hw hj0 => ?_)
      · have hi := hw.1
        have hw := hw.2 _ rfl
        refine va_iast hx hb hK hP hD hS 2 0 rfl rfl hi dX1_trace_42 (fun H locs hP hD hS => ?_)
        generalize hfo_6 : (upd fo k3.toNatClampNeg k2) = fo_6 at hw hP hD
        have hP : va_P (dC, dI) vwCl (wRnd ad cI cJ cZ co fo_6 ro po pn rd st tw od rn x y u sn) H := hP
        have hD : va_D A (wRnd ad cI cJ cZ co fo_6 ro po pn rd st tw od rn x y u sn) := hD
        refine lv_iinc (v := (v1 + (1 : Int32))) (lv' := [(1, .int (v1 + (1 : Int32))), (0, .ref (ad 7))]) hx hb dX1_trace_43 hl (k := 1) rfl rfl (by decide) rfl (fun ls hl => ?_)
        refine lv_goto (tgt := 6) hx hb dX1_trace_46 (by decide) ?_
        exact ih fo_6 (v1 + (1 : Int32)) ls _ _ (lv_sub hl [1, 0] rfl) hP hD hS hw
      · have hj5 := hj0
        refine lv_if_eq (tgt := 41) hx hb dX1_trace_28 (by decide) (fun hc => ?_) (fun hc => ?_)
        · have hw := hw.1 (hc)
          refine lv_iconst (v := -1) hx hb dX1_trace_41 (by decide) ?_
          exact hj5 (-1 : Int32) v1 hw ls _ _ (lv_sub hl [0, 1] rfl) hP hD hS
        · have hw := hw.2 hc
          refine lv_aload_n hx hb dX1_trace_31 rfl (lv_at hl 0 rfl) ?_
          refine lv_iload_n hx hb dX1_trace_32 rfl (lv_at hl 1 rfl) ?_
          refine lv_iconst (v := 1) hx hb dX1_trace_33 (by decide) ?_
          refine lv_ixor hx hb dX1_trace_34 ?_
          refine vp_callSi (W.runV (As := [.int (v1 ^^^ (1 : Int32))]) (rest := [.int v1, .ref (ad 9)]) C (c_X1_firstClockwise l dC dI cI cJ cZ ad co fo ro po pn rd st tw od rn x y u sn (v1 ^^^ (1 : Int32)) hw) (cwV 1 hts gX1_trace_X1_firstClockwise rfl rfl rfl (by decide +kernel) ⟨Nat.le_of_ble_eq_true rfl, Nat.le_of_ble_eq_true rfl⟩) ⟨fb_ro, va_recv hK hP (ci := 1) (q0 := 0) rfl rfl, fun U hU hW => ⟨rfl, by rw [hU]; exact hP, va_K.moved hW.alike hK⟩⟩ rfl rfl hl.1 rfl (lv_room (Nat.le_of_ble_eq_true rfl)) dX1_trace_35 ⟨Nat.zero_le _, Nat.zero_le _⟩) (fun r7 hw => ?_)
          refine lv_goto (tgt := 42) hx hb dX1_trace_38 (by decide) ?_
          exact hj5 r7 v1 hw ls _ _ (lv_sub hl [0, 1] rfl) hP hD hS
set_option maxRecDepth 100000 in
set_option maxHeartbeats 4000000 in
theorem c_X1_trace (l : Launch) (dC : Nat → ClassId) (dI : Nat → Nat → Nat) (cI cJ cZ : ClassId) (ad : Nat → Nat) (sz : Nat) (co : Nat → Int32) (fo : Nat → Int32) (ro : Nat → Int32) (po : Nat → Int32) (pn : Int32) (rd : Nat → Int32) (st : Nat → Int32) (tw : Nat → Int64) (od : Nat → Int32) (rn : Int32) (x : Nat → Int32) (y : Nat → Int32) (u : Nat → Int32) (sn : Int32)  {post : (Nat → Int32) → (Nat → Int32) → (Nat → Int32) → (Nat → Int32) → Int32 → (Nat → Int32) → (Nat → Int32) → (Nat → Int64) → Int32 → Prop} (hw : wp_X1_trace co fo ro po pn rd st tw rn x y u post) : Met l yX1_trace wsX1_trace rm_X1_trace (va_Pc [.ref (ad 7)] (fun U => U.heap.size = sz ∧ va_P (dC, dI) vwCl (wRnd ad cI cJ cZ co fo ro po pn rd st tw od rn x y u sn) U.heap ∧ va_K (dC, dI) vwCl (tyL cI cJ cZ) U ∧ va_D (fun _ => True) (wRnd ad cI cJ cZ co fo ro po pn rd st tw od rn x y u sn))) (va_Qv (fun uu : (Nat → Int32) × (Nat → Int32) × (Nat → Int32) × (Nat → Int32) × Int32 × (Nat → Int32) × (Nat → Int32) × (Nat → Int64) × Int32 => post uu.1 uu.2.1 uu.2.2.1 uu.2.2.2.1 uu.2.2.2.2.1 uu.2.2.2.2.2.1 uu.2.2.2.2.2.2.1 uu.2.2.2.2.2.2.2.1 uu.2.2.2.2.2.2.2.2) (fun (uu : (Nat → Int32) × (Nat → Int32) × (Nat → Int32) × (Nat → Int32) × Int32 × (Nat → Int32) × (Nat → Int32) × (Nat → Int64) × Int32) (t : State) => va_P (dC, dI) vwCl (wRnd ad cI cJ cZ uu.1 uu.2.1 uu.2.2.1 uu.2.2.2.1 uu.2.2.2.2.1 uu.2.2.2.2.2.1 uu.2.2.2.2.2.2.1 uu.2.2.2.2.2.2.2.1 od uu.2.2.2.2.2.2.2.2 x y u sn) t.heap ∧ va_D (va_A (wRnd ad cI cJ cZ co fo ro po pn rd st tw od rn x y u sn) sz) (wRnd ad cI cJ cZ uu.1 uu.2.1 uu.2.2.1 uu.2.2.2.1 uu.2.2.2.2.1 uu.2.2.2.2.2.1 uu.2.2.2.2.2.2.1 uu.2.2.2.2.2.2.2.1 od uu.2.2.2.2.2.2.2.2 x y u sn)) (va_A (wRnd ad cI cJ cZ co fo ro po pn rd st tw od rn x y u sn) sz)) 0 0 (va_A (wRnd ad cI cJ cZ co fo ro po pn rd st tw od rn x y u sn) sz) := by
  unfold wp_X1_trace at hw
  refine Met.ofW (cc := cX1_trace) (maxL := 2) (ret := none) (by decide) rfl ?_
  intro p e s m args below meth c s₁ B hml hv
  obtain ⟨hav, hsz, hP, hK, hD0⟩ := hv
  have hx := B.exec
  have hb := B.bytes
  have hr := B.returns
  have hts := atoms_spec (ws := wsX1_trace) B.pre
  have hown : s.vm.findClass RX1 = some m.cls := findClass_of_methodNamed B.named
  have hlocks := B.notSynchronized
  have C : CallFix p m c cX1_trace 2 s args wsX1_trace RX1 := ⟨hx, hb, hml, hown, hts⟩
  obtain ⟨ls, hE, hl⟩ := mx_entry (m := m) [.ref (ad 7)] (n := 2) (Nat.le_of_ble_eq_true rfl)
  have hl : lv_has ls 2 [(0, .ref (ad 7))] := hl
  rw [show entryFrame m args 2 = F0 m 0 ls [] by rw [hav]; exact hE]
  subst hsz
  have hD := hD0.self (sz := s.heap.size)
  generalize hAe : va_A (wRnd ad cI cJ cZ co fo ro po pn rd st tw od rn x y u sn) s.heap.size = A at hD ⊢
  have hA : ∀ q : Nat, s.heap.size ≤ q → A q := fun q h => by rw [← hAe]; exact Or.inr h
  have hS : va_S A s.heap s.heap [] := va_S.rf
  obtain ⟨Q, hQ⟩ : ∃ Q, MQ below (va_Qv (fun uu : (Nat → Int32) × (Nat → Int32) × (Nat → Int32) × (Nat → Int32) × Int32 × (Nat → Int32) × (Nat → Int32) × (Nat → Int64) × Int32 => post uu.1 uu.2.1 uu.2.2.1 uu.2.2.2.1 uu.2.2.2.2.1 uu.2.2.2.2.2.1 uu.2.2.2.2.2.2.1 uu.2.2.2.2.2.2.2.1 uu.2.2.2.2.2.2.2.2) (fun (uu : (Nat → Int32) × (Nat → Int32) × (Nat → Int32) × (Nat → Int32) × Int32 × (Nat → Int32) × (Nat → Int32) × (Nat → Int64) × Int32) (t : State) => va_P (dC, dI) vwCl (wRnd ad cI cJ cZ uu.1 uu.2.1 uu.2.2.1 uu.2.2.2.1 uu.2.2.2.2.1 uu.2.2.2.2.2.1 uu.2.2.2.2.2.2.1 uu.2.2.2.2.2.2.2.1 od uu.2.2.2.2.2.2.2.2 x y u sn) t.heap ∧ va_D A (wRnd ad cI cJ cZ uu.1 uu.2.1 uu.2.2.1 uu.2.2.2.1 uu.2.2.2.2.1 uu.2.2.2.2.2.1 uu.2.2.2.2.2.2.1 uu.2.2.2.2.2.2.2.1 od uu.2.2.2.2.2.2.2.2 x y u sn)) A) args s 0 0 A = Q := ⟨_, rfl⟩
  rw [hQ]
  obtain ⟨H, hH⟩ : ∃ H, s.heap = H := ⟨_, rfl⟩
  have hS : va_S A s.heap H [] := by rw [← hH]; exact hS
  rw [hH] at hP
  show W p l e rm_X1_trace s m args below meth c s.heap [] 0 0 Q (F0 m 0 ls [])
  suffices hg : W p l e rm_X1_trace s m args below meth c H [] 0 0 Q (F0 m 0 ls []) by rw [hH]; exact hg
  clear hH
  generalize hlo : ([] : List Loc) = locs at hS ⊢
  refine lv_aload_n hx hb dX1_trace_0 rfl (lv_at hl 0 rfl) ?_
  have hPc := hP.sub (ws' := (wRnd ad cI cJ cZ co fo ro po pn rd st tw od rn x y u sn)) [0, 1, 2, 3, 4, 5, 6, 7, 8, 9, 10, 11, 12] rfl
  have hDc := hD.sub (ws' := (wRnd ad cI cJ cZ co fo ro po pn rd st tw od rn x y u sn)) [0, 1, 2, 3, 4, 5, 6, 7, 8, 9, 10, 11, 12] (by decide) rfl
  have hFc := va_free (wc := (wRnd ad cI cJ cZ co fo ro po pn rd st tw od rn x y u sn)) hD hS hA [0, 1, 2, 3, 4, 5, 6, 7, 8, 9, 10, 11, 12] rfl
  refine va_callv (va_runV (As := []) (rest := []) C (c_X1_findCorners l dC dI cI cJ cZ ad _ co fo ro po pn rd st tw od rn x y u sn  hw) (cwV 0 hts gX1_trace_X1_findCorners rfl rfl rfl (by decide +kernel) ⟨Nat.le_of_ble_eq_true rfl, Nat.le_of_ble_eq_true rfl⟩) ⟨fb_rw, va_recv hK hPc (ci := 1) (q0 := 0) rfl rfl, fun U hU hW => ⟨rfl, by rw [hU], by rw [hU]; exact hPc, va_K.moved hW.alike hK, hDc.weaken (fun _ _ _ _ => trivial)⟩⟩ rfl rfl hl.1 rfl (lv_room (Nat.le_of_ble_eq_true rfl)) dX1_trace_1 ⟨Nat.zero_le _, Nat.zero_le _⟩) hS (fun q _ h => hFc q h) hFc (fun uu t H1 locs ht hvm hw hB hz1 hk1 hS => ?_)
  obtain ⟨co_1, rfl⟩ : ∃ z, z = uu := ⟨_, rfl⟩
  obtain ⟨hP1, hD1⟩ := hB
  rw [ht] at hP1
  try dsimp only at hw hP1 hD1
  obtain ⟨hP, hD⟩ := va_join (wr := []) (w1 := (wRnd ad cI cJ cZ co_1 fo ro po pn rd st tw od rn x y u sn)) hP hD [0, 1, 2, 3, 4, 5, 6, 7, 8, 9, 10, 11, 12] [] rfl rfl (by decide) (by decide) hk1 hFc hP1 hD1
  generalize H1 = H at hP hS ⊢
  have hP : va_P (dC, dI) vwCl (wRnd ad cI cJ cZ co_1 fo ro po pn rd st tw od rn x y u sn) H := hP
  have hD : va_D A (wRnd ad cI cJ cZ co_1 fo ro po pn rd st tw od rn x y u sn) := hD
  refine lv_iconst (v := 0) hx hb dX1_trace_4 (by decide) ?_
  refine lv_istore_n (lv' := [(1, .int (0 : Int32)), (0, .ref (ad 7))]) hx hb dX1_trace_5 rfl hl (by decide) rfl (fun ls hl => ?_)
  obtain ⟨n16, hw⟩ := hw
  refine l_X1_trace_6 C hK hA (fun fo_8 ls H locs hl hP hD hS hw => ?_) n16 fo (0 : Int32) ls _ _ (lv_sub hl [1, 0] rfl) hP hD hS hw
  refine lv_aload_n hx hb dX1_trace_49 rfl (lv_at hl 0 rfl) ?_
  have hPc := hP.sub (ws' := (wRnd ad cI cJ cZ co_1 fo_8 ro po pn rd st tw od rn x y u sn)) [0, 1, 2, 3, 4, 5, 6, 7, 8, 9, 10, 11, 12] rfl
  have hDc := hD.sub (ws' := (wRnd ad cI cJ cZ co_1 fo_8 ro po pn rd st tw od rn x y u sn)) [0, 1, 2, 3, 4, 5, 6, 7, 8, 9, 10, 11, 12] (by decide) rfl
  have hFc := va_free (wc := (wRnd ad cI cJ cZ co_1 fo_8 ro po pn rd st tw od rn x y u sn)) hD hS hA [0, 1, 2, 3, 4, 5, 6, 7, 8, 9, 10, 11, 12] rfl
  refine va_callv (va_runV (As := []) (rest := []) C (c_X1_joinPieces l dC dI cI cJ cZ ad _ co_1 fo_8 ro po pn rd st tw od rn x y u sn  hw) (cwV 0 hts gX1_trace_X1_joinPieces rfl rfl rfl (by decide +kernel) ⟨Nat.le_of_ble_eq_true rfl, Nat.le_of_ble_eq_true rfl⟩) ⟨fb_rw, va_recv hK hPc (ci := 1) (q0 := 0) rfl rfl, fun U hU hW => ⟨rfl, by rw [hU], by rw [hU]; exact hPc, va_K.moved hW.alike hK, hDc.weaken (fun _ _ _ _ => trivial)⟩⟩ rfl rfl hl.1 rfl (lv_room (Nat.le_of_ble_eq_true rfl)) dX1_trace_50 ⟨Nat.zero_le _, Nat.zero_le _⟩) hS (fun q _ h => hFc q h) hFc (fun uu t H1 locs ht hvm hw hB hz1 hk1 hS => ?_)
  obtain ⟨ro_9, rfl⟩ : ∃ z, z = uu := ⟨_, rfl⟩
  obtain ⟨hP1, hD1⟩ := hB
  rw [ht] at hP1
  try dsimp only at hw hP1 hD1
  obtain ⟨hP, hD⟩ := va_join (wr := []) (w1 := (wRnd ad cI cJ cZ co_1 fo_8 ro_9 po pn rd st tw od rn x y u sn)) hP hD [0, 1, 2, 3, 4, 5, 6, 7, 8, 9, 10, 11, 12] [] rfl rfl (by decide) (by decide) hk1 hFc hP1 hD1
  generalize H1 = H at hP hS ⊢
  have hP : va_P (dC, dI) vwCl (wRnd ad cI cJ cZ co_1 fo_8 ro_9 po pn rd st tw od rn x y u sn) H := hP
  have hD : va_D A (wRnd ad cI cJ cZ co_1 fo_8 ro_9 po pn rd st tw od rn x y u sn) := hD
  refine lv_aload_n hx hb dX1_trace_53 rfl (lv_at hl 0 rfl) ?_
  have hPc := hP.sub (ws' := (wRnd ad cI cJ cZ co_1 fo_8 ro_9 po pn rd st tw od rn x y u sn)) [0, 1, 2, 3, 4, 5, 6, 7, 8, 9, 10, 11, 12] rfl
  have hDc := hD.sub (ws' := (wRnd ad cI cJ cZ co_1 fo_8 ro_9 po pn rd st tw od rn x y u sn)) [0, 1, 2, 3, 4, 5, 6, 7, 8, 9, 10, 11, 12] (by decide) rfl
  have hFc := va_free (wc := (wRnd ad cI cJ cZ co_1 fo_8 ro_9 po pn rd st tw od rn x y u sn)) hD hS hA [0, 1, 2, 3, 4, 5, 6, 7, 8, 9, 10, 11, 12] rfl
  refine va_callv (va_runV (As := []) (rest := []) C (c_X1_numberPieces l dC dI cI cJ cZ ad _ co_1 fo_8 ro_9 po pn rd st tw od rn x y u sn  hw) (cwV 0 hts gX1_trace_X1_numberPieces rfl rfl rfl (by decide +kernel) ⟨Nat.le_of_ble_eq_true rfl, Nat.le_of_ble_eq_true rfl⟩) ⟨fb_rw, va_recv hK hPc (ci := 1) (q0 := 0) rfl rfl, fun U hU hW => ⟨rfl, by rw [hU], by rw [hU]; exact hPc, va_K.moved hW.alike hK, hDc.weaken (fun _ _ _ _ => trivial)⟩⟩ rfl rfl hl.1 rfl (lv_room (Nat.le_of_ble_eq_true rfl)) dX1_trace_54 ⟨Nat.zero_le _, Nat.zero_le _⟩) hS (fun q _ h => hFc q h) hFc (fun uu t H1 locs ht hvm hw hB hz1 hk1 hS => ?_)
  obtain ⟨po_10, pn_11⟩ := uu
  obtain ⟨hP1, hD1⟩ := hB
  rw [ht] at hP1
  try dsimp only at hw hP1 hD1
  obtain ⟨hP, hD⟩ := va_join (wr := []) (w1 := (wRnd ad cI cJ cZ co_1 fo_8 ro_9 po_10 pn_11 rd st tw od rn x y u sn)) hP hD [0, 1, 2, 3, 4, 5, 6, 7, 8, 9, 10, 11, 12] [] rfl rfl (by decide) (by decide) hk1 hFc hP1 hD1
  generalize H1 = H at hP hS ⊢
  have hP : va_P (dC, dI) vwCl (wRnd ad cI cJ cZ co_1 fo_8 ro_9 po_10 pn_11 rd st tw od rn x y u sn) H := hP
  have hD : va_D A (wRnd ad cI cJ cZ co_1 fo_8 ro_9 po_10 pn_11 rd st tw od rn x y u sn) := hD
  refine lv_aload_n hx hb dX1_trace_57 rfl (lv_at hl 0 rfl) ?_
  have hPc := hP.sub (ws' := (wRnd ad cI cJ cZ co_1 fo_8 ro_9 po_10 pn_11 rd st tw od rn x y u sn)) [0, 1, 2, 3, 4, 5, 6, 7, 8, 9, 10, 11, 12] rfl
  have hDc := hD.sub (ws' := (wRnd ad cI cJ cZ co_1 fo_8 ro_9 po_10 pn_11 rd st tw od rn x y u sn)) [0, 1, 2, 3, 4, 5, 6, 7, 8, 9, 10, 11, 12] (by decide) rfl
  have hFc := va_free (wc := (wRnd ad cI cJ cZ co_1 fo_8 ro_9 po_10 pn_11 rd st tw od rn x y u sn)) hD hS hA [0, 1, 2, 3, 4, 5, 6, 7, 8, 9, 10, 11, 12] rfl
  refine va_callv (va_runV (As := []) (rest := []) C (c_X1_walkRounds l dC dI cI cJ cZ ad _ co_1 fo_8 ro_9 po_10 pn_11 rd st tw od rn x y u sn  hw) (cwV 0 hts gX1_trace_X1_walkRounds rfl rfl rfl (by decide +kernel) ⟨Nat.le_of_ble_eq_true rfl, Nat.le_of_ble_eq_true rfl⟩) ⟨fb_rw, va_recv hK hPc (ci := 1) (q0 := 0) rfl rfl, fun U hU hW => ⟨rfl, by rw [hU], by rw [hU]; exact hPc, va_K.moved hW.alike hK, hDc.weaken (fun _ _ _ _ => trivial)⟩⟩ rfl rfl hl.1 rfl (lv_room (Nat.le_of_ble_eq_true rfl)) dX1_trace_58 ⟨Nat.zero_le _, Nat.zero_le _⟩) hS (fun q _ h => hFc q h) hFc (fun uu t H1 locs ht hvm hw hB hz1 hk1 hS => ?_)
  obtain ⟨rd_12, st_13, tw_14, rn_15⟩ := uu
  obtain ⟨hP1, hD1⟩ := hB
  rw [ht] at hP1
  try dsimp only at hw hP1 hD1
  obtain ⟨hP, hD⟩ := va_join (wr := []) (w1 := (wRnd ad cI cJ cZ co_1 fo_8 ro_9 po_10 pn_11 rd_12 st_13 tw_14 od rn_15 x y u sn)) hP hD [0, 1, 2, 3, 4, 5, 6, 7, 8, 9, 10, 11, 12] [] rfl rfl (by decide) (by decide) hk1 hFc hP1 hD1
  generalize H1 = H at hP hS ⊢
  have hP : va_P (dC, dI) vwCl (wRnd ad cI cJ cZ co_1 fo_8 ro_9 po_10 pn_11 rd_12 st_13 tw_14 od rn_15 x y u sn) H := hP
  have hD : va_D A (wRnd ad cI cJ cZ co_1 fo_8 ro_9 po_10 pn_11 rd_12 st_13 tw_14 od rn_15 x y u sn) := hD
  rw [← hQ]
  exact W.vret hx hb hr (fun t ht hW => ⟨⟨(co_1, fo_8, ro_9, po_10, pn_11, rd_12, st_13, tw_14, rn_15), rfl, hw, by rw [ht]; exact hP, hD⟩, hS.F ht⟩) hS.2.2 dX1_trace_61
-- X1_pieceOfRound
abbrev rm_X1_pieceOfRound : Room := { frames := 0, cells := 0, slots := 0, locals := 0 }
theorem f_X1_pieceOfRound_0 : (Cond.fieldLink RX1 28 "PlaneFaces$Rounds" "pieceOf" "[I") ∈ wsX1_pieceOfRound := by decide +kernel
theorem f_X1_pieceOfRound_1 : ∀ w ∈ wsX10, w ∈ wsX1_pieceOfRound := by decide +kernel
theorem f_X1_pieceOfRound_2 : (Cond.fieldLink RX1 38 "PlaneFaces$Rounds" "start" "[I") ∈ wsX1_pieceOfRound := by decide +kernel
set_option maxRecDepth 100000 in
set_option maxHeartbeats 4000000 in
theorem c_X1_pieceOfRound (l : Launch) (dC : Nat → ClassId) (dI : Nat → Nat → Nat) (cI cJ cZ : ClassId) (ad : Nat → Nat) (co : Nat → Int32) (fo : Nat → Int32) (ro : Nat → Int32) (po : Nat → Int32) (pn : Int32) (rd : Nat → Int32) (st : Nat → Int32) (tw : Nat → Int64) (od : Nat → Int32) (rn : Int32) (x : Nat → Int32) (y : Nat → Int32) (u : Nat → Int32) (sn : Int32) (v1 : Int32) {post : Int32 → Prop} (hw : wp_X1_pieceOfRound po st v1 post) : Met l yX1_pieceOfRound wsX1_pieceOfRound rm_X1_pieceOfRound (va_Pc [.ref (ad 7), .int v1] (fun U => va_P (dC, dI) vwCl (wRnd ad cI cJ cZ co fo ro po pn rd st tw od rn x y u sn) U.heap ∧ va_K (dC, dI) vwCl (tyL cI cJ cZ) U)) (vp_Si post) 0 0 (fun _ => False) := by
  unfold wp_X1_pieceOfRound at hw
  refine Met.ofW (cc := cX1_pieceOfRound) (maxL := 2) (ret := (some .int)) (by decide) rfl ?_
  intro p e s m args below meth c s₁ B hml hv
  obtain ⟨hav, hP, hK⟩ := hv
  have hx := B.exec
  have hb := B.bytes
  have hr := B.returns
  have hts := atoms_spec (ws := wsX1_pieceOfRound) B.pre
  have hown : s.vm.findClass RX1 = some m.cls := findClass_of_methodNamed B.named
  have hlocks := B.notSynchronized
  have C : CallFix p m c cX1_pieceOfRound 2 s args wsX1_pieceOfRound RX1 := ⟨hx, hb, hml, hown, hts⟩
  obtain ⟨ls, hE, hl⟩ := mx_entry (m := m) [.ref (ad 7), .int v1] (n := 2) (Nat.le_of_ble_eq_true rfl)
  have hl : lv_has ls 2 [(0, .ref (ad 7)), (1, .int v1)] := hl
  rw [show entryFrame m args 2 = F0 m 0 ls [] by rw [hav]; exact hE]
  obtain ⟨Q, hQ⟩ : ∃ Q, MQ below (vp_Si post) args s 0 0 (fun _ => False) = Q := ⟨_, rfl⟩
  rw [hQ]
  obtain ⟨H, hH⟩ : ∃ H, s.heap = H := ⟨_, rfl⟩
  rw [hH]
  rw [hH] at hP
  show W p l e rm_X1_pieceOfRound s m args below meth c H [] 0 0 Q (F0 m 0 ls [])
  refine lv_aload_n hx hb dX1_pieceOfRound_0 rfl (lv_at hl 0 rfl) ?_
  refine va_get (D := (dC, dI)) (ci := 1) (v := .ref (ad 11)) (C := RX1) (T := TX1) (N := 11) hx hb hts f_X1_pieceOfRound_1 hown hK hP 0 rfl rfl 4 (by decide) (hts _ f_X1_pieceOfRound_0) (fun _ h9 => h9) rfl dX1_pieceOfRound_1 ?_
  refine lv_aload_n hx hb dX1_pieceOfRound_4 rfl (lv_at hl 0 rfl) ?_
  refine va_get (D := (dC, dI)) (ci := 1) (v := .ref (ad 13)) (C := RX1) (T := TX1) (N := 11) hx hb hts f_X1_pieceOfRound_1 hown hK hP 0 rfl rfl 7 (by decide) (hts _ f_X1_pieceOfRound_2) (fun _ h9 => h9) rfl dX1_pieceOfRound_5 ?_
  refine lv_iload_n hx hb dX1_pieceOfRound_8 rfl (lv_at hl 1 rfl) ?_
  have hi := hw.1
  have hw := hw.2
  refine va_iald hx hb hK hP 6 0 rfl rfl hi dX1_pieceOfRound_9 ?_
  refine lv_iconst (v := 1) hx hb dX1_pieceOfRound_10 (by decide) ?_
  refine lv_ishr hx hb dX1_pieceOfRound_11 ?_
  have hi := hw.1
  have hw := hw.2
  refine va_iald hx hb hK hP 4 0 rfl rfl hi dX1_pieceOfRound_12 ?_
  rw [← hQ]
  exact W.iret (v := (po ((st v1.toNatClampNeg) >>> ((1 : Int32) &&& 31)).toNatClampNeg)) hx hb hr (fun t ht hW => ⟨_, rfl, hw, ht.trans hH.symm⟩) (fun q h => by cases h) dX1_pieceOfRound_13
-- X1_markOddRounds
abbrev rm_X1_markOddRounds : Room := { frames := 2, cells := 0, slots := 0, locals := 51 }
theorem f_X1_markOddRounds_0 : (Cond.fieldLink RX1 45 "PlaneFaces$Rounds" "odd" "[I") ∈ wsX1_markOddRounds := by decide +kernel
theorem f_X1_markOddRounds_1 : ∀ w ∈ wsX10, w ∈ wsX1_markOddRounds := by decide +kernel
theorem f_X1_markOddRounds_2 : (Cond.fieldLink RX1 12 "PlaneFaces$Rounds" "segments" "LPlaneFaces$Segments;") ∈ wsX1_markOddRounds := by decide +kernel
theorem f_X1_markOddRounds_3 : (Cond.fieldLink RX1 54 "PlaneFaces$Segments" "used" "[Z") ∈ wsX1_markOddRounds := by decide +kernel
theorem f_X1_markOddRounds_4 : ∀ w ∈ wsX20, w ∈ wsX1_markOddRounds := by decide +kernel
theorem f_X1_markOddRounds_5 : (Cond.fieldLink RX1 35 "PlaneFaces$Rounds" "roundOf" "[I") ∈ wsX1_markOddRounds := by decide +kernel
set_option maxRecDepth 100000 in
set_option maxHeartbeats 4000000 in
theorem l_X1_markOddRounds_10 {p : Program} {l : Launch} {e : Env} {s : State} {m : MethodId} {args : Array Value} {below : List Frame} {meth : Method} {c : Code} {Q : State → Prop} {dC : Nat → ClassId} {dI : Nat → Nat → Nat} {cI cJ cZ : ClassId} {ad : Nat → Nat} {co : Nat → Int32} {fo : Nat → Int32} {ro : Nat → Int32} {po : Nat → Int32} {pn : Int32} {rd : Nat → Int32} {st : Nat → Int32} {tw : Nat → Int64} {rn : Int32} {x : Nat → Int32} {y : Nat → Int32} {u : Nat → Int32} {sn : Int32} {v1 : Int32} {v2 : Int32} {K83 : (Nat → Int32) → Prop} (C : CallFix p m c cX1_markOddRounds 4 s args wsX1_markOddRounds RX1) (hK : va_K (dC, dI) vwCl (tyL cI cJ cZ) s) {A : Nat → Prop} (hA : ∀ q : Nat, s.heap.size ≤ q → A q) (hk83 : ∀ (od_w : Nat → Int32) (ls : Array Slot) (H : Heap) (locs : List Loc), lv_has ls 4 [(0, .ref (ad 7))] → va_P (dC, dI) vwCl (wRnd ad cI cJ cZ co fo ro po pn rd st tw od_w rn x y u sn) H → va_D A (wRnd ad cI cJ cZ co fo ro po pn rd st tw od_w rn x y u sn) → va_S A s.heap H locs → K83 od_w → W p l e rm_X1_markOddRounds s m args below meth c H locs 0 0 Q (F0 m 83 ls [])) : ∀ (n : Nat) (od : Nat → Int32) (v3 : Int32) (ls : Array Slot) (H : Heap) (locs : List Loc), lv_has ls 4 [(0, .ref (ad 7)), (1, .int v1), (2, .int v2), (3, .int v3)] → va_P (dC, dI) vwCl (wRnd ad cI cJ cZ co fo ro po pn rd st tw od rn x y u sn) H → va_D A (wRnd ad cI cJ cZ co fo ro po pn rd st tw od rn x y u sn) → va_S A s.heap H locs → lp_X1_markOddRounds_10 rd x y u v1 v2 K83 n od v3 → W p l e rm_X1_markOddRounds s m args below meth c H locs 0 0 Q (F0 m 10 ls []) := by
  obtain ⟨hx, hb, hml, hown, hts⟩ := id C
  intro n
  induction n with
  | zero =>
    intro od v3 ls H locs hl hP hD hS hw
    rw [lp_X1_markOddRounds_10.eq_1] at hw
    exact hw.elim
  | succ n ih =>
    intro od v3 ls H locs hl hP hD hS hw
    rw [lp_X1_markOddRounds_10.eq_2] at hw
    refine lv_iload_n hx hb dX1_markOddRounds_10 rfl (lv_at hl 3 rfl) ?_
    refine lv_bipush (v := 60) hx hb dX1_markOddRounds_11 (by decide) ?_
    refine lv_icmp_ge (tgt := 83) hx hb dX1_markOddRounds_13 (by decide) (fun hc => ?_) (fun hc => ?_)
    · have hw := hw.1 (hc)
      exact hk83 od ls _ _ (lv_sub hl [0] rfl) hP hD hS hw
    · have hw := hw.2 hc
      refine lv_aload_n hx hb dX1_markOddRounds_16 rfl (lv_at hl 0 rfl) ?_
      refine va_get (D := (dC, dI)) (ci := 1) (v := .ref (ad 16)) (C := RX1) (T := TX1) (N := 11) hx hb hts f_X1_markOddRounds_1 hown hK hP 0 rfl rfl 0 (by decide) (hts _ f_X1_markOddRounds_2) (fun _ h9 => h9) rfl dX1_markOddRounds_17 ?_
      refine va_get (D := (dC, dI)) (ci := 2) (v := .ref (ad 19)) (C := RX2) (T := TX2) (N := 4) hx hb hts f_X1_markOddRounds_4 hown hK hP 9 rfl rfl 2 (by decide) (hts _ f_X1_markOddRounds_3) (fun _ h9 => h9) rfl dX1_markOddRounds_20 ?_
      refine lv_iload_n hx hb dX1_markOddRounds_23 rfl (lv_at hl 3 rfl) ?_
      have hi := hw.1
      have hw := hw.2
      refine va_zald hx hb hK hP 12 2 rfl rfl hi dX1_markOddRounds_24 ?_
      refine jn1_use (J := fun (od_2 : Nat → Int32) => ∀ (ls : Array Slot) (H : Heap) (locs : List Loc), lv_has ls 4 [(0, .ref (ad 7)), (1, .int v1), (2, .int v2), (3, .int v3)] → va_P (dC, dI) vwCl (wRnd ad cI cJ cZ co fo ro po pn rd st tw od_2 rn x y u sn) H → va_D A (wRnd ad cI cJ cZ co fo ro po pn rd st tw od_2 rn x y u sn) → va_S A s.heap H locs → W p l e rm_X1_markOddRounds s m args below meth c H locs 0 0 Q (F0 m 77 ls [])) hw (fun od_2 hw ls H locs hl hP hD hS => ?_) (fun hw hj0 => ?_)
      · refine lv_iinc (v := (v3 + (1 : Int32))) (lv' := [(3, .int (v3 + (1 : Int32))), (0, .ref (ad 7)), (1, .int v1), (2, .int v2)]) hx hb dX1_markOddRounds_77 hl (k := 3) rfl rfl (by decide) rfl (fun ls hl => ?_)
        refine lv_goto (tgt := 10) hx hb dX1_markOddRounds_80 (by decide) ?_
        exact ih od_2 (v3 + (1 : Int32)) ls _ _ (lv_sub hl [1, 2, 3, 0] rfl) hP hD hS hw
      · have hj4 := hj0
        refine lv_if_eq (tgt := 77) hx hb dX1_markOddRounds_25 (by decide) (fun hc => ?_) (fun hc => ?_)
        · have hw := hw.1 (hc)
          exact hj4 od hw ls _ _ (lv_sub hl [0, 1, 2, 3] rfl) hP hD hS
        · have hw := hw.2 hc
          refine lv_aload_n hx hb dX1_markOddRounds_28 rfl (lv_at hl 0 rfl) ?_
          refine va_get (D := (dC, dI)) (ci := 1) (v := .ref (ad 16)) (C := RX1) (T := TX1) (N := 11) hx hb hts f_X1_markOddRounds_1 hown hK hP 0 rfl rfl 0 (by decide) (hts _ f_X1_markOddRounds_2) (fun _ h9 => h9) rfl dX1_markOddRounds_29 ?_
          refine lv_iload_n hx hb dX1_markOddRounds_32 rfl (lv_at hl 3 rfl) ?_
          refine lv_iload_n hx hb dX1_markOddRounds_33 rfl (lv_at hl 1 rfl) ?_
          refine lv_iload_n hx hb dX1_markOddRounds_34 rfl (lv_at hl 2 rfl) ?_
          have hPc := hP.sub (ws' := (wSeg ad cI cJ cZ x y u sn)) [9, 10, 11, 12] rfl
          refine vp_callSi (W.runV (As := [.int v3, .int v1, .int v2]) (rest := []) C (c_X2_roofs l dC dI cI cJ cZ ad x y u sn v3 v1 v2 hw) (cwV 3 hts gX1_markOddRounds_X2_roofs rfl rfl rfl (by decide +kernel) ⟨Nat.le_of_ble_eq_true rfl, Nat.le_of_ble_eq_true rfl⟩) ⟨fb_ro, va_recv hK hPc (ci := 2) (q0 := 0) rfl rfl, fun U hU hW => ⟨rfl, by rw [hU]; exact hPc, va_K.moved hW.alike hK⟩⟩ rfl rfl hl.1 rfl (lv_room (Nat.le_of_ble_eq_true rfl)) dX1_markOddRounds_35 ⟨Nat.zero_le _, Nat.zero_le _⟩) (fun r5 hw => ?_)
          refine lv_if_eq (tgt := 77) hx hb dX1_markOddRounds_38 (by decide) (fun hc => ?_) (fun hc => ?_)
          · have hw := hw.1 (hc)
            exact hj4 od hw ls _ _ (lv_sub hl [0, 1, 2, 3] rfl) hP hD hS
          · have hw := hw.2 hc
            refine lv_aload_n hx hb dX1_markOddRounds_41 rfl (lv_at hl 0 rfl) ?_
            refine va_get (D := (dC, dI)) (ci := 1) (v := .ref (ad 15)) (C := RX1) (T := TX1) (N := 11) hx hb hts f_X1_markOddRounds_1 hown hK hP 0 rfl rfl 9 (by decide) (hts _ f_X1_markOddRounds_0) (fun _ h9 => h9) rfl dX1_markOddRounds_42 ?_
            refine lv_aload_n hx hb dX1_markOddRounds_45 rfl (lv_at hl 0 rfl) ?_
            refine va_get (D := (dC, dI)) (ci := 1) (v := .ref (ad 12)) (C := RX1) (T := TX1) (N := 11) hx hb hts f_X1_markOddRounds_1 hown hK hP 0 rfl rfl 6 (by decide) (hts _ f_X1_markOddRounds_5) (fun _ h9 => h9) rfl dX1_markOddRounds_46 ?_
            refine lv_iconst (v := 2) hx hb dX1_markOddRounds_49 (by decide) ?_
            refine lv_iload_n hx hb dX1_markOddRounds_50 rfl (lv_at hl 3 rfl) ?_
            refine lv_imul hx hb dX1_markOddRounds_51 ?_
            have hi := hw.1
            have hw := hw.2
            refine va_iald hx hb hK hP 5 0 rfl rfl hi dX1_markOddRounds_52 ?_
            refine lv_dup2_11 hx hb dX1_markOddRounds_53 rfl rfl ?_
            have hi := hw.1
            have hw := hw.2
            refine va_iald hx hb hK hP 8 0 rfl rfl hi dX1_markOddRounds_54 ?_
            refine lv_iconst (v := 1) hx hb dX1_markOddRounds_55 (by decide) ?_
            refine lv_ixor hx hb dX1_markOddRounds_56 ?_
            have hi := hw.1
            have hw := hw.2 _ rfl
            refine va_iast hx hb hK hP hD hS 8 0 rfl rfl hi dX1_markOddRounds_57 (fun H locs hP hD hS => ?_)
            generalize hod_6 : (upd od (rd ((2 : Int32) * v3).toNatClampNeg).toNatClampNeg ((od (rd ((2 : Int32) * v3).toNatClampNeg).toNatClampNeg) ^^^ (1 : Int32))) = od_6 at hw hP hD
            have hP : va_P (dC, dI) vwCl (wRnd ad cI cJ cZ co fo ro po pn rd st tw od_6 rn x y u sn) H := hP
            have hD : va_D A (wRnd ad cI cJ cZ co fo ro po pn rd st tw od_6 rn x y u sn) := hD
            refine lv_aload_n hx hb dX1_markOddRounds_58 rfl (lv_at hl 0 rfl) ?_
            refine va_get (D := (dC, dI)) (ci := 1) (v := .ref (ad 15)) (C := RX1) (T := TX1) (N := 11) hx hb hts f_X1_markOddRounds_1 hown hK hP 0 rfl rfl 9 (by decide) (hts _ f_X1_markOddRounds_0) (fun _ h9 => h9) rfl dX1_markOddRounds_59 ?_
            refine lv_aload_n hx hb dX1_markOddRounds_62 rfl (lv_at hl 0 rfl) ?_
            refine va_get (D := (dC, dI)) (ci := 1) (v := .ref (ad 12)) (C := RX1) (T := TX1) (N := 11) hx hb hts f_X1_markOddRounds_1 hown hK hP 0 rfl rfl 6 (by decide) (hts _ f_X1_markOddRounds_5) (fun _ h9 => h9) rfl dX1_markOddRounds_63 ?_
            refine lv_iconst (v := 2) hx hb dX1_markOddRounds_66 (by decide) ?_
            refine lv_iload_n hx hb dX1_markOddRounds_67 rfl (lv_at hl 3 rfl) ?_
            refine lv_imul hx hb dX1_markOddRounds_68 ?_
            refine lv_iconst (v := 1) hx hb dX1_markOddRounds_69 (by decide) ?_
            refine lv_iadd hx hb dX1_markOddRounds_70 ?_
            have hi := hw.1
            have hw := hw.2
            refine va_iald hx hb hK hP 5 0 rfl rfl hi dX1_markOddRounds_71 ?_
            refine lv_dup2_11 hx hb dX1_markOddRounds_72 rfl rfl ?_
            have hi := hw.1
            have hw := hw.2
            refine va_iald hx hb hK hP 8 0 rfl rfl hi dX1_markOddRounds_73 ?_
            refine lv_iconst (v := 1) hx hb dX1_markOddRounds_74 (by decide) ?_
            refine lv_ixor hx hb dX1_markOddRounds_75 ?_
            have hi := hw.1
            have hw := hw.2 _ rfl
            refine va_iast hx hb hK hP hD hS 8 0 rfl rfl hi dX1_markOddRounds_76 (fun H locs hP hD hS => ?_)
            generalize hod_7 : (upd od_6 (rd (((2 : Int32) * v3) + (1 : Int32)).toNatClampNeg).toNatClampNeg ((od_6 (rd (((2 : Int32) * v3) + (1 : Int32)).toNatClampNeg).toNatClampNeg) ^^^ (1 : Int32))) = od_7 at hw hP hD
            have hP : va_P (dC, dI) vwCl (wRnd ad cI cJ cZ co fo ro po pn rd st tw od_7 rn x y u sn) H := hP
            have hD : va_D A (wRnd ad cI cJ cZ co fo ro po pn rd st tw od_7 rn x y u sn) := hD
            exact hj4 od_7 hw ls _ _ (lv_sub hl [0, 1, 2, 3] rfl) hP hD hS
set_option maxRecDepth 100000 in
set_option maxHeartbeats 4000000 in
theorem c_X1_markOddRounds (l : Launch) (dC : Nat → ClassId) (dI : Nat → Nat → Nat) (cI cJ cZ : ClassId) (ad : Nat → Nat) (sz : Nat) (co : Nat → Int32) (fo : Nat → Int32) (ro : Nat → Int32) (po : Nat → Int32) (pn : Int32) (rd : Nat → Int32) (st : Nat → Int32) (tw : Nat → Int64) (od : Nat → Int32) (rn : Int32) (x : Nat → Int32) (y : Nat → Int32) (u : Nat → Int32) (sn : Int32) (v1 : Int32) (v2 : Int32) {post : (Nat → Int32) → Prop} (hw : wp_X1_markOddRounds rd od x y u v1 v2 post) : Met l yX1_markOddRounds wsX1_markOddRounds rm_X1_markOddRounds (va_Pc [.ref (ad 7), .int v1, .int v2] (fun U => U.heap.size = sz ∧ va_P (dC, dI) vwCl (wRnd ad cI cJ cZ co fo ro po pn rd st tw od rn x y u sn) U.heap ∧ va_K (dC, dI) vwCl (tyL cI cJ cZ) U ∧ va_D (fun _ => True) (wRnd ad cI cJ cZ co fo ro po pn rd st tw od rn x y u sn))) (va_Qv (fun uu : (Nat → Int32) => post uu) (fun (uu : (Nat → Int32)) (t : State) => va_P (dC, dI) vwCl (wRnd ad cI cJ cZ co fo ro po pn rd st tw uu rn x y u sn) t.heap ∧ va_D (va_A (wRnd ad cI cJ cZ co fo ro po pn rd st tw od rn x y u sn) sz) (wRnd ad cI cJ cZ co fo ro po pn rd st tw uu rn x y u sn)) (va_A (wRnd ad cI cJ cZ co fo ro po pn rd st tw od rn x y u sn) sz)) 0 0 (va_A (wRnd ad cI cJ cZ co fo ro po pn rd st tw od rn x y u sn) sz) := by
  unfold wp_X1_markOddRounds at hw
  refine Met.ofW (cc := cX1_markOddRounds) (maxL := 4) (ret := none) (by decide) rfl ?_
  intro p e s m args below meth c s₁ B hml hv
  obtain ⟨hav, hsz, hP, hK, hD0⟩ := hv
  have hx := B.exec
  have hb := B.bytes
  have hr := B.returns
  have hts := atoms_spec (ws := wsX1_markOddRounds) B.pre
  have hown : s.vm.findClass RX1 = some m.cls := findClass_of_methodNamed B.named
  have hlocks := B.notSynchronized
  have C : CallFix p m c cX1_markOddRounds 4 s args wsX1_markOddRounds RX1 := ⟨hx, hb, hml, hown, hts⟩
  obtain ⟨ls, hE, hl⟩ := mx_entry (m := m) [.ref (ad 7), .int v1, .int v2] (n := 4) (Nat.le_of_ble_eq_true rfl)
  have hl : lv_has ls 4 [(0, .ref (ad 7)), (1, .int v1), (2, .int v2)] := hl
  rw [show entryFrame m args 4 = F0 m 0 ls [] by rw [hav]; exact hE]
  subst hsz
  have hD := hD0.self (sz := s.heap.size)
  generalize hAe : va_A (wRnd ad cI cJ cZ co fo ro po pn rd st tw od rn x y u sn) s.heap.size = A at hD ⊢
  have hA : ∀ q : Nat, s.heap.size ≤ q → A q := fun q h => by rw [← hAe]; exact Or.inr h
  have hS : va_S A s.heap s.heap [] := va_S.rf
  obtain ⟨Q, hQ⟩ : ∃ Q, MQ below (va_Qv (fun uu : (Nat → Int32) => post uu) (fun (uu : (Nat → Int32)) (t : State) => va_P (dC, dI) vwCl (wRnd ad cI cJ cZ co fo ro po pn rd st tw uu rn x y u sn) t.heap ∧ va_D A (wRnd ad cI cJ cZ co fo ro po pn rd st tw uu rn x y u sn)) A) args s 0 0 A = Q := ⟨_, rfl⟩
  rw [hQ]
  obtain ⟨H, hH⟩ : ∃ H, s.heap = H := ⟨_, rfl⟩
  have hS : va_S A s.heap H [] := by rw [← hH]; exact hS
  rw [hH] at hP
  show W p l e rm_X1_markOddRounds s m args below meth c s.heap [] 0 0 Q (F0 m 0 ls [])
  suffices hg : W p l e rm_X1_markOddRounds s m args below meth c H [] 0 0 Q (F0 m 0 ls []) by rw [hH]; exact hg
  clear hH
  generalize hlo : ([] : List Loc) = locs at hS ⊢
  refine lv_aload_n hx hb dX1_markOddRounds_0 rfl (lv_at hl 0 rfl) ?_
  refine va_get (D := (dC, dI)) (ci := 1) (v := .ref (ad 15)) (C := RX1) (T := TX1) (N := 11) hx hb hts f_X1_markOddRounds_1 hown hK hP 0 rfl rfl 9 (by decide) (hts _ f_X1_markOddRounds_0) (fun _ h9 => h9) rfl dX1_markOddRounds_1 ?_
  refine lv_iconst (v := 0) hx hb dX1_markOddRounds_4 (by decide) ?_
  have hPc := hP.sub (ws' := [(ad 15, .inl (cI, 120, .inl od))]) [8] rfl
  have hDc := hD.sub (ws' := [(ad 15, .inl (cI, 120, .inl od))]) [8] (by decide) rfl
  have hFc := va_free (wc := [(ad 15, .inl (cI, 120, .inl od))]) hD hS hA [8] rfl
  refine va_callv (va_runS (As := [.ref (ad 15), .int (0 : Int32)]) (rest := []) C (c_fill l dC dI cI cJ cZ _ (ad 15) 120 (by decide) od (0 : Int32)) (va_cwS 2 hts gX1_markOddRounds_J7_fill_53178 rfl rfl rfl (by decide +kernel) ⟨Nat.le_of_ble_eq_true rfl, Nat.le_of_ble_eq_true rfl⟩) ⟨fb_rw, fun U hU hW => ⟨rfl, by rw [hU], by rw [hU]; exact hPc, va_K.moved hW.alike hK, hDc.weaken (fun _ _ _ _ => trivial)⟩⟩ rfl rfl hl.1 rfl (lv_room (Nat.le_of_ble_eq_true rfl)) dX1_markOddRounds_5 ⟨Nat.zero_le _, Nat.zero_le _⟩) hS (fun q _ h => hFc q h) hFc (fun od_1 t H1 locs ht hvm hq hB hz1 hk1 hS => ?_)
  have hw := hw od_1 hq
  obtain ⟨hP1, hD1⟩ := hB
  rw [ht] at hP1
  obtain ⟨hP, hD⟩ := va_join (wr := [(ad 7, .inr (1, [.ref (ad 16), .ref (ad 8), .ref (ad 9), .ref (ad 10), .ref (ad 11), .int pn, .ref (ad 12), .ref (ad 13), .ref (ad 14), .ref (ad 15), .int rn])), (ad 8, .inl (cI, 120, .inl co)), (ad 9, .inl (cI, 120, .inl fo)), (ad 10, .inl (cI, 60, .inl ro)), (ad 11, .inl (cI, 60, .inl po)), (ad 12, .inl (cI, 120, .inl rd)), (ad 13, .inl (cI, 120, .inl st)), (ad 14, .inl (cJ, 120, .inr (.inl tw))), (ad 16, .inr (2, [.ref (ad 17), .ref (ad 18), .ref (ad 19), .int sn])), (ad 17, .inl (cI, 120, .inl x)), (ad 18, .inl (cI, 120, .inl y)), (ad 19, .inl (cZ, 60, .inl u))]) (w1 := [(ad 15, .inl (cI, 120, .inl od_1))]) hP hD [8] [0, 1, 2, 3, 4, 5, 6, 7, 9, 10, 11, 12] rfl rfl (by decide) (by decide) hk1 hFc hP1 hD1
  have hP := hP.sub (ws' := (wRnd ad cI cJ cZ co fo ro po pn rd st tw od_1 rn x y u sn)) [0, 1, 2, 3, 4, 5, 6, 7, 12, 8, 9, 10, 11] rfl
  have hD := hD.sub (ws' := (wRnd ad cI cJ cZ co fo ro po pn rd st tw od_1 rn x y u sn)) [0, 1, 2, 3, 4, 5, 6, 7, 12, 8, 9, 10, 11] (by decide) rfl
  generalize H1 = H at hP hS ⊢
  refine lv_iconst (v := 0) hx hb dX1_markOddRounds_8 (by decide) ?_
  refine lv_istore_n (lv' := [(3, .int (0 : Int32)), (0, .ref (ad 7)), (1, .int v1), (2, .int v2)]) hx hb dX1_markOddRounds_9 rfl hl (by decide) rfl (fun ls hl => ?_)
  obtain ⟨n9, hw⟩ := hw
  refine l_X1_markOddRounds_10 C hK hA (fun od_8 ls H locs hl hP hD hS hw => ?_) n9 od_1 (0 : Int32) ls _ _ (lv_sub hl [1, 2, 3, 0] rfl) hP hD hS hw
  rw [← hQ]
  exact W.vret hx hb hr (fun t ht hW => ⟨⟨od_8, rfl, hw, by rw [ht]; exact hP, hD⟩, hS.F ht⟩) hS.2.2 dX1_markOddRounds_83
-- X1_enclosing
abbrev rm_X1_enclosing : Room := { frames := 3, cells := 0, slots := 0, locals := 74 }
theorem f_X1_enclosing_0 : (Cond.fieldLink RX1 48 "PlaneFaces$Rounds" "size" "I") ∈ wsX1_enclosing := by decide +kernel
theorem f_X1_enclosing_1 : ∀ w ∈ wsX10, w ∈ wsX1_enclosing := by decide +kernel
theorem f_X1_enclosing_2 : (Cond.fieldLink RX1 45 "PlaneFaces$Rounds" "odd" "[I") ∈ wsX1_enclosing := by decide +kernel
theorem f_X1_enclosing_3 : (Cond.fieldLink RX1 41 "PlaneFaces$Rounds" "twice" "[J") ∈ wsX1_enclosing := by decide +kernel
set_option maxRecDepth 100000 in
set_option maxHeartbeats 4000000 in
theorem l_X1_enclosing_12 {p : Program} {l : Launch} {e : Env} {s : State} {m : MethodId} {args : Array Value} {below : List Frame} {meth : Method} {c : Code} {Q : State → Prop} {dC : Nat → ClassId} {dI : Nat → Nat → Nat} {cI cJ cZ : ClassId} {ad : Nat → Nat} {co : Nat → Int32} {fo : Nat → Int32} {ro : Nat → Int32} {po : Nat → Int32} {pn : Int32} {rd : Nat → Int32} {st : Nat → Int32} {tw : Nat → Int64} {od : Nat → Int32} {rn : Int32} {x : Nat → Int32} {y : Nat → Int32} {u : Nat → Int32} {sn : Int32} {v3 : Int32} {K100 : Int32 → Prop} (C : CallFix p m c cX1_enclosing 7 s args wsX1_enclosing RX1) (hK : va_K (dC, dI) vwCl (tyL cI cJ cZ) s) {A : Nat → Prop} (hA : ∀ q : Nat, s.heap.size ≤ q → A q) (hk100 : ∀ (w4 : Int32) (ls : Array Slot) (H : Heap) (locs : List Loc), lv_has ls 7 [(0, .ref (ad 7)), (4, .int w4)] → va_P (dC, dI) vwCl (wRnd ad cI cJ cZ co fo ro po pn rd st tw od rn x y u sn) H → va_D A (wRnd ad cI cJ cZ co fo ro po pn rd st tw od rn x y u sn) → va_S A s.heap H locs → K100 w4 → W p l e rm_X1_enclosing s m args below meth c H locs 0 0 Q (F0 m 100 ls [])) : ∀ (n : Nat) (v4 : Int32) (v5 : Int32) (ls : Array Slot) (H : Heap) (locs : List Loc), lv_has ls 7 [(0, .ref (ad 7)), (3, .int v3), (4, .int v4), (5, .int v5)] → va_P (dC, dI) vwCl (wRnd ad cI cJ cZ co fo ro po pn rd st tw od rn x y u sn) H → va_D A (wRnd ad cI cJ cZ co fo ro po pn rd st tw od rn x y u sn) → va_S A s.heap H locs → lp_X1_enclosing_12 po rd st tw od rn x y u v3 K100 n v4 v5 → W p l e rm_X1_enclosing s m args below meth c H locs 0 0 Q (F0 m 12 ls []) := by
  obtain ⟨hx, hb, hml, hown, hts⟩ := id C
  intro n
  induction n with
  | zero =>
    intro v4 v5 ls H locs hl hP hD hS hw
    rw [lp_X1_enclosing_12.eq_1] at hw
    exact hw.elim
  | succ n ih =>
    intro v4 v5 ls H locs hl hP hD hS hw
    rw [lp_X1_enclosing_12.eq_2] at hw
    refine lv_iload hx hb dX1_enclosing_12 (lv_at hl 3 rfl) ?_
    refine lv_aload_n hx hb dX1_enclosing_14 rfl (lv_at hl 0 rfl) ?_
    refine va_get (D := (dC, dI)) (ci := 1) (v := .int rn) (C := RX1) (T := TX1) (N := 11) hx hb hts f_X1_enclosing_1 hown hK hP 0 rfl rfl 10 (by decide) (hts _ f_X1_enclosing_0) (fun _ h9 => h9) rfl dX1_enclosing_15 ?_
    refine lv_icmp_ge (tgt := 100) hx hb dX1_enclosing_18 (by decide) (fun hc => ?_) (fun hc => ?_)
    · have hw := hw.1 (hc)
      exact hk100 v4 ls _ _ (lv_sub hl [0, 2] rfl) hP hD hS hw
    · have hw := hw.2 hc
      refine lv_aload_n hx hb dX1_enclosing_21 rfl (lv_at hl 0 rfl) ?_
      refine va_get (D := (dC, dI)) (ci := 1) (v := .ref (ad 15)) (C := RX1) (T := TX1) (N := 11) hx hb hts f_X1_enclosing_1 hown hK hP 0 rfl rfl 9 (by decide) (hts _ f_X1_enclosing_2) (fun _ h9 => h9) rfl dX1_enclosing_22 ?_
      refine lv_iload hx hb dX1_enclosing_25 (lv_at hl 3 rfl) ?_
      have hi := hw.1
      have hw := hw.2
      refine va_iald hx hb hK hP 8 0 rfl rfl hi dX1_enclosing_27 ?_
      refine lv_iconst (v := 1) hx hb dX1_enclosing_28 (by decide) ?_
      refine jn1_use (J := fun (k2 : Int32) => ∀ (ls : Array Slot) (H : Heap) (locs : List Loc), lv_has ls 7 [(0, .ref (ad 7)), (3, .int v3), (4, .int v4), (5, .int v5)] → va_P (dC, dI) vwCl (wRnd ad cI cJ cZ co fo ro po pn rd st tw od rn x y u sn) H → va_D A (wRnd ad cI cJ cZ co fo ro po pn rd st tw od rn x y u sn) → va_S A s.heap H locs → W p l e rm_X1_enclosing s m args below meth c H locs 0 0 Q (F0 m 59 ls [.int k2])) hw (fun k2 hw ls H locs hl hP hD hS => ?_) (fun hw hj0 => ?_)
      · refine lv_istore (lv' := [(6, .int k2), (0, .ref (ad 7)), (3, .int v3), (4, .int v4), (5, .int v5)]) hx hb dX1_enclosing_59 hl (by decide) rfl (fun ls hl => ?_)
        refine lv_iload hx hb dX1_enclosing_61 (lv_at hl 0 rfl) ?_
        refine jn1_use (J := fun (j5 : Int32) => ∀ (ls : Array Slot) (H : Heap) (locs : List Loc), lv_has ls 7 [(0, .ref (ad 7)), (3, .int v3), (4, .int j5), (5, .int v5)] → va_P (dC, dI) vwCl (wRnd ad cI cJ cZ co fo ro po pn rd st tw od rn x y u sn) H → va_D A (wRnd ad cI cJ cZ co fo ro po pn rd st tw od rn x y u sn) → va_S A s.heap H locs → W p l e rm_X1_enclosing s m args below meth c H locs 0 0 Q (F0 m 94 ls [])) hw (fun j5 hw ls H locs hl hP hD hS => ?_) (fun hw hj0 => ?_)
        · refine lv_iinc (v := (v5 + (1 : Int32))) (lv' := [(5, .int (v5 + (1 : Int32))), (0, .ref (ad 7)), (3, .int v3), (4, .int j5)]) hx hb dX1_enclosing_94 hl (k := 3) rfl rfl (by decide) rfl (fun ls hl => ?_)
          refine lv_goto (tgt := 12) hx hb dX1_enclosing_97 (by decide) ?_
          exact ih j5 (v5 + (1 : Int32)) ls _ _ (lv_sub hl [1, 2, 3, 0] rfl) hP hD hS hw
        · have hj7 := hj0
          refine lv_if_eq (tgt := 94) hx hb dX1_enclosing_63 (by decide) (fun hc => ?_) (fun hc => ?_)
          · have hw := hw.1 (hc)
            exact hj7 v4 hw ls _ _ (lv_sub hl [1, 2, 3, 4] rfl) hP hD hS
          · have hw := hw.2 hc
            refine lv_iload hx hb dX1_enclosing_66 (lv_at hl 3 rfl) ?_
            refine lv_iconst (v := -1) hx hb dX1_enclosing_68 (by decide) ?_
            refine jn0_use (J := ∀ (ls : Array Slot) (H : Heap) (locs : List Loc), lv_has ls 7 [(0, .ref (ad 7)), (3, .int v3), (5, .int v5)] → va_P (dC, dI) vwCl (wRnd ad cI cJ cZ co fo ro po pn rd st tw od rn x y u sn) H → va_D A (wRnd ad cI cJ cZ co fo ro po pn rd st tw od rn x y u sn) → va_S A s.heap H locs → W p l e rm_X1_enclosing s m args below meth c H locs 0 0 Q (F0 m 90 ls [])) hw (fun hw ls H locs hl hP hD hS => ?_) (fun hw hj0 => ?_)
            · refine lv_iload hx hb dX1_enclosing_90 (lv_at hl 2 rfl) ?_
              refine lv_istore (lv' := [(4, .int v5), (0, .ref (ad 7)), (3, .int v3), (5, .int v5)]) hx hb dX1_enclosing_92 hl (by decide) rfl (fun ls hl => ?_)
              exact hj7 v5 hw ls _ _ (lv_sub hl [1, 2, 0, 3] rfl) hP hD hS
            · have hj9 := hj0
              refine lv_icmp_eq (tgt := 90) hx hb dX1_enclosing_69 (by decide) (fun hc => ?_) (fun hc => ?_)
              · have hw := hw.1 (hc)
                exact hj9 hw ls _ _ (lv_sub hl [1, 2, 4] rfl) hP hD hS
              · have hw := hw.2 hc
                refine lv_aload_n hx hb dX1_enclosing_72 rfl (lv_at hl 1 rfl) ?_
                refine va_get (D := (dC, dI)) (ci := 1) (v := .ref (ad 14)) (C := RX1) (T := TX1) (N := 11) hx hb hts f_X1_enclosing_1 hown hK hP 0 rfl rfl 8 (by decide) (hts _ f_X1_enclosing_3) (fun _ h9 => h9) rfl dX1_enclosing_73 ?_
                refine lv_iload hx hb dX1_enclosing_76 (lv_at hl 4 rfl) ?_
                have hi := hw.1
                have hw := hw.2
                refine va_lald hx hb hK hP 7 1 rfl rfl hi dX1_enclosing_78 ?_
                refine lv_aload_n hx hb dX1_enclosing_79 rfl (lv_at hl 1 rfl) ?_
                refine va_get (D := (dC, dI)) (ci := 1) (v := .ref (ad 14)) (C := RX1) (T := TX1) (N := 11) hx hb hts f_X1_enclosing_1 hown hK hP 0 rfl rfl 8 (by decide) (hts _ f_X1_enclosing_3) (fun _ h9 => h9) rfl dX1_enclosing_80 ?_
                refine lv_iload hx hb dX1_enclosing_83 (lv_at hl 3 rfl) ?_
                have hi := hw.1
                have hw := hw.2
                refine va_lald hx hb hK hP 7 1 rfl rfl hi dX1_enclosing_85 ?_
                refine W.lcmp hx hb dX1_enclosing_86 ?_
                refine lv_if_ge (tgt := 94) hx hb dX1_enclosing_87 (by decide) (fun hc => ?_) (fun hc => ?_)
                · have hw := hw.1 ((lg_cmp_ge _ _).mp hc)
                  exact hj7 v4 hw ls _ _ (lv_sub hl [1, 2, 3, 4] rfl) hP hD hS
                · have hw := hw.2 (fun h9 => hc ((lg_cmp_ge _ _).mpr h9))
                  exact hj9 hw ls _ _ (lv_sub hl [1, 2, 4] rfl) hP hD hS
      · have hj4 := hj0
        refine jn0_use (J := ∀ (ls : Array Slot) (H : Heap) (locs : List Loc), lv_has ls 7 [(0, .ref (ad 7)), (3, .int v3), (4, .int v4), (5, .int v5)] → va_P (dC, dI) vwCl (wRnd ad cI cJ cZ co fo ro po pn rd st tw od rn x y u sn) H → va_D A (wRnd ad cI cJ cZ co fo ro po pn rd st tw od rn x y u sn) → va_S A s.heap H locs → W p l e rm_X1_enclosing s m args below meth c H locs 0 0 Q (F0 m 58 ls [])) hw (fun hw ls H locs hl hP hD hS => ?_) (fun hw hj0 => ?_)
        · refine lv_iconst (v := 0) hx hb dX1_enclosing_58 (by decide) ?_
          exact hj4 (0 : Int32) hw ls _ _ (lv_sub hl [0, 1, 2, 3] rfl) hP hD hS
        · have hj11 := hj0
          refine lv_icmp_ne (tgt := 58) hx hb dX1_enclosing_29 (by decide) (fun hc => ?_) (fun hc => ?_)
          · have hw := hw.2 hc
            exact hj11 hw ls _ _ (lv_sub hl [0, 1, 2, 3] rfl) hP hD hS
          · have hw := hw.1 (hc)
            refine lv_aload_n hx hb dX1_enclosing_32 rfl (lv_at hl 0 rfl) ?_
            refine va_get (D := (dC, dI)) (ci := 1) (v := .ref (ad 14)) (C := RX1) (T := TX1) (N := 11) hx hb hts f_X1_enclosing_1 hown hK hP 0 rfl rfl 8 (by decide) (hts _ f_X1_enclosing_3) (fun _ h9 => h9) rfl dX1_enclosing_33 ?_
            refine lv_iload hx hb dX1_enclosing_36 (lv_at hl 3 rfl) ?_
            have hi := hw.1
            have hw := hw.2
            refine va_lald hx hb hK hP 7 1 rfl rfl hi dX1_enclosing_38 ?_
            refine lv_lconst (v := 0) hx hb dX1_enclosing_39 (by decide) ?_
            refine W.lcmp hx hb dX1_enclosing_40 ?_
            refine lv_if_le (tgt := 58) hx hb dX1_enclosing_41 (by decide) (fun hc => ?_) (fun hc => ?_)
            · have hw := hw.1 ((lg_cmp_le _ _).mp hc)
              exact hj11 hw ls _ _ (lv_sub hl [0, 1, 2, 3] rfl) hP hD hS
            · have hw := hw.2 (fun h9 => hc ((lg_cmp_le _ _).mpr h9))
              refine lv_aload_n hx hb dX1_enclosing_44 rfl (lv_at hl 0 rfl) ?_
              refine lv_iload hx hb dX1_enclosing_45 (lv_at hl 3 rfl) ?_
              refine vp_callSi (W.runV (As := [.int v5]) (rest := []) C (c_X1_pieceOfRound l dC dI cI cJ cZ ad co fo ro po pn rd st tw od rn x y u sn v5 hw) (cwV 1 hts gX1_enclosing_X1_pieceOfRound rfl rfl rfl (by decide +kernel) ⟨Nat.le_of_ble_eq_true rfl, Nat.le_of_ble_eq_true rfl⟩) ⟨fb_ro, va_recv hK hP (ci := 1) (q0 := 0) rfl rfl, fun U hU hW => ⟨rfl, by rw [hU]; exact hP, va_K.moved hW.alike hK⟩⟩ rfl rfl hl.1 rfl (lv_room (Nat.le_of_ble_eq_true rfl)) dX1_enclosing_47 ⟨Nat.zero_le _, Nat.zero_le _⟩) (fun r12 hw => ?_)
              refine lv_iload_n hx hb dX1_enclosing_50 rfl (lv_at hl 1 rfl) ?_
              refine lv_icmp_eq (tgt := 58) hx hb dX1_enclosing_51 (by decide) (fun hc => ?_) (fun hc => ?_)
              · have hw := hw.1 (hc)
                exact hj11 hw ls _ _ (lv_sub hl [0, 1, 2, 3] rfl) hP hD hS
              · have hw := hw.2 hc
                refine lv_iconst (v := 1) hx hb dX1_enclosing_54 (by decide) ?_
                refine lv_goto (tgt := 59) hx hb dX1_enclosing_55 (by decide) ?_
                exact hj4 (1 : Int32) hw ls _ _ (lv_sub hl [0, 1, 2, 3] rfl) hP hD hS
set_option maxRecDepth 100000 in
set_option maxHeartbeats 4000000 in
theorem c_X1_enclosing (l : Launch) (dC : Nat → ClassId) (dI : Nat → Nat → Nat) (cI cJ cZ : ClassId) (ad : Nat → Nat) (sz : Nat) (co : Nat → Int32) (fo : Nat → Int32) (ro : Nat → Int32) (po : Nat → Int32) (pn : Int32) (rd : Nat → Int32) (st : Nat → Int32) (tw : Nat → Int64) (od : Nat → Int32) (rn : Int32) (x : Nat → Int32) (y : Nat → Int32) (u : Nat → Int32) (sn : Int32) (v1 : Int32) (v2 : Int32) (v3 : Int32) {post : Int32 → (Nat → Int32) → Prop} (hw : wp_X1_enclosing po rd st tw od rn x y u v1 v2 v3 post) : Met l yX1_enclosing wsX1_enclosing rm_X1_enclosing (va_Pc [.ref (ad 7), .int v1, .int v2, .int v3] (fun U => U.heap.size = sz ∧ va_P (dC, dI) vwCl (wRnd ad cI cJ cZ co fo ro po pn rd st tw od rn x y u sn) U.heap ∧ va_K (dC, dI) vwCl (tyL cI cJ cZ) U ∧ va_D (fun _ => True) (wRnd ad cI cJ cZ co fo ro po pn rd st tw od rn x y u sn))) (va_Qi (fun (r : Int32) (uu : (Nat → Int32)) => post r uu) (fun (uu : (Nat → Int32)) (t : State) => va_P (dC, dI) vwCl (wRnd ad cI cJ cZ co fo ro po pn rd st tw uu rn x y u sn) t.heap ∧ va_D (va_A (wRnd ad cI cJ cZ co fo ro po pn rd st tw od rn x y u sn) sz) (wRnd ad cI cJ cZ co fo ro po pn rd st tw uu rn x y u sn)) (va_A (wRnd ad cI cJ cZ co fo ro po pn rd st tw od rn x y u sn) sz)) 0 0 (va_A (wRnd ad cI cJ cZ co fo ro po pn rd st tw od rn x y u sn) sz) := by
  unfold wp_X1_enclosing at hw
  refine Met.ofW (cc := cX1_enclosing) (maxL := 7) (ret := (some .int)) (by decide) rfl ?_
  intro p e s m args below meth c s₁ B hml hv
  obtain ⟨hav, hsz, hP, hK, hD0⟩ := hv
  have hx := B.exec
  have hb := B.bytes
  have hr := B.returns
  have hts := atoms_spec (ws := wsX1_enclosing) B.pre
  have hown : s.vm.findClass RX1 = some m.cls := findClass_of_methodNamed B.named
  have hlocks := B.notSynchronized
  have C : CallFix p m c cX1_enclosing 7 s args wsX1_enclosing RX1 := ⟨hx, hb, hml, hown, hts⟩
  obtain ⟨ls, hE, hl⟩ := mx_entry (m := m) [.ref (ad 7), .int v1, .int v2, .int v3] (n := 7) (Nat.le_of_ble_eq_true rfl)
  have hl : lv_has ls 7 [(0, .ref (ad 7)), (1, .int v1), (2, .int v2), (3, .int v3)] := hl
  rw [show entryFrame m args 7 = F0 m 0 ls [] by rw [hav]; exact hE]
  subst hsz
  have hD := hD0.self (sz := s.heap.size)
  generalize hAe : va_A (wRnd ad cI cJ cZ co fo ro po pn rd st tw od rn x y u sn) s.heap.size = A at hD ⊢
  have hA : ∀ q : Nat, s.heap.size ≤ q → A q := fun q h => by rw [← hAe]; exact Or.inr h
  have hS : va_S A s.heap s.heap [] := va_S.rf
  obtain ⟨Q, hQ⟩ : ∃ Q, MQ below (va_Qi (fun (r : Int32) (uu : (Nat → Int32)) => post r uu) (fun (uu : (Nat → Int32)) (t : State) => va_P (dC, dI) vwCl (wRnd ad cI cJ cZ co fo ro po pn rd st tw uu rn x y u sn) t.heap ∧ va_D A (wRnd ad cI cJ cZ co fo ro po pn rd st tw uu rn x y u sn)) A) args s 0 0 A = Q := ⟨_, rfl⟩
  rw [hQ]
  obtain ⟨H, hH⟩ : ∃ H, s.heap = H := ⟨_, rfl⟩
  have hS : va_S A s.heap H [] := by rw [← hH]; exact hS
  rw [hH] at hP
  show W p l e rm_X1_enclosing s m args below meth c s.heap [] 0 0 Q (F0 m 0 ls [])
  suffices hg : W p l e rm_X1_enclosing s m args below meth c H [] 0 0 Q (F0 m 0 ls []) by rw [hH]; exact hg
  clear hH
  generalize hlo : ([] : List Loc) = locs at hS ⊢
  refine lv_aload_n hx hb dX1_enclosing_0 rfl (lv_at hl 0 rfl) ?_
  refine lv_iload_n hx hb dX1_enclosing_1 rfl (lv_at hl 1 rfl) ?_
  refine lv_iload_n hx hb dX1_enclosing_2 rfl (lv_at hl 2 rfl) ?_
  have hPc := hP.sub (ws' := (wRnd ad cI cJ cZ co fo ro po pn rd st tw od rn x y u sn)) [0, 1, 2, 3, 4, 5, 6, 7, 8, 9, 10, 11, 12] rfl
  have hDc := hD.sub (ws' := (wRnd ad cI cJ cZ co fo ro po pn rd st tw od rn x y u sn)) [0, 1, 2, 3, 4, 5, 6, 7, 8, 9, 10, 11, 12] (by decide) rfl
  have hFc := va_free (wc := (wRnd ad cI cJ cZ co fo ro po pn rd st tw od rn x y u sn)) hD hS hA [0, 1, 2, 3, 4, 5, 6, 7, 8, 9, 10, 11, 12] rfl
  refine va_callv (va_runV (As := [.int v1, .int v2]) (rest := []) C (c_X1_markOddRounds l dC dI cI cJ cZ ad _ co fo ro po pn rd st tw od rn x y u sn v1 v2 hw) (cwV 2 hts gX1_enclosing_X1_markOddRounds rfl rfl rfl (by decide +kernel) ⟨Nat.le_of_ble_eq_true rfl, Nat.le_of_ble_eq_true rfl⟩) ⟨fb_rw, va_recv hK hPc (ci := 1) (q0 := 0) rfl rfl, fun U hU hW => ⟨rfl, by rw [hU], by rw [hU]; exact hPc, va_K.moved hW.alike hK, hDc.weaken (fun _ _ _ _ => trivial)⟩⟩ rfl rfl hl.1 rfl (lv_room (Nat.le_of_ble_eq_true rfl)) dX1_enclosing_3 ⟨Nat.zero_le _, Nat.zero_le _⟩) hS (fun q _ h => hFc q h) hFc (fun uu t H1 locs ht hvm hw hB hz1 hk1 hS => ?_)
  obtain ⟨od_1, rfl⟩ : ∃ z, z = uu := ⟨_, rfl⟩
  obtain ⟨hP1, hD1⟩ := hB
  rw [ht] at hP1
  try dsimp only at hw hP1 hD1
  obtain ⟨hP, hD⟩ := va_join (wr := []) (w1 := (wRnd ad cI cJ cZ co fo ro po pn rd st tw od_1 rn x y u sn)) hP hD [0, 1, 2, 3, 4, 5, 6, 7, 8, 9, 10, 11, 12] [] rfl rfl (by decide) (by decide) hk1 hFc hP1 hD1
  generalize H1 = H at hP hS ⊢
  have hP : va_P (dC, dI) vwCl (wRnd ad cI cJ cZ co fo ro po pn rd st tw od_1 rn x y u sn) H := hP
  have hD : va_D A (wRnd ad cI cJ cZ co fo ro po pn rd st tw od_1 rn x y u sn) := hD
  refine lv_iconst (v := -1) hx hb dX1_enclosing_6 (by decide) ?_
  refine lv_istore (lv' := [(4, .int (-1 : Int32)), (0, .ref (ad 7)), (1, .int v1), (2, .int v2), (3, .int v3)]) hx hb dX1_enclosing_7 hl (by decide) rfl (fun ls hl => ?_)
  refine lv_iconst (v := 0) hx hb dX1_enclosing_9 (by decide) ?_
  refine lv_istore (lv' := [(5, .int (0 : Int32)), (4, .int (-1 : Int32)), (0, .ref (ad 7)), (1, .int v1), (2, .int v2), (3, .int v3)]) hx hb dX1_enclosing_10 hl (by decide) rfl (fun ls hl => ?_)
  obtain ⟨n14, hw⟩ := hw
  refine l_X1_enclosing_12 C hK hA (fun w13 ls H locs hl hP hD hS hw => ?_) n14 (-1 : Int32) (0 : Int32) ls _ _ (lv_sub hl [2, 5, 1, 0] rfl) hP hD hS hw
  refine lv_iload hx hb dX1_enclosing_100 (lv_at hl 1 rfl) ?_
  rw [← hQ]
  exact W.iret (v := w13) hx hb hr (fun t ht hW => ⟨⟨_, od_1, rfl, hw, by rw [ht]; exact hP, hD⟩, hS.F ht⟩) hS.2.2 dX1_enclosing_102
