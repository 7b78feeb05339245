-- X0_faceWithin
abbrev rm_X0_faceWithin : Room := { frames := 0, cells := 0, slots := 0, locals := 0 }
theorem f_X0_faceWithin_0 : (Cond.fieldLink RX0 27 "PlaneFaces$Faces" "number" "[I") ∈ wsX0_faceWithin := by decide +kernel
theorem f_X0_faceWithin_1 : ∀ w ∈ wsX00, w ∈ wsX0_faceWithin := by decide +kernel
set_option maxRecDepth 100000 in
set_option maxHeartbeats 4000000 in
theorem c_X0_faceWithin (l : Launch) (dC : Nat → ClassId) (dI : Nat → Nat → Nat) (cI cJ cZ : ClassId) (ad : Nat → Nat) (ho : Nat → Int32) (nu : Nat → Int32) (fa : Nat → Int32) (ou : Nat → Int32) (sp : Nat → Int32) (fn : Int32) (co : Nat → Int32) (fo : Nat → Int32) (ro : Nat → Int32) (po : Nat → Int32) (pn : Int32) (rd : Nat → Int32) (st : Nat → Int32) (tw : Nat → Int64) (od : Nat → Int32) (rn : Int32) (x : Nat → Int32) (y : Nat → Int32) (u : Nat → Int32) (sn : Int32) (v1 : Int32) {post : Int32 → Prop} (hw : wp_X0_faceWithin nu v1 post) : Met l yX0_faceWithin wsX0_faceWithin rm_X0_faceWithin (va_Pc [.ref (ad 1), .int v1] (fun U => va_P (dC, dI) vwCl (wFac ad cI cJ cZ ho nu fa ou sp fn co fo ro po pn rd st tw od rn x y u sn) U.heap ∧ va_K (dC, dI) vwCl (tyL cI cJ cZ) U)) (vp_Si post) 0 0 (fun _ => False) := by
  unfold wp_X0_faceWithin at hw
  refine Met.ofW (cc := cX0_faceWithin) (maxL := 2) (ret := (some .int)) (by decide) rfl ?_
  intro p e s m args below meth c s₁ B hml hv
  obtain ⟨hav, hP, hK⟩ := hv
  have hx := B.exec
  have hb := B.bytes
  have hr := B.returns
  have hts := atoms_spec (ws := wsX0_faceWithin) B.pre
  have hown : s.vm.findClass RX0 = some m.cls := findClass_of_methodNamed B.named
  have hlocks := B.notSynchronized
  have C : CallFix p m c cX0_faceWithin 2 s args wsX0_faceWithin RX0 := ⟨hx, hb, hml, hown, hts⟩
  obtain ⟨ls, hE, hl⟩ := mx_entry (m := m) [.ref (ad 1), .int v1] (n := 2) (Nat.le_of_ble_eq_true rfl)
  have hl : lv_has ls 2 [(0, .ref (ad 1)), (1, .int v1)] := hl
  rw [show entryFrame m args 2 = F0 m 0 ls [] by rw [hav]; exact hE]
  obtain ⟨Q, hQ⟩ : ∃ Q, MQ below (vp_Si post) args s 0 0 (fun _ => False) = Q := ⟨_, rfl⟩
  rw [hQ]
  obtain ⟨H, hH⟩ : ∃ H, s.heap = H := ⟨_, rfl⟩
  rw [hH]
  rw [hH] at hP
  show W p l e rm_X0_faceWithin s m args below meth c H [] 0 0 Q (F0 m 0 ls [])
  refine lv_iload_n hx hb dX0_faceWithin_0 rfl (lv_at hl 1 rfl) ?_
  refine lv_iconst (v := -1) hx hb dX0_faceWithin_1 (by decide) ?_
  refine jn1_use (J := fun (k1 : Int32) => ∀ ls : Array Slot, lv_has ls 2 [(0, .ref (ad 1))] → W p l e rm_X0_faceWithin s m args below meth c H [] 0 0 Q (F0 m 15 ls [.int k1])) hw (fun k1 hw ls hl => ?_) (fun hw hj0 => ?_)
  · rw [← hQ]
    exact W.iret (v := k1) hx hb hr (fun t ht hW => ⟨_, rfl, hw, ht.trans hH.symm⟩) (fun q h => by cases h) dX0_faceWithin_15
  · have hj3 := hj0
    refine lv_icmp_ne (tgt := 9) hx hb dX0_faceWithin_2 (by decide) (fun hc => ?_) (fun hc => ?_)
    · have hw := hw.2 hc
      refine lv_aload_n hx hb dX0_faceWithin_9 rfl (lv_at hl 0 rfl) ?_
      refine va_get (D := (dC, dI)) (ci := 0) (v := .ref (ad 3)) (C := RX0) (T := TX0) (N := 8) hx hb hts f_X0_faceWithin_1 hown hK hP 0 rfl rfl 3 (by decide) (hts _ f_X0_faceWithin_0) (fun _ h9 => h9) rfl dX0_faceWithin_10 ?_
      refine lv_iload_n hx hb dX0_faceWithin_13 rfl (lv_at hl 1 rfl) ?_
      have hi := hw.1
      have hw := hw.2
      refine va_iald hx hb hK hP 2 0 rfl rfl hi dX0_faceWithin_14 ?_
      exact hj3 (nu v1.toNatClampNeg) hw ls (lv_sub hl [0] rfl)
    · have hw := hw.1 (hc)
      refine lv_iconst (v := 0) hx hb dX0_faceWithin_5 (by decide) ?_
      refine lv_goto (tgt := 15) hx hb dX0_faceWithin_6 (by decide) ?_
      exact hj3 (0 : Int32) hw ls (lv_sub hl [0] rfl)
-- X0_findHomes
abbrev rm_X0_findHomes : Room := { frames := 4, cells := 0, slots := 0, locals := 100 }
theorem f_X0_findHomes_0 : (Cond.fieldLink RX0 12 "PlaneFaces$Faces" "rounds" "LPlaneFaces$Rounds;") ∈ wsX0_findHomes := by decide +kernel
theorem f_X0_findHomes_1 : ∀ w ∈ wsX00, w ∈ wsX0_findHomes := by decide +kernel
theorem f_X0_findHomes_2 : (Cond.fieldLink RX0 43 "PlaneFaces$Rounds" "size" "I") ∈ wsX0_findHomes := by decide +kernel
theorem f_X0_findHomes_3 : ∀ w ∈ wsX10, w ∈ wsX0_findHomes := by decide +kernel
theorem f_X0_findHomes_4 : (Cond.fieldLink RX0 44 "PlaneFaces$Rounds" "start" "[I") ∈ wsX0_findHomes := by decide +kernel
theorem f_X0_findHomes_5 : (Cond.fieldLink RX0 23 "PlaneFaces$Faces" "home" "[I") ∈ wsX0_findHomes := by decide +kernel
theorem f_X0_findHomes_6 : (Cond.fieldLink RX0 47 "PlaneFaces$Rounds" "twice" "[J") ∈ wsX0_findHomes := by decide +kernel
theorem f_X0_findHomes_7 : (Cond.fieldLink RX0 22 "PlaneFaces$Faces" "segments" "LPlaneFaces$Segments;") ∈ wsX0_findHomes := by decide +kernel
theorem f_X0_findHomes_8 : (Cond.fieldLink RX0 51 "PlaneFaces$Segments" "x" "[I") ∈ wsX0_findHomes := by decide +kernel
theorem f_X0_findHomes_9 : ∀ w ∈ wsX20, w ∈ wsX0_findHomes := by decide +kernel
theorem f_X0_findHomes_10 : (Cond.fieldLink RX0 56 "PlaneFaces$Segments" "y" "[I") ∈ wsX0_findHomes := by decide +kernel
set_option maxRecDepth 100000 in
set_option maxHeartbeats 4000000 in
theorem l_X0_findHomes_2 {p : Program} {l : Launch} {e : Env} {s : State} {m : MethodId} {args : Array Value} {below : List Frame} {meth : Method} {c : Code} {Q : State → Prop} {dC : Nat → ClassId} {dI : Nat → Nat → Nat} {cI cJ cZ : ClassId} {ad : Nat → Nat} {nu : Nat → Int32} {fa : Nat → Int32} {ou : Nat → Int32} {sp : Nat → Int32} {fn : Int32} {co : Nat → Int32} {fo : Nat → Int32} {ro : Nat → Int32} {po : Nat → Int32} {pn : Int32} {rd : Nat → Int32} {st : Nat → Int32} {tw : Nat → Int64} {rn : Int32} {x : Nat → Int32} {y : Nat → Int32} {u : Nat → Int32} {sn : Int32}  {K86 : (Nat → Int32) → (Nat → Int32) → Prop} (C : CallFix p m c cX0_findHomes 3 s args wsX0_findHomes RX0) (hK : va_K (dC, dI) vwCl (tyL cI cJ cZ) s) {A : Nat → Prop} (hA : ∀ q : Nat, s.heap.size ≤ q → A q) (hk86 : ∀ (ho_w : Nat → Int32) (od_w : Nat → Int32) (ls : Array Slot) (H : Heap) (locs : List Loc), lv_has ls 3 [(0, .ref (ad 1))] → va_P (dC, dI) vwCl (wFac ad cI cJ cZ ho_w nu fa ou sp fn co fo ro po pn rd st tw od_w rn x y u sn) H → va_D A (wFac ad cI cJ cZ ho_w nu fa ou sp fn co fo ro po pn rd st tw od_w rn x y u sn) → va_S A s.heap H locs → K86 ho_w od_w → W p l e rm_X0_findHomes s m args below meth c H locs 0 0 Q (F0 m 86 ls [])) : ∀ (n : Nat) (ho : Nat → Int32) (od : Nat → Int32) (v1 : Int32) (ls : Array Slot) (H : Heap) (locs : List Loc), lv_has ls 3 [(0, .ref (ad 1)), (1, .int v1)] → va_P (dC, dI) vwCl (wFac ad cI cJ cZ ho nu fa ou sp fn co fo ro po pn rd st tw od rn x y u sn) H → va_D A (wFac ad cI cJ cZ ho nu fa ou sp fn co fo ro po pn rd st tw od rn x y u sn) → va_S A s.heap H locs → lp_X0_findHomes_2 po rd st tw rn x y u K86 n ho od v1 → W p l e rm_X0_findHomes s m args below meth c H locs 0 0 Q (F0 m 2 ls []) := by
  obtain ⟨hx, hb, hml, hown, hts⟩ := id C
  intro n
  induction n with
  | zero =>
    intro ho od v1 ls H locs hl hP hD hS hw
    rw [lp_X0_findHomes_2.eq_1] at hw
    exact hw.elim
  | succ n ih =>
    intro ho od v1 ls H locs hl hP hD hS hw
    rw [lp_X0_findHomes_2.eq_2] at hw
    refine lv_iload_n hx hb dX0_findHomes_2 rfl (lv_at hl 1 rfl) ?_
    refine lv_aload_n hx hb dX0_findHomes_3 rfl (lv_at hl 0 rfl) ?_
    refine va_get (D := (dC, dI)) (ci := 0) (v := .ref (ad 7)) (C := RX0) (T := TX0) (N := 8) hx hb hts f_X0_findHomes_1 hown hK hP 0 rfl rfl 0 (by decide) (hts _ f_X0_findHomes_0) (fun _ h9 => h9) rfl dX0_findHomes_4 ?_
    refine va_get (D := (dC, dI)) (ci := 1) (v := .int rn) (C := RX1) (T := TX1) (N := 11) hx hb hts f_X0_findHomes_3 hown hK hP 6 rfl rfl 10 (by decide) (hts _ f_X0_findHomes_2) (fun _ h9 => h9) rfl dX0_findHomes_7 ?_
    refine lv_icmp_ge (tgt := 86) hx hb dX0_findHomes_10 (by decide) (fun hc => ?_) (fun hc => ?_)
    · have hw := hw.1 (hc)
      exact hk86 ho od ls _ _ (lv_sub hl [0] rfl) hP hD hS hw
    · have hw := hw.2 hc
      refine lv_aload_n hx hb dX0_findHomes_13 rfl (lv_at hl 0 rfl) ?_
      refine va_get (D := (dC, dI)) (ci := 0) (v := .ref (ad 7)) (C := RX0) (T := TX0) (N := 8) hx hb hts f_X0_findHomes_1 hown hK hP 0 rfl rfl 0 (by decide) (hts _ f_X0_findHomes_0) (fun _ h9 => h9) rfl dX0_findHomes_14 ?_
      refine va_get (D := (dC, dI)) (ci := 1) (v := .ref (ad 13)) (C := RX1) (T := TX1) (N := 11) hx hb hts f_X0_findHomes_3 hown hK hP 6 rfl rfl 7 (by decide) (hts _ f_X0_findHomes_4) (fun _ h9 => h9) rfl dX0_findHomes_17 ?_
      refine lv_iload_n hx hb dX0_findHomes_20 rfl (lv_at hl 1 rfl) ?_
      have hi := hw.1
      have hw := hw.2
      refine va_iald hx hb hK hP 12 0 rfl rfl hi dX0_findHomes_21 ?_
      refine lv_topi (fun a1 ea1 => ?_)
      have hw := hw a1 ea1
      refine lv_istore_n (lv' := [(2, .int a1), (0, .ref (ad 1)), (1, .int v1)]) hx hb dX0_findHomes_22 rfl hl (by decide) rfl (fun ls hl => ?_)
      refine lv_aload_n hx hb dX0_findHomes_23 rfl (lv_at hl 1 rfl) ?_
      refine va_get (D := (dC, dI)) (ci := 0) (v := .ref (ad 2)) (C := RX0) (T := TX0) (N := 8) hx hb hts f_X0_findHomes_1 hown hK hP 0 rfl rfl 2 (by decide) (hts _ f_X0_findHomes_5) (fun _ h9 => h9) rfl dX0_findHomes_24 ?_
      refine lv_iload_n hx hb dX0_findHomes_27 rfl (lv_at hl 2 rfl) ?_
      refine lv_aload_n hx hb dX0_findHomes_28 rfl (lv_at hl 1 rfl) ?_
      refine va_get (D := (dC, dI)) (ci := 0) (v := .ref (ad 7)) (C := RX0) (T := TX0) (N := 8) hx hb hts f_X0_findHomes_1 hown hK hP 0 rfl rfl 0 (by decide) (hts _ f_X0_findHomes_0) (fun _ h9 => h9) rfl dX0_findHomes_29 ?_
      refine va_get (D := (dC, dI)) (ci := 1) (v := .ref (ad 14)) (C := RX1) (T := TX1) (N := 11) hx hb hts f_X0_findHomes_3 hown hK hP 6 rfl rfl 8 (by decide) (hts _ f_X0_findHomes_6) (fun _ h9 => h9) rfl dX0_findHomes_32 ?_
      refine lv_iload_n hx hb dX0_findHomes_35 rfl (lv_at hl 2 rfl) ?_
      have hi := hw.1
      have hw := hw.2
      refine va_lald hx hb hK hP 13 1 rfl rfl hi dX0_findHomes_36 ?_
      refine lv_lconst (v := 0) hx hb dX0_findHomes_37 (by decide) ?_
      refine W.lcmp hx hb dX0_findHomes_38 ?_
      refine jn3_use (J := fun (k2 : Int32) (k3 : Int32) (od_4 : Nat → Int32) => ∀ (ls : Array Slot) (H : Heap) (locs : List Loc), lv_has ls 3 [(0, .ref (ad 1)), (1, .int v1)] → va_P (dC, dI) vwCl (wFac ad cI cJ cZ ho nu fa ou sp fn co fo ro po pn rd st tw od_4 rn x y u sn) H → va_D A (wFac ad cI cJ cZ ho nu fa ou sp fn co fo ro po pn rd st tw od_4 rn x y u sn) → va_S A s.heap H locs → W p l e rm_X0_findHomes s m args below meth c H locs 0 0 Q (F0 m 79 ls [.int k2, .int k3, .ref (ad 2)])) hw (fun k2 k3 od_4 hw ls H locs hl hP hD hS => ?_) (fun hw hj0 => ?_)
      · have hi := hw.1
        have hw := hw.2 _ rfl
        refine va_iast hx hb hK hP hD hS 1 0 rfl rfl hi dX0_findHomes_79 (fun H locs hP hD hS => ?_)
        generalize hho_7 : (upd ho k3.toNatClampNeg k2) = ho_7 at hw hP hD
        have hP : va_P (dC, dI) vwCl (wFac ad cI cJ cZ ho_7 nu fa ou sp fn co fo ro po pn rd st tw od_4 rn x y u sn) H := hP
        have hD : va_D A (wFac ad cI cJ cZ ho_7 nu fa ou sp fn co fo ro po pn rd st tw od_4 rn x y u sn) := hD
        refine lv_iinc (v := (v1 + (1 : Int32))) (lv' := [(1, .int (v1 + (1 : Int32))), (0, .ref (ad 1))]) hx hb dX0_findHomes_80 hl (k := 1) rfl rfl (by decide) rfl (fun ls hl => ?_)
        refine lv_goto (tgt := 2) hx hb dX0_findHomes_83 (by decide) ?_
        exact ih ho_7 od_4 (v1 + (1 : Int32)) ls _ _ (lv_sub hl [1, 0] rfl) hP hD hS hw
      · have hj6 := hj0
        refine lv_if_le (tgt := 46) hx hb dX0_findHomes_39 (by decide) (fun hc => ?_) (fun hc => ?_)
        · have hw := hw.1 ((lg_cmp_le _ _).mp hc)
          refine lv_aload_n hx hb dX0_findHomes_46 rfl (lv_at hl 1 rfl) ?_
          refine va_get (D := (dC, dI)) (ci := 0) (v := .ref (ad 7)) (C := RX0) (T := TX0) (N := 8) hx hb hts f_X0_findHomes_1 hown hK hP 0 rfl rfl 0 (by decide) (hts _ f_X0_findHomes_0) (fun _ h9 => h9) rfl dX0_findHomes_47 ?_
          refine lv_aload_n hx hb dX0_findHomes_50 rfl (lv_at hl 1 rfl) ?_
          refine va_get (D := (dC, dI)) (ci := 0) (v := .ref (ad 16)) (C := RX0) (T := TX0) (N := 8) hx hb hts f_X0_findHomes_1 hown hK hP 0 rfl rfl 1 (by decide) (hts _ f_X0_findHomes_7) (fun _ h9 => h9) rfl dX0_findHomes_51 ?_
          refine va_get (D := (dC, dI)) (ci := 2) (v := .ref (ad 17)) (C := RX2) (T := TX2) (N := 4) hx hb hts f_X0_findHomes_9 hown hK hP 15 rfl rfl 0 (by decide) (hts _ f_X0_findHomes_8) (fun _ h9 => h9) rfl dX0_findHomes_54 ?_
          refine lv_iload_n hx hb dX0_findHomes_57 rfl (lv_at hl 0 rfl) ?_
          have hi := hw.1
          have hw := hw.2
          refine va_iald hx hb hK hP 16 0 rfl rfl hi dX0_findHomes_58 ?_
          refine lv_aload_n hx hb dX0_findHomes_59 rfl (lv_at hl 1 rfl) ?_
          refine va_get (D := (dC, dI)) (ci := 0) (v := .ref (ad 16)) (C := RX0) (T := TX0) (N := 8) hx hb hts f_X0_findHomes_1 hown hK hP 0 rfl rfl 1 (by decide) (hts _ f_X0_findHomes_7) (fun _ h9 => h9) rfl dX0_findHomes_60 ?_
          refine va_get (D := (dC, dI)) (ci := 2) (v := .ref (ad 18)) (C := RX2) (T := TX2) (N := 4) hx hb hts f_X0_findHomes_9 hown hK hP 15 rfl rfl 1 (by decide) (hts _ f_X0_findHomes_10) (fun _ h9 => h9) rfl dX0_findHomes_63 ?_
          refine lv_iload_n hx hb dX0_findHomes_66 rfl (lv_at hl 0 rfl) ?_
          have hi := hw.1
          have hw := hw.2
          refine va_iald hx hb hK hP 17 0 rfl rfl hi dX0_findHomes_67 ?_
          refine lv_aload_n hx hb dX0_findHomes_68 rfl (lv_at hl 1 rfl) ?_
          refine va_get (D := (dC, dI)) (ci := 0) (v := .ref (ad 7)) (C := RX0) (T := TX0) (N := 8) hx hb hts f_X0_findHomes_1 hown hK hP 0 rfl rfl 0 (by decide) (hts _ f_X0_findHomes_0) (fun _ h9 => h9) rfl dX0_findHomes_69 ?_
          refine lv_iload_n hx hb dX0_findHomes_72 rfl (lv_at hl 2 rfl) ?_
          have hPc := hP.sub (ws' := (wRnd ad cI cJ cZ co fo ro po pn rd st tw od rn x y u sn)) [6, 7, 8, 9, 10, 11, 12, 13, 14, 15, 16, 17, 18] rfl
          refine vp_callSi (W.runV (As := [.int v1]) (rest := [.int (y a1.toNatClampNeg), .int (x a1.toNatClampNeg), .ref (ad 7), .int v1, .ref (ad 2)]) C (c_X1_pieceOfRound l dC dI cI cJ cZ ad co fo ro po pn rd st tw od rn x y u sn v1 hw) (cwV 1 hts gX0_findHomes_X1_pieceOfRound rfl rfl rfl (by decide +kernel) ⟨Nat.le_of_ble_eq_true rfl, Nat.le_of_ble_eq_true rfl⟩) ⟨fb_ro, va_recv hK hPc (ci := 1) (q0 := 0) rfl rfl, fun U hU hW => ⟨rfl, by rw [hU]; exact hPc, va_K.moved hW.alike hK⟩⟩ rfl rfl hl.1 rfl (lv_room (Nat.le_of_ble_eq_true rfl)) dX0_findHomes_73 ⟨Nat.zero_le _, Nat.zero_le _⟩) (fun r8 hw => ?_)
          have hPc := hP.sub (ws' := (wRnd ad cI cJ cZ co fo ro po pn rd st tw od rn x y u sn)) [6, 7, 8, 9, 10, 11, 12, 13, 14, 15, 16, 17, 18] rfl
          have hDc := hD.sub (ws' := (wRnd ad cI cJ cZ co fo ro po pn rd st tw od rn x y u sn)) [6, 7, 8, 9, 10, 11, 12, 13, 14, 15, 16, 17, 18] (by decide) rfl
          have hFc := va_free (wc := (wRnd ad cI cJ cZ co fo ro po pn rd st tw od rn x y u sn)) hD hS hA [6, 7, 8, 9, 10, 11, 12, 13, 14, 15, 16, 17, 18] rfl
          refine va_calli (va_runV (As := [.int (x a1.toNatClampNeg), .int (y a1.toNatClampNeg), .int r8]) (rest := [.int v1, .ref (ad 2)]) C (c_X1_enclosing l dC dI cI cJ cZ ad _ co fo ro po pn rd st tw od rn x y u sn (x a1.toNatClampNeg) (y a1.toNatClampNeg) r8 hw) (cwV 3 hts gX0_findHomes_X1_enclosing rfl rfl rfl (by decide +kernel) ⟨Nat.le_of_ble_eq_true rfl, Nat.le_of_ble_eq_true rfl⟩) ⟨fb_rw, va_recv hK hPc (ci := 1) (q0 := 0) rfl rfl, fun U hU hW => ⟨rfl, by rw [hU], by rw [hU]; exact hPc, va_K.moved hW.alike hK, hDc.weaken (fun _ _ _ _ => trivial)⟩⟩ rfl rfl hl.1 rfl (lv_room (Nat.le_of_ble_eq_true rfl)) dX0_findHomes_76 ⟨Nat.zero_le _, Nat.zero_le _⟩) hS (fun q _ h => hFc q h) hFc (fun r9 uu t H1 locs ht hvm hw hB hz1 hk1 hS => ?_)
          obtain ⟨od_10, rfl⟩ : ∃ z, z = uu := ⟨_, rfl⟩
          obtain ⟨hP1, hD1⟩ := hB
          rw [ht] at hP1
          try dsimp only at hw hP1 hD1
          obtain ⟨hP, hD⟩ := va_join (wr := [(ad 1, .inr (0, [.ref (ad 7), .ref (ad 16), .ref (ad 2), .ref (ad 3), .ref (ad 4), .ref (ad 5), .ref (ad 6), .int fn])), (ad 2, .inl (cI, 120, .inl ho)), (ad 3, .inl (cI, 120, .inl nu)), (ad 4, .inl (cI, 120, .inl fa)), (ad 5, .inl (cI, 60, .inl ou)), (ad 6, .inl (cI, 121, .inl sp))]) (w1 := (wRnd ad cI cJ cZ co fo ro po pn rd st tw od_10 rn x y u sn)) hP hD [6, 7, 8, 9, 10, 11, 12, 13, 14, 15, 16, 17, 18] [0, 1, 2, 3, 4, 5] rfl rfl (by decide) (by decide) hk1 hFc hP1 hD1
          generalize H1 = H at hP hS ⊢
          have hP : va_P (dC, dI) vwCl (wFac ad cI cJ cZ ho nu fa ou sp fn co fo ro po pn rd st tw od_10 rn x y u sn) H := hP
          have hD : va_D A (wFac ad cI cJ cZ ho nu fa ou sp fn co fo ro po pn rd st tw od_10 rn x y u sn) := hD
          exact hj6 r9 v1 od_10 hw ls _ _ (lv_sub hl [1, 2] rfl) hP hD hS
        · have hw := hw.2 (fun h9 => hc ((lg_cmp_le _ _).mpr h9))
          refine lv_iload_n hx hb dX0_findHomes_42 rfl (lv_at hl 2 rfl) ?_
          refine lv_goto (tgt := 79) hx hb dX0_findHomes_43 (by decide) ?_
          exact hj6 v1 v1 od hw ls _ _ (lv_sub hl [1, 2] rfl) hP hD hS
set_option maxRecDepth 100000 in
set_option maxHeartbeats 4000000 in
theorem c_X0_findHomes (l : Launch) (dC : Nat → ClassId) (dI : Nat → Nat → Nat) (cI cJ cZ : ClassId) (ad : Nat → Nat) (sz : Nat) (ho : Nat → Int32) (nu : Nat → Int32) (fa : Nat → Int32) (ou : Nat → Int32) (sp : Nat → Int32) (fn : Int32) (co : Nat → Int32) (fo : Nat → Int32) (ro : Nat → Int32) (po : Nat → Int32) (pn : Int32) (rd : Nat → Int32) (st : Nat → Int32) (tw : Nat → Int64) (od : Nat → Int32) (rn : Int32) (x : Nat → Int32) (y : Nat → Int32) (u : Nat → Int32) (sn : Int32)  {post : (Nat → Int32) → (Nat → Int32) → Prop} (hw : wp_X0_findHomes ho po rd st tw od rn x y u post) : Met l yX0_findHomes wsX0_findHomes rm_X0_findHomes (va_Pc [.ref (ad 1)] (fun U => U.heap.size = sz ∧ va_P (dC, dI) vwCl (wFac ad cI cJ cZ ho nu fa ou sp fn co fo ro po pn rd st tw od rn x y u sn) U.heap ∧ va_K (dC, dI) vwCl (tyL cI cJ cZ) U ∧ va_D (fun _ => True) (wFac ad cI cJ cZ ho nu fa ou sp fn co fo ro po pn rd st tw od rn x y u sn))) (va_Qv (fun uu : (Nat → Int32) × (Nat → Int32) => post uu.1 uu.2) (fun (uu : (Nat → Int32) × (Nat → Int32)) (t : State) => va_P (dC, dI) vwCl (wFac ad cI cJ cZ uu.1 nu fa ou sp fn co fo ro po pn rd st tw uu.2 rn x y u sn) t.heap ∧ va_D (va_A (wFac ad cI cJ cZ ho nu fa ou sp fn co fo ro po pn rd st tw od rn x y u sn) sz) (wFac ad cI cJ cZ uu.1 nu fa ou sp fn co fo ro po pn rd st tw uu.2 rn x y u sn)) (va_A (wFac ad cI cJ cZ ho nu fa ou sp fn co fo ro po pn rd st tw od rn x y u sn) sz)) 0 0 (va_A (wFac ad cI cJ cZ ho nu fa ou sp fn co fo ro po pn rd st tw od rn x y u sn) sz) := by
  unfold wp_X0_findHomes at hw
  refine Met.ofW (cc := cX0_findHomes) (maxL := 3) (ret := none) (by decide) rfl ?_
  intro p e s m args below meth c s₁ B hml hv
  obtain ⟨hav, hsz, hP, hK, hD0⟩ := hv
  have hx := B.exec
  have hb := B.bytes
  have hr := B.returns
  have hts := atoms_spec (ws := wsX0_findHomes) B.pre
  have hown : s.vm.findClass RX0 = some m.cls := findClass_of_methodNamed B.named
  have hlocks := B.notSynchronized
  have C : CallFix p m c cX0_findHomes 3 s args wsX0_findHomes RX0 := ⟨hx, hb, hml, hown, hts⟩
  obtain ⟨ls, hE, hl⟩ := mx_entry (m := m) [.ref (ad 1)] (n := 3) (Nat.le_of_ble_eq_true rfl)
  have hl : lv_has ls 3 [(0, .ref (ad 1))] := hl
  rw [show entryFrame m args 3 = F0 m 0 ls [] by rw [hav]; exact hE]
  subst hsz
  have hD := hD0.self (sz := s.heap.size)
  generalize hAe : va_A (wFac ad cI cJ cZ ho nu fa ou sp fn co fo ro po pn rd st tw od rn x y u sn) s.heap.size = A at hD ⊢
  have hA : ∀ q : Nat, s.heap.size ≤ q → A q := fun q h => by rw [← hAe]; exact Or.inr h
  have hS : va_S A s.heap s.heap [] := va_S.rf
  obtain ⟨Q, hQ⟩ : ∃ Q, MQ below (va_Qv (fun uu : (Nat → Int32) × (Nat → Int32) => post uu.1 uu.2) (fun (uu : (Nat → Int32) × (Nat → Int32)) (t : State) => va_P (dC, dI) vwCl (wFac ad cI cJ cZ uu.1 nu fa ou sp fn co fo ro po pn rd st tw uu.2 rn x y u sn) t.heap ∧ va_D A (wFac ad cI cJ cZ uu.1 nu fa ou sp fn co fo ro po pn rd st tw uu.2 rn x y u sn)) A) args s 0 0 A = Q := ⟨_, rfl⟩
  rw [hQ]
  obtain ⟨H, hH⟩ : ∃ H, s.heap = H := ⟨_, rfl⟩
  have hS : va_S A s.heap H [] := by rw [← hH]; exact hS
  rw [hH] at hP
  show W p l e rm_X0_findHomes s m args below meth c s.heap [] 0 0 Q (F0 m 0 ls [])
  suffices hg : W p l e rm_X0_findHomes s m args below meth c H [] 0 0 Q (F0 m 0 ls []) by rw [hH]; exact hg
  clear hH
  generalize hlo : ([] : List Loc) = locs at hS ⊢
  refine lv_iconst (v := 0) hx hb dX0_findHomes_0 (by decide) ?_
  refine lv_istore_n (lv' := [(1, .int (0 : Int32)), (0, .ref (ad 1))]) hx hb dX0_findHomes_1 rfl hl (by decide) rfl (fun ls hl => ?_)
  obtain ⟨n13, hw⟩ := hw
  refine l_X0_findHomes_2 C hK hA (fun ho_11 od_12 ls H locs hl hP hD hS hw => ?_) n13 ho od (0 : Int32) ls _ _ (lv_sub hl [1, 0] rfl) hP hD hS hw
  rw [← hQ]
  exact W.vret hx hb hr (fun t ht hW => ⟨⟨(ho_11, od_12), rfl, hw, by rw [ht]; exact hP, hD⟩, hS.F ht⟩) hS.2.2 dX0_findHomes_86
-- X0_numberFaces
abbrev rm_X0_numberFaces : Room := { frames := 1, cells := 0, slots := 0, locals := 23 }
theorem f_X0_numberFaces_0 : (Cond.fieldLink RX0 27 "PlaneFaces$Faces" "number" "[I") ∈ wsX0_numberFaces := by decide +kernel
theorem f_X0_numberFaces_1 : ∀ w ∈ wsX00, w ∈ wsX0_numberFaces := by decide +kernel
theorem f_X0_numberFaces_2 : (Cond.fieldLink RX0 39 "PlaneFaces$Faces" "size" "I") ∈ wsX0_numberFaces := by decide +kernel
theorem f_X0_numberFaces_3 : (Cond.fieldLink RX0 22 "PlaneFaces$Faces" "segments" "LPlaneFaces$Segments;") ∈ wsX0_numberFaces := by decide +kernel
theorem f_X0_numberFaces_4 : (Cond.fieldLink RX0 73 "PlaneFaces$Segments" "used" "[Z") ∈ wsX0_numberFaces := by decide +kernel
theorem f_X0_numberFaces_5 : ∀ w ∈ wsX20, w ∈ wsX0_numberFaces := by decide +kernel
theorem f_X0_numberFaces_6 : (Cond.fieldLink RX0 30 "PlaneFaces$Faces" "faceOf" "[I") ∈ wsX0_numberFaces := by decide +kernel
theorem f_X0_numberFaces_7 : (Cond.fieldLink RX0 23 "PlaneFaces$Faces" "home" "[I") ∈ wsX0_numberFaces := by decide +kernel
theorem f_X0_numberFaces_8 : (Cond.fieldLink RX0 12 "PlaneFaces$Faces" "rounds" "LPlaneFaces$Rounds;") ∈ wsX0_numberFaces := by decide +kernel
theorem f_X0_numberFaces_9 : (Cond.fieldLink RX0 77 "PlaneFaces$Rounds" "roundOf" "[I") ∈ wsX0_numberFaces := by decide +kernel
theorem f_X0_numberFaces_10 : ∀ w ∈ wsX10, w ∈ wsX0_numberFaces := by decide +kernel
set_option maxRecDepth 100000 in
set_option maxHeartbeats 4000000 in
theorem l_X0_numberFaces_15 {p : Program} {l : Launch} {e : Env} {s : State} {m : MethodId} {args : Array Value} {below : List Frame} {meth : Method} {c : Code} {Q : State → Prop} {dC : Nat → ClassId} {dI : Nat → Nat → Nat} {cI cJ cZ : ClassId} {ad : Nat → Nat} {ho : Nat → Int32} {ou : Nat → Int32} {sp : Nat → Int32} {co : Nat → Int32} {fo : Nat → Int32} {ro : Nat → Int32} {po : Nat → Int32} {pn : Int32} {rd : Nat → Int32} {st : Nat → Int32} {tw : Nat → Int64} {od : Nat → Int32} {rn : Int32} {x : Nat → Int32} {y : Nat → Int32} {u : Nat → Int32} {sn : Int32}  {K111 : (Nat → Int32) → (Nat → Int32) → Int32 → Prop} (C : CallFix p m c cX0_numberFaces 3 s args wsX0_numberFaces RX0) (hK : va_K (dC, dI) vwCl (tyL cI cJ cZ) s) {A : Nat → Prop} (hA : ∀ q : Nat, s.heap.size ≤ q → A q) (hk111 : ∀ (nu_w : Nat → Int32) (fa_w : Nat → Int32) (fn_w : Int32) (ls : Array Slot) (H : Heap) (locs : List Loc), lv_has ls 3 [(0, .ref (ad 1))] → va_P (dC, dI) vwCl (wFac ad cI cJ cZ ho nu_w fa_w ou sp fn_w co fo ro po pn rd st tw od rn x y u sn) H → va_D A (wFac ad cI cJ cZ ho nu_w fa_w ou sp fn_w co fo ro po pn rd st tw od rn x y u sn) → va_S A s.heap H locs → K111 nu_w fa_w fn_w → W p l e rm_X0_numberFaces s m args below meth c H locs 0 0 Q (F0 m 111 ls [])) : ∀ (n : Nat) (nu : Nat → Int32) (fa : Nat → Int32) (fn : Int32) (v1 : Int32) (ls : Array Slot) (H : Heap) (locs : List Loc), lv_has ls 3 [(0, .ref (ad 1)), (1, .int v1)] → va_P (dC, dI) vwCl (wFac ad cI cJ cZ ho nu fa ou sp fn co fo ro po pn rd st tw od rn x y u sn) H → va_D A (wFac ad cI cJ cZ ho nu fa ou sp fn co fo ro po pn rd st tw od rn x y u sn) → va_S A s.heap H locs → lp_X0_numberFaces_15 ho rd u K111 n nu fa fn v1 → W p l e rm_X0_numberFaces s m args below meth c H locs 0 0 Q (F0 m 15 ls []) := by
  obtain ⟨hx, hb, hml, hown, hts⟩ := id C
  intro n
  induction n with
  | zero =>
    intro nu fa fn v1 ls H locs hl hP hD hS hw
    rw [lp_X0_numberFaces_15.eq_1] at hw
    exact hw.elim
  | succ n ih =>
    intro nu fa fn v1 ls H locs hl hP hD hS hw
    rw [lp_X0_numberFaces_15.eq_2] at hw
    refine lv_iload_n hx hb dX0_numberFaces_15 rfl (lv_at hl 1 rfl) ?_
    refine lv_bipush (v := 120) hx hb dX0_numberFaces_16 (by decide) ?_
    refine lv_icmp_ge (tgt := 111) hx hb dX0_numberFaces_18 (by decide) (fun hc => ?_) (fun hc => ?_)
    · have hw := hw.1 (hc)
      exact hk111 nu fa fn ls _ _ (lv_sub hl [0] rfl) hP hD hS hw
    · have hw := hw.2 hc
      refine lv_aload_n hx hb dX0_numberFaces_21 rfl (lv_at hl 0 rfl) ?_
      refine va_get (D := (dC, dI)) (ci := 0) (v := .ref (ad 16)) (C := RX0) (T := TX0) (N := 8) hx hb hts f_X0_numberFaces_1 hown hK hP 0 rfl rfl 1 (by decide) (hts _ f_X0_numberFaces_3) (fun _ h9 => h9) rfl dX0_numberFaces_22 ?_
      refine va_get (D := (dC, dI)) (ci := 2) (v := .ref (ad 19)) (C := RX2) (T := TX2) (N := 4) hx hb hts f_X0_numberFaces_5 hown hK hP 15 rfl rfl 2 (by decide) (hts _ f_X0_numberFaces_4) (fun _ h9 => h9) rfl dX0_numberFaces_25 ?_
      refine lv_iload_n hx hb dX0_numberFaces_28 rfl (lv_at hl 1 rfl) ?_
      refine lv_iconst (v := 1) hx hb dX0_numberFaces_29 (by decide) ?_
      refine lv_ishr hx hb dX0_numberFaces_30 ?_
      have hi := hw.1
      have hw := hw.2
      refine va_zald hx hb hK hP 18 2 rfl rfl hi dX0_numberFaces_31 ?_
      refine jn3_use (J := fun (nu_2 : Nat → Int32) (fa_3 : Nat → Int32) (fn_4 : Int32) => ∀ (ls : Array Slot) (H : Heap) (locs : List Loc), lv_has ls 3 [(0, .ref (ad 1)), (1, .int v1)] → va_P (dC, dI) vwCl (wFac ad cI cJ cZ ho nu_2 fa_3 ou sp fn_4 co fo ro po pn rd st tw od rn x y u sn) H → va_D A (wFac ad cI cJ cZ ho nu_2 fa_3 ou sp fn_4 co fo ro po pn rd st tw od rn x y u sn) → va_S A s.heap H locs → W p l e rm_X0_numberFaces s m args below meth c H locs 0 0 Q (F0 m 105 ls [])) hw (fun nu_2 fa_3 fn_4 hw ls H locs hl hP hD hS => ?_) (fun hw hj0 => ?_)
      · refine lv_iinc (v := (v1 + (1 : Int32))) (lv' := [(1, .int (v1 + (1 : Int32))), (0, .ref (ad 1))]) hx hb dX0_numberFaces_105 hl (k := 1) rfl rfl (by decide) rfl (fun ls hl => ?_)
        refine lv_goto (tgt := 15) hx hb dX0_numberFaces_108 (by decide) ?_
        exact ih nu_2 fa_3 fn_4 (v1 + (1 : Int32)) ls _ _ (lv_sub hl [1, 0] rfl) hP hD hS hw
      · have hj6 := hj0
        refine lv_if_eq (tgt := 98) hx hb dX0_numberFaces_32 (by decide) (fun hc => ?_) (fun hc => ?_)
        · have hw := hw.1 (hc)
          refine lv_aload_n hx hb dX0_numberFaces_98 rfl (lv_at hl 0 rfl) ?_
          refine va_get (D := (dC, dI)) (ci := 0) (v := .ref (ad 4)) (C := RX0) (T := TX0) (N := 8) hx hb hts f_X0_numberFaces_1 hown hK hP 0 rfl rfl 4 (by decide) (hts _ f_X0_numberFaces_6) (fun _ h9 => h9) rfl dX0_numberFaces_99 ?_
          refine lv_iload_n hx hb dX0_numberFaces_102 rfl (lv_at hl 1 rfl) ?_
          refine lv_iconst (v := -1) hx hb dX0_numberFaces_103 (by decide) ?_
          have hi := hw.1
          have hw := hw.2 _ rfl
          refine va_iast hx hb hK hP hD hS 3 0 rfl rfl hi dX0_numberFaces_104 (fun H locs hP hD hS => ?_)
          generalize hfa_7 : (upd fa v1.toNatClampNeg (-1 : Int32)) = fa_7 at hw hP hD
          have hP : va_P (dC, dI) vwCl (wFac ad cI cJ cZ ho nu fa_7 ou sp fn co fo ro po pn rd st tw od rn x y u sn) H := hP
          have hD : va_D A (wFac ad cI cJ cZ ho nu fa_7 ou sp fn co fo ro po pn rd st tw od rn x y u sn) := hD
          exact hj6 nu fa_7 fn hw ls _ _ (lv_sub hl [0, 1] rfl) hP hD hS
        · have hw := hw.2 hc
          refine lv_aload_n hx hb dX0_numberFaces_35 rfl (lv_at hl 0 rfl) ?_
          refine va_get (D := (dC, dI)) (ci := 0) (v := .ref (ad 2)) (C := RX0) (T := TX0) (N := 8) hx hb hts f_X0_numberFaces_1 hown hK hP 0 rfl rfl 2 (by decide) (hts _ f_X0_numberFaces_7) (fun _ h9 => h9) rfl dX0_numberFaces_36 ?_
          refine lv_aload_n hx hb dX0_numberFaces_39 rfl (lv_at hl 0 rfl) ?_
          refine va_get (D := (dC, dI)) (ci := 0) (v := .ref (ad 7)) (C := RX0) (T := TX0) (N := 8) hx hb hts f_X0_numberFaces_1 hown hK hP 0 rfl rfl 0 (by decide) (hts _ f_X0_numberFaces_8) (fun _ h9 => h9) rfl dX0_numberFaces_40 ?_
          refine va_get (D := (dC, dI)) (ci := 1) (v := .ref (ad 12)) (C := RX1) (T := TX1) (N := 11) hx hb hts f_X0_numberFaces_10 hown hK hP 6 rfl rfl 6 (by decide) (hts _ f_X0_numberFaces_9) (fun _ h9 => h9) rfl dX0_numberFaces_43 ?_
          refine lv_iload_n hx hb dX0_numberFaces_46 rfl (lv_at hl 1 rfl) ?_
          have hi := hw.1
          have hw := hw.2
          refine va_iald hx hb hK hP 11 0 rfl rfl hi dX0_numberFaces_47 ?_
          have hi := hw.1
          have hw := hw.2
          refine va_iald hx hb hK hP 1 0 rfl rfl hi dX0_numberFaces_48 ?_
          refine lv_topi (fun a8 ea8 => ?_)
          have hw := hw a8 ea8
          refine lv_istore_n (lv' := [(2, .int a8), (0, .ref (ad 1)), (1, .int v1)]) hx hb dX0_numberFaces_49 rfl hl (by decide) rfl (fun ls hl => ?_)
          refine lv_iload_n hx hb dX0_numberFaces_50 rfl (lv_at hl 0 rfl) ?_
          refine lv_iconst (v := -1) hx hb dX0_numberFaces_51 (by decide) ?_
          refine jn2_use (J := fun (nu_9 : Nat → Int32) (fn_10 : Int32) => ∀ (ls : Array Slot) (H : Heap) (locs : List Loc), lv_has ls 3 [(0, .ref (ad 1)), (1, .int v1), (2, .int a8)] → va_P (dC, dI) vwCl (wFac ad cI cJ cZ ho nu_9 fa ou sp fn_10 co fo ro po pn rd st tw od rn x y u sn) H → va_D A (wFac ad cI cJ cZ ho nu_9 fa ou sp fn_10 co fo ro po pn rd st tw od rn x y u sn) → va_S A s.heap H locs → W p l e rm_X0_numberFaces s m args below meth c H locs 0 0 Q (F0 m 84 ls [])) hw (fun nu_9 fn_10 hw ls H locs hl hP hD hS => ?_) (fun hw hj0 => ?_)
          · refine lv_aload_n hx hb dX0_numberFaces_84 rfl (lv_at hl 0 rfl) ?_
            refine va_get (D := (dC, dI)) (ci := 0) (v := .ref (ad 4)) (C := RX0) (T := TX0) (N := 8) hx hb hts f_X0_numberFaces_1 hown hK hP 0 rfl rfl 4 (by decide) (hts _ f_X0_numberFaces_6) (fun _ h9 => h9) rfl dX0_numberFaces_85 ?_
            refine lv_iload_n hx hb dX0_numberFaces_88 rfl (lv_at hl 1 rfl) ?_
            refine lv_aload_n hx hb dX0_numberFaces_89 rfl (lv_at hl 0 rfl) ?_
            refine lv_iload_n hx hb dX0_numberFaces_90 rfl (lv_at hl 2 rfl) ?_
            refine vp_callSi (W.runV (As := [.int a8]) (rest := [.int v1, .ref (ad 4)]) C (c_X0_faceWithin l dC dI cI cJ cZ ad ho nu_9 fa ou sp fn_10 co fo ro po pn rd st tw od rn x y u sn a8 hw) (cwV 1 hts gX0_numberFaces_X0_faceWithin rfl rfl rfl (by decide +kernel) ⟨Nat.le_of_ble_eq_true rfl, Nat.le_of_ble_eq_true rfl⟩) ⟨fb_ro, va_recv hK hP (ci := 0) (q0 := 0) rfl rfl, fun U hU hW => ⟨rfl, by rw [hU]; exact hP, va_K.moved hW.alike hK⟩⟩ rfl rfl hl.1 rfl (lv_room (Nat.le_of_ble_eq_true rfl)) dX0_numberFaces_91 ⟨Nat.zero_le _, Nat.zero_le _⟩) (fun r13 hw => ?_)
            have hi := hw.1
            have hw := hw.2 _ rfl
            refine va_iast hx hb hK hP hD hS 3 0 rfl rfl hi dX0_numberFaces_94 (fun H locs hP hD hS => ?_)
            generalize hfa_14 : (upd fa v1.toNatClampNeg r13) = fa_14 at hw hP hD
            have hP : va_P (dC, dI) vwCl (wFac ad cI cJ cZ ho nu_9 fa_14 ou sp fn_10 co fo ro po pn rd st tw od rn x y u sn) H := hP
            have hD : va_D A (wFac ad cI cJ cZ ho nu_9 fa_14 ou sp fn_10 co fo ro po pn rd st tw od rn x y u sn) := hD
            refine lv_goto (tgt := 105) hx hb dX0_numberFaces_95 (by decide) ?_
            exact hj6 nu_9 fa_14 fn_10 hw ls _ _ (lv_sub hl [0, 1] rfl) hP hD hS
          · have hj12 := hj0
            refine lv_icmp_eq (tgt := 84) hx hb dX0_numberFaces_52 (by decide) (fun hc => ?_) (fun hc => ?_)
            · have hw := hw.1 (hc)
              exact hj12 nu fn hw ls _ _ (lv_sub hl [1, 2, 0] rfl) hP hD hS
            · have hw := hw.2 hc
              refine lv_aload_n hx hb dX0_numberFaces_55 rfl (lv_at hl 1 rfl) ?_
              refine va_get (D := (dC, dI)) (ci := 0) (v := .ref (ad 3)) (C := RX0) (T := TX0) (N := 8) hx hb hts f_X0_numberFaces_1 hown hK hP 0 rfl rfl 3 (by decide) (hts _ f_X0_numberFaces_0) (fun _ h9 => h9) rfl dX0_numberFaces_56 ?_
              refine lv_iload_n hx hb dX0_numberFaces_59 rfl (lv_at hl 0 rfl) ?_
              have hi := hw.1
              have hw := hw.2
              refine va_iald hx hb hK hP 2 0 rfl rfl hi dX0_numberFaces_60 ?_
              refine lv_if_ne (tgt := 84) hx hb dX0_numberFaces_61 (by decide) (fun hc => ?_) (fun hc => ?_)
              · have hw := hw.2 hc
                exact hj12 nu fn hw ls _ _ (lv_sub hl [1, 2, 0] rfl) hP hD hS
              · have hw := hw.1 (hc)
                refine lv_aload_n hx hb dX0_numberFaces_64 rfl (lv_at hl 1 rfl) ?_
                refine va_get (D := (dC, dI)) (ci := 0) (v := .ref (ad 3)) (C := RX0) (T := TX0) (N := 8) hx hb hts f_X0_numberFaces_1 hown hK hP 0 rfl rfl 3 (by decide) (hts _ f_X0_numberFaces_0) (fun _ h9 => h9) rfl dX0_numberFaces_65 ?_
                refine lv_iload_n hx hb dX0_numberFaces_68 rfl (lv_at hl 0 rfl) ?_
                refine lv_aload_n hx hb dX0_numberFaces_69 rfl (lv_at hl 1 rfl) ?_
                refine va_get (D := (dC, dI)) (ci := 0) (v := .int fn) (C := RX0) (T := TX0) (N := 8) hx hb hts f_X0_numberFaces_1 hown hK hP 0 rfl rfl 7 (by decide) (hts _ f_X0_numberFaces_2) (fun _ h9 => h9) rfl dX0_numberFaces_70 ?_
                have hi := hw.1
                have hw := hw.2 _ rfl
                refine va_iast hx hb hK hP hD hS 2 0 rfl rfl hi dX0_numberFaces_73 (fun H locs hP hD hS => ?_)
                generalize hnu_15 : (upd nu a8.toNatClampNeg fn) = nu_15 at hw hP hD
                have hP : va_P (dC, dI) vwCl (wFac ad cI cJ cZ ho nu_15 fa ou sp fn co fo ro po pn rd st tw od rn x y u sn) H := hP
                have hD : va_D A (wFac ad cI cJ cZ ho nu_15 fa ou sp fn co fo ro po pn rd st tw od rn x y u sn) := hD
                refine lv_aload_n hx hb dX0_numberFaces_74 rfl (lv_at hl 1 rfl) ?_
                refine lv_dup hx hb dX0_numberFaces_75 rfl ?_
                refine va_get (D := (dC, dI)) (ci := 0) (v := .int fn) (C := RX0) (T := TX0) (N := 8) hx hb hts f_X0_numberFaces_1 hown hK hP 0 rfl rfl 7 (by decide) (hts _ f_X0_numberFaces_2) (fun _ h9 => h9) rfl dX0_numberFaces_76 ?_
                refine lv_iconst (v := 1) hx hb dX0_numberFaces_79 (by decide) ?_
                refine lv_iadd hx hb dX0_numberFaces_80 ?_
                refine va_put (D := (dC, dI)) (ci := 0) (v := .int (fn + (1 : Int32))) (ty := .int) (C := RX0) (T := TX0) (N := 8) hx hb hts f_X0_numberFaces_1 tyX0 tyX0_ok nmX0 hown hK hP hD hS 0 rfl rfl 7 (by decide) (hts _ f_X0_numberFaces_2) (fun _ h9 => h9) rfl (by decide +kernel) rfl rfl (Nat.le_of_ble_eq_true rfl) dX0_numberFaces_81 (fun H locs hP hD hS => ?_)
                have hP : va_P (dC, dI) vwCl (wFac ad cI cJ cZ ho nu_15 fa ou sp (fn + (1 : Int32)) co fo ro po pn rd st tw od rn x y u sn) H := hP
                have hD : va_D A (wFac ad cI cJ cZ ho nu_15 fa ou sp (fn + (1 : Int32)) co fo ro po pn rd st tw od rn x y u sn) := hD
                exact hj12 nu_15 (fn + (1 : Int32)) hw ls _ _ (lv_sub hl [1, 2, 0] rfl) hP hD hS
set_option maxRecDepth 100000 in
set_option maxHeartbeats 4000000 in
theorem c_X0_numberFaces (l : Launch) (dC : Nat → ClassId) (dI : Nat → Nat → Nat) (cI cJ cZ : ClassId) (ad : Nat → Nat) (sz : Nat) (ho : Nat → Int32) (nu : Nat → Int32) (fa : Nat → Int32) (ou : Nat → Int32) (sp : Nat → Int32) (fn : Int32) (co : Nat → Int32) (fo : Nat → Int32) (ro : Nat → Int32) (po : Nat → Int32) (pn : Int32) (rd : Nat → Int32) (st : Nat → Int32) (tw : Nat → Int64) (od : Nat → Int32) (rn : Int32) (x : Nat → Int32) (y : Nat → Int32) (u : Nat → Int32) (sn : Int32)  {post : (Nat → Int32) → (Nat → Int32) → Int32 → Prop} (hw : wp_X0_numberFaces ho nu fa fn rd u post) : Met l yX0_numberFaces wsX0_numberFaces rm_X0_numberFaces (va_Pc [.ref (ad 1)] (fun U => U.heap.size = sz ∧ va_P (dC, dI) vwCl (wFac ad cI cJ cZ ho nu fa ou sp fn co fo ro po pn rd st tw od rn x y u sn) U.heap ∧ va_K (dC, dI) vwCl (tyL cI cJ cZ) U ∧ va_D (fun _ => True) (wFac ad cI cJ cZ ho nu fa ou sp fn co fo ro po pn rd st tw od rn x y u sn))) (va_Qv (fun uu : (Nat → Int32) × (Nat → Int32) × Int32 => post uu.1 uu.2.1 uu.2.2) (fun (uu : (Nat → Int32) × (Nat → Int32) × Int32) (t : State) => va_P (dC, dI) vwCl (wFac ad cI cJ cZ ho uu.1 uu.2.1 ou sp uu.2.2 co fo ro po pn rd st tw od rn x y u sn) t.heap ∧ va_D (va_A (wFac ad cI cJ cZ ho nu fa ou sp fn co fo ro po pn rd st tw od rn x y u sn) sz) (wFac ad cI cJ cZ ho uu.1 uu.2.1 ou sp uu.2.2 co fo ro po pn rd st tw od rn x y u sn)) (va_A (wFac ad cI cJ cZ ho nu fa ou sp fn co fo ro po pn rd st tw od rn x y u sn) sz)) 0 0 (va_A (wFac ad cI cJ cZ ho nu fa ou sp fn co fo ro po pn rd st tw od rn x y u sn) sz) := by
  unfold wp_X0_numberFaces at hw
  refine Met.ofW (cc := cX0_numberFaces) (maxL := 3) (ret := none) (by decide) rfl ?_
  intro p e s m args below meth c s₁ B hml hv
  obtain ⟨hav, hsz, hP, hK, hD0⟩ := hv
  have hx := B.exec
  have hb := B.bytes
  have hr := B.returns
  have hts := atoms_spec (ws := wsX0_numberFaces) B.pre
  have hown : s.vm.findClass RX0 = some m.cls := findClass_of_methodNamed B.named
  have hlocks := B.notSynchronized
  have C : CallFix p m c cX0_numberFaces 3 s args wsX0_numberFaces RX0 := ⟨hx, hb, hml, hown, hts⟩
  obtain ⟨ls, hE, hl⟩ := mx_entry (m := m) [.ref (ad 1)] (n := 3) (Nat.le_of_ble_eq_true rfl)
  have hl : lv_has ls 3 [(0, .ref (ad 1))] := hl
  rw [show entryFrame m args 3 = F0 m 0 ls [] by rw [hav]; exact hE]
  subst hsz
  have hD := hD0.self (sz := s.heap.size)
  generalize hAe : va_A (wFac ad cI cJ cZ ho nu fa ou sp fn co fo ro po pn rd st tw od rn x y u sn) s.heap.size = A at hD ⊢
  have hA : ∀ q : Nat, s.heap.size ≤ q → A q := fun q h => by rw [← hAe]; exact Or.inr h
  have hS : va_S A s.heap s.heap [] := va_S.rf
  obtain ⟨Q, hQ⟩ : ∃ Q, MQ below (va_Qv (fun uu : (Nat → Int32) × (Nat → Int32) × Int32 => post uu.1 uu.2.1 uu.2.2) (fun (uu : (Nat → Int32) × (Nat → Int32) × Int32) (t : State) => va_P (dC, dI) vwCl (wFac ad cI cJ cZ ho uu.1 uu.2.1 ou sp uu.2.2 co fo ro po pn rd st tw od rn x y u sn) t.heap ∧ va_D A (wFac ad cI cJ cZ ho uu.1 uu.2.1 ou sp uu.2.2 co fo ro po pn rd st tw od rn x y u sn)) A) args s 0 0 A = Q := ⟨_, rfl⟩
  rw [hQ]
  obtain ⟨H, hH⟩ : ∃ H, s.heap = H := ⟨_, rfl⟩
  have hS : va_S A s.heap H [] := by rw [← hH]; exact hS
  rw [hH] at hP
  show W p l e rm_X0_numberFaces s m args below meth c s.heap [] 0 0 Q (F0 m 0 ls [])
  suffices hg : W p l e rm_X0_numberFaces s m args below meth c H [] 0 0 Q (F0 m 0 ls []) by rw [hH]; exact hg
  clear hH
  generalize hlo : ([] : List Loc) = locs at hS ⊢
  refine lv_aload_n hx hb dX0_numberFaces_0 rfl (lv_at hl 0 rfl) ?_
  refine va_get (D := (dC, dI)) (ci := 0) (v := .ref (ad 3)) (C := RX0) (T := TX0) (N := 8) hx hb hts f_X0_numberFaces_1 hown hK hP 0 rfl rfl 3 (by decide) (hts _ f_X0_numberFaces_0) (fun _ h9 => h9) rfl dX0_numberFaces_1 ?_
  refine lv_iconst (v := 0) hx hb dX0_numberFaces_4 (by decide) ?_
  have hPc := hP.sub (ws' := [(ad 3, .inl (cI, 120, .inl nu))]) [2] rfl
  have hDc := hD.sub (ws' := [(ad 3, .inl (cI, 120, .inl nu))]) [2] (by decide) rfl
  have hFc := va_free (wc := [(ad 3, .inl (cI, 120, .inl nu))]) hD hS hA [2] rfl
  refine va_callv (va_runS (As := [.ref (ad 3), .int (0 : Int32)]) (rest := []) C (c_fill l dC dI cI cJ cZ _ (ad 3) 120 (by decide) nu (0 : Int32)) (va_cwS 2 hts gX0_numberFaces_J7_fill_53178 rfl rfl rfl (by decide +kernel) ⟨Nat.le_of_ble_eq_true rfl, Nat.le_of_ble_eq_true rfl⟩) ⟨fb_rw, fun U hU hW => ⟨rfl, by rw [hU], by rw [hU]; exact hPc, va_K.moved hW.alike hK, hDc.weaken (fun _ _ _ _ => trivial)⟩⟩ rfl rfl hl.1 rfl (lv_room (Nat.le_of_ble_eq_true rfl)) dX0_numberFaces_5 ⟨Nat.zero_le _, Nat.zero_le _⟩) hS (fun q _ h => hFc q h) hFc (fun nu_1 t H1 locs ht hvm hq hB hz1 hk1 hS => ?_)
  have hw := hw nu_1 hq
  obtain ⟨hP1, hD1⟩ := hB
  rw [ht] at hP1
  obtain ⟨hP, hD⟩ := va_join (wr := [(ad 1, .inr (0, [.ref (ad 7), .ref (ad 16), .ref (ad 2), .ref (ad 3), .ref (ad 4), .ref (ad 5), .ref (ad 6), .int fn])), (ad 2, .inl (cI, 120, .inl ho)), (ad 4, .inl (cI, 120, .inl fa)), (ad 5, .inl (cI, 60, .inl ou)), (ad 6, .inl (cI, 121, .inl sp)), (ad 7, .inr (1, [.ref (ad 16), .ref (ad 8), .ref (ad 9), .ref (ad 10), .ref (ad 11), .int pn, .ref (ad 12), .ref (ad 13), .ref (ad 14), .ref (ad 15), .int rn])), (ad 8, .inl (cI, 120, .inl co)), (ad 9, .inl (cI, 120, .inl fo)), (ad 10, .inl (cI, 60, .inl ro)), (ad 11, .inl (cI, 60, .inl po)), (ad 12, .inl (cI, 120, .inl rd)), (ad 13, .inl (cI, 120, .inl st)), (ad 14, .inl (cJ, 120, .inr (.inl tw))), (ad 15, .inl (cI, 120, .inl od)), (ad 16, .inr (2, [.ref (ad 17), .ref (ad 18), .ref (ad 19), .int sn])), (ad 17, .inl (cI, 120, .inl x)), (ad 18, .inl (cI, 120, .inl y)), (ad 19, .inl (cZ, 60, .inl u))]) (w1 := [(ad 3, .inl (cI, 120, .inl nu_1))]) hP hD [2] [0, 1, 3, 4, 5, 6, 7, 8, 9, 10, 11, 12, 13, 14, 15, 16, 17, 18] rfl rfl (by decide) (by decide) hk1 hFc hP1 hD1
  have hP := hP.sub (ws' := (wFac ad cI cJ cZ ho nu_1 fa ou sp fn co fo ro po pn rd st tw od rn x y u sn)) [0, 1, 18, 2, 3, 4, 5, 6, 7, 8, 9, 10, 11, 12, 13, 14, 15, 16, 17] rfl
  have hD := hD.sub (ws' := (wFac ad cI cJ cZ ho nu_1 fa ou sp fn co fo ro po pn rd st tw od rn x y u sn)) [0, 1, 18, 2, 3, 4, 5, 6, 7, 8, 9, 10, 11, 12, 13, 14, 15, 16, 17] (by decide) rfl
  generalize H1 = H at hP hS ⊢
  refine lv_aload_n hx hb dX0_numberFaces_8 rfl (lv_at hl 0 rfl) ?_
  refine lv_iconst (v := 1) hx hb dX0_numberFaces_9 (by decide) ?_
  refine va_put (D := (dC, dI)) (ci := 0) (v := .int (1 : Int32)) (ty := .int) (C := RX0) (T := TX0) (N := 8) hx hb hts f_X0_numberFaces_1 tyX0 tyX0_ok nmX0 hown hK hP hD hS 0 rfl rfl 7 (by decide) (hts _ f_X0_numberFaces_2) (fun _ h9 => h9) rfl (by decide +kernel) rfl rfl (Nat.le_of_ble_eq_true rfl) dX0_numberFaces_10 (fun H locs hP hD hS => ?_)
  have hP : va_P (dC, dI) vwCl (wFac ad cI cJ cZ ho nu_1 fa ou sp (1 : Int32) co fo ro po pn rd st tw od rn x y u sn) H := hP
  have hD : va_D A (wFac ad cI cJ cZ ho nu_1 fa ou sp (1 : Int32) co fo ro po pn rd st tw od rn x y u sn) := hD
  refine lv_iconst (v := 0) hx hb dX0_numberFaces_13 (by decide) ?_
  refine lv_istore_n (lv' := [(1, .int (0 : Int32)), (0, .ref (ad 1))]) hx hb dX0_numberFaces_14 rfl hl (by decide) rfl (fun ls hl => ?_)
  obtain ⟨n19, hw⟩ := hw
  refine l_X0_numberFaces_15 C hK hA (fun nu_16 fa_17 fn_18 ls H locs hl hP hD hS hw => ?_) n19 nu_1 fa (1 : Int32) (0 : Int32) ls _ _ (lv_sub hl [1, 0] rfl) hP hD hS hw
  rw [← hQ]
  exact W.vret hx hb hr (fun t ht hW => ⟨⟨(nu_16, fa_17, fn_18), rfl, hw, by rw [ht]; exact hP, hD⟩, hS.F ht⟩) hS.2.2 dX0_numberFaces_111
-- X0_findOutsides
abbrev rm_X0_findOutsides : Room := { frames := 1, cells := 0, slots := 0, locals := 21 }
theorem f_X0_findOutsides_0 : (Cond.fieldLink RX0 12 "PlaneFaces$Faces" "rounds" "LPlaneFaces$Rounds;") ∈ wsX0_findOutsides := by decide +kernel
theorem f_X0_findOutsides_1 : ∀ w ∈ wsX00, w ∈ wsX0_findOutsides := by decide +kernel
theorem f_X0_findOutsides_2 : (Cond.fieldLink RX0 43 "PlaneFaces$Rounds" "size" "I") ∈ wsX0_findOutsides := by decide +kernel
theorem f_X0_findOutsides_3 : ∀ w ∈ wsX10, w ∈ wsX0_findOutsides := by decide +kernel
theorem f_X0_findOutsides_4 : (Cond.fieldLink RX0 23 "PlaneFaces$Faces" "home" "[I") ∈ wsX0_findOutsides := by decide +kernel
theorem f_X0_findOutsides_5 : (Cond.fieldLink RX0 33 "PlaneFaces$Faces" "outside" "[I") ∈ wsX0_findOutsides := by decide +kernel
theorem f_X0_findOutsides_6 : (Cond.fieldLink RX0 30 "PlaneFaces$Faces" "faceOf" "[I") ∈ wsX0_findOutsides := by decide +kernel
theorem f_X0_findOutsides_7 : (Cond.fieldLink RX0 44 "PlaneFaces$Rounds" "start" "[I") ∈ wsX0_findOutsides := by decide +kernel
set_option maxRecDepth 100000 in
set_option maxHeartbeats 4000000 in
theorem l_X0_findOutsides_2 {p : Program} {l : Launch} {e : Env} {s : State} {m : MethodId} {args : Array Value} {below : List Frame} {meth : Method} {c : Code} {Q : State → Prop} {dC : Nat → ClassId} {dI : Nat → Nat → Nat} {cI cJ cZ : ClassId} {ad : Nat → Nat} {ho : Nat → Int32} {nu : Nat → Int32} {fa : Nat → Int32} {sp : Nat → Int32} {fn : Int32} {co : Nat → Int32} {fo : Nat → Int32} {ro : Nat → Int32} {po : Nat → Int32} {pn : Int32} {rd : Nat → Int32} {st : Nat → Int32} {tw : Nat → Int64} {od : Nat → Int32} {rn : Int32} {x : Nat → Int32} {y : Nat → Int32} {u : Nat → Int32} {sn : Int32}  {K56 : (Nat → Int32) → Prop} (C : CallFix p m c cX0_findOutsides 2 s args wsX0_findOutsides RX0) (hK : va_K (dC, dI) vwCl (tyL cI cJ cZ) s) {A : Nat → Prop} (hA : ∀ q : Nat, s.heap.size ≤ q → A q) (hk56 : ∀ (ou_w : Nat → Int32) (ls : Array Slot) (H : Heap) (locs : List Loc), lv_has ls 2 [(0, .ref (ad 1))] → va_P (dC, dI) vwCl (wFac ad cI cJ cZ ho nu fa ou_w sp fn co fo ro po pn rd st tw od rn x y u sn) H → va_D A (wFac ad cI cJ cZ ho nu fa ou_w sp fn co fo ro po pn rd st tw od rn x y u sn) → va_S A s.heap H locs → K56 ou_w → W p l e rm_X0_findOutsides s m args below meth c H locs 0 0 Q (F0 m 56 ls [])) : ∀ (n : Nat) (ou : Nat → Int32) (v1 : Int32) (ls : Array Slot) (H : Heap) (locs : List Loc), lv_has ls 2 [(0, .ref (ad 1)), (1, .int v1)] → va_P (dC, dI) vwCl (wFac ad cI cJ cZ ho nu fa ou sp fn co fo ro po pn rd st tw od rn x y u sn) H → va_D A (wFac ad cI cJ cZ ho nu fa ou sp fn co fo ro po pn rd st tw od rn x y u sn) → va_S A s.heap H locs → lp_X0_findOutsides_2 ho fa po st rn K56 n ou v1 → W p l e rm_X0_findOutsides s m args below meth c H locs 0 0 Q (F0 m 2 ls []) := by
  obtain ⟨hx, hb, hml, hown, hts⟩ := id C
  intro n
  induction n with
  | zero =>
    intro ou v1 ls H locs hl hP hD hS hw
    rw [lp_X0_findOutsides_2.eq_1] at hw
    exact hw.elim
  | succ n ih =>
    intro ou v1 ls H locs hl hP hD hS hw
    rw [lp_X0_findOutsides_2.eq_2] at hw
    refine lv_iload_n hx hb dX0_findOutsides_2 rfl (lv_at hl 1 rfl) ?_
    refine lv_aload_n hx hb dX0_findOutsides_3 rfl (lv_at hl 0 rfl) ?_
    refine va_get (D := (dC, dI)) (ci := 0) (v := .ref (ad 7)) (C := RX0) (T := TX0) (N := 8) hx hb hts f_X0_findOutsides_1 hown hK hP 0 rfl rfl 0 (by decide) (hts _ f_X0_findOutsides_0) (fun _ h9 => h9) rfl dX0_findOutsides_4 ?_
    refine va_get (D := (dC, dI)) (ci := 1) (v := .int rn) (C := RX1) (T := TX1) (N := 11) hx hb hts f_X0_findOutsides_3 hown hK hP 6 rfl rfl 10 (by decide) (hts _ f_X0_findOutsides_2) (fun _ h9 => h9) rfl dX0_findOutsides_7 ?_
    refine lv_icmp_ge (tgt := 56) hx hb dX0_findOutsides_10 (by decide) (fun hc => ?_) (fun hc => ?_)
    · have hw := hw.1 (hc)
      exact hk56 ou ls _ _ (lv_sub hl [0] rfl) hP hD hS hw
    · have hw := hw.2 hc
      refine lv_aload_n hx hb dX0_findOutsides_13 rfl (lv_at hl 0 rfl) ?_
      refine va_get (D := (dC, dI)) (ci := 0) (v := .ref (ad 2)) (C := RX0) (T := TX0) (N := 8) hx hb hts f_X0_findOutsides_1 hown hK hP 0 rfl rfl 2 (by decide) (hts _ f_X0_findOutsides_4) (fun _ h9 => h9) rfl dX0_findOutsides_14 ?_
      refine lv_iload_n hx hb dX0_findOutsides_17 rfl (lv_at hl 1 rfl) ?_
      have hi := hw.1
      have hw := hw.2
      refine va_iald hx hb hK hP 1 0 rfl rfl hi dX0_findOutsides_18 ?_
      refine lv_iload_n hx hb dX0_findOutsides_19 rfl (lv_at hl 1 rfl) ?_
      refine jn1_use (J := fun (ou_1 : Nat → Int32) => ∀ (ls : Array Slot) (H : Heap) (locs : List Loc), lv_has ls 2 [(0, .ref (ad 1)), (1, .int v1)] → va_P (dC, dI) vwCl (wFac ad cI cJ cZ ho nu fa ou_1 sp fn co fo ro po pn rd st tw od rn x y u sn) H → va_D A (wFac ad cI cJ cZ ho nu fa ou_1 sp fn co fo ro po pn rd st tw od rn x y u sn) → va_S A s.heap H locs → W p l e rm_X0_findOutsides s m args below meth c H locs 0 0 Q (F0 m 50 ls [])) hw (fun ou_1 hw ls H locs hl hP hD hS => ?_) (fun hw hj0 => ?_)
      · refine lv_iinc (v := (v1 + (1 : Int32))) (lv' := [(1, .int (v1 + (1 : Int32))), (0, .ref (ad 1))]) hx hb dX0_findOutsides_50 hl (k := 1) rfl rfl (by decide) rfl (fun ls hl => ?_)
        refine lv_goto (tgt := 2) hx hb dX0_findOutsides_53 (by decide) ?_
        exact ih ou_1 (v1 + (1 : Int32)) ls _ _ (lv_sub hl [1, 0] rfl) hP hD hS hw
      · have hj3 := hj0
        refine lv_icmp_eq (tgt := 50) hx hb dX0_findOutsides_20 (by decide) (fun hc => ?_) (fun hc => ?_)
        · have hw := hw.1 (hc)
          exact hj3 ou hw ls _ _ (lv_sub hl [0, 1] rfl) hP hD hS
        · have hw := hw.2 hc
          refine lv_aload_n hx hb dX0_findOutsides_23 rfl (lv_at hl 0 rfl) ?_
          refine va_get (D := (dC, dI)) (ci := 0) (v := .ref (ad 5)) (C := RX0) (T := TX0) (N := 8) hx hb hts f_X0_findOutsides_1 hown hK hP 0 rfl rfl 5 (by decide) (hts _ f_X0_findOutsides_5) (fun _ h9 => h9) rfl dX0_findOutsides_24 ?_
          refine lv_aload_n hx hb dX0_findOutsides_27 rfl (lv_at hl 0 rfl) ?_
          refine va_get (D := (dC, dI)) (ci := 0) (v := .ref (ad 7)) (C := RX0) (T := TX0) (N := 8) hx hb hts f_X0_findOutsides_1 hown hK hP 0 rfl rfl 0 (by decide) (hts _ f_X0_findOutsides_0) (fun _ h9 => h9) rfl dX0_findOutsides_28 ?_
          refine lv_iload_n hx hb dX0_findOutsides_31 rfl (lv_at hl 1 rfl) ?_
          have hPc := hP.sub (ws' := (wRnd ad cI cJ cZ co fo ro po pn rd st tw od rn x y u sn)) [6, 7, 8, 9, 10, 11, 12, 13, 14, 15, 16, 17, 18] rfl
          refine vp_callSi (W.runV (As := [.int v1]) (rest := [.ref (ad 5)]) C (c_X1_pieceOfRound l dC dI cI cJ cZ ad co fo ro po pn rd st tw od rn x y u sn v1 hw) (cwV 1 hts gX0_findOutsides_X1_pieceOfRound rfl rfl rfl (by decide +kernel) ⟨Nat.le_of_ble_eq_true rfl, Nat.le_of_ble_eq_true rfl⟩) ⟨fb_ro, va_recv hK hPc (ci := 1) (q0 := 0) rfl rfl, fun U hU hW => ⟨rfl, by rw [hU]; exact hPc, va_K.moved hW.alike hK⟩⟩ rfl rfl hl.1 rfl (lv_room (Nat.le_of_ble_eq_true rfl)) dX0_findOutsides_32 ⟨Nat.zero_le _, Nat.zero_le _⟩) (fun r4 hw => ?_)
          refine lv_aload_n hx hb dX0_findOutsides_35 rfl (lv_at hl 0 rfl) ?_
          refine va_get (D := (dC, dI)) (ci := 0) (v := .ref (ad 4)) (C := RX0) (T := TX0) (N := 8) hx hb hts f_X0_findOutsides_1 hown hK hP 0 rfl rfl 4 (by decide) (hts _ f_X0_findOutsides_6) (fun _ h9 => h9) rfl dX0_findOutsides_36 ?_
          refine lv_aload_n hx hb dX0_findOutsides_39 rfl (lv_at hl 0 rfl) ?_
          refine va_get (D := (dC, dI)) (ci := 0) (v := .ref (ad 7)) (C := RX0) (T := TX0) (N := 8) hx hb hts f_X0_findOutsides_1 hown hK hP 0 rfl rfl 0 (by decide) (hts _ f_X0_findOutsides_0) (fun _ h9 => h9) rfl dX0_findOutsides_40 ?_
          refine va_get (D := (dC, dI)) (ci := 1) (v := .ref (ad 13)) (C := RX1) (T := TX1) (N := 11) hx hb hts f_X0_findOutsides_3 hown hK hP 6 rfl rfl 7 (by decide) (hts _ f_X0_findOutsides_7) (fun _ h9 => h9) rfl dX0_findOutsides_43 ?_
          refine lv_iload_n hx hb dX0_findOutsides_46 rfl (lv_at hl 1 rfl) ?_
          have hi := hw.1
          have hw := hw.2
          refine va_iald hx hb hK hP 12 0 rfl rfl hi dX0_findOutsides_47 ?_
          have hi := hw.1
          have hw := hw.2
          refine va_iald hx hb hK hP 3 0 rfl rfl hi dX0_findOutsides_48 ?_
          have hi := hw.1
          have hw := hw.2 _ rfl
          refine va_iast hx hb hK hP hD hS 4 0 rfl rfl hi dX0_findOutsides_49 (fun H locs hP hD hS => ?_)
          generalize hou_5 : (upd ou r4.toNatClampNeg (fa (st v1.toNatClampNeg).toNatClampNeg)) = ou_5 at hw hP hD
          have hP : va_P (dC, dI) vwCl (wFac ad cI cJ cZ ho nu fa ou_5 sp fn co fo ro po pn rd st tw od rn x y u sn) H := hP
          have hD : va_D A (wFac ad cI cJ cZ ho nu fa ou_5 sp fn co fo ro po pn rd st tw od rn x y u sn) := hD
          exact hj3 ou_5 hw ls _ _ (lv_sub hl [0, 1] rfl) hP hD hS
set_option maxRecDepth 100000 in
set_option maxHeartbeats 4000000 in
theorem c_X0_findOutsides (l : Launch) (dC : Nat → ClassId) (dI : Nat → Nat → Nat) (cI cJ cZ : ClassId) (ad : Nat → Nat) (sz : Nat) (ho : Nat → Int32) (nu : Nat → Int32) (fa : Nat → Int32) (ou : Nat → Int32) (sp : Nat → Int32) (fn : Int32) (co : Nat → Int32) (fo : Nat → Int32) (ro : Nat → Int32) (po : Nat → Int32) (pn : Int32) (rd : Nat → Int32) (st : Nat → Int32) (tw : Nat → Int64) (od : Nat → Int32) (rn : Int32) (x : Nat → Int32) (y : Nat → Int32) (u : Nat → Int32) (sn : Int32)  {post : (Nat → Int32) → Prop} (hw : wp_X0_findOutsides ho fa ou po st rn post) : Met l yX0_findOutsides wsX0_findOutsides rm_X0_findOutsides (va_Pc [.ref (ad 1)] (fun U => U.heap.size = sz ∧ va_P (dC, dI) vwCl (wFac ad cI cJ cZ ho nu fa ou sp fn co fo ro po pn rd st tw od rn x y u sn) U.heap ∧ va_K (dC, dI) vwCl (tyL cI cJ cZ) U ∧ va_D (fun _ => True) (wFac ad cI cJ cZ ho nu fa ou sp fn co fo ro po pn rd st tw od rn x y u sn))) (va_Qv (fun uu : (Nat → Int32) => post uu) (fun (uu : (Nat → Int32)) (t : State) => va_P (dC, dI) vwCl (wFac ad cI cJ cZ ho nu fa uu sp fn co fo ro po pn rd st tw od rn x y u sn) t.heap ∧ va_D (va_A (wFac ad cI cJ cZ ho nu fa ou sp fn co fo ro po pn rd st tw od rn x y u sn) sz) (wFac ad cI cJ cZ ho nu fa uu sp fn co fo ro po pn rd st tw od rn x y u sn)) (va_A (wFac ad cI cJ cZ ho nu fa ou sp fn co fo ro po pn rd st tw od rn x y u sn) sz)) 0 0 (va_A (wFac ad cI cJ cZ ho nu fa ou sp fn co fo ro po pn rd st tw od rn x y u sn) sz) := by
  unfold wp_X0_findOutsides at hw
  refine Met.ofW (cc := cX0_findOutsides) (maxL := 2) (ret := none) (by decide) rfl ?_
  intro p e s m args below meth c s₁ B hml hv
  obtain ⟨hav, hsz, hP, hK, hD0⟩ := hv
  have hx := B.exec
  have hb := B.bytes
  have hr := B.returns
  have hts := atoms_spec (ws := wsX0_findOutsides) B.pre
  have hown : s.vm.findClass RX0 = some m.cls := findClass_of_methodNamed B.named
  have hlocks := B.notSynchronized
  have C : CallFix p m c cX0_findOutsides 2 s args wsX0_findOutsides RX0 := ⟨hx, hb, hml, hown, hts⟩
  obtain ⟨ls, hE, hl⟩ := mx_entry (m := m) [.ref (ad 1)] (n := 2) (Nat.le_of_ble_eq_true rfl)
  have hl : lv_has ls 2 [(0, .ref (ad 1))] := hl
  rw [show entryFrame m args 2 = F0 m 0 ls [] by rw [hav]; exact hE]
  subst hsz
  have hD := hD0.self (sz := s.heap.size)
  generalize hAe : va_A (wFac ad cI cJ cZ ho nu fa ou sp fn co fo ro po pn rd st tw od rn x y u sn) s.heap.size = A at hD ⊢
  have hA : ∀ q : Nat, s.heap.size ≤ q → A q := fun q h => by rw [← hAe]; exact Or.inr h
  have hS : va_S A s.heap s.heap [] := va_S.rf
  obtain ⟨Q, hQ⟩ : ∃ Q, MQ below (va_Qv (fun uu : (Nat → Int32) => post uu) (fun (uu : (Nat → Int32)) (t : State) => va_P (dC, dI) vwCl (wFac ad cI cJ cZ ho nu fa uu sp fn co fo ro po pn rd st tw od rn x y u sn) t.heap ∧ va_D A (wFac ad cI cJ cZ ho nu fa uu sp fn co fo ro po pn rd st tw od rn x y u sn)) A) args s 0 0 A = Q := ⟨_, rfl⟩
  rw [hQ]
  obtain ⟨H, hH⟩ : ∃ H, s.heap = H := ⟨_, rfl⟩
  have hS : va_S A s.heap H [] := by rw [← hH]; exact hS
  rw [hH] at hP
  show W p l e rm_X0_findOutsides s m args below meth c s.heap [] 0 0 Q (F0 m 0 ls [])
  suffices hg : W p l e rm_X0_findOutsides s m args below meth c H [] 0 0 Q (F0 m 0 ls []) by rw [hH]; exact hg
  clear hH
  generalize hlo : ([] : List Loc) = locs at hS ⊢
  refine lv_iconst (v := 0) hx hb dX0_findOutsides_0 (by decide) ?_
  refine lv_istore_n (lv' := [(1, .int (0 : Int32)), (0, .ref (ad 1))]) hx hb dX0_findOutsides_1 rfl hl (by decide) rfl (fun ls hl => ?_)
  obtain ⟨n7, hw⟩ := hw
  refine l_X0_findOutsides_2 C hK hA (fun ou_6 ls H locs hl hP hD hS hw => ?_) n7 ou (0 : Int32) ls _ _ (lv_sub hl [1, 0] rfl) hP hD hS hw
  rw [← hQ]
  exact W.vret hx hb hr (fun t ht hW => ⟨⟨ou_6, rfl, hw, by rw [ht]; exact hP, hD⟩, hS.F ht⟩) hS.2.2 dX0_findOutsides_56
-- X0_bridges
abbrev rm_X0_bridges : Room := { frames := 0, cells := 0, slots := 0, locals := 0 }
theorem f_X0_bridges_0 : (Cond.fieldLink RX0 22 "PlaneFaces$Faces" "segments" "LPlaneFaces$Segments;") ∈ wsX0_bridges := by decide +kernel
theorem f_X0_bridges_1 : ∀ w ∈ wsX00, w ∈ wsX0_bridges := by decide +kernel
theorem f_X0_bridges_2 : (Cond.fieldLink RX0 73 "PlaneFaces$Segments" "used" "[Z") ∈ wsX0_bridges := by decide +kernel
theorem f_X0_bridges_3 : ∀ w ∈ wsX20, w ∈ wsX0_bridges := by decide +kernel
theorem f_X0_bridges_4 : (Cond.fieldLink RX0 30 "PlaneFaces$Faces" "faceOf" "[I") ∈ wsX0_bridges := by decide +kernel
set_option maxRecDepth 100000 in
set_option maxHeartbeats 4000000 in
theorem l_X0_bridges_4 {p : Program} {l : Launch} {e : Env} {s : State} {m : MethodId} {args : Array Value} {below : List Frame} {meth : Method} {c : Code} {Q : State → Prop} {dC : Nat → ClassId} {dI : Nat → Nat → Nat} {cI cJ cZ : ClassId} {ad : Nat → Nat} {ho : Nat → Int32} {nu : Nat → Int32} {fa : Nat → Int32} {ou : Nat → Int32} {sp : Nat → Int32} {fn : Int32} {co : Nat → Int32} {fo : Nat → Int32} {ro : Nat → Int32} {po : Nat → Int32} {pn : Int32} {rd : Nat → Int32} {st : Nat → Int32} {tw : Nat → Int64} {od : Nat → Int32} {rn : Int32} {x : Nat → Int32} {y : Nat → Int32} {u : Nat → Int32} {sn : Int32}  {K52 : Int32 → Prop} (C : CallFix p m c cX0_bridges 3 s args wsX0_bridges RX0) (hK : va_K (dC, dI) vwCl (tyL cI cJ cZ) s) {H : Heap} (hP : va_P (dC, dI) vwCl (wFac ad cI cJ cZ ho nu fa ou sp fn co fo ro po pn rd st tw od rn x y u sn) H) (hk52 : ∀ (w1 : Int32) (ls : Array Slot), lv_has ls 3 [(0, .ref (ad 1)), (1, .int w1)] → K52 w1 → W p l e rm_X0_bridges s m args below meth c H [] 0 0 Q (F0 m 52 ls [])) : ∀ (n : Nat) (v1 : Int32) (v2 : Int32) (ls : Array Slot), lv_has ls 3 [(0, .ref (ad 1)), (1, .int v1), (2, .int v2)] → lp_X0_bridges_4 fa u K52 n v1 v2 → W p l e rm_X0_bridges s m args below meth c H [] 0 0 Q (F0 m 4 ls []) := by
  obtain ⟨hx, hb, hml, hown, hts⟩ := id C
  intro n
  induction n with
  | zero =>
    intro v1 v2 ls hl hw
    rw [lp_X0_bridges_4.eq_1] at hw
    exact hw.elim
  | succ n ih =>
    intro v1 v2 ls hl hw
    rw [lp_X0_bridges_4.eq_2] at hw
    refine lv_iload_n hx hb dX0_bridges_4 rfl (lv_at hl 2 rfl) ?_
    refine lv_bipush (v := 60) hx hb dX0_bridges_5 (by decide) ?_
    refine lv_icmp_ge (tgt := 52) hx hb dX0_bridges_7 (by decide) (fun hc => ?_) (fun hc => ?_)
    · have hw := hw.1 (hc)
      exact hk52 v1 ls (lv_sub hl [0, 1] rfl) hw
    · have hw := hw.2 hc
      refine lv_aload_n hx hb dX0_bridges_10 rfl (lv_at hl 0 rfl) ?_
      refine va_get (D := (dC, dI)) (ci := 0) (v := .ref (ad 16)) (C := RX0) (T := TX0) (N := 8) hx hb hts f_X0_bridges_1 hown hK hP 0 rfl rfl 1 (by decide) (hts _ f_X0_bridges_0) (fun _ h9 => h9) rfl dX0_bridges_11 ?_
      refine va_get (D := (dC, dI)) (ci := 2) (v := .ref (ad 19)) (C := RX2) (T := TX2) (N := 4) hx hb hts f_X0_bridges_3 hown hK hP 15 rfl rfl 2 (by decide) (hts _ f_X0_bridges_2) (fun _ h9 => h9) rfl dX0_bridges_14 ?_
      refine lv_iload_n hx hb dX0_bridges_17 rfl (lv_at hl 2 rfl) ?_
      have hi := hw.1
      have hw := hw.2
      refine va_zald hx hb hK hP 18 2 rfl rfl hi dX0_bridges_18 ?_
      refine jn1_use (J := fun (j1 : Int32) => ∀ ls : Array Slot, lv_has ls 3 [(0, .ref (ad 1)), (1, .int j1), (2, .int v2)] → W p l e rm_X0_bridges s m args below meth c H [] 0 0 Q (F0 m 46 ls [])) hw (fun j1 hw ls hl => ?_) (fun hw hj0 => ?_)
      · refine lv_iinc (v := (v2 + (1 : Int32))) (lv' := [(2, .int (v2 + (1 : Int32))), (0, .ref (ad 1)), (1, .int j1)]) hx hb dX0_bridges_46 hl (k := 2) rfl rfl (by decide) rfl (fun ls hl => ?_)
        refine lv_goto (tgt := 4) hx hb dX0_bridges_49 (by decide) ?_
        exact ih j1 (v2 + (1 : Int32)) ls (lv_sub hl [1, 2, 0] rfl) hw
      · have hj3 := hj0
        refine lv_if_eq (tgt := 46) hx hb dX0_bridges_19 (by decide) (fun hc => ?_) (fun hc => ?_)
        · have hw := hw.1 (hc)
          exact hj3 v1 hw ls (lv_sub hl [0, 1, 2] rfl)
        · have hw := hw.2 hc
          refine lv_aload_n hx hb dX0_bridges_22 rfl (lv_at hl 0 rfl) ?_
          refine va_get (D := (dC, dI)) (ci := 0) (v := .ref (ad 4)) (C := RX0) (T := TX0) (N := 8) hx hb hts f_X0_bridges_1 hown hK hP 0 rfl rfl 4 (by decide) (hts _ f_X0_bridges_4) (fun _ h9 => h9) rfl dX0_bridges_23 ?_
          refine lv_iconst (v := 2) hx hb dX0_bridges_26 (by decide) ?_
          refine lv_iload_n hx hb dX0_bridges_27 rfl (lv_at hl 2 rfl) ?_
          refine lv_imul hx hb dX0_bridges_28 ?_
          have hi := hw.1
          have hw := hw.2
          refine va_iald hx hb hK hP 3 0 rfl rfl hi dX0_bridges_29 ?_
          refine lv_aload_n hx hb dX0_bridges_30 rfl (lv_at hl 0 rfl) ?_
          refine va_get (D := (dC, dI)) (ci := 0) (v := .ref (ad 4)) (C := RX0) (T := TX0) (N := 8) hx hb hts f_X0_bridges_1 hown hK hP 0 rfl rfl 4 (by decide) (hts _ f_X0_bridges_4) (fun _ h9 => h9) rfl dX0_bridges_31 ?_
          refine lv_iconst (v := 2) hx hb dX0_bridges_34 (by decide) ?_
          refine lv_iload_n hx hb dX0_bridges_35 rfl (lv_at hl 2 rfl) ?_
          refine lv_imul hx hb dX0_bridges_36 ?_
          refine lv_iconst (v := 1) hx hb dX0_bridges_37 (by decide) ?_
          refine lv_iadd hx hb dX0_bridges_38 ?_
          have hi := hw.1
          have hw := hw.2
          refine va_iald hx hb hK hP 3 0 rfl rfl hi dX0_bridges_39 ?_
          refine lv_icmp_ne (tgt := 46) hx hb dX0_bridges_40 (by decide) (fun hc => ?_) (fun hc => ?_)
          · have hw := hw.2 hc
            exact hj3 v1 hw ls (lv_sub hl [0, 1, 2] rfl)
          · have hw := hw.1 (hc)
            refine lv_iinc (v := (v1 + (1 : Int32))) (lv' := [(1, .int (v1 + (1 : Int32))), (0, .ref (ad 1)), (2, .int v2)]) hx hb dX0_bridges_43 hl (k := 1) rfl rfl (by decide) rfl (fun ls hl => ?_)
            exact hj3 (v1 + (1 : Int32)) hw ls (lv_sub hl [1, 0, 2] rfl)
set_option maxRecDepth 100000 in
set_option maxHeartbeats 4000000 in
theorem c_X0_bridges (l : Launch) (dC : Nat → ClassId) (dI : Nat → Nat → Nat) (cI cJ cZ : ClassId) (ad : Nat → Nat) (ho : Nat → Int32) (nu : Nat → Int32) (fa : Nat → Int32) (ou : Nat → Int32) (sp : Nat → Int32) (fn : Int32) (co : Nat → Int32) (fo : Nat → Int32) (ro : Nat → Int32) (po : Nat → Int32) (pn : Int32) (rd : Nat → Int32) (st : Nat → Int32) (tw : Nat → Int64) (od : Nat → Int32) (rn : Int32) (x : Nat → Int32) (y : Nat → Int32) (u : Nat → Int32) (sn : Int32)  {post : Int32 → Prop} (hw : wp_X0_bridges fa u post) : Met l yX0_bridges wsX0_bridges rm_X0_bridges (va_Pc [.ref (ad 1)] (fun U => va_P (dC, dI) vwCl (wFac ad cI cJ cZ ho nu fa ou sp fn co fo ro po pn rd st tw od rn x y u sn) U.heap ∧ va_K (dC, dI) vwCl (tyL cI cJ cZ) U)) (vp_Si post) 0 0 (fun _ => False) := by
  unfold wp_X0_bridges at hw
  refine Met.ofW (cc := cX0_bridges) (maxL := 3) (ret := (some .int)) (by decide) rfl ?_
  intro p e s m args below meth c s₁ B hml hv
  obtain ⟨hav, hP, hK⟩ := hv
  have hx := B.exec
  have hb := B.bytes
  have hr := B.returns
  have hts := atoms_spec (ws := wsX0_bridges) B.pre
  have hown : s.vm.findClass RX0 = some m.cls := findClass_of_methodNamed B.named
  have hlocks := B.notSynchronized
  have C : CallFix p m c cX0_bridges 3 s args wsX0_bridges RX0 := ⟨hx, hb, hml, hown, hts⟩
  obtain ⟨ls, hE, hl⟩ := mx_entry (m := m) [.ref (ad 1)] (n := 3) (Nat.le_of_ble_eq_true rfl)
  have hl : lv_has ls 3 [(0, .ref (ad 1))] := hl
  rw [show entryFrame m args 3 = F0 m 0 ls [] by rw [hav]; exact hE]
  obtain ⟨Q, hQ⟩ : ∃ Q, MQ below (vp_Si post) args s 0 0 (fun _ => False) = Q := ⟨_, rfl⟩
  rw [hQ]
  obtain ⟨H, hH⟩ : ∃ H, s.heap = H := ⟨_, rfl⟩
  rw [hH]
  rw [hH] at hP
  show W p l e rm_X0_bridges s m args below meth c H [] 0 0 Q (F0 m 0 ls [])
  refine lv_iconst (v := 0) hx hb dX0_bridges_0 (by decide) ?_
  refine lv_istore_n (lv' := [(1, .int (0 : Int32)), (0, .ref (ad 1))]) hx hb dX0_bridges_1 rfl hl (by decide) rfl (fun ls hl => ?_)
  refine lv_iconst (v := 0) hx hb dX0_bridges_2 (by decide) ?_
  refine lv_istore_n (lv' := [(2, .int (0 : Int32)), (1, .int (0 : Int32)), (0, .ref (ad 1))]) hx hb dX0_bridges_3 rfl hl (by decide) rfl (fun ls hl => ?_)
  obtain ⟨n5, hw⟩ := hw
  refine l_X0_bridges_4 C hK hP (fun w4 ls hl hw => ?_) n5 (0 : Int32) (0 : Int32) ls (lv_sub hl [2, 1, 0] rfl) hw
  refine lv_iload_n hx hb dX0_bridges_52 rfl (lv_at hl 1 rfl) ?_
  rw [← hQ]
  exact W.iret (v := w4) hx hb hr (fun t ht hW => ⟨_, rfl, hw, ht.trans hH.symm⟩) (fun q h => by cases h) dX0_bridges_53
-- X0_twiceArea
abbrev rm_X0_twiceArea : Room := { frames := 0, cells := 0, slots := 0, locals := 0 }
theorem f_X0_twiceArea_0 : (Cond.fieldLink RX0 12 "PlaneFaces$Faces" "rounds" "LPlaneFaces$Rounds;") ∈ wsX0_twiceArea := by decide +kernel
theorem f_X0_twiceArea_1 : ∀ w ∈ wsX00, w ∈ wsX0_twiceArea := by decide +kernel
theorem f_X0_twiceArea_2 : (Cond.fieldLink RX0 43 "PlaneFaces$Rounds" "size" "I") ∈ wsX0_twiceArea := by decide +kernel
theorem f_X0_twiceArea_3 : ∀ w ∈ wsX10, w ∈ wsX0_twiceArea := by decide +kernel
theorem f_X0_twiceArea_4 : (Cond.fieldLink RX0 30 "PlaneFaces$Faces" "faceOf" "[I") ∈ wsX0_twiceArea := by decide +kernel
theorem f_X0_twiceArea_5 : (Cond.fieldLink RX0 44 "PlaneFaces$Rounds" "start" "[I") ∈ wsX0_twiceArea := by decide +kernel
theorem f_X0_twiceArea_6 : (Cond.fieldLink RX0 47 "PlaneFaces$Rounds" "twice" "[J") ∈ wsX0_twiceArea := by decide +kernel
set_option maxRecDepth 100000 in
set_option maxHeartbeats 4000000 in
theorem l_X0_twiceArea_5 {p : Program} {l : Launch} {e : Env} {s : State} {m : MethodId} {args : Array Value} {below : List Frame} {meth : Method} {c : Code} {Q : State → Prop} {dC : Nat → ClassId} {dI : Nat → Nat → Nat} {cI cJ cZ : ClassId} {ad : Nat → Nat} {ho : Nat → Int32} {nu : Nat → Int32} {fa : Nat → Int32} {ou : Nat → Int32} {sp : Nat → Int32} {fn : Int32} {co : Nat → Int32} {fo : Nat → Int32} {ro : Nat → Int32} {po : Nat → Int32} {pn : Int32} {rd : Nat → Int32} {st : Nat → Int32} {tw : Nat → Int64} {od : Nat → Int32} {rn : Int32} {x : Nat → Int32} {y : Nat → Int32} {u : Nat → Int32} {sn : Int32} {v1 : Int32} {K55 : Int64 → Prop} (C : CallFix p m c cX0_twiceArea 5 s args wsX0_twiceArea RX0) (hK : va_K (dC, dI) vwCl (tyL cI cJ cZ) s) {H : Heap} (hP : va_P (dC, dI) vwCl (wFac ad cI cJ cZ ho nu fa ou sp fn co fo ro po pn rd st tw od rn x y u sn) H) (hk55 : ∀ (w2 : Int64) (ls : Array Slot), lv_has ls 5 [(0, .ref (ad 1)), (2, .long w2)] → K55 w2 → W p l e rm_X0_twiceArea s m args below meth c H [] 0 0 Q (F0 m 55 ls [])) : ∀ (n : Nat) (v2 : Int64) (v4 : Int32) (ls : Array Slot), lv_has ls 5 [(0, .ref (ad 1)), (1, .int v1), (2, .long v2), (4, .int v4)] → lp_X0_twiceArea_5 fa st tw rn v1 K55 n v2 v4 → W p l e rm_X0_twiceArea s m args below meth c H [] 0 0 Q (F0 m 5 ls []) := by
  obtain ⟨hx, hb, hml, hown, hts⟩ := id C
  intro n
  induction n with
  | zero =>
    intro v2 v4 ls hl hw
    rw [lp_X0_twiceArea_5.eq_1] at hw
    exact hw.elim
  | succ n ih =>
    intro v2 v4 ls hl hw
    rw [lp_X0_twiceArea_5.eq_2] at hw
    refine lv_iload hx hb dX0_twiceArea_5 (lv_at hl 3 rfl) ?_
    refine lv_aload_n hx hb dX0_twiceArea_7 rfl (lv_at hl 0 rfl) ?_
    refine va_get (D := (dC, dI)) (ci := 0) (v := .ref (ad 7)) (C := RX0) (T := TX0) (N := 8) hx hb hts f_X0_twiceArea_1 hown hK hP 0 rfl rfl 0 (by decide) (hts _ f_X0_twiceArea_0) (fun _ h9 => h9) rfl dX0_twiceArea_8 ?_
    refine va_get (D := (dC, dI)) (ci := 1) (v := .int rn) (C := RX1) (T := TX1) (N := 11) hx hb hts f_X0_twiceArea_3 hown hK hP 6 rfl rfl 10 (by decide) (hts _ f_X0_twiceArea_2) (fun _ h9 => h9) rfl dX0_twiceArea_11 ?_
    refine lv_icmp_ge (tgt := 55) hx hb dX0_twiceArea_14 (by decide) (fun hc => ?_) (fun hc => ?_)
    · have hw := hw.1 (hc)
      exact hk55 v2 ls (lv_sub hl [0, 2] rfl) hw
    · have hw := hw.2 hc
      refine lv_aload_n hx hb dX0_twiceArea_17 rfl (lv_at hl 0 rfl) ?_
      refine va_get (D := (dC, dI)) (ci := 0) (v := .ref (ad 4)) (C := RX0) (T := TX0) (N := 8) hx hb hts f_X0_twiceArea_1 hown hK hP 0 rfl rfl 4 (by decide) (hts _ f_X0_twiceArea_4) (fun _ h9 => h9) rfl dX0_twiceArea_18 ?_
      refine lv_aload_n hx hb dX0_twiceArea_21 rfl (lv_at hl 0 rfl) ?_
      refine va_get (D := (dC, dI)) (ci := 0) (v := .ref (ad 7)) (C := RX0) (T := TX0) (N := 8) hx hb hts f_X0_twiceArea_1 hown hK hP 0 rfl rfl 0 (by decide) (hts _ f_X0_twiceArea_0) (fun _ h9 => h9) rfl dX0_twiceArea_22 ?_
      refine va_get (D := (dC, dI)) (ci := 1) (v := .ref (ad 13)) (C := RX1) (T := TX1) (N := 11) hx hb hts f_X0_twiceArea_3 hown hK hP 6 rfl rfl 7 (by decide) (hts _ f_X0_twiceArea_5) (fun _ h9 => h9) rfl dX0_twiceArea_25 ?_
      refine lv_iload hx hb dX0_twiceArea_28 (lv_at hl 3 rfl) ?_
      have hi := hw.1
      have hw := hw.2
      refine va_iald hx hb hK hP 12 0 rfl rfl hi dX0_twiceArea_30 ?_
      have hi := hw.1
      have hw := hw.2
      refine va_iald hx hb hK hP 3 0 rfl rfl hi dX0_twiceArea_31 ?_
      refine lv_iload_n hx hb dX0_twiceArea_32 rfl (lv_at hl 1 rfl) ?_
      refine jn1_use (J := fun (j1 : Int64) => ∀ ls : Array Slot, lv_has ls 5 [(0, .ref (ad 1)), (1, .int v1), (2, .long j1), (4, .int v4)] → W p l e rm_X0_twiceArea s m args below meth c H [] 0 0 Q (F0 m 49 ls [])) hw (fun j1 hw ls hl => ?_) (fun hw hj0 => ?_)
      · refine lv_iinc (v := (v4 + (1 : Int32))) (lv' := [(4, .int (v4 + (1 : Int32))), (0, .ref (ad 1)), (1, .int v1), (2, .long j1)]) hx hb dX0_twiceArea_49 hl (k := 3) rfl rfl (by decide) rfl (fun ls hl => ?_)
        refine lv_goto (tgt := 5) hx hb dX0_twiceArea_52 (by decide) ?_
        exact ih j1 (v4 + (1 : Int32)) ls (lv_sub hl [1, 2, 3, 0] rfl) hw
      · have hj3 := hj0
        refine lv_icmp_ne (tgt := 49) hx hb dX0_twiceArea_33 (by decide) (fun hc => ?_) (fun hc => ?_)
        · have hw := hw.2 hc
          exact hj3 v2 hw ls (lv_sub hl [0, 1, 2, 3] rfl)
        · have hw := hw.1 (hc)
          refine lv_lload_n hx hb dX0_twiceArea_36 rfl (lv_at hl 2 rfl) ?_
          refine lv_aload_n hx hb dX0_twiceArea_37 rfl (lv_at hl 0 rfl) ?_
          refine va_get (D := (dC, dI)) (ci := 0) (v := .ref (ad 7)) (C := RX0) (T := TX0) (N := 8) hx hb hts f_X0_twiceArea_1 hown hK hP 0 rfl rfl 0 (by decide) (hts _ f_X0_twiceArea_0) (fun _ h9 => h9) rfl dX0_twiceArea_38 ?_
          refine va_get (D := (dC, dI)) (ci := 1) (v := .ref (ad 14)) (C := RX1) (T := TX1) (N := 11) hx hb hts f_X0_twiceArea_3 hown hK hP 6 rfl rfl 8 (by decide) (hts _ f_X0_twiceArea_6) (fun _ h9 => h9) rfl dX0_twiceArea_41 ?_
          refine lv_iload hx hb dX0_twiceArea_44 (lv_at hl 3 rfl) ?_
          have hi := hw.1
          have hw := hw.2
          refine va_lald hx hb hK hP 13 1 rfl rfl hi dX0_twiceArea_46 ?_
          refine lv_ladd hx hb dX0_twiceArea_47 ?_
          refine lv_topl (fun a4 ea4 => ?_)
          have hw := hw a4 ea4
          refine lv_lstore_n (lv' := [(2, .long a4), (0, .ref (ad 1)), (1, .int v1), (4, .int v4)]) hx hb dX0_twiceArea_48 rfl hl (by decide) rfl (fun ls hl => ?_)
          exact hj3 a4 hw ls (lv_sub hl [1, 2, 0, 3] rfl)
set_option maxRecDepth 100000 in
set_option maxHeartbeats 4000000 in
theorem c_X0_twiceArea (l : Launch) (dC : Nat → ClassId) (dI : Nat → Nat → Nat) (cI cJ cZ : ClassId) (ad : Nat → Nat) (ho : Nat → Int32) (nu : Nat → Int32) (fa : Nat → Int32) (ou : Nat → Int32) (sp : Nat → Int32) (fn : Int32) (co : Nat → Int32) (fo : Nat → Int32) (ro : Nat → Int32) (po : Nat → Int32) (pn : Int32) (rd : Nat → Int32) (st : Nat → Int32) (tw : Nat → Int64) (od : Nat → Int32) (rn : Int32) (x : Nat → Int32) (y : Nat → Int32) (u : Nat → Int32) (sn : Int32) (v1 : Int32) {post : Int64 → Prop} (hw : wp_X0_twiceArea fa st tw rn v1 post) : Met l yX0_twiceArea wsX0_twiceArea rm_X0_twiceArea (va_Pc [.ref (ad 1), .int v1] (fun U => va_P (dC, dI) vwCl (wFac ad cI cJ cZ ho nu fa ou sp fn co fo ro po pn rd st tw od rn x y u sn) U.heap ∧ va_K (dC, dI) vwCl (tyL cI cJ cZ) U)) (vp_Sl post) 0 0 (fun _ => False) := by
  unfold wp_X0_twiceArea at hw
  refine Met.ofW (cc := cX0_twiceArea) (maxL := 5) (ret := (some .long)) (by decide) rfl ?_
  intro p e s m args below meth c s₁ B hml hv
  obtain ⟨hav, hP, hK⟩ := hv
  have hx := B.exec
  have hb := B.bytes
  have hr := B.returns
  have hts := atoms_spec (ws := wsX0_twiceArea) B.pre
  have hown : s.vm.findClass RX0 = some m.cls := findClass_of_methodNamed B.named
  have hlocks := B.notSynchronized
  have C : CallFix p m c cX0_twiceArea 5 s args wsX0_twiceArea RX0 := ⟨hx, hb, hml, hown, hts⟩
  obtain ⟨ls, hE, hl⟩ := mx_entry (m := m) [.ref (ad 1), .int v1] (n := 5) (Nat.le_of_ble_eq_true rfl)
  have hl : lv_has ls 5 [(0, .ref (ad 1)), (1, .int v1)] := hl
  rw [show entryFrame m args 5 = F0 m 0 ls [] by rw [hav]; exact hE]
  obtain ⟨Q, hQ⟩ : ∃ Q, MQ below (vp_Sl post) args s 0 0 (fun _ => False) = Q := ⟨_, rfl⟩
  rw [hQ]
  obtain ⟨H, hH⟩ : ∃ H, s.heap = H := ⟨_, rfl⟩
  rw [hH]
  rw [hH] at hP
  show W p l e rm_X0_twiceArea s m args below meth c H [] 0 0 Q (F0 m 0 ls [])
  refine lv_lconst (v := 0) hx hb dX0_twiceArea_0 (by decide) ?_
  refine lv_lstore_n (lv' := [(2, .long (0 : Int64)), (0, .ref (ad 1)), (1, .int v1)]) hx hb dX0_twiceArea_1 rfl hl (by decide) rfl (fun ls hl => ?_)
  refine lv_iconst (v := 0) hx hb dX0_twiceArea_2 (by decide) ?_
  refine lv_istore (lv' := [(4, .int (0 : Int32)), (2, .long (0 : Int64)), (0, .ref (ad 1)), (1, .int v1)]) hx hb dX0_twiceArea_3 hl (by decide) rfl (fun ls hl => ?_)
  obtain ⟨n6, hw⟩ := hw
  refine l_X0_twiceArea_5 C hK hP (fun w5 ls hl hw => ?_) n6 (0 : Int64) (0 : Int32) ls (lv_sub hl [2, 3, 1, 0] rfl) hw
  refine lv_lload_n hx hb dX0_twiceArea_55 rfl (lv_at hl 1 rfl) ?_
  rw [← hQ]
  exact W.lret (v := w5) hx hb hr (fun t ht hW => ⟨_, rfl, hw, ht.trans hH.symm⟩) (fun q h => by cases h) dX0_twiceArea_56
-- X0_roundsOf
abbrev rm_X0_roundsOf : Room := { frames := 0, cells := 0, slots := 0, locals := 0 }
theorem f_X0_roundsOf_0 : (Cond.fieldLink RX0 12 "PlaneFaces$Faces" "rounds" "LPlaneFaces$Rounds;") ∈ wsX0_roundsOf := by decide +kernel
theorem f_X0_roundsOf_1 : ∀ w ∈ wsX00, w ∈ wsX0_roundsOf := by decide +kernel
theorem f_X0_roundsOf_2 : (Cond.fieldLink RX0 43 "PlaneFaces$Rounds" "size" "I") ∈ wsX0_roundsOf := by decide +kernel
theorem f_X0_roundsOf_3 : ∀ w ∈ wsX10, w ∈ wsX0_roundsOf := by decide +kernel
theorem f_X0_roundsOf_4 : (Cond.fieldLink RX0 30 "PlaneFaces$Faces" "faceOf" "[I") ∈ wsX0_roundsOf := by decide +kernel
theorem f_X0_roundsOf_5 : (Cond.fieldLink RX0 44 "PlaneFaces$Rounds" "start" "[I") ∈ wsX0_roundsOf := by decide +kernel
set_option maxRecDepth 100000 in
set_option maxHeartbeats 4000000 in
theorem l_X0_roundsOf_4 {p : Program} {l : Launch} {e : Env} {s : State} {m : MethodId} {args : Array Value} {below : List Frame} {meth : Method} {c : Code} {Q : State → Prop} {dC : Nat → ClassId} {dI : Nat → Nat → Nat} {cI cJ cZ : ClassId} {ad : Nat → Nat} {ho : Nat → Int32} {nu : Nat → Int32} {fa : Nat → Int32} {ou : Nat → Int32} {sp : Nat → Int32} {fn : Int32} {co : Nat → Int32} {fo : Nat → Int32} {ro : Nat → Int32} {po : Nat → Int32} {pn : Int32} {rd : Nat → Int32} {st : Nat → Int32} {tw : Nat → Int64} {od : Nat → Int32} {rn : Int32} {x : Nat → Int32} {y : Nat → Int32} {u : Nat → Int32} {sn : Int32} {v1 : Int32} {K42 : Int32 → Prop} (C : CallFix p m c cX0_roundsOf 4 s args wsX0_roundsOf RX0) (hK : va_K (dC, dI) vwCl (tyL cI cJ cZ) s) {H : Heap} (hP : va_P (dC, dI) vwCl (wFac ad cI cJ cZ ho nu fa ou sp fn co fo ro po pn rd st tw od rn x y u sn) H) (hk42 : ∀ (w2 : Int32) (ls : Array Slot), lv_has ls 4 [(0, .ref (ad 1)), (2, .int w2)] → K42 w2 → W p l e rm_X0_roundsOf s m args below meth c H [] 0 0 Q (F0 m 42 ls [])) : ∀ (n : Nat) (v2 : Int32) (v3 : Int32) (ls : Array Slot), lv_has ls 4 [(0, .ref (ad 1)), (1, .int v1), (2, .int v2), (3, .int v3)] → lp_X0_roundsOf_4 fa st rn v1 K42 n v2 v3 → W p l e rm_X0_roundsOf s m args below meth c H [] 0 0 Q (F0 m 4 ls []) := by
  obtain ⟨hx, hb, hml, hown, hts⟩ := id C
  intro n
  induction n with
  | zero =>
    intro v2 v3 ls hl hw
    rw [lp_X0_roundsOf_4.eq_1] at hw
    exact hw.elim
  | succ n ih =>
    intro v2 v3 ls hl hw
    rw [lp_X0_roundsOf_4.eq_2] at hw
    refine lv_iload_n hx hb dX0_roundsOf_4 rfl (lv_at hl 3 rfl) ?_
    refine lv_aload_n hx hb dX0_roundsOf_5 rfl (lv_at hl 0 rfl) ?_
    refine va_get (D := (dC, dI)) (ci := 0) (v := .ref (ad 7)) (C := RX0) (T := TX0) (N := 8) hx hb hts f_X0_roundsOf_1 hown hK hP 0 rfl rfl 0 (by decide) (hts _ f_X0_roundsOf_0) (fun _ h9 => h9) rfl dX0_roundsOf_6 ?_
    refine va_get (D := (dC, dI)) (ci := 1) (v := .int rn) (C := RX1) (T := TX1) (N := 11) hx hb hts f_X0_roundsOf_3 hown hK hP 6 rfl rfl 10 (by decide) (hts _ f_X0_roundsOf_2) (fun _ h9 => h9) rfl dX0_roundsOf_9 ?_
    refine lv_icmp_ge (tgt := 42) hx hb dX0_roundsOf_12 (by decide) (fun hc => ?_) (fun hc => ?_)
    · have hw := hw.1 (hc)
      exact hk42 v2 ls (lv_sub hl [0, 2] rfl) hw
    · have hw := hw.2 hc
      refine lv_aload_n hx hb dX0_roundsOf_15 rfl (lv_at hl 0 rfl) ?_
      refine va_get (D := (dC, dI)) (ci := 0) (v := .ref (ad 4)) (C := RX0) (T := TX0) (N := 8) hx hb hts f_X0_roundsOf_1 hown hK hP 0 rfl rfl 4 (by decide) (hts _ f_X0_roundsOf_4) (fun _ h9 => h9) rfl dX0_roundsOf_16 ?_
      refine lv_aload_n hx hb dX0_roundsOf_19 rfl (lv_at hl 0 rfl) ?_
      refine va_get (D := (dC, dI)) (ci := 0) (v := .ref (ad 7)) (C := RX0) (T := TX0) (N := 8) hx hb hts f_X0_roundsOf_1 hown hK hP 0 rfl rfl 0 (by decide) (hts _ f_X0_roundsOf_0) (fun _ h9 => h9) rfl dX0_roundsOf_20 ?_
      refine va_get (D := (dC, dI)) (ci := 1) (v := .ref (ad 13)) (C := RX1) (T := TX1) (N := 11) hx hb hts f_X0_roundsOf_3 hown hK hP 6 rfl rfl 7 (by decide) (hts _ f_X0_roundsOf_5) (fun _ h9 => h9) rfl dX0_roundsOf_23 ?_
      refine lv_iload_n hx hb dX0_roundsOf_26 rfl (lv_at hl 3 rfl) ?_
      have hi := hw.1
      have hw := hw.2
      refine va_iald hx hb hK hP 12 0 rfl rfl hi dX0_roundsOf_27 ?_
      have hi := hw.1
      have hw := hw.2
      refine va_iald hx hb hK hP 3 0 rfl rfl hi dX0_roundsOf_28 ?_
      refine lv_iload_n hx hb dX0_roundsOf_29 rfl (lv_at hl 1 rfl) ?_
      refine jn1_use (J := fun (j1 : Int32) => ∀ ls : Array Slot, lv_has ls 4 [(0, .ref (ad 1)), (1, .int v1), (2, .int j1), (3, .int v3)] → W p l e rm_X0_roundsOf s m args below meth c H [] 0 0 Q (F0 m 36 ls [])) hw (fun j1 hw ls hl => ?_) (fun hw hj0 => ?_)
      · refine lv_iinc (v := (v3 + (1 : Int32))) (lv' := [(3, .int (v3 + (1 : Int32))), (0, .ref (ad 1)), (1, .int v1), (2, .int j1)]) hx hb dX0_roundsOf_36 hl (k := 3) rfl rfl (by decide) rfl (fun ls hl => ?_)
        refine lv_goto (tgt := 4) hx hb dX0_roundsOf_39 (by decide) ?_
        exact ih j1 (v3 + (1 : Int32)) ls (lv_sub hl [1, 2, 3, 0] rfl) hw
      · have hj3 := hj0
        refine lv_icmp_ne (tgt := 36) hx hb dX0_roundsOf_30 (by decide) (fun hc => ?_) (fun hc => ?_)
        · have hw := hw.2 hc
          exact hj3 v2 hw ls (lv_sub hl [0, 1, 2, 3] rfl)
        · have hw := hw.1 (hc)
          refine lv_iinc (v := (v2 + (1 : Int32))) (lv' := [(2, .int (v2 + (1 : Int32))), (0, .ref (ad 1)), (1, .int v1), (3, .int v3)]) hx hb dX0_roundsOf_33 hl (k := 2) rfl rfl (by decide) rfl (fun ls hl => ?_)
          exact hj3 (v2 + (1 : Int32)) hw ls (lv_sub hl [1, 2, 0, 3] rfl)
set_option maxRecDepth 100000 in
set_option maxHeartbeats 4000000 in
theorem c_X0_roundsOf (l : Launch) (dC : Nat → ClassId) (dI : Nat → Nat → Nat) (cI cJ cZ : ClassId) (ad : Nat → Nat) (ho : Nat → Int32) (nu : Nat → Int32) (fa : Nat → Int32) (ou : Nat → Int32) (sp : Nat → Int32) (fn : Int32) (co : Nat → Int32) (fo : Nat → Int32) (ro : Nat → Int32) (po : Nat → Int32) (pn : Int32) (rd : Nat → Int32) (st : Nat → Int32) (tw : Nat → Int64) (od : Nat → Int32) (rn : Int32) (x : Nat → Int32) (y : Nat → Int32) (u : Nat → Int32) (sn : Int32) (v1 : Int32) {post : Int32 → Prop} (hw : wp_X0_roundsOf fa st rn v1 post) : Met l yX0_roundsOf wsX0_roundsOf rm_X0_roundsOf (va_Pc [.ref (ad 1), .int v1] (fun U => va_P (dC, dI) vwCl (wFac ad cI cJ cZ ho nu fa ou sp fn co fo ro po pn rd st tw od rn x y u sn) U.heap ∧ va_K (dC, dI) vwCl (tyL cI cJ cZ) U)) (vp_Si post) 0 0 (fun _ => False) := by
  unfold wp_X0_roundsOf at hw
  refine Met.ofW (cc := cX0_roundsOf) (maxL := 4) (ret := (some .int)) (by decide) rfl ?_
  intro p e s m args below meth c s₁ B hml hv
  obtain ⟨hav, hP, hK⟩ := hv
  have hx := B.exec
  have hb := B.bytes
  have hr := B.returns
  have hts := atoms_spec (ws := wsX0_roundsOf) B.pre
  have hown : s.vm.findClass RX0 = some m.cls := findClass_of_methodNamed B.named
  have hlocks := B.notSynchronized
  have C : CallFix p m c cX0_roundsOf 4 s args wsX0_roundsOf RX0 := ⟨hx, hb, hml, hown, hts⟩
  obtain ⟨ls, hE, hl⟩ := mx_entry (m := m) [.ref (ad 1), .int v1] (n := 4) (Nat.le_of_ble_eq_true rfl)
  have hl : lv_has ls 4 [(0, .ref (ad 1)), (1, .int v1)] := hl
  rw [show entryFrame m args 4 = F0 m 0 ls [] by rw [hav]; exact hE]
  obtain ⟨Q, hQ⟩ : ∃ Q, MQ below (vp_Si post) args s 0 0 (fun _ => False) = Q := ⟨_, rfl⟩
  rw [hQ]
  obtain ⟨H, hH⟩ : ∃ H, s.heap = H := ⟨_, rfl⟩
  rw [hH]
  rw [hH] at hP
  show W p l e rm_X0_roundsOf s m args below meth c H [] 0 0 Q (F0 m 0 ls [])
  refine lv_iconst (v := 0) hx hb dX0_roundsOf_0 (by decide) ?_
  refine lv_istore_n (lv' := [(2, .int (0 : Int32)), (0, .ref (ad 1)), (1, .int v1)]) hx hb dX0_roundsOf_1 rfl hl (by decide) rfl (fun ls hl => ?_)
  refine lv_iconst (v := 0) hx hb dX0_roundsOf_2 (by decide) ?_
  refine lv_istore_n (lv' := [(3, .int (0 : Int32)), (2, .int (0 : Int32)), (0, .ref (ad 1)), (1, .int v1)]) hx hb dX0_roundsOf_3 rfl hl (by decide) rfl (fun ls hl => ?_)
  obtain ⟨n5, hw⟩ := hw
  refine l_X0_roundsOf_4 C hK hP (fun w4 ls hl hw => ?_) n5 (0 : Int32) (0 : Int32) ls (lv_sub hl [2, 3, 1, 0] rfl) hw
  refine lv_iload_n hx hb dX0_roundsOf_42 rfl (lv_at hl 1 rfl) ?_
  rw [← hQ]
  exact W.iret (v := w4) hx hb hr (fun t ht hW => ⟨_, rfl, hw, ht.trans hH.symm⟩) (fun q h => by cases h) dX0_roundsOf_43
-- X0_halvesOf
abbrev rm_X0_halvesOf : Room := { frames := 0, cells := 0, slots := 0, locals := 0 }
theorem f_X0_halvesOf_0 : (Cond.fieldLink RX0 22 "PlaneFaces$Faces" "segments" "LPlaneFaces$Segments;") ∈ wsX0_halvesOf := by decide +kernel
theorem f_X0_halvesOf_1 : ∀ w ∈ wsX00, w ∈ wsX0_halvesOf := by decide +kernel
theorem f_X0_halvesOf_2 : (Cond.fieldLink RX0 73 "PlaneFaces$Segments" "used" "[Z") ∈ wsX0_halvesOf := by decide +kernel
theorem f_X0_halvesOf_3 : ∀ w ∈ wsX20, w ∈ wsX0_halvesOf := by decide +kernel
theorem f_X0_halvesOf_4 : (Cond.fieldLink RX0 30 "PlaneFaces$Faces" "faceOf" "[I") ∈ wsX0_halvesOf := by decide +kernel
set_option maxRecDepth 100000 in
set_option maxHeartbeats 4000000 in
theorem l_X0_halvesOf_4 {p : Program} {l : Launch} {e : Env} {s : State} {m : MethodId} {args : Array Value} {below : List Frame} {meth : Method} {c : Code} {Q : State → Prop} {dC : Nat → ClassId} {dI : Nat → Nat → Nat} {cI cJ cZ : ClassId} {ad : Nat → Nat} {ho : Nat → Int32} {nu : Nat → Int32} {fa : Nat → Int32} {ou : Nat → Int32} {sp : Nat → Int32} {fn : Int32} {co : Nat → Int32} {fo : Nat → Int32} {ro : Nat → Int32} {po : Nat → Int32} {pn : Int32} {rd : Nat → Int32} {st : Nat → Int32} {tw : Nat → Int64} {od : Nat → Int32} {rn : Int32} {x : Nat → Int32} {y : Nat → Int32} {u : Nat → Int32} {sn : Int32} {v1 : Int32} {K43 : Int32 → Prop} (C : CallFix p m c cX0_halvesOf 4 s args wsX0_halvesOf RX0) (hK : va_K (dC, dI) vwCl (tyL cI cJ cZ) s) {H : Heap} (hP : va_P (dC, dI) vwCl (wFac ad cI cJ cZ ho nu fa ou sp fn co fo ro po pn rd st tw od rn x y u sn) H) (hk43 : ∀ (w2 : Int32) (ls : Array Slot), lv_has ls 4 [(0, .ref (ad 1)), (2, .int w2)] → K43 w2 → W p l e rm_X0_halvesOf s m args below meth c H [] 0 0 Q (F0 m 43 ls [])) : ∀ (n : Nat) (v2 : Int32) (v3 : Int32) (ls : Array Slot), lv_has ls 4 [(0, .ref (ad 1)), (1, .int v1), (2, .int v2), (3, .int v3)] → lp_X0_halvesOf_4 fa u v1 K43 n v2 v3 → W p l e rm_X0_halvesOf s m args below meth c H [] 0 0 Q (F0 m 4 ls []) := by
  obtain ⟨hx, hb, hml, hown, hts⟩ := id C
  intro n
  induction n with
  | zero =>
    intro v2 v3 ls hl hw
    rw [lp_X0_halvesOf_4.eq_1] at hw
    exact hw.elim
  | succ n ih =>
    intro v2 v3 ls hl hw
    rw [lp_X0_halvesOf_4.eq_2] at hw
    refine lv_iload_n hx hb dX0_halvesOf_4 rfl (lv_at hl 3 rfl) ?_
    refine lv_bipush (v := 120) hx hb dX0_halvesOf_5 (by decide) ?_
    refine lv_icmp_ge (tgt := 43) hx hb dX0_halvesOf_7 (by decide) (fun hc => ?_) (fun hc => ?_)
    · have hw := hw.1 (hc)
      exact hk43 v2 ls (lv_sub hl [0, 2] rfl) hw
    · have hw := hw.2 hc
      refine lv_aload_n hx hb dX0_halvesOf_10 rfl (lv_at hl 0 rfl) ?_
      refine va_get (D := (dC, dI)) (ci := 0) (v := .ref (ad 16)) (C := RX0) (T := TX0) (N := 8) hx hb hts f_X0_halvesOf_1 hown hK hP 0 rfl rfl 1 (by decide) (hts _ f_X0_halvesOf_0) (fun _ h9 => h9) rfl dX0_halvesOf_11 ?_
      refine va_get (D := (dC, dI)) (ci := 2) (v := .ref (ad 19)) (C := RX2) (T := TX2) (N := 4) hx hb hts f_X0_halvesOf_3 hown hK hP 15 rfl rfl 2 (by decide) (hts _ f_X0_halvesOf_2) (fun _ h9 => h9) rfl dX0_halvesOf_14 ?_
      refine lv_iload_n hx hb dX0_halvesOf_17 rfl (lv_at hl 3 rfl) ?_
      refine lv_iconst (v := 1) hx hb dX0_halvesOf_18 (by decide) ?_
      refine lv_ishr hx hb dX0_halvesOf_19 ?_
      have hi := hw.1
      have hw := hw.2
      refine va_zald hx hb hK hP 18 2 rfl rfl hi dX0_halvesOf_20 ?_
      refine jn1_use (J := fun (j1 : Int32) => ∀ ls : Array Slot, lv_has ls 4 [(0, .ref (ad 1)), (1, .int v1), (2, .int j1), (3, .int v3)] → W p l e rm_X0_halvesOf s m args below meth c H [] 0 0 Q (F0 m 37 ls [])) hw (fun j1 hw ls hl => ?_) (fun hw hj0 => ?_)
      · refine lv_iinc (v := (v3 + (1 : Int32))) (lv' := [(3, .int (v3 + (1 : Int32))), (0, .ref (ad 1)), (1, .int v1), (2, .int j1)]) hx hb dX0_halvesOf_37 hl (k := 3) rfl rfl (by decide) rfl (fun ls hl => ?_)
        refine lv_goto (tgt := 4) hx hb dX0_halvesOf_40 (by decide) ?_
        exact ih j1 (v3 + (1 : Int32)) ls (lv_sub hl [1, 2, 3, 0] rfl) hw
      · have hj3 := hj0
        refine lv_if_eq (tgt := 37) hx hb dX0_halvesOf_21 (by decide) (fun hc => ?_) (fun hc => ?_)
        · have hw := hw.1 (hc)
          exact hj3 v2 hw ls (lv_sub hl [0, 1, 2, 3] rfl)
        · have hw := hw.2 hc
          refine lv_aload_n hx hb dX0_halvesOf_24 rfl (lv_at hl 0 rfl) ?_
          refine va_get (D := (dC, dI)) (ci := 0) (v := .ref (ad 4)) (C := RX0) (T := TX0) (N := 8) hx hb hts f_X0_halvesOf_1 hown hK hP 0 rfl rfl 4 (by decide) (hts _ f_X0_halvesOf_4) (fun _ h9 => h9) rfl dX0_halvesOf_25 ?_
          refine lv_iload_n hx hb dX0_halvesOf_28 rfl (lv_at hl 3 rfl) ?_
          have hi := hw.1
          have hw := hw.2
          refine va_iald hx hb hK hP 3 0 rfl rfl hi dX0_halvesOf_29 ?_
          refine lv_iload_n hx hb dX0_halvesOf_30 rfl (lv_at hl 1 rfl) ?_
          refine lv_icmp_ne (tgt := 37) hx hb dX0_halvesOf_31 (by decide) (fun hc => ?_) (fun hc => ?_)
          · have hw := hw.2 hc
            exact hj3 v2 hw ls (lv_sub hl [0, 1, 2, 3] rfl)
          · have hw := hw.1 (hc)
            refine lv_iinc (v := (v2 + (1 : Int32))) (lv' := [(2, .int (v2 + (1 : Int32))), (0, .ref (ad 1)), (1, .int v1), (3, .int v3)]) hx hb dX0_halvesOf_34 hl (k := 2) rfl rfl (by decide) rfl (fun ls hl => ?_)
            exact hj3 (v2 + (1 : Int32)) hw ls (lv_sub hl [1, 2, 0, 3] rfl)
set_option maxRecDepth 100000 in
set_option maxHeartbeats 4000000 in
theorem c_X0_halvesOf (l : Launch) (dC : Nat → ClassId) (dI : Nat → Nat → Nat) (cI cJ cZ : ClassId) (ad : Nat → Nat) (ho : Nat → Int32) (nu : Nat → Int32) (fa : Nat → Int32) (ou : Nat → Int32) (sp : Nat → Int32) (fn : Int32) (co : Nat → Int32) (fo : Nat → Int32) (ro : Nat → Int32) (po : Nat → Int32) (pn : Int32) (rd : Nat → Int32) (st : Nat → Int32) (tw : Nat → Int64) (od : Nat → Int32) (rn : Int32) (x : Nat → Int32) (y : Nat → Int32) (u : Nat → Int32) (sn : Int32) (v1 : Int32) {post : Int32 → Prop} (hw : wp_X0_halvesOf fa u v1 post) : Met l yX0_halvesOf wsX0_halvesOf rm_X0_halvesOf (va_Pc [.ref (ad 1), .int v1] (fun U => va_P (dC, dI) vwCl (wFac ad cI cJ cZ ho nu fa ou sp fn co fo ro po pn rd st tw od rn x y u sn) U.heap ∧ va_K (dC, dI) vwCl (tyL cI cJ cZ) U)) (vp_Si post) 0 0 (fun _ => False) := by
  unfold wp_X0_halvesOf at hw
  refine Met.ofW (cc := cX0_halvesOf) (maxL := 4) (ret := (some .int)) (by decide) rfl ?_
  intro p e s m args below meth c s₁ B hml hv
  obtain ⟨hav, hP, hK⟩ := hv
  have hx := B.exec
  have hb := B.bytes
  have hr := B.returns
  have hts := atoms_spec (ws := wsX0_halvesOf) B.pre
  have hown : s.vm.findClass RX0 = some m.cls := findClass_of_methodNamed B.named
  have hlocks := B.notSynchronized
  have C : CallFix p m c cX0_halvesOf 4 s args wsX0_halvesOf RX0 := ⟨hx, hb, hml, hown, hts⟩
  obtain ⟨ls, hE, hl⟩ := mx_entry (m := m) [.ref (ad 1), .int v1] (n := 4) (Nat.le_of_ble_eq_true rfl)
  have hl : lv_has ls 4 [(0, .ref (ad 1)), (1, .int v1)] := hl
  rw [show entryFrame m args 4 = F0 m 0 ls [] by rw [hav]; exact hE]
  obtain ⟨Q, hQ⟩ : ∃ Q, MQ below (vp_Si post) args s 0 0 (fun _ => False) = Q := ⟨_, rfl⟩
  rw [hQ]
  obtain ⟨H, hH⟩ : ∃ H, s.heap = H := ⟨_, rfl⟩
  rw [hH]
  rw [hH] at hP
  show W p l e rm_X0_halvesOf s m args below meth c H [] 0 0 Q (F0 m 0 ls [])
  refine lv_iconst (v := 0) hx hb dX0_halvesOf_0 (by decide) ?_
  refine lv_istore_n (lv' := [(2, .int (0 : Int32)), (0, .ref (ad 1)), (1, .int v1)]) hx hb dX0_halvesOf_1 rfl hl (by decide) rfl (fun ls hl => ?_)
  refine lv_iconst (v := 0) hx hb dX0_halvesOf_2 (by decide) ?_
  refine lv_istore_n (lv' := [(3, .int (0 : Int32)), (2, .int (0 : Int32)), (0, .ref (ad 1)), (1, .int v1)]) hx hb dX0_halvesOf_3 rfl hl (by decide) rfl (fun ls hl => ?_)
  obtain ⟨n5, hw⟩ := hw
  refine l_X0_halvesOf_4 C hK hP (fun w4 ls hl hw => ?_) n5 (0 : Int32) (0 : Int32) ls (lv_sub hl [2, 3, 1, 0] rfl) hw
  refine lv_iload_n hx hb dX0_halvesOf_43 rfl (lv_at hl 1 rfl) ?_
  rw [← hQ]
  exact W.iret (v := w4) hx hb hr (fun t ht hW => ⟨_, rfl, hw, ht.trans hH.symm⟩) (fun q h => by cases h) dX0_halvesOf_44
-- X0_leastHalfOf
abbrev rm_X0_leastHalfOf : Room := { frames := 0, cells := 0, slots := 0, locals := 0 }
theorem f_X0_leastHalfOf_0 : (Cond.fieldLink RX0 22 "PlaneFaces$Faces" "segments" "LPlaneFaces$Segments;") ∈ wsX0_leastHalfOf := by decide +kernel
theorem f_X0_leastHalfOf_1 : ∀ w ∈ wsX00, w ∈ wsX0_leastHalfOf := by decide +kernel
theorem f_X0_leastHalfOf_2 : (Cond.fieldLink RX0 73 "PlaneFaces$Segments" "used" "[Z") ∈ wsX0_leastHalfOf := by decide +kernel
theorem f_X0_leastHalfOf_3 : ∀ w ∈ wsX20, w ∈ wsX0_leastHalfOf := by decide +kernel
theorem f_X0_leastHalfOf_4 : (Cond.fieldLink RX0 30 "PlaneFaces$Faces" "faceOf" "[I") ∈ wsX0_leastHalfOf := by decide +kernel
set_option maxRecDepth 100000 in
set_option maxHeartbeats 4000000 in
theorem l_X0_leastHalfOf_2 {p : Program} {l : Launch} {e : Env} {s : State} {m : MethodId} {args : Array Value} {below : List Frame} {meth : Method} {c : Code} {Q : State → Prop} {dC : Nat → ClassId} {dI : Nat → Nat → Nat} {cI cJ cZ : ClassId} {ad : Nat → Nat} {ho : Nat → Int32} {nu : Nat → Int32} {fa : Nat → Int32} {ou : Nat → Int32} {sp : Nat → Int32} {fn : Int32} {co : Nat → Int32} {fo : Nat → Int32} {ro : Nat → Int32} {po : Nat → Int32} {pn : Int32} {rd : Nat → Int32} {st : Nat → Int32} {tw : Nat → Int64} {od : Nat → Int32} {rn : Int32} {x : Nat → Int32} {y : Nat → Int32} {u : Nat → Int32} {sn : Int32} {v1 : Int32} {K32 : Int32 → Prop} {K40 : Prop} (C : CallFix p m c cX0_leastHalfOf 3 s args wsX0_leastHalfOf RX0) (hK : va_K (dC, dI) vwCl (tyL cI cJ cZ) s) {H : Heap} (hP : va_P (dC, dI) vwCl (wFac ad cI cJ cZ ho nu fa ou sp fn co fo ro po pn rd st tw od rn x y u sn) H) (hk32 : ∀ (w2 : Int32) (ls : Array Slot), lv_has ls 3 [(0, .ref (ad 1)), (2, .int w2)] → K32 w2 → W p l e rm_X0_leastHalfOf s m args below meth c H [] 0 0 Q (F0 m 32 ls [])) (hk40 : ∀  (ls : Array Slot), lv_has ls 3 [(0, .ref (ad 1))] → K40 → W p l e rm_X0_leastHalfOf s m args below meth c H [] 0 0 Q (F0 m 40 ls [])) : ∀ (n : Nat) (v2 : Int32) (ls : Array Slot), lv_has ls 3 [(0, .ref (ad 1)), (1, .int v1), (2, .int v2)] → lp_X0_leastHalfOf_2 fa u v1 K32 K40 n v2 → W p l e rm_X0_leastHalfOf s m args below meth c H [] 0 0 Q (F0 m 2 ls []) := by
  obtain ⟨hx, hb, hml, hown, hts⟩ := id C
  intro n
  induction n with
  | zero =>
    intro v2 ls hl hw
    rw [lp_X0_leastHalfOf_2.eq_1] at hw
    exact hw.elim
  | succ n ih =>
    intro v2 ls hl hw
    rw [lp_X0_leastHalfOf_2.eq_2] at hw
    refine lv_iload_n hx hb dX0_leastHalfOf_2 rfl (lv_at hl 2 rfl) ?_
    refine lv_bipush (v := 120) hx hb dX0_leastHalfOf_3 (by decide) ?_
    refine lv_icmp_ge (tgt := 40) hx hb dX0_leastHalfOf_5 (by decide) (fun hc => ?_) (fun hc => ?_)
    · have hw := hw.1 (hc)
      exact hk40 ls (lv_sub hl [0] rfl) hw
    · have hw := hw.2 hc
      refine lv_aload_n hx hb dX0_leastHalfOf_8 rfl (lv_at hl 0 rfl) ?_
      refine va_get (D := (dC, dI)) (ci := 0) (v := .ref (ad 16)) (C := RX0) (T := TX0) (N := 8) hx hb hts f_X0_leastHalfOf_1 hown hK hP 0 rfl rfl 1 (by decide) (hts _ f_X0_leastHalfOf_0) (fun _ h9 => h9) rfl dX0_leastHalfOf_9 ?_
      refine va_get (D := (dC, dI)) (ci := 2) (v := .ref (ad 19)) (C := RX2) (T := TX2) (N := 4) hx hb hts f_X0_leastHalfOf_3 hown hK hP 15 rfl rfl 2 (by decide) (hts _ f_X0_leastHalfOf_2) (fun _ h9 => h9) rfl dX0_leastHalfOf_12 ?_
      refine lv_iload_n hx hb dX0_leastHalfOf_15 rfl (lv_at hl 2 rfl) ?_
      refine lv_iconst (v := 1) hx hb dX0_leastHalfOf_16 (by decide) ?_
      refine lv_ishr hx hb dX0_leastHalfOf_17 ?_
      have hi := hw.1
      have hw := hw.2
      refine va_zald hx hb hK hP 18 2 rfl rfl hi dX0_leastHalfOf_18 ?_
      refine jn0_use (J := ∀ ls : Array Slot, lv_has ls 3 [(0, .ref (ad 1)), (1, .int v1), (2, .int v2)] → W p l e rm_X0_leastHalfOf s m args below meth c H [] 0 0 Q (F0 m 34 ls [])) hw (fun hw ls hl => ?_) (fun hw hj0 => ?_)
      · refine lv_iinc (v := (v2 + (1 : Int32))) (lv' := [(2, .int (v2 + (1 : Int32))), (0, .ref (ad 1)), (1, .int v1)]) hx hb dX0_leastHalfOf_34 hl (k := 2) rfl rfl (by decide) rfl (fun ls hl => ?_)
        refine lv_goto (tgt := 2) hx hb dX0_leastHalfOf_37 (by decide) ?_
        exact ih (v2 + (1 : Int32)) ls (lv_sub hl [1, 2, 0] rfl) hw
      · have hj2 := hj0
        refine lv_if_eq (tgt := 34) hx hb dX0_leastHalfOf_19 (by decide) (fun hc => ?_) (fun hc => ?_)
        · have hw := hw.1 (hc)
          exact hj2 hw ls (lv_sub hl [0, 1, 2] rfl)
        · have hw := hw.2 hc
          refine lv_aload_n hx hb dX0_leastHalfOf_22 rfl (lv_at hl 0 rfl) ?_
          refine va_get (D := (dC, dI)) (ci := 0) (v := .ref (ad 4)) (C := RX0) (T := TX0) (N := 8) hx hb hts f_X0_leastHalfOf_1 hown hK hP 0 rfl rfl 4 (by decide) (hts _ f_X0_leastHalfOf_4) (fun _ h9 => h9) rfl dX0_leastHalfOf_23 ?_
          refine lv_iload_n hx hb dX0_leastHalfOf_26 rfl (lv_at hl 2 rfl) ?_
          have hi := hw.1
          have hw := hw.2
          refine va_iald hx hb hK hP 3 0 rfl rfl hi dX0_leastHalfOf_27 ?_
          refine lv_iload_n hx hb dX0_leastHalfOf_28 rfl (lv_at hl 1 rfl) ?_
          refine lv_icmp_ne (tgt := 34) hx hb dX0_leastHalfOf_29 (by decide) (fun hc => ?_) (fun hc => ?_)
          · have hw := hw.2 hc
            exact hj2 hw ls (lv_sub hl [0, 1, 2] rfl)
          · have hw := hw.1 (hc)
            exact hk32 v2 ls (lv_sub hl [0, 2] rfl) hw
set_option maxRecDepth 100000 in
set_option maxHeartbeats 4000000 in
theorem c_X0_leastHalfOf (l : Launch) (dC : Nat → ClassId) (dI : Nat → Nat → Nat) (cI cJ cZ : ClassId) (ad : Nat → Nat) (ho : Nat → Int32) (nu : Nat → Int32) (fa : Nat → Int32) (ou : Nat → Int32) (sp : Nat → Int32) (fn : Int32) (co : Nat → Int32) (fo : Nat → Int32) (ro : Nat → Int32) (po : Nat → Int32) (pn : Int32) (rd : Nat → Int32) (st : Nat → Int32) (tw : Nat → Int64) (od : Nat → Int32) (rn : Int32) (x : Nat → Int32) (y : Nat → Int32) (u : Nat → Int32) (sn : Int32) (v1 : Int32) {post : Int32 → Prop} (hw : wp_X0_leastHalfOf fa u v1 post) : Met l yX0_leastHalfOf wsX0_leastHalfOf rm_X0_leastHalfOf (va_Pc [.ref (ad 1), .int v1] (fun U => va_P (dC, dI) vwCl (wFac ad cI cJ cZ ho nu fa ou sp fn co fo ro po pn rd st tw od rn x y u sn) U.heap ∧ va_K (dC, dI) vwCl (tyL cI cJ cZ) U)) (vp_Si post) 0 0 (fun _ => False) := by
  unfold wp_X0_leastHalfOf at hw
  refine Met.ofW (cc := cX0_leastHalfOf) (maxL := 3) (ret := (some .int)) (by decide) rfl ?_
  intro p e s m args below meth c s₁ B hml hv
  obtain ⟨hav, hP, hK⟩ := hv
  have hx := B.exec
  have hb := B.bytes
  have hr := B.returns
  have hts := atoms_spec (ws := wsX0_leastHalfOf) B.pre
  have hown : s.vm.findClass RX0 = some m.cls := findClass_of_methodNamed B.named
  have hlocks := B.notSynchronized
  have C : CallFix p m c cX0_leastHalfOf 3 s args wsX0_leastHalfOf RX0 := ⟨hx, hb, hml, hown, hts⟩
  obtain ⟨ls, hE, hl⟩ := mx_entry (m := m) [.ref (ad 1), .int v1] (n := 3) (Nat.le_of_ble_eq_true rfl)
  have hl : lv_has ls 3 [(0, .ref (ad 1)), (1, .int v1)] := hl
  rw [show entryFrame m args 3 = F0 m 0 ls [] by rw [hav]; exact hE]
  obtain ⟨Q, hQ⟩ : ∃ Q, MQ below (vp_Si post) args s 0 0 (fun _ => False) = Q := ⟨_, rfl⟩
  rw [hQ]
  obtain ⟨H, hH⟩ : ∃ H, s.heap = H := ⟨_, rfl⟩
  rw [hH]
  rw [hH] at hP
  show W p l e rm_X0_leastHalfOf s m args below meth c H [] 0 0 Q (F0 m 0 ls [])
  refine lv_iconst (v := 0) hx hb dX0_leastHalfOf_0 (by decide) ?_
  refine lv_istore_n (lv' := [(2, .int (0 : Int32)), (0, .ref (ad 1)), (1, .int v1)]) hx hb dX0_leastHalfOf_1 rfl hl (by decide) rfl (fun ls hl => ?_)
  obtain ⟨n4, hw⟩ := hw
  refine l_X0_leastHalfOf_2 C hK hP (fun w3 ls hl hw => ?_) (fun ls hl hw => ?_) n4 (0 : Int32) ls (lv_sub hl [1, 2, 0] rfl) hw
  · refine lv_iload_n hx hb dX0_leastHalfOf_32 rfl (lv_at hl 1 rfl) ?_
    rw [← hQ]
    exact W.iret (v := w3) hx hb hr (fun t ht hW => ⟨_, rfl, hw, ht.trans hH.symm⟩) (fun q h => by cases h) dX0_leastHalfOf_33
  · refine lv_iconst (v := -1) hx hb dX0_leastHalfOf_40 (by decide) ?_
    rw [← hQ]
    exact W.iret (v := (-1 : Int32)) hx hb hr (fun t ht hW => ⟨_, rfl, hw, ht.trans hH.symm⟩) (fun q h => by cases h) dX0_leastHalfOf_41
-- X0_piecesIn
abbrev rm_X0_piecesIn : Room := { frames := 0, cells := 0, slots := 0, locals := 0 }
theorem f_X0_piecesIn_0 : (Cond.fieldLink RX0 12 "PlaneFaces$Faces" "rounds" "LPlaneFaces$Rounds;") ∈ wsX0_piecesIn := by decide +kernel
theorem f_X0_piecesIn_1 : ∀ w ∈ wsX00, w ∈ wsX0_piecesIn := by decide +kernel
theorem f_X0_piecesIn_2 : (Cond.fieldLink RX0 83 "PlaneFaces$Rounds" "pieces" "I") ∈ wsX0_piecesIn := by decide +kernel
theorem f_X0_piecesIn_3 : ∀ w ∈ wsX10, w ∈ wsX0_piecesIn := by decide +kernel
theorem f_X0_piecesIn_4 : (Cond.fieldLink RX0 33 "PlaneFaces$Faces" "outside" "[I") ∈ wsX0_piecesIn := by decide +kernel
set_option maxRecDepth 100000 in
set_option maxHeartbeats 4000000 in
theorem l_X0_piecesIn_4 {p : Program} {l : Launch} {e : Env} {s : State} {m : MethodId} {args : Array Value} {below : List Frame} {meth : Method} {c : Code} {Q : State → Prop} {dC : Nat → ClassId} {dI : Nat → Nat → Nat} {cI cJ cZ : ClassId} {ad : Nat → Nat} {ho : Nat → Int32} {nu : Nat → Int32} {fa : Nat → Int32} {ou : Nat → Int32} {sp : Nat → Int32} {fn : Int32} {co : Nat → Int32} {fo : Nat → Int32} {ro : Nat → Int32} {po : Nat → Int32} {pn : Int32} {rd : Nat → Int32} {st : Nat → Int32} {tw : Nat → Int64} {od : Nat → Int32} {rn : Int32} {x : Nat → Int32} {y : Nat → Int32} {u : Nat → Int32} {sn : Int32} {v1 : Int32} {K34 : Int32 → Prop} (C : CallFix p m c cX0_piecesIn 4 s args wsX0_piecesIn RX0) (hK : va_K (dC, dI) vwCl (tyL cI cJ cZ) s) {H : Heap} (hP : va_P (dC, dI) vwCl (wFac ad cI cJ cZ ho nu fa ou sp fn co fo ro po pn rd st tw od rn x y u sn) H) (hk34 : ∀ (w2 : Int32) (ls : Array Slot), lv_has ls 4 [(0, .ref (ad 1)), (2, .int w2)] → K34 w2 → W p l e rm_X0_piecesIn s m args below meth c H [] 0 0 Q (F0 m 34 ls [])) : ∀ (n : Nat) (v2 : Int32) (v3 : Int32) (ls : Array Slot), lv_has ls 4 [(0, .ref (ad 1)), (1, .int v1), (2, .int v2), (3, .int v3)] → lp_X0_piecesIn_4 ou pn v1 K34 n v2 v3 → W p l e rm_X0_piecesIn s m args below meth c H [] 0 0 Q (F0 m 4 ls []) := by
  obtain ⟨hx, hb, hml, hown, hts⟩ := id C
  intro n
  induction n with
  | zero =>
    intro v2 v3 ls hl hw
    rw [lp_X0_piecesIn_4.eq_1] at hw
    exact hw.elim
  | succ n ih =>
    intro v2 v3 ls hl hw
    rw [lp_X0_piecesIn_4.eq_2] at hw
    refine lv_iload_n hx hb dX0_piecesIn_4 rfl (lv_at hl 3 rfl) ?_
    refine lv_aload_n hx hb dX0_piecesIn_5 rfl (lv_at hl 0 rfl) ?_
    refine va_get (D := (dC, dI)) (ci := 0) (v := .ref (ad 7)) (C := RX0) (T := TX0) (N := 8) hx hb hts f_X0_piecesIn_1 hown hK hP 0 rfl rfl 0 (by decide) (hts _ f_X0_piecesIn_0) (fun _ h9 => h9) rfl dX0_piecesIn_6 ?_
    refine va_get (D := (dC, dI)) (ci := 1) (v := .int pn) (C := RX1) (T := TX1) (N := 11) hx hb hts f_X0_piecesIn_3 hown hK hP 6 rfl rfl 5 (by decide) (hts _ f_X0_piecesIn_2) (fun _ h9 => h9) rfl dX0_piecesIn_9 ?_
    refine lv_icmp_ge (tgt := 34) hx hb dX0_piecesIn_12 (by decide) (fun hc => ?_) (fun hc => ?_)
    · have hw := hw.1 (hc)
      exact hk34 v2 ls (lv_sub hl [0, 2] rfl) hw
    · have hw := hw.2 hc
      refine lv_aload_n hx hb dX0_piecesIn_15 rfl (lv_at hl 0 rfl) ?_
      refine va_get (D := (dC, dI)) (ci := 0) (v := .ref (ad 5)) (C := RX0) (T := TX0) (N := 8) hx hb hts f_X0_piecesIn_1 hown hK hP 0 rfl rfl 5 (by decide) (hts _ f_X0_piecesIn_4) (fun _ h9 => h9) rfl dX0_piecesIn_16 ?_
      refine lv_iload_n hx hb dX0_piecesIn_19 rfl (lv_at hl 3 rfl) ?_
      have hi := hw.1
      have hw := hw.2
      refine va_iald hx hb hK hP 4 0 rfl rfl hi dX0_piecesIn_20 ?_
      refine lv_iload_n hx hb dX0_piecesIn_21 rfl (lv_at hl 1 rfl) ?_
      refine jn1_use (J := fun (j1 : Int32) => ∀ ls : Array Slot, lv_has ls 4 [(0, .ref (ad 1)), (1, .int v1), (2, .int j1), (3, .int v3)] → W p l e rm_X0_piecesIn s m args below meth c H [] 0 0 Q (F0 m 28 ls [])) hw (fun j1 hw ls hl => ?_) (fun hw hj0 => ?_)
      · refine lv_iinc (v := (v3 + (1 : Int32))) (lv' := [(3, .int (v3 + (1 : Int32))), (0, .ref (ad 1)), (1, .int v1), (2, .int j1)]) hx hb dX0_piecesIn_28 hl (k := 3) rfl rfl (by decide) rfl (fun ls hl => ?_)
        refine lv_goto (tgt := 4) hx hb dX0_piecesIn_31 (by decide) ?_
        exact ih j1 (v3 + (1 : Int32)) ls (lv_sub hl [1, 2, 3, 0] rfl) hw
      · have hj3 := hj0
        refine lv_icmp_ne (tgt := 28) hx hb dX0_piecesIn_22 (by decide) (fun hc => ?_) (fun hc => ?_)
        · have hw := hw.2 hc
          exact hj3 v2 hw ls (lv_sub hl [0, 1, 2, 3] rfl)
        · have hw := hw.1 (hc)
          refine lv_iinc (v := (v2 + (1 : Int32))) (lv' := [(2, .int (v2 + (1 : Int32))), (0, .ref (ad 1)), (1, .int v1), (3, .int v3)]) hx hb dX0_piecesIn_25 hl (k := 2) rfl rfl (by decide) rfl (fun ls hl => ?_)
          exact hj3 (v2 + (1 : Int32)) hw ls (lv_sub hl [1, 2, 0, 3] rfl)
set_option maxRecDepth 100000 in
set_option maxHeartbeats 4000000 in
theorem c_X0_piecesIn (l : Launch) (dC : Nat → ClassId) (dI : Nat → Nat → Nat) (cI cJ cZ : ClassId) (ad : Nat → Nat) (ho : Nat → Int32) (nu : Nat → Int32) (fa : Nat → Int32) (ou : Nat → Int32) (sp : Nat → Int32) (fn : Int32) (co : Nat → Int32) (fo : Nat → Int32) (ro : Nat → Int32) (po : Nat → Int32) (pn : Int32) (rd : Nat → Int32) (st : Nat → Int32) (tw : Nat → Int64) (od : Nat → Int32) (rn : Int32) (x : Nat → Int32) (y : Nat → Int32) (u : Nat → Int32) (sn : Int32) (v1 : Int32) {post : Int32 → Prop} (hw : wp_X0_piecesIn ou pn v1 post) : Met l yX0_piecesIn wsX0_piecesIn rm_X0_piecesIn (va_Pc [.ref (ad 1), .int v1] (fun U => va_P (dC, dI) vwCl (wFac ad cI cJ cZ ho nu fa ou sp fn co fo ro po pn rd st tw od rn x y u sn) U.heap ∧ va_K (dC, dI) vwCl (tyL cI cJ cZ) U)) (vp_Si post) 0 0 (fun _ => False) := by
  unfold wp_X0_piecesIn at hw
  refine Met.ofW (cc := cX0_piecesIn) (maxL := 4) (ret := (some .int)) (by decide) rfl ?_
  intro p e s m args below meth c s₁ B hml hv
  obtain ⟨hav, hP, hK⟩ := hv
  have hx := B.exec
  have hb := B.bytes
  have hr := B.returns
  have hts := atoms_spec (ws := wsX0_piecesIn) B.pre
  have hown : s.vm.findClass RX0 = some m.cls := findClass_of_methodNamed B.named
  have hlocks := B.notSynchronized
  have C : CallFix p m c cX0_piecesIn 4 s args wsX0_piecesIn RX0 := ⟨hx, hb, hml, hown, hts⟩
  obtain ⟨ls, hE, hl⟩ := mx_entry (m := m) [.ref (ad 1), .int v1] (n := 4) (Nat.le_of_ble_eq_true rfl)
  have hl : lv_has ls 4 [(0, .ref (ad 1)), (1, .int v1)] := hl
  rw [show entryFrame m args 4 = F0 m 0 ls [] by rw [hav]; exact hE]
  obtain ⟨Q, hQ⟩ : ∃ Q, MQ below (vp_Si post) args s 0 0 (fun _ => False) = Q := ⟨_, rfl⟩
  rw [hQ]
  obtain ⟨H, hH⟩ : ∃ H, s.heap = H := ⟨_, rfl⟩
  rw [hH]
  rw [hH] at hP
  show W p l e rm_X0_piecesIn s m args below meth c H [] 0 0 Q (F0 m 0 ls [])
  refine lv_iconst (v := 0) hx hb dX0_piecesIn_0 (by decide) ?_
  refine lv_istore_n (lv' := [(2, .int (0 : Int32)), (0, .ref (ad 1)), (1, .int v1)]) hx hb dX0_piecesIn_1 rfl hl (by decide) rfl (fun ls hl => ?_)
  refine lv_iconst (v := 0) hx hb dX0_piecesIn_2 (by decide) ?_
  refine lv_istore_n (lv' := [(3, .int (0 : Int32)), (2, .int (0 : Int32)), (0, .ref (ad 1)), (1, .int v1)]) hx hb dX0_piecesIn_3 rfl hl (by decide) rfl (fun ls hl => ?_)
  obtain ⟨n5, hw⟩ := hw
  refine l_X0_piecesIn_4 C hK hP (fun w4 ls hl hw => ?_) n5 (0 : Int32) (0 : Int32) ls (lv_sub hl [2, 3, 1, 0] rfl) hw
  refine lv_iload_n hx hb dX0_piecesIn_34 rfl (lv_at hl 1 rfl) ?_
  rw [← hQ]
  exact W.iret (v := w4) hx hb hr (fun t ht hW => ⟨_, rfl, hw, ht.trans hH.symm⟩) (fun q h => by cases h) dX0_piecesIn_35
-- X0_cross
abbrev rm_X0_cross : Room := { frames := 0, cells := 0, slots := 0, locals := 0 }
theorem f_X0_cross_0 : (Cond.fieldLink RX0 36 "PlaneFaces$Faces" "steps" "[I") ∈ wsX0_cross := by decide +kernel
theorem f_X0_cross_1 : ∀ w ∈ wsX00, w ∈ wsX0_cross := by decide +kernel
set_option maxRecDepth 100000 in
set_option maxHeartbeats 4000000 in
theorem c_X0_cross (l : Launch) (dC : Nat → ClassId) (dI : Nat → Nat → Nat) (cI cJ cZ : ClassId) (ad : Nat → Nat) (sz : Nat) (ho : Nat → Int32) (nu : Nat → Int32) (fa : Nat → Int32) (ou : Nat → Int32) (sp : Nat → Int32) (fn : Int32) (co : Nat → Int32) (fo : Nat → Int32) (ro : Nat → Int32) (po : Nat → Int32) (pn : Int32) (rd : Nat → Int32) (st : Nat → Int32) (tw : Nat → Int64) (od : Nat → Int32) (rn : Int32) (x : Nat → Int32) (y : Nat → Int32) (u : Nat → Int32) (sn : Int32) (v1 : Int32) (v2 : Int32) (v3 : Int32) {post : (Nat → Int32) → Prop} (hw : wp_X0_cross sp v1 v2 v3 post) : Met l yX0_cross wsX0_cross rm_X0_cross (va_Pc [.ref (ad 1), .int v1, .int v2, .int v3] (fun U => U.heap.size = sz ∧ va_P (dC, dI) vwCl (wFac ad cI cJ cZ ho nu fa ou sp fn co fo ro po pn rd st tw od rn x y u sn) U.heap ∧ va_K (dC, dI) vwCl (tyL cI cJ cZ) U ∧ va_D (fun _ => True) (wFac ad cI cJ cZ ho nu fa ou sp fn co fo ro po pn rd st tw od rn x y u sn))) (va_Qv (fun uu : (Nat → Int32) => post uu) (fun (uu : (Nat → Int32)) (t : State) => va_P (dC, dI) vwCl (wFac ad cI cJ cZ ho nu fa ou uu fn co fo ro po pn rd st tw od rn x y u sn) t.heap ∧ va_D (va_A (wFac ad cI cJ cZ ho nu fa ou sp fn co fo ro po pn rd st tw od rn x y u sn) sz) (wFac ad cI cJ cZ ho nu fa ou uu fn co fo ro po pn rd st tw od rn x y u sn)) (va_A (wFac ad cI cJ cZ ho nu fa ou sp fn co fo ro po pn rd st tw od rn x y u sn) sz)) 0 0 (va_A (wFac ad cI cJ cZ ho nu fa ou sp fn co fo ro po pn rd st tw od rn x y u sn) sz) := by
  unfold wp_X0_cross at hw
  refine Met.ofW (cc := cX0_cross) (maxL := 4) (ret := none) (by decide) rfl ?_
  intro p e s m args below meth c s₁ B hml hv
  obtain ⟨hav, hsz, hP, hK, hD0⟩ := hv
  have hx := B.exec
  have hb := B.bytes
  have hr := B.returns
  have hts := atoms_spec (ws := wsX0_cross) B.pre
  have hown : s.vm.findClass RX0 = some m.cls := findClass_of_methodNamed B.named
  have hlocks := B.notSynchronized
  have C : CallFix p m c cX0_cross 4 s args wsX0_cross RX0 := ⟨hx, hb, hml, hown, hts⟩
  obtain ⟨ls, hE, hl⟩ := mx_entry (m := m) [.ref (ad 1), .int v1, .int v2, .int v3] (n := 4) (Nat.le_of_ble_eq_true rfl)
  have hl : lv_has ls 4 [(0, .ref (ad 1)), (1, .int v1), (2, .int v2), (3, .int v3)] := hl
  rw [show entryFrame m args 4 = F0 m 0 ls [] by rw [hav]; exact hE]
  subst hsz
  have hD := hD0.self (sz := s.heap.size)
  generalize hAe : va_A (wFac ad cI cJ cZ ho nu fa ou sp fn co fo ro po pn rd st tw od rn x y u sn) s.heap.size = A at hD ⊢
  have hA : ∀ q : Nat, s.heap.size ≤ q → A q := fun q h => by rw [← hAe]; exact Or.inr h
  have hS : va_S A s.heap s.heap [] := va_S.rf
  obtain ⟨Q, hQ⟩ : ∃ Q, MQ below (va_Qv (fun uu : (Nat → Int32) => post uu) (fun (uu : (Nat → Int32)) (t : State) => va_P (dC, dI) vwCl (wFac ad cI cJ cZ ho nu fa ou uu fn co fo ro po pn rd st tw od rn x y u sn) t.heap ∧ va_D A (wFac ad cI cJ cZ ho nu fa ou uu fn co fo ro po pn rd st tw od rn x y u sn)) A) args s 0 0 A = Q := ⟨_, rfl⟩
  rw [hQ]
  obtain ⟨H, hH⟩ : ∃ H, s.heap = H := ⟨_, rfl⟩
  have hS : va_S A s.heap H [] := by rw [← hH]; exact hS
  rw [hH] at hP
  show W p l e rm_X0_cross s m args below meth c s.heap [] 0 0 Q (F0 m 0 ls [])
  suffices hg : W p l e rm_X0_cross s m args below meth c H [] 0 0 Q (F0 m 0 ls []) by rw [hH]; exact hg
  clear hH
  generalize hlo : ([] : List Loc) = locs at hS ⊢
  refine lv_aload_n hx hb dX0_cross_0 rfl (lv_at hl 0 rfl) ?_
  refine va_get (D := (dC, dI)) (ci := 0) (v := .ref (ad 6)) (C := RX0) (T := TX0) (N := 8) hx hb hts f_X0_cross_1 hown hK hP 0 rfl rfl 6 (by decide) (hts _ f_X0_cross_0) (fun _ h9 => h9) rfl dX0_cross_1 ?_
  refine lv_iload_n hx hb dX0_cross_4 rfl (lv_at hl 1 rfl) ?_
  have hi := hw.1
  have hw := hw.2
  refine va_iald hx hb hK hP 5 0 rfl rfl hi dX0_cross_5 ?_
  refine lv_iload_n hx hb dX0_cross_6 rfl (lv_at hl 3 rfl) ?_
  refine jn1_use (J := fun (sp_1 : Nat → Int32) => ∀ (ls : Array Slot) (H : Heap) (locs : List Loc), lv_has ls 4 [(0, .ref (ad 1))] → va_P (dC, dI) vwCl (wFac ad cI cJ cZ ho nu fa ou sp_1 fn co fo ro po pn rd st tw od rn x y u sn) H → va_D A (wFac ad cI cJ cZ ho nu fa ou sp_1 fn co fo ro po pn rd st tw od rn x y u sn) → va_S A s.heap H locs → W p l e rm_X0_cross s m args below meth c H locs 0 0 Q (F0 m 29 ls [])) hw (fun sp_1 hw ls H locs hl hP hD hS => ?_) (fun hw hj0 => ?_)
  · rw [← hQ]
    exact W.vret hx hb hr (fun t ht hW => ⟨⟨sp_1, rfl, hw, by rw [ht]; exact hP, hD⟩, hS.F ht⟩) hS.2.2 dX0_cross_29
  · have hj3 := hj0
    refine lv_icmp_ne (tgt := 29) hx hb dX0_cross_7 (by decide) (fun hc => ?_) (fun hc => ?_)
    · have hw := hw.2 hc
      exact hj3 sp hw ls _ _ (lv_sub hl [0] rfl) hP hD hS
    · have hw := hw.1 (hc)
      refine lv_aload_n hx hb dX0_cross_10 rfl (lv_at hl 0 rfl) ?_
      refine va_get (D := (dC, dI)) (ci := 0) (v := .ref (ad 6)) (C := RX0) (T := TX0) (N := 8) hx hb hts f_X0_cross_1 hown hK hP 0 rfl rfl 6 (by decide) (hts _ f_X0_cross_0) (fun _ h9 => h9) rfl dX0_cross_11 ?_
      refine lv_iload_n hx hb dX0_cross_14 rfl (lv_at hl 2 rfl) ?_
      have hi := hw.1
      have hw := hw.2
      refine va_iald hx hb hK hP 5 0 rfl rfl hi dX0_cross_15 ?_
      refine lv_iconst (v := -1) hx hb dX0_cross_16 (by decide) ?_
      refine lv_icmp_ne (tgt := 29) hx hb dX0_cross_17 (by decide) (fun hc => ?_) (fun hc => ?_)
      · have hw := hw.2 hc
        exact hj3 sp hw ls _ _ (lv_sub hl [0] rfl) hP hD hS
      · have hw := hw.1 (hc)
        refine lv_aload_n hx hb dX0_cross_20 rfl (lv_at hl 0 rfl) ?_
        refine va_get (D := (dC, dI)) (ci := 0) (v := .ref (ad 6)) (C := RX0) (T := TX0) (N := 8) hx hb hts f_X0_cross_1 hown hK hP 0 rfl rfl 6 (by decide) (hts _ f_X0_cross_0) (fun _ h9 => h9) rfl dX0_cross_21 ?_
        refine lv_iload_n hx hb dX0_cross_24 rfl (lv_at hl 2 rfl) ?_
        refine lv_iload_n hx hb dX0_cross_25 rfl (lv_at hl 3 rfl) ?_
        refine lv_iconst (v := 1) hx hb dX0_cross_26 (by decide) ?_
        refine lv_iadd hx hb dX0_cross_27 ?_
        have hi := hw.1
        have hw := hw.2 _ rfl
        refine va_iast hx hb hK hP hD hS 5 0 rfl rfl hi dX0_cross_28 (fun H locs hP hD hS => ?_)
        generalize hsp_4 : (upd sp v2.toNatClampNeg (v3 + (1 : Int32))) = sp_4 at hw hP hD
        have hP : va_P (dC, dI) vwCl (wFac ad cI cJ cZ ho nu fa ou sp_4 fn co fo ro po pn rd st tw od rn x y u sn) H := hP
        have hD : va_D A (wFac ad cI cJ cZ ho nu fa ou sp_4 fn co fo ro po pn rd st tw od rn x y u sn) := hD
        exact hj3 sp_4 hw ls _ _ (lv_sub hl [0] rfl) hP hD hS
-- X0_crossings
abbrev rm_X0_crossings : Room := { frames := 1, cells := 0, slots := 0, locals := 23 }
theorem f_X0_crossings_0 : (Cond.fieldLink RX0 36 "PlaneFaces$Faces" "steps" "[I") ∈ wsX0_crossings := by decide +kernel
theorem f_X0_crossings_1 : ∀ w ∈ wsX00, w ∈ wsX0_crossings := by decide +kernel
theorem f_X0_crossings_2 : (Cond.fieldLink RX0 39 "PlaneFaces$Faces" "size" "I") ∈ wsX0_crossings := by decide +kernel
theorem f_X0_crossings_3 : (Cond.fieldLink RX0 22 "PlaneFaces$Faces" "segments" "LPlaneFaces$Segments;") ∈ wsX0_crossings := by decide +kernel
theorem f_X0_crossings_4 : (Cond.fieldLink RX0 73 "PlaneFaces$Segments" "used" "[Z") ∈ wsX0_crossings := by decide +kernel
theorem f_X0_crossings_5 : ∀ w ∈ wsX20, w ∈ wsX0_crossings := by decide +kernel
theorem f_X0_crossings_6 : (Cond.fieldLink RX0 30 "PlaneFaces$Faces" "faceOf" "[I") ∈ wsX0_crossings := by decide +kernel
set_option maxRecDepth 100000 in
set_option maxHeartbeats 4000000 in
theorem l_X0_crossings_38 {p : Program} {l : Launch} {e : Env} {s : State} {m : MethodId} {args : Array Value} {below : List Frame} {meth : Method} {c : Code} {Q : State → Prop} {dC : Nat → ClassId} {dI : Nat → Nat → Nat} {cI cJ cZ : ClassId} {ad : Nat → Nat} {ho : Nat → Int32} {nu : Nat → Int32} {fa : Nat → Int32} {ou : Nat → Int32} {fn : Int32} {co : Nat → Int32} {fo : Nat → Int32} {ro : Nat → Int32} {po : Nat → Int32} {pn : Int32} {rd : Nat → Int32} {st : Nat → Int32} {tw : Nat → Int64} {od : Nat → Int32} {rn : Int32} {x : Nat → Int32} {y : Nat → Int32} {u : Nat → Int32} {sn : Int32} {v2 : Int32} {v3 : Int32} {K114 : (Nat → Int32) → Prop} (C : CallFix p m c cX0_crossings 5 s args wsX0_crossings RX0) (hK : va_K (dC, dI) vwCl (tyL cI cJ cZ) s) {A : Nat → Prop} (hA : ∀ q : Nat, s.heap.size ≤ q → A q) (hk114 : ∀ (sp_w : Nat → Int32) (ls : Array Slot) (H : Heap) (locs : List Loc), lv_has ls 5 [(0, .ref (ad 1)), (2, .int v2), (3, .int v3)] → va_P (dC, dI) vwCl (wFac ad cI cJ cZ ho nu fa ou sp_w fn co fo ro po pn rd st tw od rn x y u sn) H → va_D A (wFac ad cI cJ cZ ho nu fa ou sp_w fn co fo ro po pn rd st tw od rn x y u sn) → va_S A s.heap H locs → K114 sp_w → W p l e rm_X0_crossings s m args below meth c H locs 0 0 Q (F0 m 114 ls [])) : ∀ (n : Nat) (sp : Nat → Int32) (v4 : Int32) (ls : Array Slot) (H : Heap) (locs : List Loc), lv_has ls 5 [(0, .ref (ad 1)), (2, .int v2), (3, .int v3), (4, .int v4)] → va_P (dC, dI) vwCl (wFac ad cI cJ cZ ho nu fa ou sp fn co fo ro po pn rd st tw od rn x y u sn) H → va_D A (wFac ad cI cJ cZ ho nu fa ou sp fn co fo ro po pn rd st tw od rn x y u sn) → va_S A s.heap H locs → lp_X0_crossings_38 fa fn u v2 v3 K114 n sp v4 → W p l e rm_X0_crossings s m args below meth c H locs 0 0 Q (F0 m 38 ls []) := by
  obtain ⟨hx, hb, hml, hown, hts⟩ := id C
  intro n
  induction n with
  | zero =>
    intro sp v4 ls H locs hl hP hD hS hw
    rw [lp_X0_crossings_38.eq_1] at hw
    exact hw.elim
  | succ n ih =>
    intro sp v4 ls H locs hl hP hD hS hw
    rw [lp_X0_crossings_38.eq_2] at hw
    refine lv_iload hx hb dX0_crossings_38 (lv_at hl 3 rfl) ?_
    refine lv_bipush (v := 60) hx hb dX0_crossings_40 (by decide) ?_
    refine lv_icmp_ge (tgt := 114) hx hb dX0_crossings_42 (by decide) (fun hc => ?_) (fun hc => ?_)
    · have hw := hw.1 (hc)
      exact hk114 sp ls _ _ (lv_sub hl [0, 1, 2] rfl) hP hD hS hw
    · have hw := hw.2 hc
      refine lv_aload_n hx hb dX0_crossings_45 rfl (lv_at hl 0 rfl) ?_
      refine va_get (D := (dC, dI)) (ci := 0) (v := .ref (ad 16)) (C := RX0) (T := TX0) (N := 8) hx hb hts f_X0_crossings_1 hown hK hP 0 rfl rfl 1 (by decide) (hts _ f_X0_crossings_3) (fun _ h9 => h9) rfl dX0_crossings_46 ?_
      refine va_get (D := (dC, dI)) (ci := 2) (v := .ref (ad 19)) (C := RX2) (T := TX2) (N := 4) hx hb hts f_X0_crossings_5 hown hK hP 15 rfl rfl 2 (by decide) (hts _ f_X0_crossings_4) (fun _ h9 => h9) rfl dX0_crossings_49 ?_
      refine lv_iload hx hb dX0_crossings_52 (lv_at hl 3 rfl) ?_
      have hi := hw.1
      have hw := hw.2
      refine va_zald hx hb hK hP 18 2 rfl rfl hi dX0_crossings_54 ?_
      refine jn1_use (J := fun (sp_3 : Nat → Int32) => ∀ (ls : Array Slot) (H : Heap) (locs : List Loc), lv_has ls 5 [(0, .ref (ad 1)), (2, .int v2), (3, .int v3), (4, .int v4)] → va_P (dC, dI) vwCl (wFac ad cI cJ cZ ho nu fa ou sp_3 fn co fo ro po pn rd st tw od rn x y u sn) H → va_D A (wFac ad cI cJ cZ ho nu fa ou sp_3 fn co fo ro po pn rd st tw od rn x y u sn) → va_S A s.heap H locs → W p l e rm_X0_crossings s m args below meth c H locs 0 0 Q (F0 m 108 ls [])) hw (fun sp_3 hw ls H locs hl hP hD hS => ?_) (fun hw hj0 => ?_)
      · refine lv_iinc (v := (v4 + (1 : Int32))) (lv' := [(4, .int (v4 + (1 : Int32))), (0, .ref (ad 1)), (2, .int v2), (3, .int v3)]) hx hb dX0_crossings_108 hl (k := 3) rfl rfl (by decide) rfl (fun ls hl => ?_)
        refine lv_goto (tgt := 38) hx hb dX0_crossings_111 (by decide) ?_
        exact ih sp_3 (v4 + (1 : Int32)) ls _ _ (lv_sub hl [1, 2, 3, 0] rfl) hP hD hS hw
      · have hj5 := hj0
        refine lv_if_eq (tgt := 108) hx hb dX0_crossings_55 (by decide) (fun hc => ?_) (fun hc => ?_)
        · have hw := hw.1 (hc)
          exact hj5 sp hw ls _ _ (lv_sub hl [0, 1, 2, 3] rfl) hP hD hS
        · have hw := hw.2 hc
          refine lv_aload_n hx hb dX0_crossings_58 rfl (lv_at hl 0 rfl) ?_
          refine lv_aload_n hx hb dX0_crossings_59 rfl (lv_at hl 0 rfl) ?_
          refine va_get (D := (dC, dI)) (ci := 0) (v := .ref (ad 4)) (C := RX0) (T := TX0) (N := 8) hx hb hts f_X0_crossings_1 hown hK hP 0 rfl rfl 4 (by decide) (hts _ f_X0_crossings_6) (fun _ h9 => h9) rfl dX0_crossings_60 ?_
          refine lv_iconst (v := 2) hx hb dX0_crossings_63 (by decide) ?_
          refine lv_iload hx hb dX0_crossings_64 (lv_at hl 3 rfl) ?_
          refine lv_imul hx hb dX0_crossings_66 ?_
          have hi := hw.1
          have hw := hw.2
          refine va_iald hx hb hK hP 3 0 rfl rfl hi dX0_crossings_67 ?_
          refine lv_aload_n hx hb dX0_crossings_68 rfl (lv_at hl 0 rfl) ?_
          refine va_get (D := (dC, dI)) (ci := 0) (v := .ref (ad 4)) (C := RX0) (T := TX0) (N := 8) hx hb hts f_X0_crossings_1 hown hK hP 0 rfl rfl 4 (by decide) (hts _ f_X0_crossings_6) (fun _ h9 => h9) rfl dX0_crossings_69 ?_
          refine lv_iconst (v := 2) hx hb dX0_crossings_72 (by decide) ?_
          refine lv_iload hx hb dX0_crossings_73 (lv_at hl 3 rfl) ?_
          refine lv_imul hx hb dX0_crossings_75 ?_
          refine lv_iconst (v := 1) hx hb dX0_crossings_76 (by decide) ?_
          refine lv_iadd hx hb dX0_crossings_77 ?_
          have hi := hw.1
          have hw := hw.2
          refine va_iald hx hb hK hP 3 0 rfl rfl hi dX0_crossings_78 ?_
          refine lv_iload_n hx hb dX0_crossings_79 rfl (lv_at hl 2 rfl) ?_
          have hPc := hP.sub (ws' := (wFac ad cI cJ cZ ho nu fa ou sp fn co fo ro po pn rd st tw od rn x y u sn)) [0, 1, 2, 3, 4, 5, 6, 7, 8, 9, 10, 11, 12, 13, 14, 15, 16, 17, 18] rfl
          have hDc := hD.sub (ws' := (wFac ad cI cJ cZ ho nu fa ou sp fn co fo ro po pn rd st tw od rn x y u sn)) [0, 1, 2, 3, 4, 5, 6, 7, 8, 9, 10, 11, 12, 13, 14, 15, 16, 17, 18] (by decide) rfl
          have hFc := va_free (wc := (wFac ad cI cJ cZ ho nu fa ou sp fn co fo ro po pn rd st tw od rn x y u sn)) hD hS hA [0, 1, 2, 3, 4, 5, 6, 7, 8, 9, 10, 11, 12, 13, 14, 15, 16, 17, 18] rfl
          refine va_callv (va_runV (As := [.int (fa ((2 : Int32) * v4).toNatClampNeg), .int (fa (((2 : Int32) * v4) + (1 : Int32)).toNatClampNeg), .int v3]) (rest := []) C (c_X0_cross l dC dI cI cJ cZ ad _ ho nu fa ou sp fn co fo ro po pn rd st tw od rn x y u sn (fa ((2 : Int32) * v4).toNatClampNeg) (fa (((2 : Int32) * v4) + (1 : Int32)).toNatClampNeg) v3 hw) (cwV 3 hts gX0_crossings_X0_cross rfl rfl rfl (by decide +kernel) ⟨Nat.le_of_ble_eq_true rfl, Nat.le_of_ble_eq_true rfl⟩) ⟨fb_rw, va_recv hK hPc (ci := 0) (q0 := 0) rfl rfl, fun U hU hW => ⟨rfl, by rw [hU], by rw [hU]; exact hPc, va_K.moved hW.alike hK, hDc.weaken (fun _ _ _ _ => trivial)⟩⟩ rfl rfl hl.1 rfl (lv_room (Nat.le_of_ble_eq_true rfl)) dX0_crossings_80 ⟨Nat.zero_le _, Nat.zero_le _⟩) hS (fun q _ h => hFc q h) hFc (fun uu t H1 locs ht hvm hw hB hz1 hk1 hS => ?_)
          obtain ⟨sp_6, rfl⟩ : ∃ z, z = uu := ⟨_, rfl⟩
          obtain ⟨hP1, hD1⟩ := hB
          rw [ht] at hP1
          try dsimp only at hw hP1 hD1
          obtain ⟨hP, hD⟩ := va_join (wr := []) (w1 := (wFac ad cI cJ cZ ho nu fa ou sp_6 fn co fo ro po pn rd st tw od rn x y u sn)) hP hD [0, 1, 2, 3, 4, 5, 6, 7, 8, 9, 10, 11, 12, 13, 14, 15, 16, 17, 18] [] rfl rfl (by decide) (by decide) hk1 hFc hP1 hD1
          generalize H1 = H at hP hS ⊢
          have hP : va_P (dC, dI) vwCl (wFac ad cI cJ cZ ho nu fa ou sp_6 fn co fo ro po pn rd st tw od rn x y u sn) H := hP
          have hD : va_D A (wFac ad cI cJ cZ ho nu fa ou sp_6 fn co fo ro po pn rd st tw od rn x y u sn) := hD
          refine lv_aload_n hx hb dX0_crossings_83 rfl (lv_at hl 0 rfl) ?_
          refine lv_aload_n hx hb dX0_crossings_84 rfl (lv_at hl 0 rfl) ?_
          refine va_get (D := (dC, dI)) (ci := 0) (v := .ref (ad 4)) (C := RX0) (T := TX0) (N := 8) hx hb hts f_X0_crossings_1 hown hK hP 0 rfl rfl 4 (by decide) (hts _ f_X0_crossings_6) (fun _ h9 => h9) rfl dX0_crossings_85 ?_
          refine lv_iconst (v := 2) hx hb dX0_crossings_88 (by decide) ?_
          refine lv_iload hx hb dX0_crossings_89 (lv_at hl 3 rfl) ?_
          refine lv_imul hx hb dX0_crossings_91 ?_
          refine lv_iconst (v := 1) hx hb dX0_crossings_92 (by decide) ?_
          refine lv_iadd hx hb dX0_crossings_93 ?_
          have hi := hw.1
          have hw := hw.2
          refine va_iald hx hb hK hP 3 0 rfl rfl hi dX0_crossings_94 ?_
          refine lv_aload_n hx hb dX0_crossings_95 rfl (lv_at hl 0 rfl) ?_
          refine va_get (D := (dC, dI)) (ci := 0) (v := .ref (ad 4)) (C := RX0) (T := TX0) (N := 8) hx hb hts f_X0_crossings_1 hown hK hP 0 rfl rfl 4 (by decide) (hts _ f_X0_crossings_6) (fun _ h9 => h9) rfl dX0_crossings_96 ?_
          refine lv_iconst (v := 2) hx hb dX0_crossings_99 (by decide) ?_
          refine lv_iload hx hb dX0_crossings_100 (lv_at hl 3 rfl) ?_
          refine lv_imul hx hb dX0_crossings_102 ?_
          have hi := hw.1
          have hw := hw.2
          refine va_iald hx hb hK hP 3 0 rfl rfl hi dX0_crossings_103 ?_
          refine lv_iload_n hx hb dX0_crossings_104 rfl (lv_at hl 2 rfl) ?_
          have hPc := hP.sub (ws' := (wFac ad cI cJ cZ ho nu fa ou sp_6 fn co fo ro po pn rd st tw od rn x y u sn)) [0, 1, 2, 3, 4, 5, 6, 7, 8, 9, 10, 11, 12, 13, 14, 15, 16, 17, 18] rfl
          have hDc := hD.sub (ws' := (wFac ad cI cJ cZ ho nu fa ou sp_6 fn co fo ro po pn rd st tw od rn x y u sn)) [0, 1, 2, 3, 4, 5, 6, 7, 8, 9, 10, 11, 12, 13, 14, 15, 16, 17, 18] (by decide) rfl
          have hFc := va_free (wc := (wFac ad cI cJ cZ ho nu fa ou sp_6 fn co fo ro po pn rd st tw od rn x y u sn)) hD hS hA [0, 1, 2, 3, 4, 5, 6, 7, 8, 9, 10, 11, 12, 13, 14, 15, 16, 17, 18] rfl
          refine va_callv (va_runV (As := [.int (fa (((2 : Int32) * v4) + (1 : Int32)).toNatClampNeg), .int (fa ((2 : Int32) * v4).toNatClampNeg), .int v3]) (rest := []) C (c_X0_cross l dC dI cI cJ cZ ad _ ho nu fa ou sp_6 fn co fo ro po pn rd st tw od rn x y u sn (fa (((2 : Int32) * v4) + (1 : Int32)).toNatClampNeg) (fa ((2 : Int32) * v4).toNatClampNeg) v3 hw) (cwV 3 hts gX0_crossings_X0_cross rfl rfl rfl (by decide +kernel) ⟨Nat.le_of_ble_eq_true rfl, Nat.le_of_ble_eq_true rfl⟩) ⟨fb_rw, va_recv hK hPc (ci := 0) (q0 := 0) rfl rfl, fun U hU hW => ⟨rfl, by rw [hU], by rw [hU]; exact hPc, va_K.moved hW.alike hK, hDc.weaken (fun _ _ _ _ => trivial)⟩⟩ rfl rfl hl.1 rfl (lv_room (Nat.le_of_ble_eq_true rfl)) dX0_crossings_105 ⟨Nat.zero_le _, Nat.zero_le _⟩) hS (fun q _ h => hFc q h) hFc (fun uu t H1 locs ht hvm hw hB hz1 hk1 hS => ?_)
          obtain ⟨sp_7, rfl⟩ : ∃ z, z = uu := ⟨_, rfl⟩
          obtain ⟨hP1, hD1⟩ := hB
          rw [ht] at hP1
          try dsimp only at hw hP1 hD1
          obtain ⟨hP, hD⟩ := va_join (wr := []) (w1 := (wFac ad cI cJ cZ ho nu fa ou sp_7 fn co fo ro po pn rd st tw od rn x y u sn)) hP hD [0, 1, 2, 3, 4, 5, 6, 7, 8, 9, 10, 11, 12, 13, 14, 15, 16, 17, 18] [] rfl rfl (by decide) (by decide) hk1 hFc hP1 hD1
          generalize H1 = H at hP hS ⊢
          have hP : va_P (dC, dI) vwCl (wFac ad cI cJ cZ ho nu fa ou sp_7 fn co fo ro po pn rd st tw od rn x y u sn) H := hP
          have hD : va_D A (wFac ad cI cJ cZ ho nu fa ou sp_7 fn co fo ro po pn rd st tw od rn x y u sn) := hD
          exact hj5 sp_7 hw ls _ _ (lv_sub hl [0, 1, 2, 3] rfl) hP hD hS
set_option maxRecDepth 100000 in
set_option maxHeartbeats 4000000 in
theorem l_X0_crossings_17 {p : Program} {l : Launch} {e : Env} {s : State} {m : MethodId} {args : Array Value} {below : List Frame} {meth : Method} {c : Code} {Q : State → Prop} {dC : Nat → ClassId} {dI : Nat → Nat → Nat} {cI cJ cZ : ClassId} {ad : Nat → Nat} {ho : Nat → Int32} {nu : Nat → Int32} {fa : Nat → Int32} {ou : Nat → Int32} {fn : Int32} {co : Nat → Int32} {fo : Nat → Int32} {ro : Nat → Int32} {po : Nat → Int32} {pn : Int32} {rd : Nat → Int32} {st : Nat → Int32} {tw : Nat → Int64} {od : Nat → Int32} {rn : Int32} {x : Nat → Int32} {y : Nat → Int32} {u : Nat → Int32} {sn : Int32} {v2 : Int32} {K120 : (Nat → Int32) → Prop} (C : CallFix p m c cX0_crossings 5 s args wsX0_crossings RX0) (hK : va_K (dC, dI) vwCl (tyL cI cJ cZ) s) {A : Nat → Prop} (hA : ∀ q : Nat, s.heap.size ≤ q → A q) (hk120 : ∀ (sp_w : Nat → Int32) (ls : Array Slot) (H : Heap) (locs : List Loc), lv_has ls 5 [(0, .ref (ad 1)), (2, .int v2)] → va_P (dC, dI) vwCl (wFac ad cI cJ cZ ho nu fa ou sp_w fn co fo ro po pn rd st tw od rn x y u sn) H → va_D A (wFac ad cI cJ cZ ho nu fa ou sp_w fn co fo ro po pn rd st tw od rn x y u sn) → va_S A s.heap H locs → K120 sp_w → W p l e rm_X0_crossings s m args below meth c H locs 0 0 Q (F0 m 120 ls [])) : ∀ (n : Nat) (sp : Nat → Int32) (v3 : Int32) (ls : Array Slot) (H : Heap) (locs : List Loc), lv_has ls 5 [(0, .ref (ad 1)), (2, .int v2), (3, .int v3)] → va_P (dC, dI) vwCl (wFac ad cI cJ cZ ho nu fa ou sp fn co fo ro po pn rd st tw od rn x y u sn) H → va_D A (wFac ad cI cJ cZ ho nu fa ou sp fn co fo ro po pn rd st tw od rn x y u sn) → va_S A s.heap H locs → lp_X0_crossings_17 fa fn u v2 K120 n sp v3 → W p l e rm_X0_crossings s m args below meth c H locs 0 0 Q (F0 m 17 ls []) := by
  obtain ⟨hx, hb, hml, hown, hts⟩ := id C
  intro n
  induction n with
  | zero =>
    intro sp v3 ls H locs hl hP hD hS hw
    rw [lp_X0_crossings_17.eq_1] at hw
    exact hw.elim
  | succ n ih =>
    intro sp v3 ls H locs hl hP hD hS hw
    rw [lp_X0_crossings_17.eq_2] at hw
    refine lv_iload_n hx hb dX0_crossings_17 rfl (lv_at hl 2 rfl) ?_
    refine lv_aload_n hx hb dX0_crossings_18 rfl (lv_at hl 0 rfl) ?_
    refine va_get (D := (dC, dI)) (ci := 0) (v := .int fn) (C := RX0) (T := TX0) (N := 8) hx hb hts f_X0_crossings_1 hown hK hP 0 rfl rfl 7 (by decide) (hts _ f_X0_crossings_2) (fun _ h9 => h9) rfl dX0_crossings_19 ?_
    refine lv_icmp_ge (tgt := 120) hx hb dX0_crossings_22 (by decide) (fun hc => ?_) (fun hc => ?_)
    · have hw := hw.1 (hc)
      exact hk120 sp ls _ _ (lv_sub hl [0, 1] rfl) hP hD hS hw
    · have hw := hw.2 hc
      refine lv_aload_n hx hb dX0_crossings_25 rfl (lv_at hl 0 rfl) ?_
      refine va_get (D := (dC, dI)) (ci := 0) (v := .ref (ad 6)) (C := RX0) (T := TX0) (N := 8) hx hb hts f_X0_crossings_1 hown hK hP 0 rfl rfl 6 (by decide) (hts _ f_X0_crossings_0) (fun _ h9 => h9) rfl dX0_crossings_26 ?_
      refine lv_iload_n hx hb dX0_crossings_29 rfl (lv_at hl 1 rfl) ?_
      have hi := hw.1
      have hw := hw.2
      refine va_iald hx hb hK hP 5 0 rfl rfl hi dX0_crossings_30 ?_
      refine lv_iconst (v := -1) hx hb dX0_crossings_31 (by decide) ?_
      refine lv_icmp_ne (tgt := 120) hx hb dX0_crossings_32 (by decide) (fun hc => ?_) (fun hc => ?_)
      · have hw := hw.2 hc
        exact hk120 sp ls _ _ (lv_sub hl [0, 1] rfl) hP hD hS hw
      · have hw := hw.1 (hc)
        refine lv_iconst (v := 0) hx hb dX0_crossings_35 (by decide) ?_
        refine lv_istore (lv' := [(4, .int (0 : Int32)), (0, .ref (ad 1)), (2, .int v2), (3, .int v3)]) hx hb dX0_crossings_36 hl (by decide) rfl (fun ls hl => ?_)
        obtain ⟨n9, hw⟩ := hw
        refine l_X0_crossings_38 C hK hA (fun sp_8 ls H locs hl hP hD hS hw => ?_) n9 sp (0 : Int32) ls _ _ (lv_sub hl [1, 2, 3, 0] rfl) hP hD hS hw
        refine lv_iinc (v := (v3 + (1 : Int32))) (lv' := [(3, .int (v3 + (1 : Int32))), (0, .ref (ad 1)), (2, .int v2)]) hx hb dX0_crossings_114 hl (k := 2) rfl rfl (by decide) rfl (fun ls hl => ?_)
        refine lv_goto (tgt := 17) hx hb dX0_crossings_117 (by decide) ?_
        exact ih sp_8 (v3 + (1 : Int32)) ls _ _ (lv_sub hl [1, 2, 0] rfl) hP hD hS hw
set_option maxRecDepth 100000 in
set_option maxHeartbeats 4000000 in
theorem c_X0_crossings (l : Launch) (dC : Nat → ClassId) (dI : Nat → Nat → Nat) (cI cJ cZ : ClassId) (ad : Nat → Nat) (sz : Nat) (ho : Nat → Int32) (nu : Nat → Int32) (fa : Nat → Int32) (ou : Nat → Int32) (sp : Nat → Int32) (fn : Int32) (co : Nat → Int32) (fo : Nat → Int32) (ro : Nat → Int32) (po : Nat → Int32) (pn : Int32) (rd : Nat → Int32) (st : Nat → Int32) (tw : Nat → Int64) (od : Nat → Int32) (rn : Int32) (x : Nat → Int32) (y : Nat → Int32) (u : Nat → Int32) (sn : Int32) (v1 : Int32) (v2 : Int32) {post : Int32 → (Nat → Int32) → Prop} (hw : wp_X0_crossings fa sp fn u v1 v2 post) : Met l yX0_crossings wsX0_crossings rm_X0_crossings (va_Pc [.ref (ad 1), .int v1, .int v2] (fun U => U.heap.size = sz ∧ va_P (dC, dI) vwCl (wFac ad cI cJ cZ ho nu fa ou sp fn co fo ro po pn rd st tw od rn x y u sn) U.heap ∧ va_K (dC, dI) vwCl (tyL cI cJ cZ) U ∧ va_D (fun _ => True) (wFac ad cI cJ cZ ho nu fa ou sp fn co fo ro po pn rd st tw od rn x y u sn))) (va_Qi (fun (r : Int32) (uu : (Nat → Int32)) => post r uu) (fun (uu : (Nat → Int32)) (t : State) => va_P (dC, dI) vwCl (wFac ad cI cJ cZ ho nu fa ou uu fn co fo ro po pn rd st tw od rn x y u sn) t.heap ∧ va_D (va_A (wFac ad cI cJ cZ ho nu fa ou sp fn co fo ro po pn rd st tw od rn x y u sn) sz) (wFac ad cI cJ cZ ho nu fa ou uu fn co fo ro po pn rd st tw od rn x y u sn)) (va_A (wFac ad cI cJ cZ ho nu fa ou sp fn co fo ro po pn rd st tw od rn x y u sn) sz)) 0 0 (va_A (wFac ad cI cJ cZ ho nu fa ou sp fn co fo ro po pn rd st tw od rn x y u sn) sz) := by
  unfold wp_X0_crossings at hw
  refine Met.ofW (cc := cX0_crossings) (maxL := 5) (ret := (some .int)) (by decide) rfl ?_
  intro p e s m args below meth c s₁ B hml hv
  obtain ⟨hav, hsz, hP, hK, hD0⟩ := hv
  have hx := B.exec
  have hb := B.bytes
  have hr := B.returns
  have hts := atoms_spec (ws := wsX0_crossings) B.pre
  have hown : s.vm.findClass RX0 = some m.cls := findClass_of_methodNamed B.named
  have hlocks := B.notSynchronized
  have C : CallFix p m c cX0_crossings 5 s args wsX0_crossings RX0 := ⟨hx, hb, hml, hown, hts⟩
  obtain ⟨ls, hE, hl⟩ := mx_entry (m := m) [.ref (ad 1), .int v1, .int v2] (n := 5) (Nat.le_of_ble_eq_true rfl)
  have hl : lv_has ls 5 [(0, .ref (ad 1)), (1, .int v1), (2, .int v2)] := hl
  rw [show entryFrame m args 5 = F0 m 0 ls [] by rw [hav]; exact hE]
  subst hsz
  have hD := hD0.self (sz := s.heap.size)
  generalize hAe : va_A (wFac ad cI cJ cZ ho nu fa ou sp fn co fo ro po pn rd st tw od rn x y u sn) s.heap.size = A at hD ⊢
  have hA : ∀ q : Nat, s.heap.size ≤ q → A q := fun q h => by rw [← hAe]; exact Or.inr h
  have hS : va_S A s.heap s.heap [] := va_S.rf
  obtain ⟨Q, hQ⟩ : ∃ Q, MQ below (va_Qi (fun (r : Int32) (uu : (Nat → Int32)) => post r uu) (fun (uu : (Nat → Int32)) (t : State) => va_P (dC, dI) vwCl (wFac ad cI cJ cZ ho nu fa ou uu fn co fo ro po pn rd st tw od rn x y u sn) t.heap ∧ va_D A (wFac ad cI cJ cZ ho nu fa ou uu fn co fo ro po pn rd st tw od rn x y u sn)) A) args s 0 0 A = Q := ⟨_, rfl⟩
  rw [hQ]
  obtain ⟨H, hH⟩ : ∃ H, s.heap = H := ⟨_, rfl⟩
  have hS : va_S A s.heap H [] := by rw [← hH]; exact hS
  rw [hH] at hP
  show W p l e rm_X0_crossings s m args below meth c s.heap [] 0 0 Q (F0 m 0 ls [])
  suffices hg : W p l e rm_X0_crossings s m args below meth c H [] 0 0 Q (F0 m 0 ls []) by rw [hH]; exact hg
  clear hH
  generalize hlo : ([] : List Loc) = locs at hS ⊢
  refine lv_aload_n hx hb dX0_crossings_0 rfl (lv_at hl 0 rfl) ?_
  refine va_get (D := (dC, dI)) (ci := 0) (v := .ref (ad 6)) (C := RX0) (T := TX0) (N := 8) hx hb hts f_X0_crossings_1 hown hK hP 0 rfl rfl 6 (by decide) (hts _ f_X0_crossings_0) (fun _ h9 => h9) rfl dX0_crossings_1 ?_
  refine lv_iconst (v := -1) hx hb dX0_crossings_4 (by decide) ?_
  have hPc := hP.sub (ws' := [(ad 6, .inl (cI, 121, .inl sp))]) [5] rfl
  have hDc := hD.sub (ws' := [(ad 6, .inl (cI, 121, .inl sp))]) [5] (by decide) rfl
  have hFc := va_free (wc := [(ad 6, .inl (cI, 121, .inl sp))]) hD hS hA [5] rfl
  refine va_callv (va_runS (As := [.ref (ad 6), .int (-1 : Int32)]) (rest := []) C (c_fill l dC dI cI cJ cZ _ (ad 6) 121 (by decide) sp (-1 : Int32)) (va_cwS 2 hts gX0_crossings_J7_fill_53178 rfl rfl rfl (by decide +kernel) ⟨Nat.le_of_ble_eq_true rfl, Nat.le_of_ble_eq_true rfl⟩) ⟨fb_rw, fun U hU hW => ⟨rfl, by rw [hU], by rw [hU]; exact hPc, va_K.moved hW.alike hK, hDc.weaken (fun _ _ _ _ => trivial)⟩⟩ rfl rfl hl.1 rfl (lv_room (Nat.le_of_ble_eq_true rfl)) dX0_crossings_5 ⟨Nat.zero_le _, Nat.zero_le _⟩) hS (fun q _ h => hFc q h) hFc (fun sp_1 t H1 locs ht hvm hq hB hz1 hk1 hS => ?_)
  have hw := hw sp_1 hq
  obtain ⟨hP1, hD1⟩ := hB
  rw [ht] at hP1
  obtain ⟨hP, hD⟩ := va_join (wr := [(ad 1, .inr (0, [.ref (ad 7), .ref (ad 16), .ref (ad 2), .ref (ad 3), .ref (ad 4), .ref (ad 5), .ref (ad 6), .int fn])), (ad 2, .inl (cI, 120, .inl ho)), (ad 3, .inl (cI, 120, .inl nu)), (ad 4, .inl (cI, 120, .inl fa)), (ad 5, .inl (cI, 60, .inl ou)), (ad 7, .inr (1, [.ref (ad 16), .ref (ad 8), .ref (ad 9), .ref (ad 10), .ref (ad 11), .int pn, .ref (ad 12), .ref (ad 13), .ref (ad 14), .ref (ad 15), .int rn])), (ad 8, .inl (cI, 120, .inl co)), (ad 9, .inl (cI, 120, .inl fo)), (ad 10, .inl (cI, 60, .inl ro)), (ad 11, .inl (cI, 60, .inl po)), (ad 12, .inl (cI, 120, .inl rd)), (ad 13, .inl (cI, 120, .inl st)), (ad 14, .inl (cJ, 120, .inr (.inl tw))), (ad 15, .inl (cI, 120, .inl od)), (ad 16, .inr (2, [.ref (ad 17), .ref (ad 18), .ref (ad 19), .int sn])), (ad 17, .inl (cI, 120, .inl x)), (ad 18, .inl (cI, 120, .inl y)), (ad 19, .inl (cZ, 60, .inl u))]) (w1 := [(ad 6, .inl (cI, 121, .inl sp_1))]) hP hD [5] [0, 1, 2, 3, 4, 6, 7, 8, 9, 10, 11, 12, 13, 14, 15, 16, 17, 18] rfl rfl (by decide) (by decide) hk1 hFc hP1 hD1
  have hP := hP.sub (ws' := (wFac ad cI cJ cZ ho nu fa ou sp_1 fn co fo ro po pn rd st tw od rn x y u sn)) [0, 1, 2, 3, 4, 18, 5, 6, 7, 8, 9, 10, 11, 12, 13, 14, 15, 16, 17] rfl
  have hD := hD.sub (ws' := (wFac ad cI cJ cZ ho nu fa ou sp_1 fn co fo ro po pn rd st tw od rn x y u sn)) [0, 1, 2, 3, 4, 18, 5, 6, 7, 8, 9, 10, 11, 12, 13, 14, 15, 16, 17] (by decide) rfl
  generalize H1 = H at hP hS ⊢
  refine lv_aload_n hx hb dX0_crossings_8 rfl (lv_at hl 0 rfl) ?_
  refine va_get (D := (dC, dI)) (ci := 0) (v := .ref (ad 6)) (C := RX0) (T := TX0) (N := 8) hx hb hts f_X0_crossings_1 hown hK hP 0 rfl rfl 6 (by decide) (hts _ f_X0_crossings_0) (fun _ h9 => h9) rfl dX0_crossings_9 ?_
  refine lv_iload_n hx hb dX0_crossings_12 rfl (lv_at hl 1 rfl) ?_
  refine lv_iconst (v := 0) hx hb dX0_crossings_13 (by decide) ?_
  have hi := hw.1
  have hw := hw.2 _ rfl
  refine va_iast hx hb hK hP hD hS 5 0 rfl rfl hi dX0_crossings_14 (fun H locs hP hD hS => ?_)
  generalize hsp_2 : (upd sp_1 v1.toNatClampNeg (0 : Int32)) = sp_2 at hw hP hD
  have hP : va_P (dC, dI) vwCl (wFac ad cI cJ cZ ho nu fa ou sp_2 fn co fo ro po pn rd st tw od rn x y u sn) H := hP
  have hD : va_D A (wFac ad cI cJ cZ ho nu fa ou sp_2 fn co fo ro po pn rd st tw od rn x y u sn) := hD
  refine lv_iconst (v := 0) hx hb dX0_crossings_15 (by decide) ?_
  refine lv_istore_n (lv' := [(3, .int (0 : Int32)), (0, .ref (ad 1)), (1, .int v1), (2, .int v2)]) hx hb dX0_crossings_16 rfl hl (by decide) rfl (fun ls hl => ?_)
  obtain ⟨n11, hw⟩ := hw
  refine l_X0_crossings_17 C hK hA (fun sp_10 ls H locs hl hP hD hS hw => ?_) n11 sp_2 (0 : Int32) ls _ _ (lv_sub hl [1, 3, 0] rfl) hP hD hS hw
  refine lv_aload_n hx hb dX0_crossings_120 rfl (lv_at hl 0 rfl) ?_
  refine va_get (D := (dC, dI)) (ci := 0) (v := .ref (ad 6)) (C := RX0) (T := TX0) (N := 8) hx hb hts f_X0_crossings_1 hown hK hP 0 rfl rfl 6 (by decide) (hts _ f_X0_crossings_0) (fun _ h9 => h9) rfl dX0_crossings_121 ?_
  refine lv_iload_n hx hb dX0_crossings_124 rfl (lv_at hl 1 rfl) ?_
  have hi := hw.1
  have hw := hw.2
  refine va_iald hx hb hK hP 5 0 rfl rfl hi dX0_crossings_125 ?_
  rw [← hQ]
  exact W.iret (v := (sp_10 v2.toNatClampNeg)) hx hb hr (fun t ht hW => ⟨⟨_, sp_10, rfl, hw, by rw [ht]; exact hP, hD⟩, hS.F ht⟩) hS.2.2 dX0_crossings_126
