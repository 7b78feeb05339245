-- X4_left
abbrev rm_X4_left : Room := { frames := 0, cells := 0, slots := 0, locals := 0 }
theorem f_X4_left_0 : (Cond.fieldLink RX4 36 "PlaneFacesModel" "faceOf" "[I") ∈ wsX4_left := by decide +kernel
theorem f_X4_left_1 : ∀ w ∈ wsX40, w ∈ wsX4_left := by decide +kernel
theorem f_X4_left_2 : (Cond.fieldLink RX4 26 "PlaneFacesModel" "roundOf" "[I") ∈ wsX4_left := by decide +kernel
set_option maxRecDepth 100000 in
set_option maxHeartbeats 4000000 in
theorem c_X4_left (l : Launch) (dC : Nat → ClassId) (dI : Nat → Nat → Nat) (cI cJ cZ : ClassId) (ad : Nat → Nat) (mre : Int32) (mth : Nat → Int32) (mxs : Nat → Int32) (mys : Nat → Int32) (mcu : Int32) (mnx : Nat → Int32) (mpo : Nat → Int32) (mpn : Int32) (mrn : Int32) (mrd : Nat → Int32) (mfi : Nat → Int32) (mar : Nat → Int64) (mfn : Int32) (mfa : Nat → Int32) (mnu : Nat → Int32) (mst : Nat → Int32) (v1 : Int32) {post : Int32 → Prop} (hw : wp_X4_left mrd mfa v1 post) : Met l yX4_left wsX4_left rm_X4_left (va_Pc [.ref (ad 0), .int v1] (fun U => va_P (dC, dI) vwCl (wMod ad cI cJ cZ mre mth mxs mys mcu mnx mpo mpn mrn mrd mfi mar mfn mfa mnu mst) U.heap ∧ va_K (dC, dI) vwCl (tyL cI cJ cZ) U)) (vp_Si post) 0 0 (fun _ => False) := by
  unfold wp_X4_left at hw
  refine Met.ofW (cc := cX4_left) (maxL := 2) (ret := (some .int)) (by decide) rfl ?_
  intro p e s m args below meth c s₁ B hml hv
  obtain ⟨hav, hP, hK⟩ := hv
  have hx := B.exec
  have hb := B.bytes
  have hr := B.returns
  have hts := atoms_spec (ws := wsX4_left) B.pre
  have hown : s.vm.findClass RX4 = some m.cls := findClass_of_methodNamed B.named
  have hlocks := B.notSynchronized
  have C : CallFix p m c cX4_left 2 s args wsX4_left RX4 := ⟨hx, hb, hml, hown, hts⟩
  obtain ⟨ls, hE, hl⟩ := mx_entry (m := m) [.ref (ad 0), .int v1] (n := 2) (Nat.le_of_ble_eq_true rfl)
  have hl : lv_has ls 2 [(0, .ref (ad 0)), (1, .int v1)] := hl
  rw [show entryFrame m args 2 = F0 m 0 ls [] by rw [hav]; exact hE]
  obtain ⟨Q, hQ⟩ : ∃ Q, MQ below (vp_Si post) args s 0 0 (fun _ => False) = Q := ⟨_, rfl⟩
  rw [hQ]
  obtain ⟨H, hH⟩ : ∃ H, s.heap = H := ⟨_, rfl⟩
  rw [hH]
  rw [hH] at hP
  show W p l e rm_X4_left s m args below meth c H [] 0 0 Q (F0 m 0 ls [])
  refine lv_aload_n hx hb dX4_left_0 rfl (lv_at hl 0 rfl) ?_
  refine va_get (D := (dC, dI)) (ci := 4) (v := .ref (ad 9)) (C := RX4) (T := TX4) (N := 16) hx hb hts f_X4_left_1 hown hK hP 0 rfl rfl 13 (by decide) (hts _ f_X4_left_0) (fun _ h9 => h9) rfl dX4_left_1 ?_
  refine lv_aload_n hx hb dX4_left_4 rfl (lv_at hl 0 rfl) ?_
  refine va_get (D := (dC, dI)) (ci := 4) (v := .ref (ad 6)) (C := RX4) (T := TX4) (N := 16) hx hb hts f_X4_left_1 hown hK hP 0 rfl rfl 9 (by decide) (hts _ f_X4_left_2) (fun _ h9 => h9) rfl dX4_left_5 ?_
  refine lv_iload_n hx hb dX4_left_8 rfl (lv_at hl 1 rfl) ?_
  have hi := hw.1
  have hw := hw.2
  refine va_iald hx hb hK hP 6 0 rfl rfl hi dX4_left_9 ?_
  have hi := hw.1
  have hw := hw.2
  refine va_iald hx hb hK hP 9 0 rfl rfl hi dX4_left_10 ?_
  rw [← hQ]
  exact W.iret (v := (mfa (mrd v1.toNatClampNeg).toNatClampNeg)) hx hb hr (fun t ht hW => ⟨_, rfl, hw, ht.trans hH.symm⟩) (fun q h => by cases h) dX4_left_11
-- X4_count
abbrev rm_X4_count : Room := { frames := 6, cells := 0, slots := 0, locals := 144 }
theorem f_X4_count_0 : (Cond.fieldLink RX4 45 "PlaneFacesModel" "refusal" "I") ∈ wsX4_count := by decide +kernel
theorem f_X4_count_1 : ∀ w ∈ wsX40, w ∈ wsX4_count := by decide +kernel
theorem f_X4_count_2 : (Cond.fieldLink RX4 95 "PlaneFacesModel" "rounds" "I") ∈ wsX4_count := by decide +kernel
theorem f_X4_count_3 : (Cond.fieldLink RX4 101 "PlaneFacesModel" "pieces" "I") ∈ wsX4_count := by decide +kernel
theorem f_X4_count_4 : (Cond.fieldLink RX4 118 "PlaneFacesModel" "faces" "I") ∈ wsX4_count := by decide +kernel
theorem f_X4_count_5 : (Cond.fieldLink RX4 7 "PlaneFacesModel" "isThere" "[Z") ∈ wsX4_count := by decide +kernel
theorem f_X4_count_6 : (Cond.fieldLink RX4 13 "PlaneFacesModel" "xs" "[I") ∈ wsX4_count := by decide +kernel
theorem f_X4_count_7 : (Cond.fieldLink RX4 17 "PlaneFacesModel" "ys" "[I") ∈ wsX4_count := by decide +kernel
set_option maxRecDepth 100000 in
set_option maxHeartbeats 4000000 in
theorem l_X4_count_80 {p : Program} {l : Launch} {e : Env} {s : State} {m : MethodId} {args : Array Value} {below : List Frame} {meth : Method} {c : Code} {Q : State → Prop} {dC : Nat → ClassId} {dI : Nat → Nat → Nat} {cI cJ cZ : ClassId} {ad : Nat → Nat} {mre : Int32} {mth : Nat → Int32} {mxs : Nat → Int32} {mys : Nat → Int32} {mcu : Int32} {mnx : Nat → Int32} {mpo : Nat → Int32} {mpn : Int32} {mrn : Int32} {mrd : Nat → Int32} {mfi : Nat → Int32} {mar : Nat → Int64} {mfn : Int32} {mfa : Nat → Int32} {mnu : Nat → Int32} {mst : Nat → Int32} {v1 : Int32} {v2 : Int32} {v3 : Int32} {K125 : Int32 → Prop} (C : CallFix p m c cX4_count 6 s args wsX4_count RX4) (hK : va_K (dC, dI) vwCl (tyL cI cJ cZ) s) {A : Nat → Prop} (hA : ∀ q : Nat, s.heap.size ≤ q → A q) (hk125 : ∀ (w4 : Int32) (ls : Array Slot) (H : Heap) (locs : List Loc), lv_has ls 6 [(0, .ref (ad 0)), (1, .int v1), (2, .int v2), (3, .int v3), (4, .int w4)] → va_P (dC, dI) vwCl (wMod ad cI cJ cZ mre mth mxs mys mcu mnx mpo mpn mrn mrd mfi mar mfn mfa mnu mst) H → va_D A (wMod ad cI cJ cZ mre mth mxs mys mcu mnx mpo mpn mrn mrd mfi mar mfn mfa mnu mst) → va_S A s.heap H locs → K125 w4 → W p l e rm_X4_count s m args below meth c H locs 0 0 Q (F0 m 125 ls [])) : ∀ (n : Nat) (v4 : Int32) (v5 : Int32) (ls : Array Slot) (H : Heap) (locs : List Loc), lv_has ls 6 [(0, .ref (ad 0)), (1, .int v1), (2, .int v2), (3, .int v3), (4, .int v4), (5, .int v5)] → va_P (dC, dI) vwCl (wMod ad cI cJ cZ mre mth mxs mys mcu mnx mpo mpn mrn mrd mfi mar mfn mfa mnu mst) H → va_D A (wMod ad cI cJ cZ mre mth mxs mys mcu mnx mpo mpn mrn mrd mfi mar mfn mfa mnu mst) → va_S A s.heap H locs → lp_X4_count_80 mre mth mxs mys mcu mnx mpo mpn mrn mrd mfi mar mfn mfa mnu v1 v2 v3 K125 n v4 v5 → W p l e rm_X4_count s m args below meth c H locs 0 0 Q (F0 m 80 ls []) := by
  obtain ⟨hx, hb, hml, hown, hts⟩ := id C
  intro n
  induction n with
  | zero =>
    intro v4 v5 ls H locs hl hP hD hS hw
    rw [lp_X4_count_80.eq_1] at hw
    exact hw.elim
  | succ n ih =>
    intro v4 v5 ls H locs hl hP hD hS hw
    rw [lp_X4_count_80.eq_2] at hw
    refine lv_iload hx hb dX4_count_80 (lv_at hl 5 rfl) ?_
    refine lv_iload_n hx hb dX4_count_82 rfl (lv_at hl 3 rfl) ?_
    refine lv_icmp_ge (tgt := 125) hx hb dX4_count_83 (by decide) (fun hc => ?_) (fun hc => ?_)
    · have hw := hw.1 (hc)
      exact hk125 v4 ls _ _ (lv_sub hl [0, 1, 2, 3, 4] rfl) hP hD hS hw
    · have hw := hw.2 hc
      refine lv_iload hx hb dX4_count_86 (lv_at hl 4 rfl) ?_
      refine jn1_use (J := fun (k20 : Int32) => ∀ (ls : Array Slot) (H : Heap) (locs : List Loc), lv_has ls 6 [(0, .ref (ad 0)), (1, .int v1), (2, .int v2), (3, .int v3), (5, .int v5)] → va_P (dC, dI) vwCl (wMod ad cI cJ cZ mre mth mxs mys mcu mnx mpo mpn mrn mrd mfi mar mfn mfa mnu mst) H → va_D A (wMod ad cI cJ cZ mre mth mxs mys mcu mnx mpo mpn mrn mrd mfi mar mfn mfa mnu mst) → va_S A s.heap H locs → W p l e rm_X4_count s m args below meth c H locs 0 0 Q (F0 m 117 ls [.int k20])) hw (fun k20 hw ls H locs hl hP hD hS => ?_) (fun hw hj0 => ?_)
      · refine lv_istore (lv' := [(4, .int k20), (0, .ref (ad 0)), (1, .int v1), (2, .int v2), (3, .int v3), (5, .int v5)]) hx hb dX4_count_117 hl (by decide) rfl (fun ls hl => ?_)
        refine lv_iinc (v := (v5 + (1 : Int32))) (lv' := [(5, .int (v5 + (1 : Int32))), (4, .int k20), (0, .ref (ad 0)), (1, .int v1), (2, .int v2), (3, .int v3)]) hx hb dX4_count_119 hl (k := 5) rfl rfl (by decide) rfl (fun ls hl => ?_)
        refine lv_goto (tgt := 80) hx hb dX4_count_122 (by decide) ?_
        exact ih k20 (v5 + (1 : Int32)) ls _ _ (lv_sub hl [2, 3, 4, 5, 1, 0] rfl) hP hD hS hw
      · have hj22 := hj0
        refine jn0_use (J := ∀ (ls : Array Slot) (H : Heap) (locs : List Loc), lv_has ls 6 [(0, .ref (ad 0)), (1, .int v1), (2, .int v2), (3, .int v3), (5, .int v5)] → va_P (dC, dI) vwCl (wMod ad cI cJ cZ mre mth mxs mys mcu mnx mpo mpn mrn mrd mfi mar mfn mfa mnu mst) H → va_D A (wMod ad cI cJ cZ mre mth mxs mys mcu mnx mpo mpn mrn mrd mfi mar mfn mfa mnu mst) → va_S A s.heap H locs → W p l e rm_X4_count s m args below meth c H locs 0 0 Q (F0 m 116 ls [])) hw (fun hw ls H locs hl hP hD hS => ?_) (fun hw hj0 => ?_)
        · refine lv_iconst (v := 0) hx hb dX4_count_116 (by decide) ?_
          exact hj22 (0 : Int32) hw ls _ _ (lv_sub hl [0, 1, 2, 3, 4] rfl) hP hD hS
        · have hj24 := hj0
          refine lv_if_eq (tgt := 116) hx hb dX4_count_88 (by decide) (fun hc => ?_) (fun hc => ?_)
          · have hw := hw.1 (hc)
            exact hj24 hw ls _ _ (lv_sub hl [0, 1, 2, 3, 5] rfl) hP hD hS
          · have hw := hw.2 hc
            refine lv_aload_n hx hb dX4_count_91 rfl (lv_at hl 0 rfl) ?_
            refine lv_iload hx hb dX4_count_92 (lv_at hl 5 rfl) ?_
            refine lv_aload_n hx hb dX4_count_94 rfl (lv_at hl 0 rfl) ?_
            refine va_get (D := (dC, dI)) (ci := 4) (v := .ref (ad 2)) (C := RX4) (T := TX4) (N := 16) hx hb hts f_X4_count_1 hown hK hP 0 rfl rfl 2 (by decide) (hts _ f_X4_count_6) (fun _ h9 => h9) rfl dX4_count_95 ?_
            refine lv_iload_n hx hb dX4_count_98 rfl (lv_at hl 3 rfl) ?_
            have hi := hw.1
            have hw := hw.2
            refine va_iald hx hb hK hP 2 0 rfl rfl hi dX4_count_99 ?_
            refine lv_aload_n hx hb dX4_count_100 rfl (lv_at hl 0 rfl) ?_
            refine va_get (D := (dC, dI)) (ci := 4) (v := .ref (ad 3)) (C := RX4) (T := TX4) (N := 16) hx hb hts f_X4_count_1 hown hK hP 0 rfl rfl 3 (by decide) (hts _ f_X4_count_7) (fun _ h9 => h9) rfl dX4_count_101 ?_
            refine lv_iload_n hx hb dX4_count_104 rfl (lv_at hl 3 rfl) ?_
            have hi := hw.1
            have hw := hw.2
            refine va_iald hx hb hK hP 3 0 rfl rfl hi dX4_count_105 ?_
            refine vp_callSi (W.runV (As := [.int v5, .int (mxs v3.toNatClampNeg), .int (mys v3.toNatClampNeg)]) (rest := []) C (c_X4_leaves l dC dI cI cJ cZ ad mre mth mxs mys mcu mnx mpo mpn mrn mrd mfi mar mfn mfa mnu mst v5 (mxs v3.toNatClampNeg) (mys v3.toNatClampNeg) hw) (cwV 3 hts gX4_count_X4_leaves rfl rfl rfl (by decide +kernel) ⟨Nat.le_of_ble_eq_true rfl, Nat.le_of_ble_eq_true rfl⟩) ⟨fb_ro, va_recv hK hP (ci := 4) (q0 := 0) rfl rfl, fun U hU hW => ⟨rfl, by rw [hU]; exact hP, va_K.moved hW.alike hK⟩⟩ rfl rfl hl.1 rfl (lv_room (Nat.le_of_ble_eq_true rfl)) dX4_count_106 ⟨Nat.zero_le _, Nat.zero_le _⟩) (fun r25 hw => ?_)
            refine lv_if_ne (tgt := 116) hx hb dX4_count_109 (by decide) (fun hc => ?_) (fun hc => ?_)
            · have hw := hw.2 hc
              exact hj24 hw ls _ _ (lv_sub hl [0, 1, 2, 3, 5] rfl) hP hD hS
            · have hw := hw.1 (hc)
              refine lv_iconst (v := 1) hx hb dX4_count_112 (by decide) ?_
              refine lv_goto (tgt := 117) hx hb dX4_count_113 (by decide) ?_
              exact hj22 (1 : Int32) hw ls _ _ (lv_sub hl [0, 1, 2, 3, 5] rfl) hP hD hS
set_option maxRecDepth 100000 in
set_option maxHeartbeats 4000000 in
theorem l_X4_count_57 {p : Program} {l : Launch} {e : Env} {s : State} {m : MethodId} {args : Array Value} {below : List Frame} {meth : Method} {c : Code} {Q : State → Prop} {dC : Nat → ClassId} {dI : Nat → Nat → Nat} {cI cJ cZ : ClassId} {ad : Nat → Nat} {mre : Int32} {mth : Nat → Int32} {mxs : Nat → Int32} {mys : Nat → Int32} {mcu : Int32} {mnx : Nat → Int32} {mpo : Nat → Int32} {mpn : Int32} {mrn : Int32} {mrd : Nat → Int32} {mfi : Nat → Int32} {mar : Nat → Int64} {mfn : Int32} {mfa : Nat → Int32} {mnu : Nat → Int32} {mst : Nat → Int32} {v1 : Int32} {K186 : Int32 → Prop} (C : CallFix p m c cX4_count 6 s args wsX4_count RX4) (hK : va_K (dC, dI) vwCl (tyL cI cJ cZ) s) {A : Nat → Prop} (hA : ∀ q : Nat, s.heap.size ≤ q → A q) (hk186 : ∀ (w2 : Int32) (ls : Array Slot) (H : Heap) (locs : List Loc), lv_has ls 6 [(0, .ref (ad 0)), (1, .int v1), (2, .int w2)] → va_P (dC, dI) vwCl (wMod ad cI cJ cZ mre mth mxs mys mcu mnx mpo mpn mrn mrd mfi mar mfn mfa mnu mst) H → va_D A (wMod ad cI cJ cZ mre mth mxs mys mcu mnx mpo mpn mrn mrd mfi mar mfn mfa mnu mst) → va_S A s.heap H locs → K186 w2 → W p l e rm_X4_count s m args below meth c H locs 0 0 Q (F0 m 186 ls [])) : ∀ (n : Nat) (v2 : Int32) (v3 : Int32) (ls : Array Slot) (H : Heap) (locs : List Loc), lv_has ls 6 [(0, .ref (ad 0)), (1, .int v1), (2, .int v2), (3, .int v3)] → va_P (dC, dI) vwCl (wMod ad cI cJ cZ mre mth mxs mys mcu mnx mpo mpn mrn mrd mfi mar mfn mfa mnu mst) H → va_D A (wMod ad cI cJ cZ mre mth mxs mys mcu mnx mpo mpn mrn mrd mfi mar mfn mfa mnu mst) → va_S A s.heap H locs → lp_X4_count_57 mre mth mxs mys mcu mnx mpo mpn mrn mrd mfi mar mfn mfa mnu v1 K186 n v2 v3 → W p l e rm_X4_count s m args below meth c H locs 0 0 Q (F0 m 57 ls []) := by
  obtain ⟨hx, hb, hml, hown, hts⟩ := id C
  intro n
  induction n with
  | zero =>
    intro v2 v3 ls H locs hl hP hD hS hw
    rw [lp_X4_count_57.eq_1] at hw
    exact hw.elim
  | succ n ih =>
    intro v2 v3 ls H locs hl hP hD hS hw
    rw [lp_X4_count_57.eq_2] at hw
    refine lv_iload_n hx hb dX4_count_57 rfl (lv_at hl 3 rfl) ?_
    refine lv_bipush (v := 120) hx hb dX4_count_58 (by decide) ?_
    refine lv_icmp_ge (tgt := 186) hx hb dX4_count_60 (by decide) (fun hc => ?_) (fun hc => ?_)
    · have hw := hw.1 (hc)
      exact hk186 v2 ls _ _ (lv_sub hl [0, 1, 2] rfl) hP hD hS hw
    · have hw := hw.2 hc
      refine lv_aload_n hx hb dX4_count_63 rfl (lv_at hl 0 rfl) ?_
      refine va_get (D := (dC, dI)) (ci := 4) (v := .ref (ad 1)) (C := RX4) (T := TX4) (N := 16) hx hb hts f_X4_count_1 hown hK hP 0 rfl rfl 1 (by decide) (hts _ f_X4_count_5) (fun _ h9 => h9) rfl dX4_count_64 ?_
      refine lv_iload_n hx hb dX4_count_67 rfl (lv_at hl 3 rfl) ?_
      refine lv_iconst (v := 2) hx hb dX4_count_68 (by decide) ?_
      refine lv_idiv hx hb dX4_count_69 (by decide) ?_
      have hi := hw.1
      have hw := hw.2
      refine va_zald hx hb hK hP 1 2 rfl rfl hi dX4_count_70 ?_
      refine jn1_use (J := fun (j17 : Int32) => ∀ (ls : Array Slot) (H : Heap) (locs : List Loc), lv_has ls 6 [(0, .ref (ad 0)), (1, .int v1), (2, .int j17), (3, .int v3)] → va_P (dC, dI) vwCl (wMod ad cI cJ cZ mre mth mxs mys mcu mnx mpo mpn mrn mrd mfi mar mfn mfa mnu mst) H → va_D A (wMod ad cI cJ cZ mre mth mxs mys mcu mnx mpo mpn mrn mrd mfi mar mfn mfa mnu mst) → va_S A s.heap H locs → W p l e rm_X4_count s m args below meth c H locs 0 0 Q (F0 m 180 ls [])) hw (fun j17 hw ls H locs hl hP hD hS => ?_) (fun hw hj0 => ?_)
      · refine lv_iinc (v := (v3 + (1 : Int32))) (lv' := [(3, .int (v3 + (1 : Int32))), (0, .ref (ad 0)), (1, .int v1), (2, .int j17)]) hx hb dX4_count_180 hl (k := 3) rfl rfl (by decide) rfl (fun ls hl => ?_)
        refine lv_goto (tgt := 57) hx hb dX4_count_183 (by decide) ?_
        exact ih j17 (v3 + (1 : Int32)) ls _ _ (lv_sub hl [1, 2, 3, 0] rfl) hP hD hS hw
      · have hj19 := hj0
        refine lv_if_eq (tgt := 180) hx hb dX4_count_71 (by decide) (fun hc => ?_) (fun hc => ?_)
        · have hw := hw.1 (hc)
          exact hj19 v2 hw ls _ _ (lv_sub hl [0, 1, 2, 3] rfl) hP hD hS
        · have hw := hw.2 hc
          refine lv_iconst (v := 1) hx hb dX4_count_74 (by decide) ?_
          refine lv_istore (lv' := [(4, .int (1 : Int32)), (0, .ref (ad 0)), (1, .int v1), (2, .int v2), (3, .int v3)]) hx hb dX4_count_75 hl (by decide) rfl (fun ls hl => ?_)
          refine lv_iconst (v := 0) hx hb dX4_count_77 (by decide) ?_
          refine lv_istore (lv' := [(5, .int (0 : Int32)), (4, .int (1 : Int32)), (0, .ref (ad 0)), (1, .int v1), (2, .int v2), (3, .int v3)]) hx hb dX4_count_78 hl (by decide) rfl (fun ls hl => ?_)
          obtain ⟨n39, hw⟩ := hw
          refine l_X4_count_80 C hK hA (fun w26 ls H locs hl hP hD hS hw => ?_) n39 (1 : Int32) (0 : Int32) ls _ _ (lv_sub hl [2, 3, 4, 5, 1, 0] rfl) hP hD hS hw
          refine lv_iload_n hx hb dX4_count_125 rfl (lv_at hl 1 rfl) ?_
          refine lv_iconst (v := 1) hx hb dX4_count_126 (by decide) ?_
          refine jn1_use (J := fun (k27 : Int32) => ∀ (ls : Array Slot) (H : Heap) (locs : List Loc), lv_has ls 6 [(0, .ref (ad 0)), (1, .int v1), (2, .int v2), (3, .int v3)] → va_P (dC, dI) vwCl (wMod ad cI cJ cZ mre mth mxs mys mcu mnx mpo mpn mrn mrd mfi mar mfn mfa mnu mst) H → va_D A (wMod ad cI cJ cZ mre mth mxs mys mcu mnx mpo mpn mrn mrd mfi mar mfn mfa mnu mst) → va_S A s.heap H locs → W p l e rm_X4_count s m args below meth c H locs 0 0 Q (F0 m 165 ls [.int k27])) hw (fun k27 hw ls H locs hl hP hD hS => ?_) (fun hw hj0 => ?_)
          · refine lv_istore (lv' := [(5, .int k27), (0, .ref (ad 0)), (1, .int v1), (2, .int v2), (3, .int v3)]) hx hb dX4_count_165 hl (by decide) rfl (fun ls hl => ?_)
            refine lv_iload hx hb dX4_count_167 (lv_at hl 0 rfl) ?_
            refine jn1_use (J := fun (k30 : Int32) => ∀ (ls : Array Slot) (H : Heap) (locs : List Loc), lv_has ls 6 [(0, .ref (ad 0)), (1, .int v1), (3, .int v3)] → va_P (dC, dI) vwCl (wMod ad cI cJ cZ mre mth mxs mys mcu mnx mpo mpn mrn mrd mfi mar mfn mfa mnu mst) H → va_D A (wMod ad cI cJ cZ mre mth mxs mys mcu mnx mpo mpn mrn mrd mfi mar mfn mfa mnu mst) → va_S A s.heap H locs → W p l e rm_X4_count s m args below meth c H locs 0 0 Q (F0 m 179 ls [.int k30])) hw (fun k30 hw ls H locs hl hP hD hS => ?_) (fun hw hj0 => ?_)
            · refine lv_istore_n (lv' := [(2, .int k30), (0, .ref (ad 0)), (1, .int v1), (3, .int v3)]) hx hb dX4_count_179 rfl hl (by decide) rfl (fun ls hl => ?_)
              exact hj19 k30 hw ls _ _ (lv_sub hl [1, 2, 0, 3] rfl) hP hD hS
            · have hj32 := hj0
              refine lv_if_eq (tgt := 178) hx hb dX4_count_169 (by decide) (fun hc => ?_) (fun hc => ?_)
              · have hw := hw.1 (hc)
                refine lv_iload_n hx hb dX4_count_178 rfl (lv_at hl 3 rfl) ?_
                exact hj32 v2 hw ls _ _ (lv_sub hl [1, 2, 4] rfl) hP hD hS
              · have hw := hw.2 hc
                refine lv_iload_n hx hb dX4_count_172 rfl (lv_at hl 3 rfl) ?_
                refine lv_iconst (v := 1) hx hb dX4_count_173 (by decide) ?_
                refine lv_iadd hx hb dX4_count_174 ?_
                refine lv_goto (tgt := 179) hx hb dX4_count_175 (by decide) ?_
                exact hj32 (v2 + (1 : Int32)) hw ls _ _ (lv_sub hl [1, 2, 4] rfl) hP hD hS
          · have hj29 := hj0
            refine lv_icmp_ne (tgt := 135) hx hb dX4_count_127 (by decide) (fun hc => ?_) (fun hc => ?_)
            · have hw := hw.2 hc
              refine lv_iload_n hx hb dX4_count_135 rfl (lv_at hl 3 rfl) ?_
              refine lv_iconst (v := 2) hx hb dX4_count_136 (by decide) ?_
              refine lv_irem hx hb dX4_count_137 (by decide) ?_
              refine jn0_use (J := ∀ (ls : Array Slot) (H : Heap) (locs : List Loc), lv_has ls 6 [(0, .ref (ad 0)), (1, .int v1), (2, .int v2), (3, .int v3)] → va_P (dC, dI) vwCl (wMod ad cI cJ cZ mre mth mxs mys mcu mnx mpo mpn mrn mrd mfi mar mfn mfa mnu mst) H → va_D A (wMod ad cI cJ cZ mre mth mxs mys mcu mnx mpo mpn mrn mrd mfi mar mfn mfa mnu mst) → va_S A s.heap H locs → W p l e rm_X4_count s m args below meth c H locs 0 0 Q (F0 m 164 ls [])) hw (fun hw ls H locs hl hP hD hS => ?_) (fun hw hj0 => ?_)
              · refine lv_iconst (v := 0) hx hb dX4_count_164 (by decide) ?_
                exact hj29 (0 : Int32) hw ls _ _ (lv_sub hl [0, 1, 2, 3] rfl) hP hD hS
              · have hj34 := hj0
                refine lv_if_ne (tgt := 164) hx hb dX4_count_138 (by decide) (fun hc => ?_) (fun hc => ?_)
                · have hw := hw.2 hc
                  exact hj34 hw ls _ _ (lv_sub hl [0, 1, 2, 3] rfl) hP hD hS
                · have hw := hw.1 (hc)
                  refine lv_iload_n hx hb dX4_count_141 rfl (lv_at hl 1 rfl) ?_
                  refine jn0_use (J := ∀ (ls : Array Slot) (H : Heap) (locs : List Loc), lv_has ls 6 [(0, .ref (ad 0)), (1, .int v1), (2, .int v2), (3, .int v3)] → va_P (dC, dI) vwCl (wMod ad cI cJ cZ mre mth mxs mys mcu mnx mpo mpn mrn mrd mfi mar mfn mfa mnu mst) H → va_D A (wMod ad cI cJ cZ mre mth mxs mys mcu mnx mpo mpn mrn mrd mfi mar mfn mfa mnu mst) → va_S A s.heap H locs → W p l e rm_X4_count s m args below meth c H locs 0 0 Q (F0 m 160 ls [])) hw (fun hw ls H locs hl hP hD hS => ?_) (fun hw hj0 => ?_)
                  · refine lv_iconst (v := 1) hx hb dX4_count_160 (by decide) ?_
                    refine lv_goto (tgt := 165) hx hb dX4_count_161 (by decide) ?_
                    exact hj29 (1 : Int32) hw ls _ _ (lv_sub hl [0, 1, 2, 3] rfl) hP hD hS
                  · have hj36 := hj0
                    refine lv_if_eq (tgt := 160) hx hb dX4_count_142 (by decide) (fun hc => ?_) (fun hc => ?_)
                    · have hw := hw.1 (hc)
                      exact hj36 hw ls _ _ (lv_sub hl [0, 1, 2, 3] rfl) hP hD hS
                    · have hw := hw.2 hc
                      refine lv_aload_n hx hb dX4_count_145 rfl (lv_at hl 0 rfl) ?_
                      refine lv_iload_n hx hb dX4_count_146 rfl (lv_at hl 3 rfl) ?_
                      refine vp_callSi (W.runV (As := [.int v3]) (rest := []) C (c_X4_left l dC dI cI cJ cZ ad mre mth mxs mys mcu mnx mpo mpn mrn mrd mfi mar mfn mfa mnu mst v3 hw) (cwV 1 hts gX4_count_X4_left rfl rfl rfl (by decide +kernel) ⟨Nat.le_of_ble_eq_true rfl, Nat.le_of_ble_eq_true rfl⟩) ⟨fb_ro, va_recv hK hP (ci := 4) (q0 := 0) rfl rfl, fun U hU hW => ⟨rfl, by rw [hU]; exact hP, va_K.moved hW.alike hK⟩⟩ rfl rfl hl.1 rfl (lv_room (Nat.le_of_ble_eq_true rfl)) dX4_count_147 ⟨Nat.zero_le _, Nat.zero_le _⟩) (fun r37 hw => ?_)
                      refine lv_aload_n hx hb dX4_count_150 rfl (lv_at hl 0 rfl) ?_
                      refine lv_iload_n hx hb dX4_count_151 rfl (lv_at hl 3 rfl) ?_
                      refine lv_iconst (v := 1) hx hb dX4_count_152 (by decide) ?_
                      refine lv_iadd hx hb dX4_count_153 ?_
                      refine vp_callSi (W.runV (As := [.int (v3 + (1 : Int32))]) (rest := [.int r37]) C (c_X4_left l dC dI cI cJ cZ ad mre mth mxs mys mcu mnx mpo mpn mrn mrd mfi mar mfn mfa mnu mst (v3 + (1 : Int32)) hw) (cwV 1 hts gX4_count_X4_left rfl rfl rfl (by decide +kernel) ⟨Nat.le_of_ble_eq_true rfl, Nat.le_of_ble_eq_true rfl⟩) ⟨fb_ro, va_recv hK hP (ci := 4) (q0 := 0) rfl rfl, fun U hU hW => ⟨rfl, by rw [hU]; exact hP, va_K.moved hW.alike hK⟩⟩ rfl rfl hl.1 rfl (lv_room (Nat.le_of_ble_eq_true rfl)) dX4_count_154 ⟨Nat.zero_le _, Nat.zero_le _⟩) (fun r38 hw => ?_)
                      refine lv_icmp_ne (tgt := 164) hx hb dX4_count_157 (by decide) (fun hc => ?_) (fun hc => ?_)
                      · have hw := hw.2 hc
                        exact hj34 hw ls _ _ (lv_sub hl [0, 1, 2, 3] rfl) hP hD hS
                      · have hw := hw.1 (hc)
                        exact hj36 hw ls _ _ (lv_sub hl [0, 1, 2, 3] rfl) hP hD hS
            · have hw := hw.1 (hc)
              refine lv_iload hx hb dX4_count_130 (lv_at hl 4 rfl) ?_
              refine lv_goto (tgt := 165) hx hb dX4_count_132 (by decide) ?_
              exact hj29 w26 hw ls _ _ (lv_sub hl [0, 1, 2, 3] rfl) hP hD hS
set_option maxRecDepth 100000 in
set_option maxHeartbeats 4000000 in
theorem c_X4_count (l : Launch) (dC : Nat → ClassId) (dI : Nat → Nat → Nat) (cI cJ cZ : ClassId) (ad : Nat → Nat) (sz : Nat) (mre : Int32) (mth : Nat → Int32) (mxs : Nat → Int32) (mys : Nat → Int32) (mcu : Int32) (mnx : Nat → Int32) (mpo : Nat → Int32) (mpn : Int32) (mrn : Int32) (mrd : Nat → Int32) (mfi : Nat → Int32) (mar : Nat → Int64) (mfn : Int32) (mfa : Nat → Int32) (mnu : Nat → Int32) (mst : Nat → Int32) (v1 : Int32) {post : Int32 → Int32 → Int32 → (Nat → Int32) → (Nat → Int32) → Int32 → Int32 → (Nat → Int32) → (Nat → Int32) → (Nat → Int64) → Int32 → (Nat → Int32) → (Nat → Int32) → Prop} (hw : wp_X4_count mre mth mxs mys mcu mnx mpo mpn mrn mrd mfi mar mfn mfa mnu v1 post) : Met l yX4_count wsX4_count rm_X4_count (va_Pc [.ref (ad 0), .int v1] (fun U => U.heap.size = sz ∧ va_P (dC, dI) vwCl (wMod ad cI cJ cZ mre mth mxs mys mcu mnx mpo mpn mrn mrd mfi mar mfn mfa mnu mst) U.heap ∧ va_K (dC, dI) vwCl (tyL cI cJ cZ) U ∧ va_D (fun _ => True) (wMod ad cI cJ cZ mre mth mxs mys mcu mnx mpo mpn mrn mrd mfi mar mfn mfa mnu mst))) (va_Qi (fun (r : Int32) (uu : Int32 × Int32 × (Nat → Int32) × (Nat → Int32) × Int32 × Int32 × (Nat → Int32) × (Nat → Int32) × (Nat → Int64) × Int32 × (Nat → Int32) × (Nat → Int32)) => post r uu.1 uu.2.1 uu.2.2.1 uu.2.2.2.1 uu.2.2.2.2.1 uu.2.2.2.2.2.1 uu.2.2.2.2.2.2.1 uu.2.2.2.2.2.2.2.1 uu.2.2.2.2.2.2.2.2.1 uu.2.2.2.2.2.2.2.2.2.1 uu.2.2.2.2.2.2.2.2.2.2.1 uu.2.2.2.2.2.2.2.2.2.2.2) (fun (uu : Int32 × Int32 × (Nat → Int32) × (Nat → Int32) × Int32 × Int32 × (Nat → Int32) × (Nat → Int32) × (Nat → Int64) × Int32 × (Nat → Int32) × (Nat → Int32)) (t : State) => va_P (dC, dI) vwCl (wMod ad cI cJ cZ uu.1 mth mxs mys uu.2.1 uu.2.2.1 uu.2.2.2.1 uu.2.2.2.2.1 uu.2.2.2.2.2.1 uu.2.2.2.2.2.2.1 uu.2.2.2.2.2.2.2.1 uu.2.2.2.2.2.2.2.2.1 uu.2.2.2.2.2.2.2.2.2.1 uu.2.2.2.2.2.2.2.2.2.2.1 uu.2.2.2.2.2.2.2.2.2.2.2 mst) t.heap ∧ va_D (va_A (wMod ad cI cJ cZ mre mth mxs mys mcu mnx mpo mpn mrn mrd mfi mar mfn mfa mnu mst) sz) (wMod ad cI cJ cZ uu.1 mth mxs mys uu.2.1 uu.2.2.1 uu.2.2.2.1 uu.2.2.2.2.1 uu.2.2.2.2.2.1 uu.2.2.2.2.2.2.1 uu.2.2.2.2.2.2.2.1 uu.2.2.2.2.2.2.2.2.1 uu.2.2.2.2.2.2.2.2.2.1 uu.2.2.2.2.2.2.2.2.2.2.1 uu.2.2.2.2.2.2.2.2.2.2.2 mst)) (va_A (wMod ad cI cJ cZ mre mth mxs mys mcu mnx mpo mpn mrn mrd mfi mar mfn mfa mnu mst) sz)) 0 0 (va_A (wMod ad cI cJ cZ mre mth mxs mys mcu mnx mpo mpn mrn mrd mfi mar mfn mfa mnu mst) sz) := by
  unfold wp_X4_count at hw
  refine Met.ofW (cc := cX4_count) (maxL := 6) (ret := (some .int)) (by decide) rfl ?_
  intro p e s m args below meth c s₁ B hml hv
  obtain ⟨hav, hsz, hP, hK, hD0⟩ := hv
  have hx := B.exec
  have hb := B.bytes
  have hr := B.returns
  have hts := atoms_spec (ws := wsX4_count) B.pre
  have hown : s.vm.findClass RX4 = some m.cls := findClass_of_methodNamed B.named
  have hlocks := B.notSynchronized
  have C : CallFix p m c cX4_count 6 s args wsX4_count RX4 := ⟨hx, hb, hml, hown, hts⟩
  obtain ⟨ls, hE, hl⟩ := mx_entry (m := m) [.ref (ad 0), .int v1] (n := 6) (Nat.le_of_ble_eq_true rfl)
  have hl : lv_has ls 6 [(0, .ref (ad 0)), (1, .int v1)] := hl
  rw [show entryFrame m args 6 = F0 m 0 ls [] by rw [hav]; exact hE]
  subst hsz
  have hD := hD0.self (sz := s.heap.size)
  generalize hAe : va_A (wMod ad cI cJ cZ mre mth mxs mys mcu mnx mpo mpn mrn mrd mfi mar mfn mfa mnu mst) s.heap.size = A at hD ⊢
  have hA : ∀ q : Nat, s.heap.size ≤ q → A q := fun q h => by rw [← hAe]; exact Or.inr h
  have hS : va_S A s.heap s.heap [] := va_S.rf
  obtain ⟨Q, hQ⟩ : ∃ Q, MQ below (va_Qi (fun (r : Int32) (uu : Int32 × Int32 × (Nat → Int32) × (Nat → Int32) × Int32 × Int32 × (Nat → Int32) × (Nat → Int32) × (Nat → Int64) × Int32 × (Nat → Int32) × (Nat → Int32)) => post r uu.1 uu.2.1 uu.2.2.1 uu.2.2.2.1 uu.2.2.2.2.1 uu.2.2.2.2.2.1 uu.2.2.2.2.2.2.1 uu.2.2.2.2.2.2.2.1 uu.2.2.2.2.2.2.2.2.1 uu.2.2.2.2.2.2.2.2.2.1 uu.2.2.2.2.2.2.2.2.2.2.1 uu.2.2.2.2.2.2.2.2.2.2.2) (fun (uu : Int32 × Int32 × (Nat → Int32) × (Nat → Int32) × Int32 × Int32 × (Nat → Int32) × (Nat → Int32) × (Nat → Int64) × Int32 × (Nat → Int32) × (Nat → Int32)) (t : State) => va_P (dC, dI) vwCl (wMod ad cI cJ cZ uu.1 mth mxs mys uu.2.1 uu.2.2.1 uu.2.2.2.1 uu.2.2.2.2.1 uu.2.2.2.2.2.1 uu.2.2.2.2.2.2.1 uu.2.2.2.2.2.2.2.1 uu.2.2.2.2.2.2.2.2.1 uu.2.2.2.2.2.2.2.2.2.1 uu.2.2.2.2.2.2.2.2.2.2.1 uu.2.2.2.2.2.2.2.2.2.2.2 mst) t.heap ∧ va_D A (wMod ad cI cJ cZ uu.1 mth mxs mys uu.2.1 uu.2.2.1 uu.2.2.2.1 uu.2.2.2.2.1 uu.2.2.2.2.2.1 uu.2.2.2.2.2.2.1 uu.2.2.2.2.2.2.2.1 uu.2.2.2.2.2.2.2.2.1 uu.2.2.2.2.2.2.2.2.2.1 uu.2.2.2.2.2.2.2.2.2.2.1 uu.2.2.2.2.2.2.2.2.2.2.2 mst)) A) args s 0 0 A = Q := ⟨_, rfl⟩
  rw [hQ]
  obtain ⟨H, hH⟩ : ∃ H, s.heap = H := ⟨_, rfl⟩
  have hS : va_S A s.heap H [] := by rw [← hH]; exact hS
  rw [hH] at hP
  show W p l e rm_X4_count s m args below meth c s.heap [] 0 0 Q (F0 m 0 ls [])
  suffices hg : W p l e rm_X4_count s m args below meth c H [] 0 0 Q (F0 m 0 ls []) by rw [hH]; exact hg
  clear hH
  generalize hlo : ([] : List Loc) = locs at hS ⊢
  refine lv_aload_n hx hb dX4_count_0 rfl (lv_at hl 0 rfl) ?_
  refine lv_iconst (v := 0) hx hb dX4_count_1 (by decide) ?_
  refine va_put (D := (dC, dI)) (ci := 4) (v := .int (0 : Int32)) (ty := .int) (C := RX4) (T := TX4) (N := 16) hx hb hts f_X4_count_1 tyX4 tyX4_ok nmX4 hown hK hP hD hS 0 rfl rfl 0 (by decide) (hts _ f_X4_count_0) (fun _ h9 => h9) rfl (by decide +kernel) rfl rfl (Nat.le_of_ble_eq_true rfl) dX4_count_2 (fun H locs hP hD hS => ?_)
  have hP : va_P (dC, dI) vwCl (wMod ad cI cJ cZ (0 : Int32) mth mxs mys mcu mnx mpo mpn mrn mrd mfi mar mfn mfa mnu mst) H := hP
  have hD : va_D A (wMod ad cI cJ cZ (0 : Int32) mth mxs mys mcu mnx mpo mpn mrn mrd mfi mar mfn mfa mnu mst) := hD
  refine lv_aload_n hx hb dX4_count_5 rfl (lv_at hl 0 rfl) ?_
  have hPc := hP.sub (ws' := (wMod ad cI cJ cZ (0 : Int32) mth mxs mys mcu mnx mpo mpn mrn mrd mfi mar mfn mfa mnu mst)) [0, 1, 2, 3, 4, 5, 6, 7, 8, 9, 10, 11] rfl
  have hDc := hD.sub (ws' := (wMod ad cI cJ cZ (0 : Int32) mth mxs mys mcu mnx mpo mpn mrn mrd mfi mar mfn mfa mnu mst)) [0, 1, 2, 3, 4, 5, 6, 7, 8, 9, 10, 11] (by decide) rfl
  have hFc := va_free (wc := (wMod ad cI cJ cZ (0 : Int32) mth mxs mys mcu mnx mpo mpn mrn mrd mfi mar mfn mfa mnu mst)) hD hS hA [0, 1, 2, 3, 4, 5, 6, 7, 8, 9, 10, 11] rfl
  refine va_callv (va_runV (As := []) (rest := []) C (c_X4_make l dC dI cI cJ cZ ad _ (0 : Int32) mth mxs mys mcu mnx mpo mpn mrn mrd mfi mar mfn mfa mnu mst  hw) (cwV 0 hts gX4_count_X4_make rfl rfl rfl (by decide +kernel) ⟨Nat.le_of_ble_eq_true rfl, Nat.le_of_ble_eq_true rfl⟩) ⟨fb_rw, va_recv hK hPc (ci := 4) (q0 := 0) rfl rfl, fun U hU hW => ⟨rfl, by rw [hU], by rw [hU]; exact hPc, va_K.moved hW.alike hK, hDc.weaken (fun _ _ _ _ => trivial)⟩⟩ rfl rfl hl.1 rfl (lv_room (Nat.le_of_ble_eq_true rfl)) dX4_count_6 ⟨Nat.zero_le _, Nat.zero_le _⟩) hS (fun q _ h => hFc q h) hFc (fun uu t H1 locs ht hvm hw hB hz1 hk1 hS => ?_)
  obtain ⟨mcu_1, mnx_2, mpo_3, mpn_4, mrn_5, mrd_6, mfi_7, mar_8, mfn_9, mfa_10, mnu_11⟩ := uu
  obtain ⟨hP1, hD1⟩ := hB
  rw [ht] at hP1
  try dsimp only at hw hP1 hD1
  obtain ⟨hP, hD⟩ := va_join (wr := []) (w1 := (wMod ad cI cJ cZ (0 : Int32) mth mxs mys mcu_1 mnx_2 mpo_3 mpn_4 mrn_5 mrd_6 mfi_7 mar_8 mfn_9 mfa_10 mnu_11 mst)) hP hD [0, 1, 2, 3, 4, 5, 6, 7, 8, 9, 10, 11] [] rfl rfl (by decide) (by decide) hk1 hFc hP1 hD1
  generalize H1 = H at hP hS ⊢
  have hP : va_P (dC, dI) vwCl (wMod ad cI cJ cZ (0 : Int32) mth mxs mys mcu_1 mnx_2 mpo_3 mpn_4 mrn_5 mrd_6 mfi_7 mar_8 mfn_9 mfa_10 mnu_11 mst) H := hP
  have hD : va_D A (wMod ad cI cJ cZ (0 : Int32) mth mxs mys mcu_1 mnx_2 mpo_3 mpn_4 mrn_5 mrd_6 mfi_7 mar_8 mfn_9 mfa_10 mnu_11 mst) := hD
  refine lv_iload_n hx hb dX4_count_9 rfl (lv_at hl 1 rfl) ?_
  refine lv_iconst (v := 2) hx hb dX4_count_10 (by decide) ?_
  refine jn0_use (J := ∀ (ls : Array Slot) (H : Heap) (locs : List Loc), lv_has ls 6 [(0, .ref (ad 0)), (1, .int v1)] → va_P (dC, dI) vwCl (wMod ad cI cJ cZ (0 : Int32) mth mxs mys mcu_1 mnx_2 mpo_3 mpn_4 mrn_5 mrd_6 mfi_7 mar_8 mfn_9 mfa_10 mnu_11 mst) H → va_D A (wMod ad cI cJ cZ (0 : Int32) mth mxs mys mcu_1 mnx_2 mpo_3 mpn_4 mrn_5 mrd_6 mfi_7 mar_8 mfn_9 mfa_10 mnu_11 mst) → va_S A s.heap H locs → W p l e rm_X4_count s m args below meth c H locs 0 0 Q (F0 m 24 ls [])) hw (fun hw ls H locs hl hP hD hS => ?_) (fun hw hj0 => ?_)
  · refine lv_iload_n hx hb dX4_count_24 rfl (lv_at hl 1 rfl) ?_
    refine lv_iconst (v := 2) hx hb dX4_count_25 (by decide) ?_
    refine jn1_use (J := fun (k14 : Int32) => ∀ (ls : Array Slot) (H : Heap) (locs : List Loc), lv_has ls 6 [(0, .ref (ad 0))] → va_P (dC, dI) vwCl (wMod ad cI cJ cZ (0 : Int32) mth mxs mys mcu_1 mnx_2 mpo_3 mpn_4 mrn_5 mrd_6 mfi_7 mar_8 mfn_9 mfa_10 mnu_11 mst) H → va_D A (wMod ad cI cJ cZ (0 : Int32) mth mxs mys mcu_1 mnx_2 mpo_3 mpn_4 mrn_5 mrd_6 mfi_7 mar_8 mfn_9 mfa_10 mnu_11 mst) → va_S A s.heap H locs → W p l e rm_X4_count s m args below meth c H locs 0 0 Q (F0 m 52 ls [.int k14])) hw (fun k14 hw ls H locs hl hP hD hS => ?_) (fun hw hj0 => ?_)
    · rw [← hQ]
      exact W.iret (v := k14) hx hb hr (fun t ht hW => ⟨⟨_, ((0 : Int32), mcu_1, mnx_2, mpo_3, mpn_4, mrn_5, mrd_6, mfi_7, mar_8, mfn_9, mfa_10, mnu_11), rfl, hw, by rw [ht]; exact hP, hD⟩, hS.F ht⟩) hS.2.2 dX4_count_52
    · have hj16 := hj0
      refine lv_icmp_ne (tgt := 36) hx hb dX4_count_26 (by decide) (fun hc => ?_) (fun hc => ?_)
      · have hw := hw.2 hc
        refine lv_iload_n hx hb dX4_count_36 rfl (lv_at hl 1 rfl) ?_
        refine lv_iconst (v := 3) hx hb dX4_count_37 (by decide) ?_
        refine lv_icmp_ne (tgt := 48) hx hb dX4_count_38 (by decide) (fun hc => ?_) (fun hc => ?_)
        · have hw := hw.2 hc
          refine lv_aload_n hx hb dX4_count_48 rfl (lv_at hl 0 rfl) ?_
          refine va_get (D := (dC, dI)) (ci := 4) (v := .int mrn_5) (C := RX4) (T := TX4) (N := 16) hx hb hts f_X4_count_1 hown hK hP 0 rfl rfl 8 (by decide) (hts _ f_X4_count_2) (fun _ h9 => h9) rfl dX4_count_49 ?_
          exact hj16 mrn_5 hw ls _ _ (lv_sub hl [0] rfl) hP hD hS
        · have hw := hw.1 (hc)
          refine lv_aload_n hx hb dX4_count_41 rfl (lv_at hl 0 rfl) ?_
          refine va_get (D := (dC, dI)) (ci := 4) (v := .int mpn_4) (C := RX4) (T := TX4) (N := 16) hx hb hts f_X4_count_1 hown hK hP 0 rfl rfl 7 (by decide) (hts _ f_X4_count_3) (fun _ h9 => h9) rfl dX4_count_42 ?_
          refine lv_goto (tgt := 52) hx hb dX4_count_45 (by decide) ?_
          exact hj16 mpn_4 hw ls _ _ (lv_sub hl [0] rfl) hP hD hS
      · have hw := hw.1 (hc)
        refine lv_aload_n hx hb dX4_count_29 rfl (lv_at hl 0 rfl) ?_
        refine va_get (D := (dC, dI)) (ci := 4) (v := .int mfn_9) (C := RX4) (T := TX4) (N := 16) hx hb hts f_X4_count_1 hown hK hP 0 rfl rfl 12 (by decide) (hts _ f_X4_count_4) (fun _ h9 => h9) rfl dX4_count_30 ?_
        refine lv_goto (tgt := 52) hx hb dX4_count_33 (by decide) ?_
        exact hj16 mfn_9 hw ls _ _ (lv_sub hl [0] rfl) hP hD hS
  · have hj13 := hj0
    refine lv_icmp_eq (tgt := 24) hx hb dX4_count_11 (by decide) (fun hc => ?_) (fun hc => ?_)
    · have hw := hw.1 (hc)
      exact hj13 hw ls _ _ (lv_sub hl [0, 1] rfl) hP hD hS
    · have hw := hw.2 hc
      refine lv_iload_n hx hb dX4_count_14 rfl (lv_at hl 1 rfl) ?_
      refine lv_iconst (v := 3) hx hb dX4_count_15 (by decide) ?_
      refine lv_icmp_eq (tgt := 24) hx hb dX4_count_16 (by decide) (fun hc => ?_) (fun hc => ?_)
      · have hw := hw.1 (hc)
        exact hj13 hw ls _ _ (lv_sub hl [0, 1] rfl) hP hD hS
      · have hw := hw.2 hc
        refine lv_iload_n hx hb dX4_count_19 rfl (lv_at hl 1 rfl) ?_
        refine lv_iconst (v := 5) hx hb dX4_count_20 (by decide) ?_
        refine lv_icmp_ne (tgt := 53) hx hb dX4_count_21 (by decide) (fun hc => ?_) (fun hc => ?_)
        · have hw := hw.2 hc
          refine lv_iconst (v := 0) hx hb dX4_count_53 (by decide) ?_
          refine lv_istore_n (lv' := [(2, .int (0 : Int32)), (0, .ref (ad 0)), (1, .int v1)]) hx hb dX4_count_54 rfl hl (by decide) rfl (fun ls hl => ?_)
          refine lv_iconst (v := 0) hx hb dX4_count_55 (by decide) ?_
          refine lv_istore_n (lv' := [(3, .int (0 : Int32)), (2, .int (0 : Int32)), (0, .ref (ad 0)), (1, .int v1)]) hx hb dX4_count_56 rfl hl (by decide) rfl (fun ls hl => ?_)
          obtain ⟨n46, hw⟩ := hw
          refine l_X4_count_57 C hK hA (fun w40 ls H locs hl hP hD hS hw => ?_) n46 (0 : Int32) (0 : Int32) ls _ _ (lv_sub hl [2, 3, 1, 0] rfl) hP hD hS hw
          refine lv_iload_n hx hb dX4_count_186 rfl (lv_at hl 1 rfl) ?_
          refine jn1_use (J := fun (k41 : Int32) => ∀ (ls : Array Slot) (H : Heap) (locs : List Loc), lv_has ls 6 [(0, .ref (ad 0))] → va_P (dC, dI) vwCl (wMod ad cI cJ cZ (0 : Int32) mth mxs mys mcu_1 mnx_2 mpo_3 mpn_4 mrn_5 mrd_6 mfi_7 mar_8 mfn_9 mfa_10 mnu_11 mst) H → va_D A (wMod ad cI cJ cZ (0 : Int32) mth mxs mys mcu_1 mnx_2 mpo_3 mpn_4 mrn_5 mrd_6 mfi_7 mar_8 mfn_9 mfa_10 mnu_11 mst) → va_S A s.heap H locs → W p l e rm_X4_count s m args below meth c H locs 0 0 Q (F0 m 205 ls [.int k41])) hw (fun k41 hw ls H locs hl hP hD hS => ?_) (fun hw hj0 => ?_)
          · rw [← hQ]
            exact W.iret (v := k41) hx hb hr (fun t ht hW => ⟨⟨_, ((0 : Int32), mcu_1, mnx_2, mpo_3, mpn_4, mrn_5, mrd_6, mfi_7, mar_8, mfn_9, mfa_10, mnu_11), rfl, hw, by rw [ht]; exact hP, hD⟩, hS.F ht⟩) hS.2.2 dX4_count_205
          · have hj43 := hj0
            refine jn0_use (J := ∀ (ls : Array Slot) (H : Heap) (locs : List Loc), lv_has ls 6 [(0, .ref (ad 0)), (2, .int w40)] → va_P (dC, dI) vwCl (wMod ad cI cJ cZ (0 : Int32) mth mxs mys mcu_1 mnx_2 mpo_3 mpn_4 mrn_5 mrd_6 mfi_7 mar_8 mfn_9 mfa_10 mnu_11 mst) H → va_D A (wMod ad cI cJ cZ (0 : Int32) mth mxs mys mcu_1 mnx_2 mpo_3 mpn_4 mrn_5 mrd_6 mfi_7 mar_8 mfn_9 mfa_10 mnu_11 mst) → va_S A s.heap H locs → W p l e rm_X4_count s m args below meth c H locs 0 0 Q (F0 m 200 ls [])) hw (fun hw ls H locs hl hP hD hS => ?_) (fun hw hj0 => ?_)
            · refine lv_iload_n hx hb dX4_count_200 rfl (lv_at hl 1 rfl) ?_
              refine lv_goto (tgt := 205) hx hb dX4_count_201 (by decide) ?_
              exact hj43 w40 hw ls _ _ (lv_sub hl [0] rfl) hP hD hS
            · have hj45 := hj0
              refine lv_if_eq (tgt := 200) hx hb dX4_count_187 (by decide) (fun hc => ?_) (fun hc => ?_)
              · have hw := hw.1 (hc)
                exact hj45 hw ls _ _ (lv_sub hl [0, 2] rfl) hP hD hS
              · have hw := hw.2 hc
                refine lv_iload_n hx hb dX4_count_190 rfl (lv_at hl 1 rfl) ?_
                refine lv_iconst (v := 1) hx hb dX4_count_191 (by decide) ?_
                refine lv_icmp_eq (tgt := 200) hx hb dX4_count_192 (by decide) (fun hc => ?_) (fun hc => ?_)
                · have hw := hw.1 (hc)
                  exact hj45 hw ls _ _ (lv_sub hl [0, 2] rfl) hP hD hS
                · have hw := hw.2 hc
                  refine lv_iload_n hx hb dX4_count_195 rfl (lv_at hl 1 rfl) ?_
                  refine lv_iconst (v := 4) hx hb dX4_count_196 (by decide) ?_
                  refine lv_icmp_ne (tgt := 204) hx hb dX4_count_197 (by decide) (fun hc => ?_) (fun hc => ?_)
                  · have hw := hw.2 hc
                    refine lv_iconst (v := -1) hx hb dX4_count_204 (by decide) ?_
                    exact hj43 (-1 : Int32) hw ls _ _ (lv_sub hl [0] rfl) hP hD hS
                  · have hw := hw.1 (hc)
                    exact hj45 hw ls _ _ (lv_sub hl [0, 2] rfl) hP hD hS
        · have hw := hw.1 (hc)
          exact hj13 hw ls _ _ (lv_sub hl [0, 1] rfl) hP hD hS
-- X4_begins
abbrev rm_X4_begins : Room := { frames := 1, cells := 0, slots := 0, locals := 21 }
theorem f_X4_begins_0 : (Cond.fieldLink RX4 13 "PlaneFacesModel" "xs" "[I") ∈ wsX4_begins := by decide +kernel
theorem f_X4_begins_1 : ∀ w ∈ wsX40, w ∈ wsX4_begins := by decide +kernel
theorem f_X4_begins_2 : (Cond.fieldLink RX4 17 "PlaneFacesModel" "ys" "[I") ∈ wsX4_begins := by decide +kernel
set_option maxRecDepth 100000 in
set_option maxHeartbeats 4000000 in
theorem c_X4_begins (l : Launch) (dC : Nat → ClassId) (dI : Nat → Nat → Nat) (cI cJ cZ : ClassId) (ad : Nat → Nat) (sz : Nat) (mre : Int32) (mth : Nat → Int32) (mxs : Nat → Int32) (mys : Nat → Int32) (mcu : Int32) (mnx : Nat → Int32) (mpo : Nat → Int32) (mpn : Int32) (mrn : Int32) (mrd : Nat → Int32) (mfi : Nat → Int32) (mar : Nat → Int64) (mfn : Int32) (mfa : Nat → Int32) (mnu : Nat → Int32) (mst : Nat → Int32) (v1 : Int32) (v2 : Int32) {post : Int32 → Int32 → Prop} (hw : wp_X4_begins mre mth mxs mys v1 v2 post) : Met l yX4_begins wsX4_begins rm_X4_begins (va_Pc [.ref (ad 0), .int v1, .int v2] (fun U => U.heap.size = sz ∧ va_P (dC, dI) vwCl (wMod ad cI cJ cZ mre mth mxs mys mcu mnx mpo mpn mrn mrd mfi mar mfn mfa mnu mst) U.heap ∧ va_K (dC, dI) vwCl (tyL cI cJ cZ) U ∧ va_D (fun _ => True) (wMod ad cI cJ cZ mre mth mxs mys mcu mnx mpo mpn mrn mrd mfi mar mfn mfa mnu mst))) (va_Qi (fun (r : Int32) (uu : Int32) => post r uu) (fun (uu : Int32) (t : State) => va_P (dC, dI) vwCl (wMod ad cI cJ cZ uu mth mxs mys mcu mnx mpo mpn mrn mrd mfi mar mfn mfa mnu mst) t.heap ∧ va_D (va_A (wMod ad cI cJ cZ mre mth mxs mys mcu mnx mpo mpn mrn mrd mfi mar mfn mfa mnu mst) sz) (wMod ad cI cJ cZ uu mth mxs mys mcu mnx mpo mpn mrn mrd mfi mar mfn mfa mnu mst)) (va_A (wMod ad cI cJ cZ mre mth mxs mys mcu mnx mpo mpn mrn mrd mfi mar mfn mfa mnu mst) sz)) 0 0 (va_A (wMod ad cI cJ cZ mre mth mxs mys mcu mnx mpo mpn mrn mrd mfi mar mfn mfa mnu mst) sz) := by
  unfold wp_X4_begins at hw
  refine Met.ofW (cc := cX4_begins) (maxL := 3) (ret := (some .int)) (by decide) rfl ?_
  intro p e s m args below meth c s₁ B hml hv
  obtain ⟨hav, hsz, hP, hK, hD0⟩ := hv
  have hx := B.exec
  have hb := B.bytes
  have hr := B.returns
  have hts := atoms_spec (ws := wsX4_begins) B.pre
  have hown : s.vm.findClass RX4 = some m.cls := findClass_of_methodNamed B.named
  have hlocks := B.notSynchronized
  have C : CallFix p m c cX4_begins 3 s args wsX4_begins RX4 := ⟨hx, hb, hml, hown, hts⟩
  obtain ⟨ls, hE, hl⟩ := mx_entry (m := m) [.ref (ad 0), .int v1, .int v2] (n := 3) (Nat.le_of_ble_eq_true rfl)
  have hl : lv_has ls 3 [(0, .ref (ad 0)), (1, .int v1), (2, .int v2)] := hl
  rw [show entryFrame m args 3 = F0 m 0 ls [] by rw [hav]; exact hE]
  subst hsz
  have hD := hD0.self (sz := s.heap.size)
  generalize hAe : va_A (wMod ad cI cJ cZ mre mth mxs mys mcu mnx mpo mpn mrn mrd mfi mar mfn mfa mnu mst) s.heap.size = A at hD ⊢
  have hA : ∀ q : Nat, s.heap.size ≤ q → A q := fun q h => by rw [← hAe]; exact Or.inr h
  have hS : va_S A s.heap s.heap [] := va_S.rf
  obtain ⟨Q, hQ⟩ : ∃ Q, MQ below (va_Qi (fun (r : Int32) (uu : Int32) => post r uu) (fun (uu : Int32) (t : State) => va_P (dC, dI) vwCl (wMod ad cI cJ cZ uu mth mxs mys mcu mnx mpo mpn mrn mrd mfi mar mfn mfa mnu mst) t.heap ∧ va_D A (wMod ad cI cJ cZ uu mth mxs mys mcu mnx mpo mpn mrn mrd mfi mar mfn mfa mnu mst)) A) args s 0 0 A = Q := ⟨_, rfl⟩
  rw [hQ]
  obtain ⟨H, hH⟩ : ∃ H, s.heap = H := ⟨_, rfl⟩
  have hS : va_S A s.heap H [] := by rw [← hH]; exact hS
  rw [hH] at hP
  show W p l e rm_X4_begins s m args below meth c s.heap [] 0 0 Q (F0 m 0 ls [])
  suffices hg : W p l e rm_X4_begins s m args below meth c H [] 0 0 Q (F0 m 0 ls []) by rw [hH]; exact hg
  clear hH
  generalize hlo : ([] : List Loc) = locs at hS ⊢
  refine lv_aload_n hx hb dX4_begins_0 rfl (lv_at hl 0 rfl) ?_
  refine lv_aload_n hx hb dX4_begins_1 rfl (lv_at hl 0 rfl) ?_
  refine lv_iload_n hx hb dX4_begins_2 rfl (lv_at hl 1 rfl) ?_
  refine vp_callSi (W.runV (As := [.int v1]) (rest := [.ref (ad 0)]) C (c_X4_isHalf l dC dI cI cJ cZ ad mre mth mxs mys mcu mnx mpo mpn mrn mrd mfi mar mfn mfa mnu mst v1 hw) (cwV 1 hts gX4_begins_X4_isHalf rfl rfl rfl (by decide +kernel) ⟨Nat.le_of_ble_eq_true rfl, Nat.le_of_ble_eq_true rfl⟩) ⟨fb_ro, va_recv hK hP (ci := 4) (q0 := 0) rfl rfl, fun U hU hW => ⟨rfl, by rw [hU]; exact hP, va_K.moved hW.alike hK⟩⟩ rfl rfl hl.1 rfl (lv_room (Nat.le_of_ble_eq_true rfl)) dX4_begins_3 ⟨Nat.zero_le _, Nat.zero_le _⟩) (fun r1 hw => ?_)
  refine jn1_use (J := fun (k2 : Int32) => ∀ (ls : Array Slot) (H : Heap) (locs : List Loc), lv_has ls 3 [(0, .ref (ad 0)), (1, .int v1), (2, .int v2)] → va_P (dC, dI) vwCl (wMod ad cI cJ cZ mre mth mxs mys mcu mnx mpo mpn mrn mrd mfi mar mfn mfa mnu mst) H → va_D A (wMod ad cI cJ cZ mre mth mxs mys mcu mnx mpo mpn mrn mrd mfi mar mfn mfa mnu mst) → va_S A s.heap H locs → W p l e rm_X4_begins s m args below meth c H locs 0 0 Q (F0 m 14 ls [.int k2, .ref (ad 0)])) hw (fun k2 hw ls H locs hl hP hD hS => ?_) (fun hw hj0 => ?_)
  · have hPc := hP.sub (ws' := (wMod ad cI cJ cZ mre mth mxs mys mcu mnx mpo mpn mrn mrd mfi mar mfn mfa mnu mst)) [0, 1, 2, 3, 4, 5, 6, 7, 8, 9, 10, 11] rfl
    have hDc := hD.sub (ws' := (wMod ad cI cJ cZ mre mth mxs mys mcu mnx mpo mpn mrn mrd mfi mar mfn mfa mnu mst)) [0, 1, 2, 3, 4, 5, 6, 7, 8, 9, 10, 11] (by decide) rfl
    have hFc := va_free (wc := (wMod ad cI cJ cZ mre mth mxs mys mcu mnx mpo mpn mrn mrd mfi mar mfn mfa mnu mst)) hD hS hA [0, 1, 2, 3, 4, 5, 6, 7, 8, 9, 10, 11] rfl
    refine va_calli (va_runV (As := [.int k2]) (rest := []) C (c_X4_refused l dC dI cI cJ cZ ad _ mre mth mxs mys mcu mnx mpo mpn mrn mrd mfi mar mfn mfa mnu mst k2 hw) (cwV 1 hts gX4_begins_X4_refused rfl rfl rfl (by decide +kernel) ⟨Nat.le_of_ble_eq_true rfl, Nat.le_of_ble_eq_true rfl⟩) ⟨fb_rw, va_recv hK hPc (ci := 4) (q0 := 0) rfl rfl, fun U hU hW => ⟨rfl, by rw [hU], by rw [hU]; exact hPc, va_K.moved hW.alike hK, hDc.weaken (fun _ _ _ _ => trivial)⟩⟩ rfl rfl hl.1 rfl (lv_room (Nat.le_of_ble_eq_true rfl)) dX4_begins_14 ⟨Nat.zero_le _, Nat.zero_le _⟩) hS (fun q _ h => hFc q h) hFc (fun r5 uu t H1 locs ht hvm hw hB hz1 hk1 hS => ?_)
    obtain ⟨mre_6, rfl⟩ : ∃ z, z = uu := ⟨_, rfl⟩
    obtain ⟨hP1, hD1⟩ := hB
    rw [ht] at hP1
    try dsimp only at hw hP1 hD1
    obtain ⟨hP, hD⟩ := va_join (wr := []) (w1 := (wMod ad cI cJ cZ mre_6 mth mxs mys mcu mnx mpo mpn mrn mrd mfi mar mfn mfa mnu mst)) hP hD [0, 1, 2, 3, 4, 5, 6, 7, 8, 9, 10, 11] [] rfl rfl (by decide) (by decide) hk1 hFc hP1 hD1
    generalize H1 = H at hP hS ⊢
    have hP : va_P (dC, dI) vwCl (wMod ad cI cJ cZ mre_6 mth mxs mys mcu mnx mpo mpn mrn mrd mfi mar mfn mfa mnu mst) H := hP
    have hD : va_D A (wMod ad cI cJ cZ mre_6 mth mxs mys mcu mnx mpo mpn mrn mrd mfi mar mfn mfa mnu mst) := hD
    refine jn1_use (J := fun (k7 : Int32) => ∀ (ls : Array Slot) (H : Heap) (locs : List Loc), lv_has ls 3 [(0, .ref (ad 0))] → va_P (dC, dI) vwCl (wMod ad cI cJ cZ mre_6 mth mxs mys mcu mnx mpo mpn mrn mrd mfi mar mfn mfa mnu mst) H → va_D A (wMod ad cI cJ cZ mre_6 mth mxs mys mcu mnx mpo mpn mrn mrd mfi mar mfn mfa mnu mst) → va_S A s.heap H locs → W p l e rm_X4_begins s m args below meth c H locs 0 0 Q (F0 m 43 ls [.int k7])) hw (fun k7 hw ls H locs hl hP hD hS => ?_) (fun hw hj0 => ?_)
    · rw [← hQ]
      exact W.iret (v := k7) hx hb hr (fun t ht hW => ⟨⟨_, mre_6, rfl, hw, by rw [ht]; exact hP, hD⟩, hS.F ht⟩) hS.2.2 dX4_begins_43
    · have hj9 := hj0
      refine lv_if_eq (tgt := 24) hx hb dX4_begins_17 (by decide) (fun hc => ?_) (fun hc => ?_)
      · have hw := hw.1 (hc)
        refine lv_iload_n hx hb dX4_begins_24 rfl (lv_at hl 2 rfl) ?_
        refine lv_if_eq (tgt := 37) hx hb dX4_begins_25 (by decide) (fun hc => ?_) (fun hc => ?_)
        · have hw := hw.1 (hc)
          refine lv_aload_n hx hb dX4_begins_37 rfl (lv_at hl 0 rfl) ?_
          refine va_get (D := (dC, dI)) (ci := 4) (v := .ref (ad 2)) (C := RX4) (T := TX4) (N := 16) hx hb hts f_X4_begins_1 hown hK hP 0 rfl rfl 2 (by decide) (hts _ f_X4_begins_0) (fun _ h9 => h9) rfl dX4_begins_38 ?_
          refine lv_iload_n hx hb dX4_begins_41 rfl (lv_at hl 1 rfl) ?_
          have hi := hw.1
          have hw := hw.2
          refine va_iald hx hb hK hP 2 0 rfl rfl hi dX4_begins_42 ?_
          exact hj9 (mxs v1.toNatClampNeg) hw ls _ _ (lv_sub hl [0] rfl) hP hD hS
        · have hw := hw.2 hc
          refine lv_aload_n hx hb dX4_begins_28 rfl (lv_at hl 0 rfl) ?_
          refine va_get (D := (dC, dI)) (ci := 4) (v := .ref (ad 3)) (C := RX4) (T := TX4) (N := 16) hx hb hts f_X4_begins_1 hown hK hP 0 rfl rfl 3 (by decide) (hts _ f_X4_begins_2) (fun _ h9 => h9) rfl dX4_begins_29 ?_
          refine lv_iload_n hx hb dX4_begins_32 rfl (lv_at hl 1 rfl) ?_
          have hi := hw.1
          have hw := hw.2
          refine va_iald hx hb hK hP 3 0 rfl rfl hi dX4_begins_33 ?_
          refine lv_goto (tgt := 43) hx hb dX4_begins_34 (by decide) ?_
          exact hj9 (mys v1.toNatClampNeg) hw ls _ _ (lv_sub hl [0] rfl) hP hD hS
      · have hw := hw.2 hc
        refine lv_iconst (v := 0) hx hb dX4_begins_20 (by decide) ?_
        refine lv_goto (tgt := 43) hx hb dX4_begins_21 (by decide) ?_
        exact hj9 (0 : Int32) hw ls _ _ (lv_sub hl [0] rfl) hP hD hS
  · have hj4 := hj0
    refine lv_if_eq (tgt := 13) hx hb dX4_begins_6 (by decide) (fun hc => ?_) (fun hc => ?_)
    · have hw := hw.1 (hc)
      refine lv_iconst (v := 1) hx hb dX4_begins_13 (by decide) ?_
      exact hj4 (1 : Int32) hw ls _ _ (lv_sub hl [0, 1, 2] rfl) hP hD hS
    · have hw := hw.2 hc
      refine lv_iconst (v := 0) hx hb dX4_begins_9 (by decide) ?_
      refine lv_goto (tgt := 14) hx hb dX4_begins_10 (by decide) ?_
      exact hj4 (0 : Int32) hw ls _ _ (lv_sub hl [0, 1, 2] rfl) hP hD hS
-- X4_next
abbrev rm_X4_next : Room := { frames := 6, cells := 0, slots := 0, locals := 144 }
theorem f_X4_next_0 : (Cond.fieldLink RX4 20 "PlaneFacesModel" "nexts" "[I") ∈ wsX4_next := by decide +kernel
theorem f_X4_next_1 : ∀ w ∈ wsX40, w ∈ wsX4_next := by decide +kernel
set_option maxRecDepth 100000 in
set_option maxHeartbeats 4000000 in
theorem c_X4_next (l : Launch) (dC : Nat → ClassId) (dI : Nat → Nat → Nat) (cI cJ cZ : ClassId) (ad : Nat → Nat) (sz : Nat) (mre : Int32) (mth : Nat → Int32) (mxs : Nat → Int32) (mys : Nat → Int32) (mcu : Int32) (mnx : Nat → Int32) (mpo : Nat → Int32) (mpn : Int32) (mrn : Int32) (mrd : Nat → Int32) (mfi : Nat → Int32) (mar : Nat → Int64) (mfn : Int32) (mfa : Nat → Int32) (mnu : Nat → Int32) (mst : Nat → Int32) (v1 : Int32) {post : Int32 → Int32 → Int32 → (Nat → Int32) → (Nat → Int32) → Int32 → Int32 → (Nat → Int32) → (Nat → Int32) → (Nat → Int64) → Int32 → (Nat → Int32) → (Nat → Int32) → Prop} (hw : wp_X4_next mre mth mxs mys mcu mnx mpo mpn mrn mrd mfi mar mfn mfa mnu v1 post) : Met l yX4_next wsX4_next rm_X4_next (va_Pc [.ref (ad 0), .int v1] (fun U => U.heap.size = sz ∧ va_P (dC, dI) vwCl (wMod ad cI cJ cZ mre mth mxs mys mcu mnx mpo mpn mrn mrd mfi mar mfn mfa mnu mst) U.heap ∧ va_K (dC, dI) vwCl (tyL cI cJ cZ) U ∧ va_D (fun _ => True) (wMod ad cI cJ cZ mre mth mxs mys mcu mnx mpo mpn mrn mrd mfi mar mfn mfa mnu mst))) (va_Qi (fun (r : Int32) (uu : Int32 × Int32 × (Nat → Int32) × (Nat → Int32) × Int32 × Int32 × (Nat → Int32) × (Nat → Int32) × (Nat → Int64) × Int32 × (Nat → Int32) × (Nat → Int32)) => post r uu.1 uu.2.1 uu.2.2.1 uu.2.2.2.1 uu.2.2.2.2.1 uu.2.2.2.2.2.1 uu.2.2.2.2.2.2.1 uu.2.2.2.2.2.2.2.1 uu.2.2.2.2.2.2.2.2.1 uu.2.2.2.2.2.2.2.2.2.1 uu.2.2.2.2.2.2.2.2.2.2.1 uu.2.2.2.2.2.2.2.2.2.2.2) (fun (uu : Int32 × Int32 × (Nat → Int32) × (Nat → Int32) × Int32 × Int32 × (Nat → Int32) × (Nat → Int32) × (Nat → Int64) × Int32 × (Nat → Int32) × (Nat → Int32)) (t : State) => va_P (dC, dI) vwCl (wMod ad cI cJ cZ uu.1 mth mxs mys uu.2.1 uu.2.2.1 uu.2.2.2.1 uu.2.2.2.2.1 uu.2.2.2.2.2.1 uu.2.2.2.2.2.2.1 uu.2.2.2.2.2.2.2.1 uu.2.2.2.2.2.2.2.2.1 uu.2.2.2.2.2.2.2.2.2.1 uu.2.2.2.2.2.2.2.2.2.2.1 uu.2.2.2.2.2.2.2.2.2.2.2 mst) t.heap ∧ va_D (va_A (wMod ad cI cJ cZ mre mth mxs mys mcu mnx mpo mpn mrn mrd mfi mar mfn mfa mnu mst) sz) (wMod ad cI cJ cZ uu.1 mth mxs mys uu.2.1 uu.2.2.1 uu.2.2.2.1 uu.2.2.2.2.1 uu.2.2.2.2.2.1 uu.2.2.2.2.2.2.1 uu.2.2.2.2.2.2.2.1 uu.2.2.2.2.2.2.2.2.1 uu.2.2.2.2.2.2.2.2.2.1 uu.2.2.2.2.2.2.2.2.2.2.1 uu.2.2.2.2.2.2.2.2.2.2.2 mst)) (va_A (wMod ad cI cJ cZ mre mth mxs mys mcu mnx mpo mpn mrn mrd mfi mar mfn mfa mnu mst) sz)) 0 0 (va_A (wMod ad cI cJ cZ mre mth mxs mys mcu mnx mpo mpn mrn mrd mfi mar mfn mfa mnu mst) sz) := by
  unfold wp_X4_next at hw
  refine Met.ofW (cc := cX4_next) (maxL := 2) (ret := (some .int)) (by decide) rfl ?_
  intro p e s m args below meth c s₁ B hml hv
  obtain ⟨hav, hsz, hP, hK, hD0⟩ := hv
  have hx := B.exec
  have hb := B.bytes
  have hr := B.returns
  have hts := atoms_spec (ws := wsX4_next) B.pre
  have hown : s.vm.findClass RX4 = some m.cls := findClass_of_methodNamed B.named
  have hlocks := B.notSynchronized
  have C : CallFix p m c cX4_next 2 s args wsX4_next RX4 := ⟨hx, hb, hml, hown, hts⟩
  obtain ⟨ls, hE, hl⟩ := mx_entry (m := m) [.ref (ad 0), .int v1] (n := 2) (Nat.le_of_ble_eq_true rfl)
  have hl : lv_has ls 2 [(0, .ref (ad 0)), (1, .int v1)] := hl
  rw [show entryFrame m args 2 = F0 m 0 ls [] by rw [hav]; exact hE]
  subst hsz
  have hD := hD0.self (sz := s.heap.size)
  generalize hAe : va_A (wMod ad cI cJ cZ mre mth mxs mys mcu mnx mpo mpn mrn mrd mfi mar mfn mfa mnu mst) s.heap.size = A at hD ⊢
  have hA : ∀ q : Nat, s.heap.size ≤ q → A q := fun q h => by rw [← hAe]; exact Or.inr h
  have hS : va_S A s.heap s.heap [] := va_S.rf
  obtain ⟨Q, hQ⟩ : ∃ Q, MQ below (va_Qi (fun (r : Int32) (uu : Int32 × Int32 × (Nat → Int32) × (Nat → Int32) × Int32 × Int32 × (Nat → Int32) × (Nat → Int32) × (Nat → Int64) × Int32 × (Nat → Int32) × (Nat → Int32)) => post r uu.1 uu.2.1 uu.2.2.1 uu.2.2.2.1 uu.2.2.2.2.1 uu.2.2.2.2.2.1 uu.2.2.2.2.2.2.1 uu.2.2.2.2.2.2.2.1 uu.2.2.2.2.2.2.2.2.1 uu.2.2.2.2.2.2.2.2.2.1 uu.2.2.2.2.2.2.2.2.2.2.1 uu.2.2.2.2.2.2.2.2.2.2.2) (fun (uu : Int32 × Int32 × (Nat → Int32) × (Nat → Int32) × Int32 × Int32 × (Nat → Int32) × (Nat → Int32) × (Nat → Int64) × Int32 × (Nat → Int32) × (Nat → Int32)) (t : State) => va_P (dC, dI) vwCl (wMod ad cI cJ cZ uu.1 mth mxs mys uu.2.1 uu.2.2.1 uu.2.2.2.1 uu.2.2.2.2.1 uu.2.2.2.2.2.1 uu.2.2.2.2.2.2.1 uu.2.2.2.2.2.2.2.1 uu.2.2.2.2.2.2.2.2.1 uu.2.2.2.2.2.2.2.2.2.1 uu.2.2.2.2.2.2.2.2.2.2.1 uu.2.2.2.2.2.2.2.2.2.2.2 mst) t.heap ∧ va_D A (wMod ad cI cJ cZ uu.1 mth mxs mys uu.2.1 uu.2.2.1 uu.2.2.2.1 uu.2.2.2.2.1 uu.2.2.2.2.2.1 uu.2.2.2.2.2.2.1 uu.2.2.2.2.2.2.2.1 uu.2.2.2.2.2.2.2.2.1 uu.2.2.2.2.2.2.2.2.2.1 uu.2.2.2.2.2.2.2.2.2.2.1 uu.2.2.2.2.2.2.2.2.2.2.2 mst)) A) args s 0 0 A = Q := ⟨_, rfl⟩
  rw [hQ]
  obtain ⟨H, hH⟩ : ∃ H, s.heap = H := ⟨_, rfl⟩
  have hS : va_S A s.heap H [] := by rw [← hH]; exact hS
  rw [hH] at hP
  show W p l e rm_X4_next s m args below meth c s.heap [] 0 0 Q (F0 m 0 ls [])
  suffices hg : W p l e rm_X4_next s m args below meth c H [] 0 0 Q (F0 m 0 ls []) by rw [hH]; exact hg
  clear hH
  generalize hlo : ([] : List Loc) = locs at hS ⊢
  refine lv_aload_n hx hb dX4_next_0 rfl (lv_at hl 0 rfl) ?_
  refine lv_aload_n hx hb dX4_next_1 rfl (lv_at hl 0 rfl) ?_
  refine lv_iload_n hx hb dX4_next_2 rfl (lv_at hl 1 rfl) ?_
  refine vp_callSi (W.runV (As := [.int v1]) (rest := [.ref (ad 0)]) C (c_X4_isHalf l dC dI cI cJ cZ ad mre mth mxs mys mcu mnx mpo mpn mrn mrd mfi mar mfn mfa mnu mst v1 hw) (cwV 1 hts gX4_next_X4_isHalf rfl rfl rfl (by decide +kernel) ⟨Nat.le_of_ble_eq_true rfl, Nat.le_of_ble_eq_true rfl⟩) ⟨fb_ro, va_recv hK hP (ci := 4) (q0 := 0) rfl rfl, fun U hU hW => ⟨rfl, by rw [hU]; exact hP, va_K.moved hW.alike hK⟩⟩ rfl rfl hl.1 rfl (lv_room (Nat.le_of_ble_eq_true rfl)) dX4_next_3 ⟨Nat.zero_le _, Nat.zero_le _⟩) (fun r1 hw => ?_)
  refine jn1_use (J := fun (k2 : Int32) => ∀ (ls : Array Slot) (H : Heap) (locs : List Loc), lv_has ls 2 [(0, .ref (ad 0)), (1, .int v1)] → va_P (dC, dI) vwCl (wMod ad cI cJ cZ mre mth mxs mys mcu mnx mpo mpn mrn mrd mfi mar mfn mfa mnu mst) H → va_D A (wMod ad cI cJ cZ mre mth mxs mys mcu mnx mpo mpn mrn mrd mfi mar mfn mfa mnu mst) → va_S A s.heap H locs → W p l e rm_X4_next s m args below meth c H locs 0 0 Q (F0 m 14 ls [.int k2, .ref (ad 0)])) hw (fun k2 hw ls H locs hl hP hD hS => ?_) (fun hw hj0 => ?_)
  · have hPc := hP.sub (ws' := (wMod ad cI cJ cZ mre mth mxs mys mcu mnx mpo mpn mrn mrd mfi mar mfn mfa mnu mst)) [0, 1, 2, 3, 4, 5, 6, 7, 8, 9, 10, 11] rfl
    have hDc := hD.sub (ws' := (wMod ad cI cJ cZ mre mth mxs mys mcu mnx mpo mpn mrn mrd mfi mar mfn mfa mnu mst)) [0, 1, 2, 3, 4, 5, 6, 7, 8, 9, 10, 11] (by decide) rfl
    have hFc := va_free (wc := (wMod ad cI cJ cZ mre mth mxs mys mcu mnx mpo mpn mrn mrd mfi mar mfn mfa mnu mst)) hD hS hA [0, 1, 2, 3, 4, 5, 6, 7, 8, 9, 10, 11] rfl
    refine va_calli (va_runV (As := [.int k2]) (rest := []) C (c_X4_refused l dC dI cI cJ cZ ad _ mre mth mxs mys mcu mnx mpo mpn mrn mrd mfi mar mfn mfa mnu mst k2 hw) (cwV 1 hts gX4_next_X4_refused rfl rfl rfl (by decide +kernel) ⟨Nat.le_of_ble_eq_true rfl, Nat.le_of_ble_eq_true rfl⟩) ⟨fb_rw, va_recv hK hPc (ci := 4) (q0 := 0) rfl rfl, fun U hU hW => ⟨rfl, by rw [hU], by rw [hU]; exact hPc, va_K.moved hW.alike hK, hDc.weaken (fun _ _ _ _ => trivial)⟩⟩ rfl rfl hl.1 rfl (lv_room (Nat.le_of_ble_eq_true rfl)) dX4_next_14 ⟨Nat.zero_le _, Nat.zero_le _⟩) hS (fun q _ h => hFc q h) hFc (fun r5 uu t H1 locs ht hvm hw hB hz1 hk1 hS => ?_)
    obtain ⟨mre_6, rfl⟩ : ∃ z, z = uu := ⟨_, rfl⟩
    obtain ⟨hP1, hD1⟩ := hB
    rw [ht] at hP1
    try dsimp only at hw hP1 hD1
    obtain ⟨hP, hD⟩ := va_join (wr := []) (w1 := (wMod ad cI cJ cZ mre_6 mth mxs mys mcu mnx mpo mpn mrn mrd mfi mar mfn mfa mnu mst)) hP hD [0, 1, 2, 3, 4, 5, 6, 7, 8, 9, 10, 11] [] rfl rfl (by decide) (by decide) hk1 hFc hP1 hD1
    generalize H1 = H at hP hS ⊢
    have hP : va_P (dC, dI) vwCl (wMod ad cI cJ cZ mre_6 mth mxs mys mcu mnx mpo mpn mrn mrd mfi mar mfn mfa mnu mst) H := hP
    have hD : va_D A (wMod ad cI cJ cZ mre_6 mth mxs mys mcu mnx mpo mpn mrn mrd mfi mar mfn mfa mnu mst) := hD
    refine lv_if_eq (tgt := 22) hx hb dX4_next_17 (by decide) (fun hc => ?_) (fun hc => ?_)
    · have hw := hw.1 (hc)
      refine lv_aload_n hx hb dX4_next_22 rfl (lv_at hl 0 rfl) ?_
      have hPc := hP.sub (ws' := (wMod ad cI cJ cZ mre_6 mth mxs mys mcu mnx mpo mpn mrn mrd mfi mar mfn mfa mnu mst)) [0, 1, 2, 3, 4, 5, 6, 7, 8, 9, 10, 11] rfl
      have hDc := hD.sub (ws' := (wMod ad cI cJ cZ mre_6 mth mxs mys mcu mnx mpo mpn mrn mrd mfi mar mfn mfa mnu mst)) [0, 1, 2, 3, 4, 5, 6, 7, 8, 9, 10, 11] (by decide) rfl
      have hFc := va_free (wc := (wMod ad cI cJ cZ mre_6 mth mxs mys mcu mnx mpo mpn mrn mrd mfi mar mfn mfa mnu mst)) hD hS hA [0, 1, 2, 3, 4, 5, 6, 7, 8, 9, 10, 11] rfl
      refine va_callv (va_runV (As := []) (rest := []) C (c_X4_make l dC dI cI cJ cZ ad _ mre_6 mth mxs mys mcu mnx mpo mpn mrn mrd mfi mar mfn mfa mnu mst  hw) (cwV 0 hts gX4_next_X4_make rfl rfl rfl (by decide +kernel) ⟨Nat.le_of_ble_eq_true rfl, Nat.le_of_ble_eq_true rfl⟩) ⟨fb_rw, va_recv hK hPc (ci := 4) (q0 := 0) rfl rfl, fun U hU hW => ⟨rfl, by rw [hU], by rw [hU]; exact hPc, va_K.moved hW.alike hK, hDc.weaken (fun _ _ _ _ => trivial)⟩⟩ rfl rfl hl.1 rfl (lv_room (Nat.le_of_ble_eq_true rfl)) dX4_next_23 ⟨Nat.zero_le _, Nat.zero_le _⟩) hS (fun q _ h => hFc q h) hFc (fun uu t H1 locs ht hvm hw hB hz1 hk1 hS => ?_)
      obtain ⟨mcu_7, mnx_8, mpo_9, mpn_10, mrn_11, mrd_12, mfi_13, mar_14, mfn_15, mfa_16, mnu_17⟩ := uu
      obtain ⟨hP1, hD1⟩ := hB
      rw [ht] at hP1
      try dsimp only at hw hP1 hD1
      obtain ⟨hP, hD⟩ := va_join (wr := []) (w1 := (wMod ad cI cJ cZ mre_6 mth mxs mys mcu_7 mnx_8 mpo_9 mpn_10 mrn_11 mrd_12 mfi_13 mar_14 mfn_15 mfa_16 mnu_17 mst)) hP hD [0, 1, 2, 3, 4, 5, 6, 7, 8, 9, 10, 11] [] rfl rfl (by decide) (by decide) hk1 hFc hP1 hD1
      generalize H1 = H at hP hS ⊢
      have hP : va_P (dC, dI) vwCl (wMod ad cI cJ cZ mre_6 mth mxs mys mcu_7 mnx_8 mpo_9 mpn_10 mrn_11 mrd_12 mfi_13 mar_14 mfn_15 mfa_16 mnu_17 mst) H := hP
      have hD : va_D A (wMod ad cI cJ cZ mre_6 mth mxs mys mcu_7 mnx_8 mpo_9 mpn_10 mrn_11 mrd_12 mfi_13 mar_14 mfn_15 mfa_16 mnu_17 mst) := hD
      refine lv_aload_n hx hb dX4_next_26 rfl (lv_at hl 0 rfl) ?_
      refine va_get (D := (dC, dI)) (ci := 4) (v := .ref (ad 4)) (C := RX4) (T := TX4) (N := 16) hx hb hts f_X4_next_1 hown hK hP 0 rfl rfl 5 (by decide) (hts _ f_X4_next_0) (fun _ h9 => h9) rfl dX4_next_27 ?_
      refine lv_iload_n hx hb dX4_next_30 rfl (lv_at hl 1 rfl) ?_
      have hi := hw.1
      have hw := hw.2
      refine va_iald hx hb hK hP 4 0 rfl rfl hi dX4_next_31 ?_
      rw [← hQ]
      exact W.iret (v := (mnx_8 v1.toNatClampNeg)) hx hb hr (fun t ht hW => ⟨⟨_, (mre_6, mcu_7, mnx_8, mpo_9, mpn_10, mrn_11, mrd_12, mfi_13, mar_14, mfn_15, mfa_16, mnu_17), rfl, hw, by rw [ht]; exact hP, hD⟩, hS.F ht⟩) hS.2.2 dX4_next_32
    · have hw := hw.2 hc
      refine lv_iconst (v := 0) hx hb dX4_next_20 (by decide) ?_
      rw [← hQ]
      exact W.iret (v := (0 : Int32)) hx hb hr (fun t ht hW => ⟨⟨_, (mre_6, mcu, mnx, mpo, mpn, mrn, mrd, mfi, mar, mfn, mfa, mnu), rfl, hw, by rw [ht]; exact hP, hD⟩, hS.F ht⟩) hS.2.2 dX4_next_21
  · have hj4 := hj0
    refine lv_if_eq (tgt := 13) hx hb dX4_next_6 (by decide) (fun hc => ?_) (fun hc => ?_)
    · have hw := hw.1 (hc)
      refine lv_iconst (v := 1) hx hb dX4_next_13 (by decide) ?_
      exact hj4 (1 : Int32) hw ls _ _ (lv_sub hl [0, 1] rfl) hP hD hS
    · have hw := hw.2 hc
      refine lv_iconst (v := 0) hx hb dX4_next_9 (by decide) ?_
      refine lv_goto (tgt := 14) hx hb dX4_next_10 (by decide) ?_
      exact hj4 (0 : Int32) hw ls _ _ (lv_sub hl [0, 1] rfl) hP hD hS
-- X4_face
abbrev rm_X4_face : Room := { frames := 6, cells := 0, slots := 0, locals := 144 }
set_option maxRecDepth 100000 in
set_option maxHeartbeats 4000000 in
theorem c_X4_face (l : Launch) (dC : Nat → ClassId) (dI : Nat → Nat → Nat) (cI cJ cZ : ClassId) (ad : Nat → Nat) (sz : Nat) (mre : Int32) (mth : Nat → Int32) (mxs : Nat → Int32) (mys : Nat → Int32) (mcu : Int32) (mnx : Nat → Int32) (mpo : Nat → Int32) (mpn : Int32) (mrn : Int32) (mrd : Nat → Int32) (mfi : Nat → Int32) (mar : Nat → Int64) (mfn : Int32) (mfa : Nat → Int32) (mnu : Nat → Int32) (mst : Nat → Int32) (v1 : Int32) {post : Int32 → Int32 → Int32 → (Nat → Int32) → (Nat → Int32) → Int32 → Int32 → (Nat → Int32) → (Nat → Int32) → (Nat → Int64) → Int32 → (Nat → Int32) → (Nat → Int32) → Prop} (hw : wp_X4_face mre mth mxs mys mcu mnx mpo mpn mrn mrd mfi mar mfn mfa mnu v1 post) : Met l yX4_face wsX4_face rm_X4_face (va_Pc [.ref (ad 0), .int v1] (fun U => U.heap.size = sz ∧ va_P (dC, dI) vwCl (wMod ad cI cJ cZ mre mth mxs mys mcu mnx mpo mpn mrn mrd mfi mar mfn mfa mnu mst) U.heap ∧ va_K (dC, dI) vwCl (tyL cI cJ cZ) U ∧ va_D (fun _ => True) (wMod ad cI cJ cZ mre mth mxs mys mcu mnx mpo mpn mrn mrd mfi mar mfn mfa mnu mst))) (va_Qi (fun (r : Int32) (uu : Int32 × Int32 × (Nat → Int32) × (Nat → Int32) × Int32 × Int32 × (Nat → Int32) × (Nat → Int32) × (Nat → Int64) × Int32 × (Nat → Int32) × (Nat → Int32)) => post r uu.1 uu.2.1 uu.2.2.1 uu.2.2.2.1 uu.2.2.2.2.1 uu.2.2.2.2.2.1 uu.2.2.2.2.2.2.1 uu.2.2.2.2.2.2.2.1 uu.2.2.2.2.2.2.2.2.1 uu.2.2.2.2.2.2.2.2.2.1 uu.2.2.2.2.2.2.2.2.2.2.1 uu.2.2.2.2.2.2.2.2.2.2.2) (fun (uu : Int32 × Int32 × (Nat → Int32) × (Nat → Int32) × Int32 × Int32 × (Nat → Int32) × (Nat → Int32) × (Nat → Int64) × Int32 × (Nat → Int32) × (Nat → Int32)) (t : State) => va_P (dC, dI) vwCl (wMod ad cI cJ cZ uu.1 mth mxs mys uu.2.1 uu.2.2.1 uu.2.2.2.1 uu.2.2.2.2.1 uu.2.2.2.2.2.1 uu.2.2.2.2.2.2.1 uu.2.2.2.2.2.2.2.1 uu.2.2.2.2.2.2.2.2.1 uu.2.2.2.2.2.2.2.2.2.1 uu.2.2.2.2.2.2.2.2.2.2.1 uu.2.2.2.2.2.2.2.2.2.2.2 mst) t.heap ∧ va_D (va_A (wMod ad cI cJ cZ mre mth mxs mys mcu mnx mpo mpn mrn mrd mfi mar mfn mfa mnu mst) sz) (wMod ad cI cJ cZ uu.1 mth mxs mys uu.2.1 uu.2.2.1 uu.2.2.2.1 uu.2.2.2.2.1 uu.2.2.2.2.2.1 uu.2.2.2.2.2.2.1 uu.2.2.2.2.2.2.2.1 uu.2.2.2.2.2.2.2.2.1 uu.2.2.2.2.2.2.2.2.2.1 uu.2.2.2.2.2.2.2.2.2.2.1 uu.2.2.2.2.2.2.2.2.2.2.2 mst)) (va_A (wMod ad cI cJ cZ mre mth mxs mys mcu mnx mpo mpn mrn mrd mfi mar mfn mfa mnu mst) sz)) 0 0 (va_A (wMod ad cI cJ cZ mre mth mxs mys mcu mnx mpo mpn mrn mrd mfi mar mfn mfa mnu mst) sz) := by
  unfold wp_X4_face at hw
  refine Met.ofW (cc := cX4_face) (maxL := 2) (ret := (some .int)) (by decide) rfl ?_
  intro p e s m args below meth c s₁ B hml hv
  obtain ⟨hav, hsz, hP, hK, hD0⟩ := hv
  have hx := B.exec
  have hb := B.bytes
  have hr := B.returns
  have hts := atoms_spec (ws := wsX4_face) B.pre
  have hown : s.vm.findClass RX4 = some m.cls := findClass_of_methodNamed B.named
  have hlocks := B.notSynchronized
  have C : CallFix p m c cX4_face 2 s args wsX4_face RX4 := ⟨hx, hb, hml, hown, hts⟩
  obtain ⟨ls, hE, hl⟩ := mx_entry (m := m) [.ref (ad 0), .int v1] (n := 2) (Nat.le_of_ble_eq_true rfl)
  have hl : lv_has ls 2 [(0, .ref (ad 0)), (1, .int v1)] := hl
  rw [show entryFrame m args 2 = F0 m 0 ls [] by rw [hav]; exact hE]
  subst hsz
  have hD := hD0.self (sz := s.heap.size)
  generalize hAe : va_A (wMod ad cI cJ cZ mre mth mxs mys mcu mnx mpo mpn mrn mrd mfi mar mfn mfa mnu mst) s.heap.size = A at hD ⊢
  have hA : ∀ q : Nat, s.heap.size ≤ q → A q := fun q h => by rw [← hAe]; exact Or.inr h
  have hS : va_S A s.heap s.heap [] := va_S.rf
  obtain ⟨Q, hQ⟩ : ∃ Q, MQ below (va_Qi (fun (r : Int32) (uu : Int32 × Int32 × (Nat → Int32) × (Nat → Int32) × Int32 × Int32 × (Nat → Int32) × (Nat → Int32) × (Nat → Int64) × Int32 × (Nat → Int32) × (Nat → Int32)) => post r uu.1 uu.2.1 uu.2.2.1 uu.2.2.2.1 uu.2.2.2.2.1 uu.2.2.2.2.2.1 uu.2.2.2.2.2.2.1 uu.2.2.2.2.2.2.2.1 uu.2.2.2.2.2.2.2.2.1 uu.2.2.2.2.2.2.2.2.2.1 uu.2.2.2.2.2.2.2.2.2.2.1 uu.2.2.2.2.2.2.2.2.2.2.2) (fun (uu : Int32 × Int32 × (Nat → Int32) × (Nat → Int32) × Int32 × Int32 × (Nat → Int32) × (Nat → Int32) × (Nat → Int64) × Int32 × (Nat → Int32) × (Nat → Int32)) (t : State) => va_P (dC, dI) vwCl (wMod ad cI cJ cZ uu.1 mth mxs mys uu.2.1 uu.2.2.1 uu.2.2.2.1 uu.2.2.2.2.1 uu.2.2.2.2.2.1 uu.2.2.2.2.2.2.1 uu.2.2.2.2.2.2.2.1 uu.2.2.2.2.2.2.2.2.1 uu.2.2.2.2.2.2.2.2.2.1 uu.2.2.2.2.2.2.2.2.2.2.1 uu.2.2.2.2.2.2.2.2.2.2.2 mst) t.heap ∧ va_D A (wMod ad cI cJ cZ uu.1 mth mxs mys uu.2.1 uu.2.2.1 uu.2.2.2.1 uu.2.2.2.2.1 uu.2.2.2.2.2.1 uu.2.2.2.2.2.2.1 uu.2.2.2.2.2.2.2.1 uu.2.2.2.2.2.2.2.2.1 uu.2.2.2.2.2.2.2.2.2.1 uu.2.2.2.2.2.2.2.2.2.2.1 uu.2.2.2.2.2.2.2.2.2.2.2 mst)) A) args s 0 0 A = Q := ⟨_, rfl⟩
  rw [hQ]
  obtain ⟨H, hH⟩ : ∃ H, s.heap = H := ⟨_, rfl⟩
  have hS : va_S A s.heap H [] := by rw [← hH]; exact hS
  rw [hH] at hP
  show W p l e rm_X4_face s m args below meth c s.heap [] 0 0 Q (F0 m 0 ls [])
  suffices hg : W p l e rm_X4_face s m args below meth c H [] 0 0 Q (F0 m 0 ls []) by rw [hH]; exact hg
  clear hH
  generalize hlo : ([] : List Loc) = locs at hS ⊢
  refine lv_aload_n hx hb dX4_face_0 rfl (lv_at hl 0 rfl) ?_
  refine lv_aload_n hx hb dX4_face_1 rfl (lv_at hl 0 rfl) ?_
  refine lv_iload_n hx hb dX4_face_2 rfl (lv_at hl 1 rfl) ?_
  refine vp_callSi (W.runV (As := [.int v1]) (rest := [.ref (ad 0)]) C (c_X4_isHalf l dC dI cI cJ cZ ad mre mth mxs mys mcu mnx mpo mpn mrn mrd mfi mar mfn mfa mnu mst v1 hw) (cwV 1 hts gX4_face_X4_isHalf rfl rfl rfl (by decide +kernel) ⟨Nat.le_of_ble_eq_true rfl, Nat.le_of_ble_eq_true rfl⟩) ⟨fb_ro, va_recv hK hP (ci := 4) (q0 := 0) rfl rfl, fun U hU hW => ⟨rfl, by rw [hU]; exact hP, va_K.moved hW.alike hK⟩⟩ rfl rfl hl.1 rfl (lv_room (Nat.le_of_ble_eq_true rfl)) dX4_face_3 ⟨Nat.zero_le _, Nat.zero_le _⟩) (fun r1 hw => ?_)
  refine jn1_use (J := fun (k2 : Int32) => ∀ (ls : Array Slot) (H : Heap) (locs : List Loc), lv_has ls 2 [(0, .ref (ad 0)), (1, .int v1)] → va_P (dC, dI) vwCl (wMod ad cI cJ cZ mre mth mxs mys mcu mnx mpo mpn mrn mrd mfi mar mfn mfa mnu mst) H → va_D A (wMod ad cI cJ cZ mre mth mxs mys mcu mnx mpo mpn mrn mrd mfi mar mfn mfa mnu mst) → va_S A s.heap H locs → W p l e rm_X4_face s m args below meth c H locs 0 0 Q (F0 m 14 ls [.int k2, .ref (ad 0)])) hw (fun k2 hw ls H locs hl hP hD hS => ?_) (fun hw hj0 => ?_)
  · have hPc := hP.sub (ws' := (wMod ad cI cJ cZ mre mth mxs mys mcu mnx mpo mpn mrn mrd mfi mar mfn mfa mnu mst)) [0, 1, 2, 3, 4, 5, 6, 7, 8, 9, 10, 11] rfl
    have hDc := hD.sub (ws' := (wMod ad cI cJ cZ mre mth mxs mys mcu mnx mpo mpn mrn mrd mfi mar mfn mfa mnu mst)) [0, 1, 2, 3, 4, 5, 6, 7, 8, 9, 10, 11] (by decide) rfl
    have hFc := va_free (wc := (wMod ad cI cJ cZ mre mth mxs mys mcu mnx mpo mpn mrn mrd mfi mar mfn mfa mnu mst)) hD hS hA [0, 1, 2, 3, 4, 5, 6, 7, 8, 9, 10, 11] rfl
    refine va_calli (va_runV (As := [.int k2]) (rest := []) C (c_X4_refused l dC dI cI cJ cZ ad _ mre mth mxs mys mcu mnx mpo mpn mrn mrd mfi mar mfn mfa mnu mst k2 hw) (cwV 1 hts gX4_face_X4_refused rfl rfl rfl (by decide +kernel) ⟨Nat.le_of_ble_eq_true rfl, Nat.le_of_ble_eq_true rfl⟩) ⟨fb_rw, va_recv hK hPc (ci := 4) (q0 := 0) rfl rfl, fun U hU hW => ⟨rfl, by rw [hU], by rw [hU]; exact hPc, va_K.moved hW.alike hK, hDc.weaken (fun _ _ _ _ => trivial)⟩⟩ rfl rfl hl.1 rfl (lv_room (Nat.le_of_ble_eq_true rfl)) dX4_face_14 ⟨Nat.zero_le _, Nat.zero_le _⟩) hS (fun q _ h => hFc q h) hFc (fun r5 uu t H1 locs ht hvm hw hB hz1 hk1 hS => ?_)
    obtain ⟨mre_6, rfl⟩ : ∃ z, z = uu := ⟨_, rfl⟩
    obtain ⟨hP1, hD1⟩ := hB
    rw [ht] at hP1
    try dsimp only at hw hP1 hD1
    obtain ⟨hP, hD⟩ := va_join (wr := []) (w1 := (wMod ad cI cJ cZ mre_6 mth mxs mys mcu mnx mpo mpn mrn mrd mfi mar mfn mfa mnu mst)) hP hD [0, 1, 2, 3, 4, 5, 6, 7, 8, 9, 10, 11] [] rfl rfl (by decide) (by decide) hk1 hFc hP1 hD1
    generalize H1 = H at hP hS ⊢
    have hP : va_P (dC, dI) vwCl (wMod ad cI cJ cZ mre_6 mth mxs mys mcu mnx mpo mpn mrn mrd mfi mar mfn mfa mnu mst) H := hP
    have hD : va_D A (wMod ad cI cJ cZ mre_6 mth mxs mys mcu mnx mpo mpn mrn mrd mfi mar mfn mfa mnu mst) := hD
    refine lv_if_eq (tgt := 22) hx hb dX4_face_17 (by decide) (fun hc => ?_) (fun hc => ?_)
    · have hw := hw.1 (hc)
      refine lv_aload_n hx hb dX4_face_22 rfl (lv_at hl 0 rfl) ?_
      have hPc := hP.sub (ws' := (wMod ad cI cJ cZ mre_6 mth mxs mys mcu mnx mpo mpn mrn mrd mfi mar mfn mfa mnu mst)) [0, 1, 2, 3, 4, 5, 6, 7, 8, 9, 10, 11] rfl
      have hDc := hD.sub (ws' := (wMod ad cI cJ cZ mre_6 mth mxs mys mcu mnx mpo mpn mrn mrd mfi mar mfn mfa mnu mst)) [0, 1, 2, 3, 4, 5, 6, 7, 8, 9, 10, 11] (by decide) rfl
      have hFc := va_free (wc := (wMod ad cI cJ cZ mre_6 mth mxs mys mcu mnx mpo mpn mrn mrd mfi mar mfn mfa mnu mst)) hD hS hA [0, 1, 2, 3, 4, 5, 6, 7, 8, 9, 10, 11] rfl
      refine va_callv (va_runV (As := []) (rest := []) C (c_X4_make l dC dI cI cJ cZ ad _ mre_6 mth mxs mys mcu mnx mpo mpn mrn mrd mfi mar mfn mfa mnu mst  hw) (cwV 0 hts gX4_face_X4_make rfl rfl rfl (by decide +kernel) ⟨Nat.le_of_ble_eq_true rfl, Nat.le_of_ble_eq_true rfl⟩) ⟨fb_rw, va_recv hK hPc (ci := 4) (q0 := 0) rfl rfl, fun U hU hW => ⟨rfl, by rw [hU], by rw [hU]; exact hPc, va_K.moved hW.alike hK, hDc.weaken (fun _ _ _ _ => trivial)⟩⟩ rfl rfl hl.1 rfl (lv_room (Nat.le_of_ble_eq_true rfl)) dX4_face_23 ⟨Nat.zero_le _, Nat.zero_le _⟩) hS (fun q _ h => hFc q h) hFc (fun uu t H1 locs ht hvm hw hB hz1 hk1 hS => ?_)
      obtain ⟨mcu_7, mnx_8, mpo_9, mpn_10, mrn_11, mrd_12, mfi_13, mar_14, mfn_15, mfa_16, mnu_17⟩ := uu
      obtain ⟨hP1, hD1⟩ := hB
      rw [ht] at hP1
      try dsimp only at hw hP1 hD1
      obtain ⟨hP, hD⟩ := va_join (wr := []) (w1 := (wMod ad cI cJ cZ mre_6 mth mxs mys mcu_7 mnx_8 mpo_9 mpn_10 mrn_11 mrd_12 mfi_13 mar_14 mfn_15 mfa_16 mnu_17 mst)) hP hD [0, 1, 2, 3, 4, 5, 6, 7, 8, 9, 10, 11] [] rfl rfl (by decide) (by decide) hk1 hFc hP1 hD1
      generalize H1 = H at hP hS ⊢
      have hP : va_P (dC, dI) vwCl (wMod ad cI cJ cZ mre_6 mth mxs mys mcu_7 mnx_8 mpo_9 mpn_10 mrn_11 mrd_12 mfi_13 mar_14 mfn_15 mfa_16 mnu_17 mst) H := hP
      have hD : va_D A (wMod ad cI cJ cZ mre_6 mth mxs mys mcu_7 mnx_8 mpo_9 mpn_10 mrn_11 mrd_12 mfi_13 mar_14 mfn_15 mfa_16 mnu_17 mst) := hD
      refine lv_aload_n hx hb dX4_face_26 rfl (lv_at hl 0 rfl) ?_
      refine lv_iload_n hx hb dX4_face_27 rfl (lv_at hl 1 rfl) ?_
      refine vp_callSi (W.runV (As := [.int v1]) (rest := []) C (c_X4_left l dC dI cI cJ cZ ad mre_6 mth mxs mys mcu_7 mnx_8 mpo_9 mpn_10 mrn_11 mrd_12 mfi_13 mar_14 mfn_15 mfa_16 mnu_17 mst v1 hw) (cwV 1 hts gX4_face_X4_left rfl rfl rfl (by decide +kernel) ⟨Nat.le_of_ble_eq_true rfl, Nat.le_of_ble_eq_true rfl⟩) ⟨fb_ro, va_recv hK hP (ci := 4) (q0 := 0) rfl rfl, fun U hU hW => ⟨rfl, by rw [hU]; exact hP, va_K.moved hW.alike hK⟩⟩ rfl rfl hl.1 rfl (lv_room (Nat.le_of_ble_eq_true rfl)) dX4_face_28 ⟨Nat.zero_le _, Nat.zero_le _⟩) (fun r18 hw => ?_)
      rw [← hQ]
      exact W.iret (v := r18) hx hb hr (fun t ht hW => ⟨⟨_, (mre_6, mcu_7, mnx_8, mpo_9, mpn_10, mrn_11, mrd_12, mfi_13, mar_14, mfn_15, mfa_16, mnu_17), rfl, hw, by rw [ht]; exact hP, hD⟩, hS.F ht⟩) hS.2.2 dX4_face_31
    · have hw := hw.2 hc
      refine lv_iconst (v := 0) hx hb dX4_face_20 (by decide) ?_
      rw [← hQ]
      exact W.iret (v := (0 : Int32)) hx hb hr (fun t ht hW => ⟨⟨_, (mre_6, mcu, mnx, mpo, mpn, mrn, mrd, mfi, mar, mfn, mfa, mnu), rfl, hw, by rw [ht]; exact hP, hD⟩, hS.F ht⟩) hS.2.2 dX4_face_21
  · have hj4 := hj0
    refine lv_if_eq (tgt := 13) hx hb dX4_face_6 (by decide) (fun hc => ?_) (fun hc => ?_)
    · have hw := hw.1 (hc)
      refine lv_iconst (v := 1) hx hb dX4_face_13 (by decide) ?_
      exact hj4 (1 : Int32) hw ls _ _ (lv_sub hl [0, 1] rfl) hP hD hS
    · have hw := hw.2 hc
      refine lv_iconst (v := 0) hx hb dX4_face_9 (by decide) ?_
      refine lv_goto (tgt := 14) hx hb dX4_face_10 (by decide) ?_
      exact hj4 (0 : Int32) hw ls _ _ (lv_sub hl [0, 1] rfl) hP hD hS
-- X4_piece
abbrev rm_X4_piece : Room := { frames := 6, cells := 0, slots := 0, locals := 144 }
theorem f_X4_piece_0 : (Cond.fieldLink RX4 23 "PlaneFacesModel" "pieceOf" "[I") ∈ wsX4_piece := by decide +kernel
theorem f_X4_piece_1 : ∀ w ∈ wsX40, w ∈ wsX4_piece := by decide +kernel
set_option maxRecDepth 100000 in
set_option maxHeartbeats 4000000 in
theorem c_X4_piece (l : Launch) (dC : Nat → ClassId) (dI : Nat → Nat → Nat) (cI cJ cZ : ClassId) (ad : Nat → Nat) (sz : Nat) (mre : Int32) (mth : Nat → Int32) (mxs : Nat → Int32) (mys : Nat → Int32) (mcu : Int32) (mnx : Nat → Int32) (mpo : Nat → Int32) (mpn : Int32) (mrn : Int32) (mrd : Nat → Int32) (mfi : Nat → Int32) (mar : Nat → Int64) (mfn : Int32) (mfa : Nat → Int32) (mnu : Nat → Int32) (mst : Nat → Int32) (v1 : Int32) {post : Int32 → Int32 → Int32 → (Nat → Int32) → (Nat → Int32) → Int32 → Int32 → (Nat → Int32) → (Nat → Int32) → (Nat → Int64) → Int32 → (Nat → Int32) → (Nat → Int32) → Prop} (hw : wp_X4_piece mre mth mxs mys mcu mnx mpo mpn mrn mrd mfi mar mfn mfa mnu v1 post) : Met l yX4_piece wsX4_piece rm_X4_piece (va_Pc [.ref (ad 0), .int v1] (fun U => U.heap.size = sz ∧ va_P (dC, dI) vwCl (wMod ad cI cJ cZ mre mth mxs mys mcu mnx mpo mpn mrn mrd mfi mar mfn mfa mnu mst) U.heap ∧ va_K (dC, dI) vwCl (tyL cI cJ cZ) U ∧ va_D (fun _ => True) (wMod ad cI cJ cZ mre mth mxs mys mcu mnx mpo mpn mrn mrd mfi mar mfn mfa mnu mst))) (va_Qi (fun (r : Int32) (uu : Int32 × Int32 × (Nat → Int32) × (Nat → Int32) × Int32 × Int32 × (Nat → Int32) × (Nat → Int32) × (Nat → Int64) × Int32 × (Nat → Int32) × (Nat → Int32)) => post r uu.1 uu.2.1 uu.2.2.1 uu.2.2.2.1 uu.2.2.2.2.1 uu.2.2.2.2.2.1 uu.2.2.2.2.2.2.1 uu.2.2.2.2.2.2.2.1 uu.2.2.2.2.2.2.2.2.1 uu.2.2.2.2.2.2.2.2.2.1 uu.2.2.2.2.2.2.2.2.2.2.1 uu.2.2.2.2.2.2.2.2.2.2.2) (fun (uu : Int32 × Int32 × (Nat → Int32) × (Nat → Int32) × Int32 × Int32 × (Nat → Int32) × (Nat → Int32) × (Nat → Int64) × Int32 × (Nat → Int32) × (Nat → Int32)) (t : State) => va_P (dC, dI) vwCl (wMod ad cI cJ cZ uu.1 mth mxs mys uu.2.1 uu.2.2.1 uu.2.2.2.1 uu.2.2.2.2.1 uu.2.2.2.2.2.1 uu.2.2.2.2.2.2.1 uu.2.2.2.2.2.2.2.1 uu.2.2.2.2.2.2.2.2.1 uu.2.2.2.2.2.2.2.2.2.1 uu.2.2.2.2.2.2.2.2.2.2.1 uu.2.2.2.2.2.2.2.2.2.2.2 mst) t.heap ∧ va_D (va_A (wMod ad cI cJ cZ mre mth mxs mys mcu mnx mpo mpn mrn mrd mfi mar mfn mfa mnu mst) sz) (wMod ad cI cJ cZ uu.1 mth mxs mys uu.2.1 uu.2.2.1 uu.2.2.2.1 uu.2.2.2.2.1 uu.2.2.2.2.2.1 uu.2.2.2.2.2.2.1 uu.2.2.2.2.2.2.2.1 uu.2.2.2.2.2.2.2.2.1 uu.2.2.2.2.2.2.2.2.2.1 uu.2.2.2.2.2.2.2.2.2.2.1 uu.2.2.2.2.2.2.2.2.2.2.2 mst)) (va_A (wMod ad cI cJ cZ mre mth mxs mys mcu mnx mpo mpn mrn mrd mfi mar mfn mfa mnu mst) sz)) 0 0 (va_A (wMod ad cI cJ cZ mre mth mxs mys mcu mnx mpo mpn mrn mrd mfi mar mfn mfa mnu mst) sz) := by
  unfold wp_X4_piece at hw
  refine Met.ofW (cc := cX4_piece) (maxL := 2) (ret := (some .int)) (by decide) rfl ?_
  intro p e s m args below meth c s₁ B hml hv
  obtain ⟨hav, hsz, hP, hK, hD0⟩ := hv
  have hx := B.exec
  have hb := B.bytes
  have hr := B.returns
  have hts := atoms_spec (ws := wsX4_piece) B.pre
  have hown : s.vm.findClass RX4 = some m.cls := findClass_of_methodNamed B.named
  have hlocks := B.notSynchronized
  have C : CallFix p m c cX4_piece 2 s args wsX4_piece RX4 := ⟨hx, hb, hml, hown, hts⟩
  obtain ⟨ls, hE, hl⟩ := mx_entry (m := m) [.ref (ad 0), .int v1] (n := 2) (Nat.le_of_ble_eq_true rfl)
  have hl : lv_has ls 2 [(0, .ref (ad 0)), (1, .int v1)] := hl
  rw [show entryFrame m args 2 = F0 m 0 ls [] by rw [hav]; exact hE]
  subst hsz
  have hD := hD0.self (sz := s.heap.size)
  generalize hAe : va_A (wMod ad cI cJ cZ mre mth mxs mys mcu mnx mpo mpn mrn mrd mfi mar mfn mfa mnu mst) s.heap.size = A at hD ⊢
  have hA : ∀ q : Nat, s.heap.size ≤ q → A q := fun q h => by rw [← hAe]; exact Or.inr h
  have hS : va_S A s.heap s.heap [] := va_S.rf
  obtain ⟨Q, hQ⟩ : ∃ Q, MQ below (va_Qi (fun (r : Int32) (uu : Int32 × Int32 × (Nat → Int32) × (Nat → Int32) × Int32 × Int32 × (Nat → Int32) × (Nat → Int32) × (Nat → Int64) × Int32 × (Nat → Int32) × (Nat → Int32)) => post r uu.1 uu.2.1 uu.2.2.1 uu.2.2.2.1 uu.2.2.2.2.1 uu.2.2.2.2.2.1 uu.2.2.2.2.2.2.1 uu.2.2.2.2.2.2.2.1 uu.2.2.2.2.2.2.2.2.1 uu.2.2.2.2.2.2.2.2.2.1 uu.2.2.2.2.2.2.2.2.2.2.1 uu.2.2.2.2.2.2.2.2.2.2.2) (fun (uu : Int32 × Int32 × (Nat → Int32) × (Nat → Int32) × Int32 × Int32 × (Nat → Int32) × (Nat → Int32) × (Nat → Int64) × Int32 × (Nat → Int32) × (Nat → Int32)) (t : State) => va_P (dC, dI) vwCl (wMod ad cI cJ cZ uu.1 mth mxs mys uu.2.1 uu.2.2.1 uu.2.2.2.1 uu.2.2.2.2.1 uu.2.2.2.2.2.1 uu.2.2.2.2.2.2.1 uu.2.2.2.2.2.2.2.1 uu.2.2.2.2.2.2.2.2.1 uu.2.2.2.2.2.2.2.2.2.1 uu.2.2.2.2.2.2.2.2.2.2.1 uu.2.2.2.2.2.2.2.2.2.2.2 mst) t.heap ∧ va_D A (wMod ad cI cJ cZ uu.1 mth mxs mys uu.2.1 uu.2.2.1 uu.2.2.2.1 uu.2.2.2.2.1 uu.2.2.2.2.2.1 uu.2.2.2.2.2.2.1 uu.2.2.2.2.2.2.2.1 uu.2.2.2.2.2.2.2.2.1 uu.2.2.2.2.2.2.2.2.2.1 uu.2.2.2.2.2.2.2.2.2.2.1 uu.2.2.2.2.2.2.2.2.2.2.2 mst)) A) args s 0 0 A = Q := ⟨_, rfl⟩
  rw [hQ]
  obtain ⟨H, hH⟩ : ∃ H, s.heap = H := ⟨_, rfl⟩
  have hS : va_S A s.heap H [] := by rw [← hH]; exact hS
  rw [hH] at hP
  show W p l e rm_X4_piece s m args below meth c s.heap [] 0 0 Q (F0 m 0 ls [])
  suffices hg : W p l e rm_X4_piece s m args below meth c H [] 0 0 Q (F0 m 0 ls []) by rw [hH]; exact hg
  clear hH
  generalize hlo : ([] : List Loc) = locs at hS ⊢
  refine lv_aload_n hx hb dX4_piece_0 rfl (lv_at hl 0 rfl) ?_
  refine lv_aload_n hx hb dX4_piece_1 rfl (lv_at hl 0 rfl) ?_
  refine lv_iload_n hx hb dX4_piece_2 rfl (lv_at hl 1 rfl) ?_
  refine vp_callSi (W.runV (As := [.int v1]) (rest := [.ref (ad 0)]) C (c_X4_isHalf l dC dI cI cJ cZ ad mre mth mxs mys mcu mnx mpo mpn mrn mrd mfi mar mfn mfa mnu mst v1 hw) (cwV 1 hts gX4_piece_X4_isHalf rfl rfl rfl (by decide +kernel) ⟨Nat.le_of_ble_eq_true rfl, Nat.le_of_ble_eq_true rfl⟩) ⟨fb_ro, va_recv hK hP (ci := 4) (q0 := 0) rfl rfl, fun U hU hW => ⟨rfl, by rw [hU]; exact hP, va_K.moved hW.alike hK⟩⟩ rfl rfl hl.1 rfl (lv_room (Nat.le_of_ble_eq_true rfl)) dX4_piece_3 ⟨Nat.zero_le _, Nat.zero_le _⟩) (fun r1 hw => ?_)
  refine jn1_use (J := fun (k2 : Int32) => ∀ (ls : Array Slot) (H : Heap) (locs : List Loc), lv_has ls 2 [(0, .ref (ad 0)), (1, .int v1)] → va_P (dC, dI) vwCl (wMod ad cI cJ cZ mre mth mxs mys mcu mnx mpo mpn mrn mrd mfi mar mfn mfa mnu mst) H → va_D A (wMod ad cI cJ cZ mre mth mxs mys mcu mnx mpo mpn mrn mrd mfi mar mfn mfa mnu mst) → va_S A s.heap H locs → W p l e rm_X4_piece s m args below meth c H locs 0 0 Q (F0 m 14 ls [.int k2, .ref (ad 0)])) hw (fun k2 hw ls H locs hl hP hD hS => ?_) (fun hw hj0 => ?_)
  · have hPc := hP.sub (ws' := (wMod ad cI cJ cZ mre mth mxs mys mcu mnx mpo mpn mrn mrd mfi mar mfn mfa mnu mst)) [0, 1, 2, 3, 4, 5, 6, 7, 8, 9, 10, 11] rfl
    have hDc := hD.sub (ws' := (wMod ad cI cJ cZ mre mth mxs mys mcu mnx mpo mpn mrn mrd mfi mar mfn mfa mnu mst)) [0, 1, 2, 3, 4, 5, 6, 7, 8, 9, 10, 11] (by decide) rfl
    have hFc := va_free (wc := (wMod ad cI cJ cZ mre mth mxs mys mcu mnx mpo mpn mrn mrd mfi mar mfn mfa mnu mst)) hD hS hA [0, 1, 2, 3, 4, 5, 6, 7, 8, 9, 10, 11] rfl
    refine va_calli (va_runV (As := [.int k2]) (rest := []) C (c_X4_refused l dC dI cI cJ cZ ad _ mre mth mxs mys mcu mnx mpo mpn mrn mrd mfi mar mfn mfa mnu mst k2 hw) (cwV 1 hts gX4_piece_X4_refused rfl rfl rfl (by decide +kernel) ⟨Nat.le_of_ble_eq_true rfl, Nat.le_of_ble_eq_true rfl⟩) ⟨fb_rw, va_recv hK hPc (ci := 4) (q0 := 0) rfl rfl, fun U hU hW => ⟨rfl, by rw [hU], by rw [hU]; exact hPc, va_K.moved hW.alike hK, hDc.weaken (fun _ _ _ _ => trivial)⟩⟩ rfl rfl hl.1 rfl (lv_room (Nat.le_of_ble_eq_true rfl)) dX4_piece_14 ⟨Nat.zero_le _, Nat.zero_le _⟩) hS (fun q _ h => hFc q h) hFc (fun r5 uu t H1 locs ht hvm hw hB hz1 hk1 hS => ?_)
    obtain ⟨mre_6, rfl⟩ : ∃ z, z = uu := ⟨_, rfl⟩
    obtain ⟨hP1, hD1⟩ := hB
    rw [ht] at hP1
    try dsimp only at hw hP1 hD1
    obtain ⟨hP, hD⟩ := va_join (wr := []) (w1 := (wMod ad cI cJ cZ mre_6 mth mxs mys mcu mnx mpo mpn mrn mrd mfi mar mfn mfa mnu mst)) hP hD [0, 1, 2, 3, 4, 5, 6, 7, 8, 9, 10, 11] [] rfl rfl (by decide) (by decide) hk1 hFc hP1 hD1
    generalize H1 = H at hP hS ⊢
    have hP : va_P (dC, dI) vwCl (wMod ad cI cJ cZ mre_6 mth mxs mys mcu mnx mpo mpn mrn mrd mfi mar mfn mfa mnu mst) H := hP
    have hD : va_D A (wMod ad cI cJ cZ mre_6 mth mxs mys mcu mnx mpo mpn mrn mrd mfi mar mfn mfa mnu mst) := hD
    refine lv_if_eq (tgt := 22) hx hb dX4_piece_17 (by decide) (fun hc => ?_) (fun hc => ?_)
    · have hw := hw.1 (hc)
      refine lv_aload_n hx hb dX4_piece_22 rfl (lv_at hl 0 rfl) ?_
      have hPc := hP.sub (ws' := (wMod ad cI cJ cZ mre_6 mth mxs mys mcu mnx mpo mpn mrn mrd mfi mar mfn mfa mnu mst)) [0, 1, 2, 3, 4, 5, 6, 7, 8, 9, 10, 11] rfl
      have hDc := hD.sub (ws' := (wMod ad cI cJ cZ mre_6 mth mxs mys mcu mnx mpo mpn mrn mrd mfi mar mfn mfa mnu mst)) [0, 1, 2, 3, 4, 5, 6, 7, 8, 9, 10, 11] (by decide) rfl
      have hFc := va_free (wc := (wMod ad cI cJ cZ mre_6 mth mxs mys mcu mnx mpo mpn mrn mrd mfi mar mfn mfa mnu mst)) hD hS hA [0, 1, 2, 3, 4, 5, 6, 7, 8, 9, 10, 11] rfl
      refine va_callv (va_runV (As := []) (rest := []) C (c_X4_make l dC dI cI cJ cZ ad _ mre_6 mth mxs mys mcu mnx mpo mpn mrn mrd mfi mar mfn mfa mnu mst  hw) (cwV 0 hts gX4_piece_X4_make rfl rfl rfl (by decide +kernel) ⟨Nat.le_of_ble_eq_true rfl, Nat.le_of_ble_eq_true rfl⟩) ⟨fb_rw, va_recv hK hPc (ci := 4) (q0 := 0) rfl rfl, fun U hU hW => ⟨rfl, by rw [hU], by rw [hU]; exact hPc, va_K.moved hW.alike hK, hDc.weaken (fun _ _ _ _ => trivial)⟩⟩ rfl rfl hl.1 rfl (lv_room (Nat.le_of_ble_eq_true rfl)) dX4_piece_23 ⟨Nat.zero_le _, Nat.zero_le _⟩) hS (fun q _ h => hFc q h) hFc (fun uu t H1 locs ht hvm hw hB hz1 hk1 hS => ?_)
      obtain ⟨mcu_7, mnx_8, mpo_9, mpn_10, mrn_11, mrd_12, mfi_13, mar_14, mfn_15, mfa_16, mnu_17⟩ := uu
      obtain ⟨hP1, hD1⟩ := hB
      rw [ht] at hP1
      try dsimp only at hw hP1 hD1
      obtain ⟨hP, hD⟩ := va_join (wr := []) (w1 := (wMod ad cI cJ cZ mre_6 mth mxs mys mcu_7 mnx_8 mpo_9 mpn_10 mrn_11 mrd_12 mfi_13 mar_14 mfn_15 mfa_16 mnu_17 mst)) hP hD [0, 1, 2, 3, 4, 5, 6, 7, 8, 9, 10, 11] [] rfl rfl (by decide) (by decide) hk1 hFc hP1 hD1
      generalize H1 = H at hP hS ⊢
      have hP : va_P (dC, dI) vwCl (wMod ad cI cJ cZ mre_6 mth mxs mys mcu_7 mnx_8 mpo_9 mpn_10 mrn_11 mrd_12 mfi_13 mar_14 mfn_15 mfa_16 mnu_17 mst) H := hP
      have hD : va_D A (wMod ad cI cJ cZ mre_6 mth mxs mys mcu_7 mnx_8 mpo_9 mpn_10 mrn_11 mrd_12 mfi_13 mar_14 mfn_15 mfa_16 mnu_17 mst) := hD
      refine lv_aload_n hx hb dX4_piece_26 rfl (lv_at hl 0 rfl) ?_
      refine va_get (D := (dC, dI)) (ci := 4) (v := .ref (ad 5)) (C := RX4) (T := TX4) (N := 16) hx hb hts f_X4_piece_1 hown hK hP 0 rfl rfl 6 (by decide) (hts _ f_X4_piece_0) (fun _ h9 => h9) rfl dX4_piece_27 ?_
      refine lv_iload_n hx hb dX4_piece_30 rfl (lv_at hl 1 rfl) ?_
      have hi := hw.1
      have hw := hw.2
      refine va_iald hx hb hK hP 5 0 rfl rfl hi dX4_piece_31 ?_
      rw [← hQ]
      exact W.iret (v := (mpo_9 v1.toNatClampNeg)) hx hb hr (fun t ht hW => ⟨⟨_, (mre_6, mcu_7, mnx_8, mpo_9, mpn_10, mrn_11, mrd_12, mfi_13, mar_14, mfn_15, mfa_16, mnu_17), rfl, hw, by rw [ht]; exact hP, hD⟩, hS.F ht⟩) hS.2.2 dX4_piece_32
    · have hw := hw.2 hc
      refine lv_iconst (v := 0) hx hb dX4_piece_20 (by decide) ?_
      rw [← hQ]
      exact W.iret (v := (0 : Int32)) hx hb hr (fun t ht hW => ⟨⟨_, (mre_6, mcu, mnx, mpo, mpn, mrn, mrd, mfi, mar, mfn, mfa, mnu), rfl, hw, by rw [ht]; exact hP, hD⟩, hS.F ht⟩) hS.2.2 dX4_piece_21
  · have hj4 := hj0
    refine lv_if_eq (tgt := 13) hx hb dX4_piece_6 (by decide) (fun hc => ?_) (fun hc => ?_)
    · have hw := hw.1 (hc)
      refine lv_iconst (v := 1) hx hb dX4_piece_13 (by decide) ?_
      exact hj4 (1 : Int32) hw ls _ _ (lv_sub hl [0, 1] rfl) hP hD hS
    · have hw := hw.2 hc
      refine lv_iconst (v := 0) hx hb dX4_piece_9 (by decide) ?_
      refine lv_goto (tgt := 14) hx hb dX4_piece_10 (by decide) ?_
      exact hj4 (0 : Int32) hw ls _ _ (lv_sub hl [0, 1] rfl) hP hD hS
-- X4_outer
abbrev rm_X4_outer : Room := { frames := 0, cells := 0, slots := 0, locals := 0 }
theorem f_X4_outer_0 : (Cond.fieldLink RX4 95 "PlaneFacesModel" "rounds" "I") ∈ wsX4_outer := by decide +kernel
theorem f_X4_outer_1 : ∀ w ∈ wsX40, w ∈ wsX4_outer := by decide +kernel
theorem f_X4_outer_2 : (Cond.fieldLink RX4 23 "PlaneFacesModel" "pieceOf" "[I") ∈ wsX4_outer := by decide +kernel
theorem f_X4_outer_3 : (Cond.fieldLink RX4 29 "PlaneFacesModel" "firsts" "[I") ∈ wsX4_outer := by decide +kernel
theorem f_X4_outer_4 : (Cond.fieldLink RX4 32 "PlaneFacesModel" "areas" "[J") ∈ wsX4_outer := by decide +kernel
set_option maxRecDepth 100000 in
set_option maxHeartbeats 4000000 in
theorem l_X4_outer_4 {p : Program} {l : Launch} {e : Env} {s : State} {m : MethodId} {args : Array Value} {below : List Frame} {meth : Method} {c : Code} {Q : State → Prop} {dC : Nat → ClassId} {dI : Nat → Nat → Nat} {cI cJ cZ : ClassId} {ad : Nat → Nat} {mre : Int32} {mth : Nat → Int32} {mxs : Nat → Int32} {mys : Nat → Int32} {mcu : Int32} {mnx : Nat → Int32} {mpo : Nat → Int32} {mpn : Int32} {mrn : Int32} {mrd : Nat → Int32} {mfi : Nat → Int32} {mar : Nat → Int64} {mfn : Int32} {mfa : Nat → Int32} {mnu : Nat → Int32} {mst : Nat → Int32} {v1 : Int32} {K50 : Int32 → Prop} (C : CallFix p m c cX4_outer 4 s args wsX4_outer RX4) (hK : va_K (dC, dI) vwCl (tyL cI cJ cZ) s) {H : Heap} (hP : va_P (dC, dI) vwCl (wMod ad cI cJ cZ mre mth mxs mys mcu mnx mpo mpn mrn mrd mfi mar mfn mfa mnu mst) H) (hk50 : ∀ (w2 : Int32) (ls : Array Slot), lv_has ls 4 [(0, .ref (ad 0)), (2, .int w2)] → K50 w2 → W p l e rm_X4_outer s m args below meth c H [] 0 0 Q (F0 m 50 ls [])) : ∀ (n : Nat) (v2 : Int32) (v3 : Int32) (ls : Array Slot), lv_has ls 4 [(0, .ref (ad 0)), (1, .int v1), (2, .int v2), (3, .int v3)] → lp_X4_outer_4 mpo mrn mfi mar v1 K50 n v2 v3 → W p l e rm_X4_outer s m args below meth c H [] 0 0 Q (F0 m 4 ls []) := by
  obtain ⟨hx, hb, hml, hown, hts⟩ := id C
  intro n
  induction n with
  | zero =>
    intro v2 v3 ls hl hw
    rw [lp_X4_outer_4.eq_1] at hw
    exact hw.elim
  | succ n ih =>
    intro v2 v3 ls hl hw
    rw [lp_X4_outer_4.eq_2] at hw
    refine lv_iload_n hx hb dX4_outer_4 rfl (lv_at hl 3 rfl) ?_
    refine lv_aload_n hx hb dX4_outer_5 rfl (lv_at hl 0 rfl) ?_
    refine va_get (D := (dC, dI)) (ci := 4) (v := .int mrn) (C := RX4) (T := TX4) (N := 16) hx hb hts f_X4_outer_1 hown hK hP 0 rfl rfl 8 (by decide) (hts _ f_X4_outer_0) (fun _ h9 => h9) rfl dX4_outer_6 ?_
    refine lv_icmp_ge (tgt := 50) hx hb dX4_outer_9 (by decide) (fun hc => ?_) (fun hc => ?_)
    · have hw := hw.1 (hc)
      exact hk50 v2 ls (lv_sub hl [0, 2] rfl) hw
    · have hw := hw.2 hc
      refine lv_aload_n hx hb dX4_outer_12 rfl (lv_at hl 0 rfl) ?_
      refine va_get (D := (dC, dI)) (ci := 4) (v := .ref (ad 5)) (C := RX4) (T := TX4) (N := 16) hx hb hts f_X4_outer_1 hown hK hP 0 rfl rfl 6 (by decide) (hts _ f_X4_outer_2) (fun _ h9 => h9) rfl dX4_outer_13 ?_
      refine lv_aload_n hx hb dX4_outer_16 rfl (lv_at hl 0 rfl) ?_
      refine va_get (D := (dC, dI)) (ci := 4) (v := .ref (ad 7)) (C := RX4) (T := TX4) (N := 16) hx hb hts f_X4_outer_1 hown hK hP 0 rfl rfl 10 (by decide) (hts _ f_X4_outer_3) (fun _ h9 => h9) rfl dX4_outer_17 ?_
      refine lv_iload_n hx hb dX4_outer_20 rfl (lv_at hl 3 rfl) ?_
      have hi := hw.1
      have hw := hw.2
      refine va_iald hx hb hK hP 7 0 rfl rfl hi dX4_outer_21 ?_
      have hi := hw.1
      have hw := hw.2
      refine va_iald hx hb hK hP 5 0 rfl rfl hi dX4_outer_22 ?_
      refine lv_iload_n hx hb dX4_outer_23 rfl (lv_at hl 1 rfl) ?_
      refine jn1_use (J := fun (k1 : Int32) => ∀ ls : Array Slot, lv_has ls 4 [(0, .ref (ad 0)), (1, .int v1), (3, .int v3)] → W p l e rm_X4_outer s m args below meth c H [] 0 0 Q (F0 m 43 ls [.int k1])) hw (fun k1 hw ls hl => ?_) (fun hw hj0 => ?_)
      · refine lv_istore_n (lv' := [(2, .int k1), (0, .ref (ad 0)), (1, .int v1), (3, .int v3)]) hx hb dX4_outer_43 rfl hl (by decide) rfl (fun ls hl => ?_)
        refine lv_iinc (v := (v3 + (1 : Int32))) (lv' := [(3, .int (v3 + (1 : Int32))), (2, .int k1), (0, .ref (ad 0)), (1, .int v1)]) hx hb dX4_outer_44 hl (k := 3) rfl rfl (by decide) rfl (fun ls hl => ?_)
        refine lv_goto (tgt := 4) hx hb dX4_outer_47 (by decide) ?_
        exact ih k1 (v3 + (1 : Int32)) ls (lv_sub hl [2, 3, 1, 0] rfl) hw
      · have hj3 := hj0
        refine jn0_use (J := ∀ ls : Array Slot, lv_has ls 4 [(0, .ref (ad 0)), (1, .int v1), (2, .int v2), (3, .int v3)] → W p l e rm_X4_outer s m args below meth c H [] 0 0 Q (F0 m 42 ls [])) hw (fun hw ls hl => ?_) (fun hw hj0 => ?_)
        · refine lv_iload_n hx hb dX4_outer_42 rfl (lv_at hl 2 rfl) ?_
          exact hj3 v2 hw ls (lv_sub hl [0, 1, 3] rfl)
        · have hj5 := hj0
          refine lv_icmp_ne (tgt := 42) hx hb dX4_outer_24 (by decide) (fun hc => ?_) (fun hc => ?_)
          · have hw := hw.2 hc
            exact hj5 hw ls (lv_sub hl [0, 1, 2, 3] rfl)
          · have hw := hw.1 (hc)
            refine lv_aload_n hx hb dX4_outer_27 rfl (lv_at hl 0 rfl) ?_
            refine va_get (D := (dC, dI)) (ci := 4) (v := .ref (ad 8)) (C := RX4) (T := TX4) (N := 16) hx hb hts f_X4_outer_1 hown hK hP 0 rfl rfl 11 (by decide) (hts _ f_X4_outer_4) (fun _ h9 => h9) rfl dX4_outer_28 ?_
            refine lv_iload_n hx hb dX4_outer_31 rfl (lv_at hl 3 rfl) ?_
            have hi := hw.1
            have hw := hw.2
            refine va_lald hx hb hK hP 8 1 rfl rfl hi dX4_outer_32 ?_
            refine lv_lconst (v := 0) hx hb dX4_outer_33 (by decide) ?_
            refine W.lcmp hx hb dX4_outer_34 ?_
            refine lv_if_gt (tgt := 42) hx hb dX4_outer_35 (by decide) (fun hc => ?_) (fun hc => ?_)
            · have hw := hw.1 ((lg_cmp_gt _ _).mp hc)
              exact hj5 hw ls (lv_sub hl [0, 1, 2, 3] rfl)
            · have hw := hw.2 (fun h9 => hc ((lg_cmp_gt _ _).mpr h9))
              refine lv_iload_n hx hb dX4_outer_38 rfl (lv_at hl 3 rfl) ?_
              refine lv_goto (tgt := 43) hx hb dX4_outer_39 (by decide) ?_
              exact hj3 v3 hw ls (lv_sub hl [0, 1, 3] rfl)
set_option maxRecDepth 100000 in
set_option maxHeartbeats 4000000 in
theorem c_X4_outer (l : Launch) (dC : Nat → ClassId) (dI : Nat → Nat → Nat) (cI cJ cZ : ClassId) (ad : Nat → Nat) (mre : Int32) (mth : Nat → Int32) (mxs : Nat → Int32) (mys : Nat → Int32) (mcu : Int32) (mnx : Nat → Int32) (mpo : Nat → Int32) (mpn : Int32) (mrn : Int32) (mrd : Nat → Int32) (mfi : Nat → Int32) (mar : Nat → Int64) (mfn : Int32) (mfa : Nat → Int32) (mnu : Nat → Int32) (mst : Nat → Int32) (v1 : Int32) {post : Int32 → Prop} (hw : wp_X4_outer mpo mrn mfi mar v1 post) : Met l yX4_outer wsX4_outer rm_X4_outer (va_Pc [.ref (ad 0), .int v1] (fun U => va_P (dC, dI) vwCl (wMod ad cI cJ cZ mre mth mxs mys mcu mnx mpo mpn mrn mrd mfi mar mfn mfa mnu mst) U.heap ∧ va_K (dC, dI) vwCl (tyL cI cJ cZ) U)) (vp_Si post) 0 0 (fun _ => False) := by
  unfold wp_X4_outer at hw
  refine Met.ofW (cc := cX4_outer) (maxL := 4) (ret := (some .int)) (by decide) rfl ?_
  intro p e s m args below meth c s₁ B hml hv
  obtain ⟨hav, hP, hK⟩ := hv
  have hx := B.exec
  have hb := B.bytes
  have hr := B.returns
  have hts := atoms_spec (ws := wsX4_outer) B.pre
  have hown : s.vm.findClass RX4 = some m.cls := findClass_of_methodNamed B.named
  have hlocks := B.notSynchronized
  have C : CallFix p m c cX4_outer 4 s args wsX4_outer RX4 := ⟨hx, hb, hml, hown, hts⟩
  obtain ⟨ls, hE, hl⟩ := mx_entry (m := m) [.ref (ad 0), .int v1] (n := 4) (Nat.le_of_ble_eq_true rfl)
  have hl : lv_has ls 4 [(0, .ref (ad 0)), (1, .int v1)] := hl
  rw [show entryFrame m args 4 = F0 m 0 ls [] by rw [hav]; exact hE]
  obtain ⟨Q, hQ⟩ : ∃ Q, MQ below (vp_Si post) args s 0 0 (fun _ => False) = Q := ⟨_, rfl⟩
  rw [hQ]
  obtain ⟨H, hH⟩ : ∃ H, s.heap = H := ⟨_, rfl⟩
  rw [hH]
  rw [hH] at hP
  show W p l e rm_X4_outer s m args below meth c H [] 0 0 Q (F0 m 0 ls [])
  refine lv_iconst (v := -1) hx hb dX4_outer_0 (by decide) ?_
  refine lv_istore_n (lv' := [(2, .int (-1 : Int32)), (0, .ref (ad 0)), (1, .int v1)]) hx hb dX4_outer_1 rfl hl (by decide) rfl (fun ls hl => ?_)
  refine lv_iconst (v := 0) hx hb dX4_outer_2 (by decide) ?_
  refine lv_istore_n (lv' := [(3, .int (0 : Int32)), (2, .int (-1 : Int32)), (0, .ref (ad 0)), (1, .int v1)]) hx hb dX4_outer_3 rfl hl (by decide) rfl (fun ls hl => ?_)
  obtain ⟨n7, hw⟩ := hw
  refine l_X4_outer_4 C hK hP (fun w6 ls hl hw => ?_) n7 (-1 : Int32) (0 : Int32) ls (lv_sub hl [2, 3, 1, 0] rfl) hw
  refine lv_iload_n hx hb dX4_outer_50 rfl (lv_at hl 1 rfl) ?_
  rw [← hQ]
  exact W.iret (v := w6) hx hb hr (fun t ht hW => ⟨_, rfl, hw, ht.trans hH.symm⟩) (fun q h => by cases h) dX4_outer_51
-- X4_around
abbrev rm_X4_around : Room := { frames := 6, cells := 0, slots := 0, locals := 144 }
theorem f_X4_around_0 : (Cond.fieldLink RX4 36 "PlaneFacesModel" "faceOf" "[I") ∈ wsX4_around := by decide +kernel
theorem f_X4_around_1 : ∀ w ∈ wsX40, w ∈ wsX4_around := by decide +kernel
theorem f_X4_around_2 : (Cond.fieldLink RX4 101 "PlaneFacesModel" "pieces" "I") ∈ wsX4_around := by decide +kernel
set_option maxRecDepth 100000 in
set_option maxHeartbeats 4000000 in
theorem c_X4_around (l : Launch) (dC : Nat → ClassId) (dI : Nat → Nat → Nat) (cI cJ cZ : ClassId) (ad : Nat → Nat) (sz : Nat) (mre : Int32) (mth : Nat → Int32) (mxs : Nat → Int32) (mys : Nat → Int32) (mcu : Int32) (mnx : Nat → Int32) (mpo : Nat → Int32) (mpn : Int32) (mrn : Int32) (mrd : Nat → Int32) (mfi : Nat → Int32) (mar : Nat → Int64) (mfn : Int32) (mfa : Nat → Int32) (mnu : Nat → Int32) (mst : Nat → Int32) (v1 : Int32) {post : Int32 → Int32 → Int32 → (Nat → Int32) → (Nat → Int32) → Int32 → Int32 → (Nat → Int32) → (Nat → Int32) → (Nat → Int64) → Int32 → (Nat → Int32) → (Nat → Int32) → Prop} (hw : wp_X4_around mre mth mxs mys mcu mnx mpo mpn mrn mrd mfi mar mfn mfa mnu v1 post) : Met l yX4_around wsX4_around rm_X4_around (va_Pc [.ref (ad 0), .int v1] (fun U => U.heap.size = sz ∧ va_P (dC, dI) vwCl (wMod ad cI cJ cZ mre mth mxs mys mcu mnx mpo mpn mrn mrd mfi mar mfn mfa mnu mst) U.heap ∧ va_K (dC, dI) vwCl (tyL cI cJ cZ) U ∧ va_D (fun _ => True) (wMod ad cI cJ cZ mre mth mxs mys mcu mnx mpo mpn mrn mrd mfi mar mfn mfa mnu mst))) (va_Qi (fun (r : Int32) (uu : Int32 × Int32 × (Nat → Int32) × (Nat → Int32) × Int32 × Int32 × (Nat → Int32) × (Nat → Int32) × (Nat → Int64) × Int32 × (Nat → Int32) × (Nat → Int32)) => post r uu.1 uu.2.1 uu.2.2.1 uu.2.2.2.1 uu.2.2.2.2.1 uu.2.2.2.2.2.1 uu.2.2.2.2.2.2.1 uu.2.2.2.2.2.2.2.1 uu.2.2.2.2.2.2.2.2.1 uu.2.2.2.2.2.2.2.2.2.1 uu.2.2.2.2.2.2.2.2.2.2.1 uu.2.2.2.2.2.2.2.2.2.2.2) (fun (uu : Int32 × Int32 × (Nat → Int32) × (Nat → Int32) × Int32 × Int32 × (Nat → Int32) × (Nat → Int32) × (Nat → Int64) × Int32 × (Nat → Int32) × (Nat → Int32)) (t : State) => va_P (dC, dI) vwCl (wMod ad cI cJ cZ uu.1 mth mxs mys uu.2.1 uu.2.2.1 uu.2.2.2.1 uu.2.2.2.2.1 uu.2.2.2.2.2.1 uu.2.2.2.2.2.2.1 uu.2.2.2.2.2.2.2.1 uu.2.2.2.2.2.2.2.2.1 uu.2.2.2.2.2.2.2.2.2.1 uu.2.2.2.2.2.2.2.2.2.2.1 uu.2.2.2.2.2.2.2.2.2.2.2 mst) t.heap ∧ va_D (va_A (wMod ad cI cJ cZ mre mth mxs mys mcu mnx mpo mpn mrn mrd mfi mar mfn mfa mnu mst) sz) (wMod ad cI cJ cZ uu.1 mth mxs mys uu.2.1 uu.2.2.1 uu.2.2.2.1 uu.2.2.2.2.1 uu.2.2.2.2.2.1 uu.2.2.2.2.2.2.1 uu.2.2.2.2.2.2.2.1 uu.2.2.2.2.2.2.2.2.1 uu.2.2.2.2.2.2.2.2.2.1 uu.2.2.2.2.2.2.2.2.2.2.1 uu.2.2.2.2.2.2.2.2.2.2.2 mst)) (va_A (wMod ad cI cJ cZ mre mth mxs mys mcu mnx mpo mpn mrn mrd mfi mar mfn mfa mnu mst) sz)) 0 0 (va_A (wMod ad cI cJ cZ mre mth mxs mys mcu mnx mpo mpn mrn mrd mfi mar mfn mfa mnu mst) sz) := by
  unfold wp_X4_around at hw
  refine Met.ofW (cc := cX4_around) (maxL := 2) (ret := (some .int)) (by decide) rfl ?_
  intro p e s m args below meth c s₁ B hml hv
  obtain ⟨hav, hsz, hP, hK, hD0⟩ := hv
  have hx := B.exec
  have hb := B.bytes
  have hr := B.returns
  have hts := atoms_spec (ws := wsX4_around) B.pre
  have hown : s.vm.findClass RX4 = some m.cls := findClass_of_methodNamed B.named
  have hlocks := B.notSynchronized
  have C : CallFix p m c cX4_around 2 s args wsX4_around RX4 := ⟨hx, hb, hml, hown, hts⟩
  obtain ⟨ls, hE, hl⟩ := mx_entry (m := m) [.ref (ad 0), .int v1] (n := 2) (Nat.le_of_ble_eq_true rfl)
  have hl : lv_has ls 2 [(0, .ref (ad 0)), (1, .int v1)] := hl
  rw [show entryFrame m args 2 = F0 m 0 ls [] by rw [hav]; exact hE]
  subst hsz
  have hD := hD0.self (sz := s.heap.size)
  generalize hAe : va_A (wMod ad cI cJ cZ mre mth mxs mys mcu mnx mpo mpn mrn mrd mfi mar mfn mfa mnu mst) s.heap.size = A at hD ⊢
  have hA : ∀ q : Nat, s.heap.size ≤ q → A q := fun q h => by rw [← hAe]; exact Or.inr h
  have hS : va_S A s.heap s.heap [] := va_S.rf
  obtain ⟨Q, hQ⟩ : ∃ Q, MQ below (va_Qi (fun (r : Int32) (uu : Int32 × Int32 × (Nat → Int32) × (Nat → Int32) × Int32 × Int32 × (Nat → Int32) × (Nat → Int32) × (Nat → Int64) × Int32 × (Nat → Int32) × (Nat → Int32)) => post r uu.1 uu.2.1 uu.2.2.1 uu.2.2.2.1 uu.2.2.2.2.1 uu.2.2.2.2.2.1 uu.2.2.2.2.2.2.1 uu.2.2.2.2.2.2.2.1 uu.2.2.2.2.2.2.2.2.1 uu.2.2.2.2.2.2.2.2.2.1 uu.2.2.2.2.2.2.2.2.2.2.1 uu.2.2.2.2.2.2.2.2.2.2.2) (fun (uu : Int32 × Int32 × (Nat → Int32) × (Nat → Int32) × Int32 × Int32 × (Nat → Int32) × (Nat → Int32) × (Nat → Int64) × Int32 × (Nat → Int32) × (Nat → Int32)) (t : State) => va_P (dC, dI) vwCl (wMod ad cI cJ cZ uu.1 mth mxs mys uu.2.1 uu.2.2.1 uu.2.2.2.1 uu.2.2.2.2.1 uu.2.2.2.2.2.1 uu.2.2.2.2.2.2.1 uu.2.2.2.2.2.2.2.1 uu.2.2.2.2.2.2.2.2.1 uu.2.2.2.2.2.2.2.2.2.1 uu.2.2.2.2.2.2.2.2.2.2.1 uu.2.2.2.2.2.2.2.2.2.2.2 mst) t.heap ∧ va_D A (wMod ad cI cJ cZ uu.1 mth mxs mys uu.2.1 uu.2.2.1 uu.2.2.2.1 uu.2.2.2.2.1 uu.2.2.2.2.2.1 uu.2.2.2.2.2.2.1 uu.2.2.2.2.2.2.2.1 uu.2.2.2.2.2.2.2.2.1 uu.2.2.2.2.2.2.2.2.2.1 uu.2.2.2.2.2.2.2.2.2.2.1 uu.2.2.2.2.2.2.2.2.2.2.2 mst)) A) args s 0 0 A = Q := ⟨_, rfl⟩
  rw [hQ]
  obtain ⟨H, hH⟩ : ∃ H, s.heap = H := ⟨_, rfl⟩
  have hS : va_S A s.heap H [] := by rw [← hH]; exact hS
  rw [hH] at hP
  show W p l e rm_X4_around s m args below meth c s.heap [] 0 0 Q (F0 m 0 ls [])
  suffices hg : W p l e rm_X4_around s m args below meth c H [] 0 0 Q (F0 m 0 ls []) by rw [hH]; exact hg
  clear hH
  generalize hlo : ([] : List Loc) = locs at hS ⊢
  refine lv_aload_n hx hb dX4_around_0 rfl (lv_at hl 0 rfl) ?_
  have hPc := hP.sub (ws' := (wMod ad cI cJ cZ mre mth mxs mys mcu mnx mpo mpn mrn mrd mfi mar mfn mfa mnu mst)) [0, 1, 2, 3, 4, 5, 6, 7, 8, 9, 10, 11] rfl
  have hDc := hD.sub (ws' := (wMod ad cI cJ cZ mre mth mxs mys mcu mnx mpo mpn mrn mrd mfi mar mfn mfa mnu mst)) [0, 1, 2, 3, 4, 5, 6, 7, 8, 9, 10, 11] (by decide) rfl
  have hFc := va_free (wc := (wMod ad cI cJ cZ mre mth mxs mys mcu mnx mpo mpn mrn mrd mfi mar mfn mfa mnu mst)) hD hS hA [0, 1, 2, 3, 4, 5, 6, 7, 8, 9, 10, 11] rfl
  refine va_callv (va_runV (As := []) (rest := []) C (c_X4_make l dC dI cI cJ cZ ad _ mre mth mxs mys mcu mnx mpo mpn mrn mrd mfi mar mfn mfa mnu mst  hw) (cwV 0 hts gX4_around_X4_make rfl rfl rfl (by decide +kernel) ⟨Nat.le_of_ble_eq_true rfl, Nat.le_of_ble_eq_true rfl⟩) ⟨fb_rw, va_recv hK hPc (ci := 4) (q0 := 0) rfl rfl, fun U hU hW => ⟨rfl, by rw [hU], by rw [hU]; exact hPc, va_K.moved hW.alike hK, hDc.weaken (fun _ _ _ _ => trivial)⟩⟩ rfl rfl hl.1 rfl (lv_room (Nat.le_of_ble_eq_true rfl)) dX4_around_1 ⟨Nat.zero_le _, Nat.zero_le _⟩) hS (fun q _ h => hFc q h) hFc (fun uu t H1 locs ht hvm hw hB hz1 hk1 hS => ?_)
  obtain ⟨mcu_1, mnx_2, mpo_3, mpn_4, mrn_5, mrd_6, mfi_7, mar_8, mfn_9, mfa_10, mnu_11⟩ := uu
  obtain ⟨hP1, hD1⟩ := hB
  rw [ht] at hP1
  try dsimp only at hw hP1 hD1
  obtain ⟨hP, hD⟩ := va_join (wr := []) (w1 := (wMod ad cI cJ cZ mre mth mxs mys mcu_1 mnx_2 mpo_3 mpn_4 mrn_5 mrd_6 mfi_7 mar_8 mfn_9 mfa_10 mnu_11 mst)) hP hD [0, 1, 2, 3, 4, 5, 6, 7, 8, 9, 10, 11] [] rfl rfl (by decide) (by decide) hk1 hFc hP1 hD1
  generalize H1 = H at hP hS ⊢
  have hP : va_P (dC, dI) vwCl (wMod ad cI cJ cZ mre mth mxs mys mcu_1 mnx_2 mpo_3 mpn_4 mrn_5 mrd_6 mfi_7 mar_8 mfn_9 mfa_10 mnu_11 mst) H := hP
  have hD : va_D A (wMod ad cI cJ cZ mre mth mxs mys mcu_1 mnx_2 mpo_3 mpn_4 mrn_5 mrd_6 mfi_7 mar_8 mfn_9 mfa_10 mnu_11 mst) := hD
  refine lv_aload_n hx hb dX4_around_4 rfl (lv_at hl 0 rfl) ?_
  refine lv_iload_n hx hb dX4_around_5 rfl (lv_at hl 1 rfl) ?_
  refine jn1_use (J := fun (k12 : Int32) => ∀ (ls : Array Slot) (H : Heap) (locs : List Loc), lv_has ls 2 [(0, .ref (ad 0)), (1, .int v1)] → va_P (dC, dI) vwCl (wMod ad cI cJ cZ mre mth mxs mys mcu_1 mnx_2 mpo_3 mpn_4 mrn_5 mrd_6 mfi_7 mar_8 mfn_9 mfa_10 mnu_11 mst) H → va_D A (wMod ad cI cJ cZ mre mth mxs mys mcu_1 mnx_2 mpo_3 mpn_4 mrn_5 mrd_6 mfi_7 mar_8 mfn_9 mfa_10 mnu_11 mst) → va_S A s.heap H locs → W p l e rm_X4_around s m args below meth c H locs 0 0 Q (F0 m 22 ls [.int k12, .ref (ad 0)])) hw (fun k12 hw ls H locs hl hP hD hS => ?_) (fun hw hj0 => ?_)
  · have hPc := hP.sub (ws' := (wMod ad cI cJ cZ mre mth mxs mys mcu_1 mnx_2 mpo_3 mpn_4 mrn_5 mrd_6 mfi_7 mar_8 mfn_9 mfa_10 mnu_11 mst)) [0, 1, 2, 3, 4, 5, 6, 7, 8, 9, 10, 11] rfl
    have hDc := hD.sub (ws' := (wMod ad cI cJ cZ mre mth mxs mys mcu_1 mnx_2 mpo_3 mpn_4 mrn_5 mrd_6 mfi_7 mar_8 mfn_9 mfa_10 mnu_11 mst)) [0, 1, 2, 3, 4, 5, 6, 7, 8, 9, 10, 11] (by decide) rfl
    have hFc := va_free (wc := (wMod ad cI cJ cZ mre mth mxs mys mcu_1 mnx_2 mpo_3 mpn_4 mrn_5 mrd_6 mfi_7 mar_8 mfn_9 mfa_10 mnu_11 mst)) hD hS hA [0, 1, 2, 3, 4, 5, 6, 7, 8, 9, 10, 11] rfl
    refine va_calli (va_runV (As := [.int k12]) (rest := []) C (c_X4_refused l dC dI cI cJ cZ ad _ mre mth mxs mys mcu_1 mnx_2 mpo_3 mpn_4 mrn_5 mrd_6 mfi_7 mar_8 mfn_9 mfa_10 mnu_11 mst k12 hw) (cwV 1 hts gX4_around_X4_refused rfl rfl rfl (by decide +kernel) ⟨Nat.le_of_ble_eq_true rfl, Nat.le_of_ble_eq_true rfl⟩) ⟨fb_rw, va_recv hK hPc (ci := 4) (q0 := 0) rfl rfl, fun U hU hW => ⟨rfl, by rw [hU], by rw [hU]; exact hPc, va_K.moved hW.alike hK, hDc.weaken (fun _ _ _ _ => trivial)⟩⟩ rfl rfl hl.1 rfl (lv_room (Nat.le_of_ble_eq_true rfl)) dX4_around_22 ⟨Nat.zero_le _, Nat.zero_le _⟩) hS (fun q _ h => hFc q h) hFc (fun r15 uu t H1 locs ht hvm hw hB hz1 hk1 hS => ?_)
    obtain ⟨mre_16, rfl⟩ : ∃ z, z = uu := ⟨_, rfl⟩
    obtain ⟨hP1, hD1⟩ := hB
    rw [ht] at hP1
    try dsimp only at hw hP1 hD1
    obtain ⟨hP, hD⟩ := va_join (wr := []) (w1 := (wMod ad cI cJ cZ mre_16 mth mxs mys mcu_1 mnx_2 mpo_3 mpn_4 mrn_5 mrd_6 mfi_7 mar_8 mfn_9 mfa_10 mnu_11 mst)) hP hD [0, 1, 2, 3, 4, 5, 6, 7, 8, 9, 10, 11] [] rfl rfl (by decide) (by decide) hk1 hFc hP1 hD1
    generalize H1 = H at hP hS ⊢
    have hP : va_P (dC, dI) vwCl (wMod ad cI cJ cZ mre_16 mth mxs mys mcu_1 mnx_2 mpo_3 mpn_4 mrn_5 mrd_6 mfi_7 mar_8 mfn_9 mfa_10 mnu_11 mst) H := hP
    have hD : va_D A (wMod ad cI cJ cZ mre_16 mth mxs mys mcu_1 mnx_2 mpo_3 mpn_4 mrn_5 mrd_6 mfi_7 mar_8 mfn_9 mfa_10 mnu_11 mst) := hD
    refine jn1_use (J := fun (k17 : Int32) => ∀ (ls : Array Slot) (H : Heap) (locs : List Loc), lv_has ls 2 [(0, .ref (ad 0))] → va_P (dC, dI) vwCl (wMod ad cI cJ cZ mre_16 mth mxs mys mcu_1 mnx_2 mpo_3 mpn_4 mrn_5 mrd_6 mfi_7 mar_8 mfn_9 mfa_10 mnu_11 mst) H → va_D A (wMod ad cI cJ cZ mre_16 mth mxs mys mcu_1 mnx_2 mpo_3 mpn_4 mrn_5 mrd_6 mfi_7 mar_8 mfn_9 mfa_10 mnu_11 mst) → va_S A s.heap H locs → W p l e rm_X4_around s m args below meth c H locs 0 0 Q (F0 m 42 ls [.int k17])) hw (fun k17 hw ls H locs hl hP hD hS => ?_) (fun hw hj0 => ?_)
    · rw [← hQ]
      exact W.iret (v := k17) hx hb hr (fun t ht hW => ⟨⟨_, (mre_16, mcu_1, mnx_2, mpo_3, mpn_4, mrn_5, mrd_6, mfi_7, mar_8, mfn_9, mfa_10, mnu_11), rfl, hw, by rw [ht]; exact hP, hD⟩, hS.F ht⟩) hS.2.2 dX4_around_42
    · have hj19 := hj0
      refine lv_if_eq (tgt := 32) hx hb dX4_around_25 (by decide) (fun hc => ?_) (fun hc => ?_)
      · have hw := hw.1 (hc)
        refine lv_aload_n hx hb dX4_around_32 rfl (lv_at hl 0 rfl) ?_
        refine va_get (D := (dC, dI)) (ci := 4) (v := .ref (ad 9)) (C := RX4) (T := TX4) (N := 16) hx hb hts f_X4_around_1 hown hK hP 0 rfl rfl 13 (by decide) (hts _ f_X4_around_0) (fun _ h9 => h9) rfl dX4_around_33 ?_
        refine lv_aload_n hx hb dX4_around_36 rfl (lv_at hl 0 rfl) ?_
        refine lv_iload_n hx hb dX4_around_37 rfl (lv_at hl 1 rfl) ?_
        refine vp_callSi (W.runV (As := [.int v1]) (rest := [.ref (ad 9)]) C (c_X4_outer l dC dI cI cJ cZ ad mre_16 mth mxs mys mcu_1 mnx_2 mpo_3 mpn_4 mrn_5 mrd_6 mfi_7 mar_8 mfn_9 mfa_10 mnu_11 mst v1 hw) (cwV 1 hts gX4_around_X4_outer rfl rfl rfl (by decide +kernel) ⟨Nat.le_of_ble_eq_true rfl, Nat.le_of_ble_eq_true rfl⟩) ⟨fb_ro, va_recv hK hP (ci := 4) (q0 := 0) rfl rfl, fun U hU hW => ⟨rfl, by rw [hU]; exact hP, va_K.moved hW.alike hK⟩⟩ rfl rfl hl.1 rfl (lv_room (Nat.le_of_ble_eq_true rfl)) dX4_around_38 ⟨Nat.zero_le _, Nat.zero_le _⟩) (fun r20 hw => ?_)
        have hi := hw.1
        have hw := hw.2
        refine va_iald hx hb hK hP 9 0 rfl rfl hi dX4_around_41 ?_
        exact hj19 (mfa_10 r20.toNatClampNeg) hw ls _ _ (lv_sub hl [0] rfl) hP hD hS
      · have hw := hw.2 hc
        refine lv_iconst (v := 0) hx hb dX4_around_28 (by decide) ?_
        refine lv_goto (tgt := 42) hx hb dX4_around_29 (by decide) ?_
        exact hj19 (0 : Int32) hw ls _ _ (lv_sub hl [0] rfl) hP hD hS
  · have hj14 := hj0
    refine jn0_use (J := ∀ (ls : Array Slot) (H : Heap) (locs : List Loc), lv_has ls 2 [(0, .ref (ad 0)), (1, .int v1)] → va_P (dC, dI) vwCl (wMod ad cI cJ cZ mre mth mxs mys mcu_1 mnx_2 mpo_3 mpn_4 mrn_5 mrd_6 mfi_7 mar_8 mfn_9 mfa_10 mnu_11 mst) H → va_D A (wMod ad cI cJ cZ mre mth mxs mys mcu_1 mnx_2 mpo_3 mpn_4 mrn_5 mrd_6 mfi_7 mar_8 mfn_9 mfa_10 mnu_11 mst) → va_S A s.heap H locs → W p l e rm_X4_around s m args below meth c H locs 0 0 Q (F0 m 21 ls [.ref (ad 0)])) hw (fun hw ls H locs hl hP hD hS => ?_) (fun hw hj0 => ?_)
    · refine lv_iconst (v := 1) hx hb dX4_around_21 (by decide) ?_
      exact hj14 (1 : Int32) hw ls _ _ (lv_sub hl [0, 1] rfl) hP hD hS
    · have hj22 := hj0
      refine lv_if_lt (tgt := 21) hx hb dX4_around_6 (by decide) (fun hc => ?_) (fun hc => ?_)
      · have hw := hw.1 (hc)
        exact hj22 hw ls _ _ (lv_sub hl [0, 1] rfl) hP hD hS
      · have hw := hw.2 hc
        refine lv_iload_n hx hb dX4_around_9 rfl (lv_at hl 1 rfl) ?_
        refine lv_aload_n hx hb dX4_around_10 rfl (lv_at hl 0 rfl) ?_
        refine va_get (D := (dC, dI)) (ci := 4) (v := .int mpn_4) (C := RX4) (T := TX4) (N := 16) hx hb hts f_X4_around_1 hown hK hP 0 rfl rfl 7 (by decide) (hts _ f_X4_around_2) (fun _ h9 => h9) rfl dX4_around_11 ?_
        refine lv_icmp_ge (tgt := 21) hx hb dX4_around_14 (by decide) (fun hc => ?_) (fun hc => ?_)
        · have hw := hw.1 (hc)
          exact hj22 hw ls _ _ (lv_sub hl [0, 1] rfl) hP hD hS
        · have hw := hw.2 hc
          refine lv_iconst (v := 0) hx hb dX4_around_17 (by decide) ?_
          refine lv_goto (tgt := 22) hx hb dX4_around_18 (by decide) ?_
          exact hj14 (0 : Int32) hw ls _ _ (lv_sub hl [0, 1] rfl) hP hD hS
-- X4_isFace
abbrev rm_X4_isFace : Room := { frames := 6, cells := 0, slots := 0, locals := 144 }
theorem f_X4_isFace_0 : (Cond.fieldLink RX4 118 "PlaneFacesModel" "faces" "I") ∈ wsX4_isFace := by decide +kernel
theorem f_X4_isFace_1 : ∀ w ∈ wsX40, w ∈ wsX4_isFace := by decide +kernel
set_option maxRecDepth 100000 in
set_option maxHeartbeats 4000000 in
theorem c_X4_isFace (l : Launch) (dC : Nat → ClassId) (dI : Nat → Nat → Nat) (cI cJ cZ : ClassId) (ad : Nat → Nat) (sz : Nat) (mre : Int32) (mth : Nat → Int32) (mxs : Nat → Int32) (mys : Nat → Int32) (mcu : Int32) (mnx : Nat → Int32) (mpo : Nat → Int32) (mpn : Int32) (mrn : Int32) (mrd : Nat → Int32) (mfi : Nat → Int32) (mar : Nat → Int64) (mfn : Int32) (mfa : Nat → Int32) (mnu : Nat → Int32) (mst : Nat → Int32) (v1 : Int32) {post : Int32 → Int32 → (Nat → Int32) → (Nat → Int32) → Int32 → Int32 → (Nat → Int32) → (Nat → Int32) → (Nat → Int64) → Int32 → (Nat → Int32) → (Nat → Int32) → Prop} (hw : wp_X4_isFace mth mxs mys mcu mnx mpo mpn mrn mrd mfi mar mfn mfa mnu v1 post) : Met l yX4_isFace wsX4_isFace rm_X4_isFace (va_Pc [.ref (ad 0), .int v1] (fun U => U.heap.size = sz ∧ va_P (dC, dI) vwCl (wMod ad cI cJ cZ mre mth mxs mys mcu mnx mpo mpn mrn mrd mfi mar mfn mfa mnu mst) U.heap ∧ va_K (dC, dI) vwCl (tyL cI cJ cZ) U ∧ va_D (fun _ => True) (wMod ad cI cJ cZ mre mth mxs mys mcu mnx mpo mpn mrn mrd mfi mar mfn mfa mnu mst))) (va_Qi (fun (r : Int32) (uu : Int32 × (Nat → Int32) × (Nat → Int32) × Int32 × Int32 × (Nat → Int32) × (Nat → Int32) × (Nat → Int64) × Int32 × (Nat → Int32) × (Nat → Int32)) => post r uu.1 uu.2.1 uu.2.2.1 uu.2.2.2.1 uu.2.2.2.2.1 uu.2.2.2.2.2.1 uu.2.2.2.2.2.2.1 uu.2.2.2.2.2.2.2.1 uu.2.2.2.2.2.2.2.2.1 uu.2.2.2.2.2.2.2.2.2.1 uu.2.2.2.2.2.2.2.2.2.2) (fun (uu : Int32 × (Nat → Int32) × (Nat → Int32) × Int32 × Int32 × (Nat → Int32) × (Nat → Int32) × (Nat → Int64) × Int32 × (Nat → Int32) × (Nat → Int32)) (t : State) => va_P (dC, dI) vwCl (wMod ad cI cJ cZ mre mth mxs mys uu.1 uu.2.1 uu.2.2.1 uu.2.2.2.1 uu.2.2.2.2.1 uu.2.2.2.2.2.1 uu.2.2.2.2.2.2.1 uu.2.2.2.2.2.2.2.1 uu.2.2.2.2.2.2.2.2.1 uu.2.2.2.2.2.2.2.2.2.1 uu.2.2.2.2.2.2.2.2.2.2 mst) t.heap ∧ va_D (va_A (wMod ad cI cJ cZ mre mth mxs mys mcu mnx mpo mpn mrn mrd mfi mar mfn mfa mnu mst) sz) (wMod ad cI cJ cZ mre mth mxs mys uu.1 uu.2.1 uu.2.2.1 uu.2.2.2.1 uu.2.2.2.2.1 uu.2.2.2.2.2.1 uu.2.2.2.2.2.2.1 uu.2.2.2.2.2.2.2.1 uu.2.2.2.2.2.2.2.2.1 uu.2.2.2.2.2.2.2.2.2.1 uu.2.2.2.2.2.2.2.2.2.2 mst)) (va_A (wMod ad cI cJ cZ mre mth mxs mys mcu mnx mpo mpn mrn mrd mfi mar mfn mfa mnu mst) sz)) 0 0 (va_A (wMod ad cI cJ cZ mre mth mxs mys mcu mnx mpo mpn mrn mrd mfi mar mfn mfa mnu mst) sz) := by
  unfold wp_X4_isFace at hw
  refine Met.ofW (cc := cX4_isFace) (maxL := 2) (ret := (some .boolean)) (by decide) rfl ?_
  intro p e s m args below meth c s₁ B hml hv
  obtain ⟨hav, hsz, hP, hK, hD0⟩ := hv
  have hx := B.exec
  have hb := B.bytes
  have hr := B.returns
  have hts := atoms_spec (ws := wsX4_isFace) B.pre
  have hown : s.vm.findClass RX4 = some m.cls := findClass_of_methodNamed B.named
  have hlocks := B.notSynchronized
  have C : CallFix p m c cX4_isFace 2 s args wsX4_isFace RX4 := ⟨hx, hb, hml, hown, hts⟩
  obtain ⟨ls, hE, hl⟩ := mx_entry (m := m) [.ref (ad 0), .int v1] (n := 2) (Nat.le_of_ble_eq_true rfl)
  have hl : lv_has ls 2 [(0, .ref (ad 0)), (1, .int v1)] := hl
  rw [show entryFrame m args 2 = F0 m 0 ls [] by rw [hav]; exact hE]
  subst hsz
  have hD := hD0.self (sz := s.heap.size)
  generalize hAe : va_A (wMod ad cI cJ cZ mre mth mxs mys mcu mnx mpo mpn mrn mrd mfi mar mfn mfa mnu mst) s.heap.size = A at hD ⊢
  have hA : ∀ q : Nat, s.heap.size ≤ q → A q := fun q h => by rw [← hAe]; exact Or.inr h
  have hS : va_S A s.heap s.heap [] := va_S.rf
  obtain ⟨Q, hQ⟩ : ∃ Q, MQ below (va_Qi (fun (r : Int32) (uu : Int32 × (Nat → Int32) × (Nat → Int32) × Int32 × Int32 × (Nat → Int32) × (Nat → Int32) × (Nat → Int64) × Int32 × (Nat → Int32) × (Nat → Int32)) => post r uu.1 uu.2.1 uu.2.2.1 uu.2.2.2.1 uu.2.2.2.2.1 uu.2.2.2.2.2.1 uu.2.2.2.2.2.2.1 uu.2.2.2.2.2.2.2.1 uu.2.2.2.2.2.2.2.2.1 uu.2.2.2.2.2.2.2.2.2.1 uu.2.2.2.2.2.2.2.2.2.2) (fun (uu : Int32 × (Nat → Int32) × (Nat → Int32) × Int32 × Int32 × (Nat → Int32) × (Nat → Int32) × (Nat → Int64) × Int32 × (Nat → Int32) × (Nat → Int32)) (t : State) => va_P (dC, dI) vwCl (wMod ad cI cJ cZ mre mth mxs mys uu.1 uu.2.1 uu.2.2.1 uu.2.2.2.1 uu.2.2.2.2.1 uu.2.2.2.2.2.1 uu.2.2.2.2.2.2.1 uu.2.2.2.2.2.2.2.1 uu.2.2.2.2.2.2.2.2.1 uu.2.2.2.2.2.2.2.2.2.1 uu.2.2.2.2.2.2.2.2.2.2 mst) t.heap ∧ va_D A (wMod ad cI cJ cZ mre mth mxs mys uu.1 uu.2.1 uu.2.2.1 uu.2.2.2.1 uu.2.2.2.2.1 uu.2.2.2.2.2.1 uu.2.2.2.2.2.2.1 uu.2.2.2.2.2.2.2.1 uu.2.2.2.2.2.2.2.2.1 uu.2.2.2.2.2.2.2.2.2.1 uu.2.2.2.2.2.2.2.2.2.2 mst)) A) args s 0 0 A = Q := ⟨_, rfl⟩
  rw [hQ]
  obtain ⟨H, hH⟩ : ∃ H, s.heap = H := ⟨_, rfl⟩
  have hS : va_S A s.heap H [] := by rw [← hH]; exact hS
  rw [hH] at hP
  show W p l e rm_X4_isFace s m args below meth c s.heap [] 0 0 Q (F0 m 0 ls [])
  suffices hg : W p l e rm_X4_isFace s m args below meth c H [] 0 0 Q (F0 m 0 ls []) by rw [hH]; exact hg
  clear hH
  generalize hlo : ([] : List Loc) = locs at hS ⊢
  refine lv_aload_n hx hb dX4_isFace_0 rfl (lv_at hl 0 rfl) ?_
  have hPc := hP.sub (ws' := (wMod ad cI cJ cZ mre mth mxs mys mcu mnx mpo mpn mrn mrd mfi mar mfn mfa mnu mst)) [0, 1, 2, 3, 4, 5, 6, 7, 8, 9, 10, 11] rfl
  have hDc := hD.sub (ws' := (wMod ad cI cJ cZ mre mth mxs mys mcu mnx mpo mpn mrn mrd mfi mar mfn mfa mnu mst)) [0, 1, 2, 3, 4, 5, 6, 7, 8, 9, 10, 11] (by decide) rfl
  have hFc := va_free (wc := (wMod ad cI cJ cZ mre mth mxs mys mcu mnx mpo mpn mrn mrd mfi mar mfn mfa mnu mst)) hD hS hA [0, 1, 2, 3, 4, 5, 6, 7, 8, 9, 10, 11] rfl
  refine va_callv (va_runV (As := []) (rest := []) C (c_X4_make l dC dI cI cJ cZ ad _ mre mth mxs mys mcu mnx mpo mpn mrn mrd mfi mar mfn mfa mnu mst  hw) (cwV 0 hts gX4_isFace_X4_make rfl rfl rfl (by decide +kernel) ⟨Nat.le_of_ble_eq_true rfl, Nat.le_of_ble_eq_true rfl⟩) ⟨fb_rw, va_recv hK hPc (ci := 4) (q0 := 0) rfl rfl, fun U hU hW => ⟨rfl, by rw [hU], by rw [hU]; exact hPc, va_K.moved hW.alike hK, hDc.weaken (fun _ _ _ _ => trivial)⟩⟩ rfl rfl hl.1 rfl (lv_room (Nat.le_of_ble_eq_true rfl)) dX4_isFace_1 ⟨Nat.zero_le _, Nat.zero_le _⟩) hS (fun q _ h => hFc q h) hFc (fun uu t H1 locs ht hvm hw hB hz1 hk1 hS => ?_)
  obtain ⟨mcu_1, mnx_2, mpo_3, mpn_4, mrn_5, mrd_6, mfi_7, mar_8, mfn_9, mfa_10, mnu_11⟩ := uu
  obtain ⟨hP1, hD1⟩ := hB
  rw [ht] at hP1
  try dsimp only at hw hP1 hD1
  obtain ⟨hP, hD⟩ := va_join (wr := []) (w1 := (wMod ad cI cJ cZ mre mth mxs mys mcu_1 mnx_2 mpo_3 mpn_4 mrn_5 mrd_6 mfi_7 mar_8 mfn_9 mfa_10 mnu_11 mst)) hP hD [0, 1, 2, 3, 4, 5, 6, 7, 8, 9, 10, 11] [] rfl rfl (by decide) (by decide) hk1 hFc hP1 hD1
  generalize H1 = H at hP hS ⊢
  have hP : va_P (dC, dI) vwCl (wMod ad cI cJ cZ mre mth mxs mys mcu_1 mnx_2 mpo_3 mpn_4 mrn_5 mrd_6 mfi_7 mar_8 mfn_9 mfa_10 mnu_11 mst) H := hP
  have hD : va_D A (wMod ad cI cJ cZ mre mth mxs mys mcu_1 mnx_2 mpo_3 mpn_4 mrn_5 mrd_6 mfi_7 mar_8 mfn_9 mfa_10 mnu_11 mst) := hD
  refine lv_iload_n hx hb dX4_isFace_4 rfl (lv_at hl 1 rfl) ?_
  refine jn1_use (J := fun (k12 : Int32) => ∀ (ls : Array Slot) (H : Heap) (locs : List Loc), lv_has ls 2 [(0, .ref (ad 0))] → va_P (dC, dI) vwCl (wMod ad cI cJ cZ mre mth mxs mys mcu_1 mnx_2 mpo_3 mpn_4 mrn_5 mrd_6 mfi_7 mar_8 mfn_9 mfa_10 mnu_11 mst) H → va_D A (wMod ad cI cJ cZ mre mth mxs mys mcu_1 mnx_2 mpo_3 mpn_4 mrn_5 mrd_6 mfi_7 mar_8 mfn_9 mfa_10 mnu_11 mst) → va_S A s.heap H locs → W p l e rm_X4_isFace s m args below meth c H locs 0 0 Q (F0 m 21 ls [.int k12])) hw (fun k12 hw ls H locs hl hP hD hS => ?_) (fun hw hj0 => ?_)
  · rw [← hQ]
    exact W.zret (v := k12) (ty := .boolean) hx hb hr (bz_n hw.1) (fun t ht hW => ⟨⟨_, (mcu_1, mnx_2, mpo_3, mpn_4, mrn_5, mrd_6, mfi_7, mar_8, mfn_9, mfa_10, mnu_11), rfl, hw.2, by rw [ht]; exact hP, hD⟩, hS.F ht⟩) hS.2.2 dX4_isFace_21
  · have hj14 := hj0
    refine jn0_use (J := ∀ (ls : Array Slot) (H : Heap) (locs : List Loc), lv_has ls 2 [(0, .ref (ad 0))] → va_P (dC, dI) vwCl (wMod ad cI cJ cZ mre mth mxs mys mcu_1 mnx_2 mpo_3 mpn_4 mrn_5 mrd_6 mfi_7 mar_8 mfn_9 mfa_10 mnu_11 mst) H → va_D A (wMod ad cI cJ cZ mre mth mxs mys mcu_1 mnx_2 mpo_3 mpn_4 mrn_5 mrd_6 mfi_7 mar_8 mfn_9 mfa_10 mnu_11 mst) → va_S A s.heap H locs → W p l e rm_X4_isFace s m args below meth c H locs 0 0 Q (F0 m 20 ls [])) hw (fun hw ls H locs hl hP hD hS => ?_) (fun hw hj0 => ?_)
    · refine lv_iconst (v := 0) hx hb dX4_isFace_20 (by decide) ?_
      exact hj14 (0 : Int32) hw ls _ _ (lv_sub hl [0] rfl) hP hD hS
    · have hj16 := hj0
      refine lv_if_lt (tgt := 20) hx hb dX4_isFace_5 (by decide) (fun hc => ?_) (fun hc => ?_)
      · have hw := hw.1 (hc)
        exact hj16 hw ls _ _ (lv_sub hl [0] rfl) hP hD hS
      · have hw := hw.2 hc
        refine lv_iload_n hx hb dX4_isFace_8 rfl (lv_at hl 1 rfl) ?_
        refine lv_aload_n hx hb dX4_isFace_9 rfl (lv_at hl 0 rfl) ?_
        refine va_get (D := (dC, dI)) (ci := 4) (v := .int mfn_9) (C := RX4) (T := TX4) (N := 16) hx hb hts f_X4_isFace_1 hown hK hP 0 rfl rfl 12 (by decide) (hts _ f_X4_isFace_0) (fun _ h9 => h9) rfl dX4_isFace_10 ?_
        refine lv_icmp_ge (tgt := 20) hx hb dX4_isFace_13 (by decide) (fun hc => ?_) (fun hc => ?_)
        · have hw := hw.1 (hc)
          exact hj16 hw ls _ _ (lv_sub hl [0] rfl) hP hD hS
        · have hw := hw.2 hc
          refine lv_iconst (v := 1) hx hb dX4_isFace_16 (by decide) ?_
          refine lv_goto (tgt := 21) hx hb dX4_isFace_17 (by decide) ?_
          exact hj14 (1 : Int32) hw ls _ _ (lv_sub hl [0] rfl) hP hD hS
-- X4_area
abbrev rm_X4_area : Room := { frames := 7, cells := 0, slots := 0, locals := 165 }
theorem f_X4_area_0 : (Cond.fieldLink RX4 95 "PlaneFacesModel" "rounds" "I") ∈ wsX4_area := by decide +kernel
theorem f_X4_area_1 : ∀ w ∈ wsX40, w ∈ wsX4_area := by decide +kernel
theorem f_X4_area_2 : (Cond.fieldLink RX4 36 "PlaneFacesModel" "faceOf" "[I") ∈ wsX4_area := by decide +kernel
theorem f_X4_area_3 : (Cond.fieldLink RX4 32 "PlaneFacesModel" "areas" "[J") ∈ wsX4_area := by decide +kernel
set_option maxRecDepth 100000 in
set_option maxHeartbeats 4000000 in
theorem l_X4_area_27 {p : Program} {l : Launch} {e : Env} {s : State} {m : MethodId} {args : Array Value} {below : List Frame} {meth : Method} {c : Code} {Q : State → Prop} {dC : Nat → ClassId} {dI : Nat → Nat → Nat} {cI cJ cZ : ClassId} {ad : Nat → Nat} {mre : Int32} {mth : Nat → Int32} {mxs : Nat → Int32} {mys : Nat → Int32} {mcu : Int32} {mnx : Nat → Int32} {mpo : Nat → Int32} {mpn : Int32} {mrn : Int32} {mrd : Nat → Int32} {mfi : Nat → Int32} {mar : Nat → Int64} {mfn : Int32} {mfa : Nat → Int32} {mnu : Nat → Int32} {mst : Nat → Int32} {v1 : Int32} {K71 : Int64 → Prop} (C : CallFix p m c cX4_area 5 s args wsX4_area RX4) (hK : va_K (dC, dI) vwCl (tyL cI cJ cZ) s) {A : Nat → Prop} (hA : ∀ q : Nat, s.heap.size ≤ q → A q) (hk71 : ∀ (w2 : Int64) (ls : Array Slot) (H : Heap) (locs : List Loc), lv_has ls 5 [(0, .ref (ad 0)), (2, .long w2)] → va_P (dC, dI) vwCl (wMod ad cI cJ cZ mre mth mxs mys mcu mnx mpo mpn mrn mrd mfi mar mfn mfa mnu mst) H → va_D A (wMod ad cI cJ cZ mre mth mxs mys mcu mnx mpo mpn mrn mrd mfi mar mfn mfa mnu mst) → va_S A s.heap H locs → K71 w2 → W p l e rm_X4_area s m args below meth c H locs 0 0 Q (F0 m 71 ls [])) : ∀ (n : Nat) (v2 : Int64) (v4 : Int32) (ls : Array Slot) (H : Heap) (locs : List Loc), lv_has ls 5 [(0, .ref (ad 0)), (1, .int v1), (2, .long v2), (4, .int v4)] → va_P (dC, dI) vwCl (wMod ad cI cJ cZ mre mth mxs mys mcu mnx mpo mpn mrn mrd mfi mar mfn mfa mnu mst) H → va_D A (wMod ad cI cJ cZ mre mth mxs mys mcu mnx mpo mpn mrn mrd mfi mar mfn mfa mnu mst) → va_S A s.heap H locs → lp_X4_area_27 mre mth mxs mys mcu mnx mpo mpn mrn mrd mfi mar mfn mfa mnu v1 K71 n v2 v4 → W p l e rm_X4_area s m args below meth c H locs 0 0 Q (F0 m 27 ls []) := by
  obtain ⟨hx, hb, hml, hown, hts⟩ := id C
  intro n
  induction n with
  | zero =>
    intro v2 v4 ls H locs hl hP hD hS hw
    rw [lp_X4_area_27.eq_1] at hw
    exact hw.elim
  | succ n ih =>
    intro v2 v4 ls H locs hl hP hD hS hw
    rw [lp_X4_area_27.eq_2] at hw
    refine lv_iload hx hb dX4_area_27 (lv_at hl 3 rfl) ?_
    refine lv_aload_n hx hb dX4_area_29 rfl (lv_at hl 0 rfl) ?_
    refine va_get (D := (dC, dI)) (ci := 4) (v := .int mrn) (C := RX4) (T := TX4) (N := 16) hx hb hts f_X4_area_1 hown hK hP 0 rfl rfl 8 (by decide) (hts _ f_X4_area_0) (fun _ h9 => h9) rfl dX4_area_30 ?_
    refine lv_icmp_ge (tgt := 71) hx hb dX4_area_33 (by decide) (fun hc => ?_) (fun hc => ?_)
    · have hw := hw.1 (hc)
      exact hk71 v2 ls _ _ (lv_sub hl [0, 2] rfl) hP hD hS hw
    · have hw := hw.2 hc
      refine lv_iload_n hx hb dX4_area_36 rfl (lv_at hl 1 rfl) ?_
      refine lv_if_le (tgt := 71) hx hb dX4_area_37 (by decide) (fun hc => ?_) (fun hc => ?_)
      · have hw := hw.1 (hc)
        exact hk71 v2 ls _ _ (lv_sub hl [0, 2] rfl) hP hD hS hw
      · have hw := hw.2 hc
        refine lv_aload_n hx hb dX4_area_40 rfl (lv_at hl 0 rfl) ?_
        refine va_get (D := (dC, dI)) (ci := 4) (v := .ref (ad 9)) (C := RX4) (T := TX4) (N := 16) hx hb hts f_X4_area_1 hown hK hP 0 rfl rfl 13 (by decide) (hts _ f_X4_area_2) (fun _ h9 => h9) rfl dX4_area_41 ?_
        refine lv_iload hx hb dX4_area_44 (lv_at hl 3 rfl) ?_
        have hi := hw.1
        have hw := hw.2
        refine va_iald hx hb hK hP 9 0 rfl rfl hi dX4_area_46 ?_
        refine lv_iload_n hx hb dX4_area_47 rfl (lv_at hl 1 rfl) ?_
        refine jn1_use (J := fun (k18 : Int64) => ∀ (ls : Array Slot) (H : Heap) (locs : List Loc), lv_has ls 5 [(0, .ref (ad 0)), (1, .int v1), (4, .int v4)] → va_P (dC, dI) vwCl (wMod ad cI cJ cZ mre mth mxs mys mcu mnx mpo mpn mrn mrd mfi mar mfn mfa mnu mst) H → va_D A (wMod ad cI cJ cZ mre mth mxs mys mcu mnx mpo mpn mrn mrd mfi mar mfn mfa mnu mst) → va_S A s.heap H locs → W p l e rm_X4_area s m args below meth c H locs 0 0 Q (F0 m 64 ls [.long k18])) hw (fun k18 hw ls H locs hl hP hD hS => ?_) (fun hw hj0 => ?_)
        · refine lv_lstore_n (lv' := [(2, .long k18), (0, .ref (ad 0)), (1, .int v1), (4, .int v4)]) hx hb dX4_area_64 rfl hl (by decide) rfl (fun ls hl => ?_)
          refine lv_iinc (v := (v4 + (1 : Int32))) (lv' := [(4, .int (v4 + (1 : Int32))), (2, .long k18), (0, .ref (ad 0)), (1, .int v1)]) hx hb dX4_area_65 hl (k := 3) rfl rfl (by decide) rfl (fun ls hl => ?_)
          refine lv_goto (tgt := 27) hx hb dX4_area_68 (by decide) ?_
          exact ih k18 (v4 + (1 : Int32)) ls _ _ (lv_sub hl [2, 3, 1, 0] rfl) hP hD hS hw
        · have hj20 := hj0
          refine lv_icmp_ne (tgt := 63) hx hb dX4_area_48 (by decide) (fun hc => ?_) (fun hc => ?_)
          · have hw := hw.2 hc
            refine lv_lload_n hx hb dX4_area_63 rfl (lv_at hl 2 rfl) ?_
            exact hj20 v2 hw ls _ _ (lv_sub hl [0, 1, 3] rfl) hP hD hS
          · have hw := hw.1 (hc)
            refine lv_lload_n hx hb dX4_area_51 rfl (lv_at hl 2 rfl) ?_
            refine lv_aload_n hx hb dX4_area_52 rfl (lv_at hl 0 rfl) ?_
            refine va_get (D := (dC, dI)) (ci := 4) (v := .ref (ad 8)) (C := RX4) (T := TX4) (N := 16) hx hb hts f_X4_area_1 hown hK hP 0 rfl rfl 11 (by decide) (hts _ f_X4_area_3) (fun _ h9 => h9) rfl dX4_area_53 ?_
            refine lv_iload hx hb dX4_area_56 (lv_at hl 3 rfl) ?_
            have hi := hw.1
            have hw := hw.2
            refine va_lald hx hb hK hP 8 1 rfl rfl hi dX4_area_58 ?_
            refine lv_ladd hx hb dX4_area_59 ?_
            refine lv_goto (tgt := 64) hx hb dX4_area_60 (by decide) ?_
            exact hj20 (v2 + (mar v4.toNatClampNeg)) hw ls _ _ (lv_sub hl [0, 1, 3] rfl) hP hD hS
set_option maxRecDepth 100000 in
set_option maxHeartbeats 4000000 in
theorem c_X4_area (l : Launch) (dC : Nat → ClassId) (dI : Nat → Nat → Nat) (cI cJ cZ : ClassId) (ad : Nat → Nat) (sz : Nat) (mre : Int32) (mth : Nat → Int32) (mxs : Nat → Int32) (mys : Nat → Int32) (mcu : Int32) (mnx : Nat → Int32) (mpo : Nat → Int32) (mpn : Int32) (mrn : Int32) (mrd : Nat → Int32) (mfi : Nat → Int32) (mar : Nat → Int64) (mfn : Int32) (mfa : Nat → Int32) (mnu : Nat → Int32) (mst : Nat → Int32) (v1 : Int32) {post : Int32 → Int32 → Int32 → (Nat → Int32) → (Nat → Int32) → Int32 → Int32 → (Nat → Int32) → (Nat → Int32) → (Nat → Int64) → Int32 → (Nat → Int32) → (Nat → Int32) → Prop} (hw : wp_X4_area mre mth mxs mys mcu mnx mpo mpn mrn mrd mfi mar mfn mfa mnu v1 post) : Met l yX4_area wsX4_area rm_X4_area (va_Pc [.ref (ad 0), .int v1] (fun U => U.heap.size = sz ∧ va_P (dC, dI) vwCl (wMod ad cI cJ cZ mre mth mxs mys mcu mnx mpo mpn mrn mrd mfi mar mfn mfa mnu mst) U.heap ∧ va_K (dC, dI) vwCl (tyL cI cJ cZ) U ∧ va_D (fun _ => True) (wMod ad cI cJ cZ mre mth mxs mys mcu mnx mpo mpn mrn mrd mfi mar mfn mfa mnu mst))) (va_Qi (fun (r : Int32) (uu : Int32 × Int32 × (Nat → Int32) × (Nat → Int32) × Int32 × Int32 × (Nat → Int32) × (Nat → Int32) × (Nat → Int64) × Int32 × (Nat → Int32) × (Nat → Int32)) => post r uu.1 uu.2.1 uu.2.2.1 uu.2.2.2.1 uu.2.2.2.2.1 uu.2.2.2.2.2.1 uu.2.2.2.2.2.2.1 uu.2.2.2.2.2.2.2.1 uu.2.2.2.2.2.2.2.2.1 uu.2.2.2.2.2.2.2.2.2.1 uu.2.2.2.2.2.2.2.2.2.2.1 uu.2.2.2.2.2.2.2.2.2.2.2) (fun (uu : Int32 × Int32 × (Nat → Int32) × (Nat → Int32) × Int32 × Int32 × (Nat → Int32) × (Nat → Int32) × (Nat → Int64) × Int32 × (Nat → Int32) × (Nat → Int32)) (t : State) => va_P (dC, dI) vwCl (wMod ad cI cJ cZ uu.1 mth mxs mys uu.2.1 uu.2.2.1 uu.2.2.2.1 uu.2.2.2.2.1 uu.2.2.2.2.2.1 uu.2.2.2.2.2.2.1 uu.2.2.2.2.2.2.2.1 uu.2.2.2.2.2.2.2.2.1 uu.2.2.2.2.2.2.2.2.2.1 uu.2.2.2.2.2.2.2.2.2.2.1 uu.2.2.2.2.2.2.2.2.2.2.2 mst) t.heap ∧ va_D (va_A (wMod ad cI cJ cZ mre mth mxs mys mcu mnx mpo mpn mrn mrd mfi mar mfn mfa mnu mst) sz) (wMod ad cI cJ cZ uu.1 mth mxs mys uu.2.1 uu.2.2.1 uu.2.2.2.1 uu.2.2.2.2.1 uu.2.2.2.2.2.1 uu.2.2.2.2.2.2.1 uu.2.2.2.2.2.2.2.1 uu.2.2.2.2.2.2.2.2.1 uu.2.2.2.2.2.2.2.2.2.1 uu.2.2.2.2.2.2.2.2.2.2.1 uu.2.2.2.2.2.2.2.2.2.2.2 mst)) (va_A (wMod ad cI cJ cZ mre mth mxs mys mcu mnx mpo mpn mrn mrd mfi mar mfn mfa mnu mst) sz)) 0 0 (va_A (wMod ad cI cJ cZ mre mth mxs mys mcu mnx mpo mpn mrn mrd mfi mar mfn mfa mnu mst) sz) := by
  unfold wp_X4_area at hw
  refine Met.ofW (cc := cX4_area) (maxL := 5) (ret := (some .int)) (by decide) rfl ?_
  intro p e s m args below meth c s₁ B hml hv
  obtain ⟨hav, hsz, hP, hK, hD0⟩ := hv
  have hx := B.exec
  have hb := B.bytes
  have hr := B.returns
  have hts := atoms_spec (ws := wsX4_area) B.pre
  have hown : s.vm.findClass RX4 = some m.cls := findClass_of_methodNamed B.named
  have hlocks := B.notSynchronized
  have C : CallFix p m c cX4_area 5 s args wsX4_area RX4 := ⟨hx, hb, hml, hown, hts⟩
  obtain ⟨ls, hE, hl⟩ := mx_entry (m := m) [.ref (ad 0), .int v1] (n := 5) (Nat.le_of_ble_eq_true rfl)
  have hl : lv_has ls 5 [(0, .ref (ad 0)), (1, .int v1)] := hl
  rw [show entryFrame m args 5 = F0 m 0 ls [] by rw [hav]; exact hE]
  subst hsz
  have hD := hD0.self (sz := s.heap.size)
  generalize hAe : va_A (wMod ad cI cJ cZ mre mth mxs mys mcu mnx mpo mpn mrn mrd mfi mar mfn mfa mnu mst) s.heap.size = A at hD ⊢
  have hA : ∀ q : Nat, s.heap.size ≤ q → A q := fun q h => by rw [← hAe]; exact Or.inr h
  have hS : va_S A s.heap s.heap [] := va_S.rf
  obtain ⟨Q, hQ⟩ : ∃ Q, MQ below (va_Qi (fun (r : Int32) (uu : Int32 × Int32 × (Nat → Int32) × (Nat → Int32) × Int32 × Int32 × (Nat → Int32) × (Nat → Int32) × (Nat → Int64) × Int32 × (Nat → Int32) × (Nat → Int32)) => post r uu.1 uu.2.1 uu.2.2.1 uu.2.2.2.1 uu.2.2.2.2.1 uu.2.2.2.2.2.1 uu.2.2.2.2.2.2.1 uu.2.2.2.2.2.2.2.1 uu.2.2.2.2.2.2.2.2.1 uu.2.2.2.2.2.2.2.2.2.1 uu.2.2.2.2.2.2.2.2.2.2.1 uu.2.2.2.2.2.2.2.2.2.2.2) (fun (uu : Int32 × Int32 × (Nat → Int32) × (Nat → Int32) × Int32 × Int32 × (Nat → Int32) × (Nat → Int32) × (Nat → Int64) × Int32 × (Nat → Int32) × (Nat → Int32)) (t : State) => va_P (dC, dI) vwCl (wMod ad cI cJ cZ uu.1 mth mxs mys uu.2.1 uu.2.2.1 uu.2.2.2.1 uu.2.2.2.2.1 uu.2.2.2.2.2.1 uu.2.2.2.2.2.2.1 uu.2.2.2.2.2.2.2.1 uu.2.2.2.2.2.2.2.2.1 uu.2.2.2.2.2.2.2.2.2.1 uu.2.2.2.2.2.2.2.2.2.2.1 uu.2.2.2.2.2.2.2.2.2.2.2 mst) t.heap ∧ va_D A (wMod ad cI cJ cZ uu.1 mth mxs mys uu.2.1 uu.2.2.1 uu.2.2.2.1 uu.2.2.2.2.1 uu.2.2.2.2.2.1 uu.2.2.2.2.2.2.1 uu.2.2.2.2.2.2.2.1 uu.2.2.2.2.2.2.2.2.1 uu.2.2.2.2.2.2.2.2.2.1 uu.2.2.2.2.2.2.2.2.2.2.1 uu.2.2.2.2.2.2.2.2.2.2.2 mst)) A) args s 0 0 A = Q := ⟨_, rfl⟩
  rw [hQ]
  obtain ⟨H, hH⟩ : ∃ H, s.heap = H := ⟨_, rfl⟩
  have hS : va_S A s.heap H [] := by rw [← hH]; exact hS
  rw [hH] at hP
  show W p l e rm_X4_area s m args below meth c s.heap [] 0 0 Q (F0 m 0 ls [])
  suffices hg : W p l e rm_X4_area s m args below meth c H [] 0 0 Q (F0 m 0 ls []) by rw [hH]; exact hg
  clear hH
  generalize hlo : ([] : List Loc) = locs at hS ⊢
  refine lv_aload_n hx hb dX4_area_0 rfl (lv_at hl 0 rfl) ?_
  refine lv_aload_n hx hb dX4_area_1 rfl (lv_at hl 0 rfl) ?_
  refine lv_iload_n hx hb dX4_area_2 rfl (lv_at hl 1 rfl) ?_
  have hPc := hP.sub (ws' := (wMod ad cI cJ cZ mre mth mxs mys mcu mnx mpo mpn mrn mrd mfi mar mfn mfa mnu mst)) [0, 1, 2, 3, 4, 5, 6, 7, 8, 9, 10, 11] rfl
  have hDc := hD.sub (ws' := (wMod ad cI cJ cZ mre mth mxs mys mcu mnx mpo mpn mrn mrd mfi mar mfn mfa mnu mst)) [0, 1, 2, 3, 4, 5, 6, 7, 8, 9, 10, 11] (by decide) rfl
  have hFc := va_free (wc := (wMod ad cI cJ cZ mre mth mxs mys mcu mnx mpo mpn mrn mrd mfi mar mfn mfa mnu mst)) hD hS hA [0, 1, 2, 3, 4, 5, 6, 7, 8, 9, 10, 11] rfl
  refine va_calli (va_runV (As := [.int v1]) (rest := [.ref (ad 0)]) C (c_X4_isFace l dC dI cI cJ cZ ad _ mre mth mxs mys mcu mnx mpo mpn mrn mrd mfi mar mfn mfa mnu mst v1 hw) (cwV 1 hts gX4_area_X4_isFace rfl rfl rfl (by decide +kernel) ⟨Nat.le_of_ble_eq_true rfl, Nat.le_of_ble_eq_true rfl⟩) ⟨fb_rw, va_recv hK hPc (ci := 4) (q0 := 0) rfl rfl, fun U hU hW => ⟨rfl, by rw [hU], by rw [hU]; exact hPc, va_K.moved hW.alike hK, hDc.weaken (fun _ _ _ _ => trivial)⟩⟩ rfl rfl hl.1 rfl (lv_room (Nat.le_of_ble_eq_true rfl)) dX4_area_3 ⟨Nat.zero_le _, Nat.zero_le _⟩) hS (fun q _ h => hFc q h) hFc (fun r1 uu t H1 locs ht hvm hw hB hz1 hk1 hS => ?_)
  obtain ⟨mcu_2, mnx_3, mpo_4, mpn_5, mrn_6, mrd_7, mfi_8, mar_9, mfn_10, mfa_11, mnu_12⟩ := uu
  obtain ⟨hP1, hD1⟩ := hB
  rw [ht] at hP1
  try dsimp only at hw hP1 hD1
  obtain ⟨hP, hD⟩ := va_join (wr := []) (w1 := (wMod ad cI cJ cZ mre mth mxs mys mcu_2 mnx_3 mpo_4 mpn_5 mrn_6 mrd_7 mfi_8 mar_9 mfn_10 mfa_11 mnu_12 mst)) hP hD [0, 1, 2, 3, 4, 5, 6, 7, 8, 9, 10, 11] [] rfl rfl (by decide) (by decide) hk1 hFc hP1 hD1
  generalize H1 = H at hP hS ⊢
  have hP : va_P (dC, dI) vwCl (wMod ad cI cJ cZ mre mth mxs mys mcu_2 mnx_3 mpo_4 mpn_5 mrn_6 mrd_7 mfi_8 mar_9 mfn_10 mfa_11 mnu_12 mst) H := hP
  have hD : va_D A (wMod ad cI cJ cZ mre mth mxs mys mcu_2 mnx_3 mpo_4 mpn_5 mrn_6 mrd_7 mfi_8 mar_9 mfn_10 mfa_11 mnu_12 mst) := hD
  refine jn1_use (J := fun (k13 : Int32) => ∀ (ls : Array Slot) (H : Heap) (locs : List Loc), lv_has ls 5 [(0, .ref (ad 0)), (1, .int v1)] → va_P (dC, dI) vwCl (wMod ad cI cJ cZ mre mth mxs mys mcu_2 mnx_3 mpo_4 mpn_5 mrn_6 mrd_7 mfi_8 mar_9 mfn_10 mfa_11 mnu_12 mst) H → va_D A (wMod ad cI cJ cZ mre mth mxs mys mcu_2 mnx_3 mpo_4 mpn_5 mrn_6 mrd_7 mfi_8 mar_9 mfn_10 mfa_11 mnu_12 mst) → va_S A s.heap H locs → W p l e rm_X4_area s m args below meth c H locs 0 0 Q (F0 m 14 ls [.int k13, .ref (ad 0)])) hw (fun k13 hw ls H locs hl hP hD hS => ?_) (fun hw hj0 => ?_)
  · have hPc := hP.sub (ws' := (wMod ad cI cJ cZ mre mth mxs mys mcu_2 mnx_3 mpo_4 mpn_5 mrn_6 mrd_7 mfi_8 mar_9 mfn_10 mfa_11 mnu_12 mst)) [0, 1, 2, 3, 4, 5, 6, 7, 8, 9, 10, 11] rfl
    have hDc := hD.sub (ws' := (wMod ad cI cJ cZ mre mth mxs mys mcu_2 mnx_3 mpo_4 mpn_5 mrn_6 mrd_7 mfi_8 mar_9 mfn_10 mfa_11 mnu_12 mst)) [0, 1, 2, 3, 4, 5, 6, 7, 8, 9, 10, 11] (by decide) rfl
    have hFc := va_free (wc := (wMod ad cI cJ cZ mre mth mxs mys mcu_2 mnx_3 mpo_4 mpn_5 mrn_6 mrd_7 mfi_8 mar_9 mfn_10 mfa_11 mnu_12 mst)) hD hS hA [0, 1, 2, 3, 4, 5, 6, 7, 8, 9, 10, 11] rfl
    refine va_calli (va_runV (As := [.int k13]) (rest := []) C (c_X4_refused l dC dI cI cJ cZ ad _ mre mth mxs mys mcu_2 mnx_3 mpo_4 mpn_5 mrn_6 mrd_7 mfi_8 mar_9 mfn_10 mfa_11 mnu_12 mst k13 hw) (cwV 1 hts gX4_area_X4_refused rfl rfl rfl (by decide +kernel) ⟨Nat.le_of_ble_eq_true rfl, Nat.le_of_ble_eq_true rfl⟩) ⟨fb_rw, va_recv hK hPc (ci := 4) (q0 := 0) rfl rfl, fun U hU hW => ⟨rfl, by rw [hU], by rw [hU]; exact hPc, va_K.moved hW.alike hK, hDc.weaken (fun _ _ _ _ => trivial)⟩⟩ rfl rfl hl.1 rfl (lv_room (Nat.le_of_ble_eq_true rfl)) dX4_area_14 ⟨Nat.zero_le _, Nat.zero_le _⟩) hS (fun q _ h => hFc q h) hFc (fun r16 uu t H1 locs ht hvm hw hB hz1 hk1 hS => ?_)
    obtain ⟨mre_17, rfl⟩ : ∃ z, z = uu := ⟨_, rfl⟩
    obtain ⟨hP1, hD1⟩ := hB
    rw [ht] at hP1
    try dsimp only at hw hP1 hD1
    obtain ⟨hP, hD⟩ := va_join (wr := []) (w1 := (wMod ad cI cJ cZ mre_17 mth mxs mys mcu_2 mnx_3 mpo_4 mpn_5 mrn_6 mrd_7 mfi_8 mar_9 mfn_10 mfa_11 mnu_12 mst)) hP hD [0, 1, 2, 3, 4, 5, 6, 7, 8, 9, 10, 11] [] rfl rfl (by decide) (by decide) hk1 hFc hP1 hD1
    generalize H1 = H at hP hS ⊢
    have hP : va_P (dC, dI) vwCl (wMod ad cI cJ cZ mre_17 mth mxs mys mcu_2 mnx_3 mpo_4 mpn_5 mrn_6 mrd_7 mfi_8 mar_9 mfn_10 mfa_11 mnu_12 mst) H := hP
    have hD : va_D A (wMod ad cI cJ cZ mre_17 mth mxs mys mcu_2 mnx_3 mpo_4 mpn_5 mrn_6 mrd_7 mfi_8 mar_9 mfn_10 mfa_11 mnu_12 mst) := hD
    refine lv_if_eq (tgt := 22) hx hb dX4_area_17 (by decide) (fun hc => ?_) (fun hc => ?_)
    · have hw := hw.1 (hc)
      refine lv_lconst (v := 0) hx hb dX4_area_22 (by decide) ?_
      refine lv_lstore_n (lv' := [(2, .long (0 : Int64)), (0, .ref (ad 0)), (1, .int v1)]) hx hb dX4_area_23 rfl hl (by decide) rfl (fun ls hl => ?_)
      refine lv_iconst (v := 0) hx hb dX4_area_24 (by decide) ?_
      refine lv_istore (lv' := [(4, .int (0 : Int32)), (2, .long (0 : Int64)), (0, .ref (ad 0)), (1, .int v1)]) hx hb dX4_area_25 hl (by decide) rfl (fun ls hl => ?_)
      obtain ⟨n22, hw⟩ := hw
      refine l_X4_area_27 C hK hA (fun w21 ls H locs hl hP hD hS hw => ?_) n22 (0 : Int64) (0 : Int32) ls _ _ (lv_sub hl [2, 3, 1, 0] rfl) hP hD hS hw
      refine lv_lload_n hx hb dX4_area_71 rfl (lv_at hl 1 rfl) ?_
      refine lv_l2i hx hb dX4_area_72 rfl ?_
      rw [← hQ]
      exact W.iret (v := w21.toInt32) hx hb hr (fun t ht hW => ⟨⟨_, (mre_17, mcu_2, mnx_3, mpo_4, mpn_5, mrn_6, mrd_7, mfi_8, mar_9, mfn_10, mfa_11, mnu_12), rfl, hw, by rw [ht]; exact hP, hD⟩, hS.F ht⟩) hS.2.2 dX4_area_73
    · have hw := hw.2 hc
      refine lv_iconst (v := 0) hx hb dX4_area_20 (by decide) ?_
      rw [← hQ]
      exact W.iret (v := (0 : Int32)) hx hb hr (fun t ht hW => ⟨⟨_, (mre_17, mcu_2, mnx_3, mpo_4, mpn_5, mrn_6, mrd_7, mfi_8, mar_9, mfn_10, mfa_11, mnu_12), rfl, hw, by rw [ht]; exact hP, hD⟩, hS.F ht⟩) hS.2.2 dX4_area_21
  · have hj15 := hj0
    refine lv_if_eq (tgt := 13) hx hb dX4_area_6 (by decide) (fun hc => ?_) (fun hc => ?_)
    · have hw := hw.1 (hc)
      refine lv_iconst (v := 1) hx hb dX4_area_13 (by decide) ?_
      exact hj15 (1 : Int32) hw ls _ _ (lv_sub hl [0, 1] rfl) hP hD hS
    · have hw := hw.2 hc
      refine lv_iconst (v := 0) hx hb dX4_area_9 (by decide) ?_
      refine lv_goto (tgt := 14) hx hb dX4_area_10 (by decide) ?_
      exact hj15 (0 : Int32) hw ls _ _ (lv_sub hl [0, 1] rfl) hP hD hS
-- X4_border
abbrev rm_X4_border : Room := { frames := 7, cells := 0, slots := 0, locals := 165 }
theorem f_X4_border_0 : (Cond.fieldLink RX4 95 "PlaneFacesModel" "rounds" "I") ∈ wsX4_border := by decide +kernel
theorem f_X4_border_1 : ∀ w ∈ wsX40, w ∈ wsX4_border := by decide +kernel
theorem f_X4_border_2 : (Cond.fieldLink RX4 36 "PlaneFacesModel" "faceOf" "[I") ∈ wsX4_border := by decide +kernel
theorem f_X4_border_3 : (Cond.fieldLink RX4 32 "PlaneFacesModel" "areas" "[J") ∈ wsX4_border := by decide +kernel
theorem f_X4_border_4 : (Cond.fieldLink RX4 7 "PlaneFacesModel" "isThere" "[Z") ∈ wsX4_border := by decide +kernel
set_option maxRecDepth 100000 in
set_option maxHeartbeats 4000000 in
theorem l_X4_border_30 {p : Program} {l : Launch} {e : Env} {s : State} {m : MethodId} {args : Array Value} {below : List Frame} {meth : Method} {c : Code} {Q : State → Prop} {dC : Nat → ClassId} {dI : Nat → Nat → Nat} {cI cJ cZ : ClassId} {ad : Nat → Nat} {mre : Int32} {mth : Nat → Int32} {mxs : Nat → Int32} {mys : Nat → Int32} {mcu : Int32} {mnx : Nat → Int32} {mpo : Nat → Int32} {mpn : Int32} {mrn : Int32} {mrd : Nat → Int32} {mfi : Nat → Int32} {mar : Nat → Int64} {mfn : Int32} {mfa : Nat → Int32} {mnu : Nat → Int32} {mst : Nat → Int32} {v1 : Int32} {v2 : Int32} {v4 : Int32} {K85 : Int32 → Prop} (C : CallFix p m c cX4_border 6 s args wsX4_border RX4) (hK : va_K (dC, dI) vwCl (tyL cI cJ cZ) s) {A : Nat → Prop} (hA : ∀ q : Nat, s.heap.size ≤ q → A q) (hk85 : ∀ (w3 : Int32) (ls : Array Slot) (H : Heap) (locs : List Loc), lv_has ls 6 [(0, .ref (ad 0)), (1, .int v1), (2, .int v2), (3, .int w3), (4, .int v4)] → va_P (dC, dI) vwCl (wMod ad cI cJ cZ mre mth mxs mys mcu mnx mpo mpn mrn mrd mfi mar mfn mfa mnu mst) H → va_D A (wMod ad cI cJ cZ mre mth mxs mys mcu mnx mpo mpn mrn mrd mfi mar mfn mfa mnu mst) → va_S A s.heap H locs → K85 w3 → W p l e rm_X4_border s m args below meth c H locs 0 0 Q (F0 m 85 ls [])) : ∀ (n : Nat) (v3 : Int32) (v5 : Int32) (ls : Array Slot) (H : Heap) (locs : List Loc), lv_has ls 6 [(0, .ref (ad 0)), (1, .int v1), (2, .int v2), (3, .int v3), (4, .int v4), (5, .int v5)] → va_P (dC, dI) vwCl (wMod ad cI cJ cZ mre mth mxs mys mcu mnx mpo mpn mrn mrd mfi mar mfn mfa mnu mst) H → va_D A (wMod ad cI cJ cZ mre mth mxs mys mcu mnx mpo mpn mrn mrd mfi mar mfn mfa mnu mst) → va_S A s.heap H locs → lp_X4_border_30 mre mth mxs mys mcu mnx mpo mpn mrn mrd mfi mar mfn mfa mnu v1 v2 v4 K85 n v3 v5 → W p l e rm_X4_border s m args below meth c H locs 0 0 Q (F0 m 30 ls []) := by
  obtain ⟨hx, hb, hml, hown, hts⟩ := id C
  intro n
  induction n with
  | zero =>
    intro v3 v5 ls H locs hl hP hD hS hw
    rw [lp_X4_border_30.eq_1] at hw
    exact hw.elim
  | succ n ih =>
    intro v3 v5 ls H locs hl hP hD hS hw
    rw [lp_X4_border_30.eq_2] at hw
    refine lv_iload hx hb dX4_border_30 (lv_at hl 5 rfl) ?_
    refine lv_aload_n hx hb dX4_border_32 rfl (lv_at hl 0 rfl) ?_
    refine va_get (D := (dC, dI)) (ci := 4) (v := .int mrn) (C := RX4) (T := TX4) (N := 16) hx hb hts f_X4_border_1 hown hK hP 0 rfl rfl 8 (by decide) (hts _ f_X4_border_0) (fun _ h9 => h9) rfl dX4_border_33 ?_
    refine lv_icmp_ge (tgt := 85) hx hb dX4_border_36 (by decide) (fun hc => ?_) (fun hc => ?_)
    · have hw := hw.1 (hc)
      exact hk85 v3 ls _ _ (lv_sub hl [0, 1, 2, 3, 4] rfl) hP hD hS hw
    · have hw := hw.2 hc
      refine lv_aload_n hx hb dX4_border_39 rfl (lv_at hl 0 rfl) ?_
      refine va_get (D := (dC, dI)) (ci := 4) (v := .ref (ad 9)) (C := RX4) (T := TX4) (N := 16) hx hb hts f_X4_border_1 hown hK hP 0 rfl rfl 13 (by decide) (hts _ f_X4_border_2) (fun _ h9 => h9) rfl dX4_border_40 ?_
      refine lv_iload hx hb dX4_border_43 (lv_at hl 5 rfl) ?_
      have hi := hw.1
      have hw := hw.2
      refine va_iald hx hb hK hP 9 0 rfl rfl hi dX4_border_45 ?_
      refine lv_iload_n hx hb dX4_border_46 rfl (lv_at hl 1 rfl) ?_
      refine jn1_use (J := fun (k18 : Int32) => ∀ (ls : Array Slot) (H : Heap) (locs : List Loc), lv_has ls 6 [(0, .ref (ad 0)), (1, .int v1), (2, .int v2), (4, .int v4), (5, .int v5)] → va_P (dC, dI) vwCl (wMod ad cI cJ cZ mre mth mxs mys mcu mnx mpo mpn mrn mrd mfi mar mfn mfa mnu mst) H → va_D A (wMod ad cI cJ cZ mre mth mxs mys mcu mnx mpo mpn mrn mrd mfi mar mfn mfa mnu mst) → va_S A s.heap H locs → W p l e rm_X4_border s m args below meth c H locs 0 0 Q (F0 m 78 ls [.int k18])) hw (fun k18 hw ls H locs hl hP hD hS => ?_) (fun hw hj0 => ?_)
      · refine lv_istore_n (lv' := [(3, .int k18), (0, .ref (ad 0)), (1, .int v1), (2, .int v2), (4, .int v4), (5, .int v5)]) hx hb dX4_border_78 rfl hl (by decide) rfl (fun ls hl => ?_)
        refine lv_iinc (v := (v5 + (1 : Int32))) (lv' := [(5, .int (v5 + (1 : Int32))), (3, .int k18), (0, .ref (ad 0)), (1, .int v1), (2, .int v2), (4, .int v4)]) hx hb dX4_border_79 hl (k := 5) rfl rfl (by decide) rfl (fun ls hl => ?_)
        refine lv_goto (tgt := 30) hx hb dX4_border_82 (by decide) ?_
        exact ih k18 (v5 + (1 : Int32)) ls _ _ (lv_sub hl [2, 3, 4, 1, 5, 0] rfl) hP hD hS hw
      · have hj20 := hj0
        refine jn0_use (J := ∀ (ls : Array Slot) (H : Heap) (locs : List Loc), lv_has ls 6 [(0, .ref (ad 0)), (1, .int v1), (2, .int v2), (3, .int v3), (4, .int v4), (5, .int v5)] → va_P (dC, dI) vwCl (wMod ad cI cJ cZ mre mth mxs mys mcu mnx mpo mpn mrn mrd mfi mar mfn mfa mnu mst) H → va_D A (wMod ad cI cJ cZ mre mth mxs mys mcu mnx mpo mpn mrn mrd mfi mar mfn mfa mnu mst) → va_S A s.heap H locs → W p l e rm_X4_border s m args below meth c H locs 0 0 Q (F0 m 77 ls [])) hw (fun hw ls H locs hl hP hD hS => ?_) (fun hw hj0 => ?_)
        · refine lv_iload_n hx hb dX4_border_77 rfl (lv_at hl 3 rfl) ?_
          exact hj20 v3 hw ls _ _ (lv_sub hl [0, 1, 2, 4, 5] rfl) hP hD hS
        · have hj22 := hj0
          refine lv_icmp_ne (tgt := 77) hx hb dX4_border_47 (by decide) (fun hc => ?_) (fun hc => ?_)
          · have hw := hw.2 hc
            exact hj22 hw ls _ _ (lv_sub hl [0, 1, 2, 3, 4, 5] rfl) hP hD hS
          · have hw := hw.1 (hc)
            refine lv_iload_n hx hb dX4_border_50 rfl (lv_at hl 2 rfl) ?_
            refine jn0_use (J := ∀ (ls : Array Slot) (H : Heap) (locs : List Loc), lv_has ls 6 [(0, .ref (ad 0)), (1, .int v1), (2, .int v2), (3, .int v3), (4, .int v4), (5, .int v5)] → va_P (dC, dI) vwCl (wMod ad cI cJ cZ mre mth mxs mys mcu mnx mpo mpn mrn mrd mfi mar mfn mfa mnu mst) H → va_D A (wMod ad cI cJ cZ mre mth mxs mys mcu mnx mpo mpn mrn mrd mfi mar mfn mfa mnu mst) → va_S A s.heap H locs → W p l e rm_X4_border s m args below meth c H locs 0 0 Q (F0 m 71 ls [])) hw (fun hw ls H locs hl hP hD hS => ?_) (fun hw hj0 => ?_)
            · refine lv_iload_n hx hb dX4_border_71 rfl (lv_at hl 3 rfl) ?_
              refine lv_iconst (v := 1) hx hb dX4_border_72 (by decide) ?_
              refine lv_iadd hx hb dX4_border_73 ?_
              refine lv_goto (tgt := 78) hx hb dX4_border_74 (by decide) ?_
              exact hj20 (v3 + (1 : Int32)) hw ls _ _ (lv_sub hl [0, 1, 2, 4, 5] rfl) hP hD hS
            · have hj24 := hj0
              refine lv_if_eq (tgt := 71) hx hb dX4_border_51 (by decide) (fun hc => ?_) (fun hc => ?_)
              · have hw := hw.1 (hc)
                exact hj24 hw ls _ _ (lv_sub hl [0, 1, 2, 3, 4, 5] rfl) hP hD hS
              · have hw := hw.2 hc
                refine lv_iload_n hx hb dX4_border_54 rfl (lv_at hl 2 rfl) ?_
                refine lv_iconst (v := 3) hx hb dX4_border_55 (by decide) ?_
                refine lv_icmp_ne (tgt := 77) hx hb dX4_border_56 (by decide) (fun hc => ?_) (fun hc => ?_)
                · have hw := hw.2 hc
                  exact hj22 hw ls _ _ (lv_sub hl [0, 1, 2, 3, 4, 5] rfl) hP hD hS
                · have hw := hw.1 (hc)
                  refine lv_aload_n hx hb dX4_border_59 rfl (lv_at hl 0 rfl) ?_
                  refine va_get (D := (dC, dI)) (ci := 4) (v := .ref (ad 8)) (C := RX4) (T := TX4) (N := 16) hx hb hts f_X4_border_1 hown hK hP 0 rfl rfl 11 (by decide) (hts _ f_X4_border_3) (fun _ h9 => h9) rfl dX4_border_60 ?_
                  refine lv_iload hx hb dX4_border_63 (lv_at hl 5 rfl) ?_
                  have hi := hw.1
                  have hw := hw.2
                  refine va_lald hx hb hK hP 8 1 rfl rfl hi dX4_border_65 ?_
                  refine lv_lconst (v := 0) hx hb dX4_border_66 (by decide) ?_
                  refine W.lcmp hx hb dX4_border_67 ?_
                  refine lv_if_gt (tgt := 77) hx hb dX4_border_68 (by decide) (fun hc => ?_) (fun hc => ?_)
                  · have hw := hw.1 ((lg_cmp_gt _ _).mp hc)
                    exact hj22 hw ls _ _ (lv_sub hl [0, 1, 2, 3, 4, 5] rfl) hP hD hS
                  · have hw := hw.2 (fun h9 => hc ((lg_cmp_gt _ _).mpr h9))
                    exact hj24 hw ls _ _ (lv_sub hl [0, 1, 2, 3, 4, 5] rfl) hP hD hS
set_option maxRecDepth 100000 in
set_option maxHeartbeats 4000000 in
theorem l_X4_border_89 {p : Program} {l : Launch} {e : Env} {s : State} {m : MethodId} {args : Array Value} {below : List Frame} {meth : Method} {c : Code} {Q : State → Prop} {dC : Nat → ClassId} {dI : Nat → Nat → Nat} {cI cJ cZ : ClassId} {ad : Nat → Nat} {mre : Int32} {mth : Nat → Int32} {mxs : Nat → Int32} {mys : Nat → Int32} {mcu : Int32} {mnx : Nat → Int32} {mpo : Nat → Int32} {mpn : Int32} {mrn : Int32} {mrd : Nat → Int32} {mfi : Nat → Int32} {mar : Nat → Int64} {mfn : Int32} {mfa : Nat → Int32} {mnu : Nat → Int32} {mst : Nat → Int32} {v1 : Int32} {v2 : Int32} {K139 : Int32 → Int32 → Prop} (C : CallFix p m c cX4_border 6 s args wsX4_border RX4) (hK : va_K (dC, dI) vwCl (tyL cI cJ cZ) s) {A : Nat → Prop} (hA : ∀ q : Nat, s.heap.size ≤ q → A q) (hk139 : ∀ (w3 : Int32) (w4 : Int32) (ls : Array Slot) (H : Heap) (locs : List Loc), lv_has ls 6 [(0, .ref (ad 0)), (2, .int v2), (3, .int w3), (4, .int w4)] → va_P (dC, dI) vwCl (wMod ad cI cJ cZ mre mth mxs mys mcu mnx mpo mpn mrn mrd mfi mar mfn mfa mnu mst) H → va_D A (wMod ad cI cJ cZ mre mth mxs mys mcu mnx mpo mpn mrn mrd mfi mar mfn mfa mnu mst) → va_S A s.heap H locs → K139 w3 w4 → W p l e rm_X4_border s m args below meth c H locs 0 0 Q (F0 m 139 ls [])) : ∀ (n : Nat) (v3 : Int32) (v4 : Int32) (v5 : Int32) (ls : Array Slot) (H : Heap) (locs : List Loc), lv_has ls 6 [(0, .ref (ad 0)), (1, .int v1), (2, .int v2), (3, .int v3), (4, .int v4), (5, .int v5)] → va_P (dC, dI) vwCl (wMod ad cI cJ cZ mre mth mxs mys mcu mnx mpo mpn mrn mrd mfi mar mfn mfa mnu mst) H → va_D A (wMod ad cI cJ cZ mre mth mxs mys mcu mnx mpo mpn mrn mrd mfi mar mfn mfa mnu mst) → va_S A s.heap H locs → lp_X4_border_89 mre mth mxs mys mcu mnx mpo mpn mrn mrd mfi mar mfn mfa mnu v1 v2 K139 n v3 v4 v5 → W p l e rm_X4_border s m args below meth c H locs 0 0 Q (F0 m 89 ls []) := by
  obtain ⟨hx, hb, hml, hown, hts⟩ := id C
  intro n
  induction n with
  | zero =>
    intro v3 v4 v5 ls H locs hl hP hD hS hw
    rw [lp_X4_border_89.eq_1] at hw
    exact hw.elim
  | succ n ih =>
    intro v3 v4 v5 ls H locs hl hP hD hS hw
    rw [lp_X4_border_89.eq_2] at hw
    refine lv_iload hx hb dX4_border_89 (lv_at hl 5 rfl) ?_
    refine lv_if_lt (tgt := 139) hx hb dX4_border_91 (by decide) (fun hc => ?_) (fun hc => ?_)
    · have hw := hw.1 (hc)
      exact hk139 v3 v4 ls _ _ (lv_sub hl [0, 2, 3, 4] rfl) hP hD hS hw
    · have hw := hw.2 hc
      refine lv_aload_n hx hb dX4_border_94 rfl (lv_at hl 0 rfl) ?_
      refine va_get (D := (dC, dI)) (ci := 4) (v := .ref (ad 1)) (C := RX4) (T := TX4) (N := 16) hx hb hts f_X4_border_1 hown hK hP 0 rfl rfl 1 (by decide) (hts _ f_X4_border_4) (fun _ h9 => h9) rfl dX4_border_95 ?_
      refine lv_iload hx hb dX4_border_98 (lv_at hl 5 rfl) ?_
      refine lv_iconst (v := 2) hx hb dX4_border_100 (by decide) ?_
      refine lv_idiv hx hb dX4_border_101 (by decide) ?_
      have hi := hw.1
      have hw := hw.2
      refine va_zald hx hb hK hP 1 2 rfl rfl hi dX4_border_102 ?_
      refine jn2_use (J := fun (j26 : Int32) (j27 : Int32) => ∀ (ls : Array Slot) (H : Heap) (locs : List Loc), lv_has ls 6 [(0, .ref (ad 0)), (1, .int v1), (2, .int v2), (3, .int j26), (4, .int j27), (5, .int v5)] → va_P (dC, dI) vwCl (wMod ad cI cJ cZ mre mth mxs mys mcu mnx mpo mpn mrn mrd mfi mar mfn mfa mnu mst) H → va_D A (wMod ad cI cJ cZ mre mth mxs mys mcu mnx mpo mpn mrn mrd mfi mar mfn mfa mnu mst) → va_S A s.heap H locs → W p l e rm_X4_border s m args below meth c H locs 0 0 Q (F0 m 133 ls [])) hw (fun j26 j27 hw ls H locs hl hP hD hS => ?_) (fun hw hj0 => ?_)
      · refine lv_iinc (v := (v5 + (-1 : Int32))) (lv' := [(5, .int (v5 + (-1 : Int32))), (0, .ref (ad 0)), (1, .int v1), (2, .int v2), (3, .int j26), (4, .int j27)]) hx hb dX4_border_133 hl (k := 5) rfl rfl (by decide) rfl (fun ls hl => ?_)
        refine lv_goto (tgt := 89) hx hb dX4_border_136 (by decide) ?_
        exact ih j26 j27 (v5 + (-1 : Int32)) ls _ _ (lv_sub hl [1, 2, 3, 4, 5, 0] rfl) hP hD hS hw
      · have hj29 := hj0
        refine lv_if_eq (tgt := 133) hx hb dX4_border_103 (by decide) (fun hc => ?_) (fun hc => ?_)
        · have hw := hw.1 (hc)
          exact hj29 v3 v4 hw ls _ _ (lv_sub hl [0, 1, 2, 3, 4, 5] rfl) hP hD hS
        · have hw := hw.2 hc
          refine lv_aload_n hx hb dX4_border_106 rfl (lv_at hl 0 rfl) ?_
          refine lv_iload hx hb dX4_border_107 (lv_at hl 5 rfl) ?_
          refine vp_callSi (W.runV (As := [.int v5]) (rest := []) C (c_X4_left l dC dI cI cJ cZ ad mre mth mxs mys mcu mnx mpo mpn mrn mrd mfi mar mfn mfa mnu mst v5 hw) (cwV 1 hts gX4_border_X4_left rfl rfl rfl (by decide +kernel) ⟨Nat.le_of_ble_eq_true rfl, Nat.le_of_ble_eq_true rfl⟩) ⟨fb_ro, va_recv hK hP (ci := 4) (q0 := 0) rfl rfl, fun U hU hW => ⟨rfl, by rw [hU]; exact hP, va_K.moved hW.alike hK⟩⟩ rfl rfl hl.1 rfl (lv_room (Nat.le_of_ble_eq_true rfl)) dX4_border_109 ⟨Nat.zero_le _, Nat.zero_le _⟩) (fun r30 hw => ?_)
          refine lv_iload_n hx hb dX4_border_112 rfl (lv_at hl 1 rfl) ?_
          refine lv_icmp_ne (tgt := 133) hx hb dX4_border_113 (by decide) (fun hc => ?_) (fun hc => ?_)
          · have hw := hw.2 hc
            exact hj29 v3 v4 hw ls _ _ (lv_sub hl [0, 1, 2, 3, 4, 5] rfl) hP hD hS
          · have hw := hw.1 (hc)
            refine lv_iload_n hx hb dX4_border_116 rfl (lv_at hl 2 rfl) ?_
            refine lv_iconst (v := 1) hx hb dX4_border_117 (by decide) ?_
            refine jn1_use (J := fun (k31 : Int32) => ∀ (ls : Array Slot) (H : Heap) (locs : List Loc), lv_has ls 6 [(0, .ref (ad 0)), (1, .int v1), (2, .int v2), (5, .int v5)] → va_P (dC, dI) vwCl (wMod ad cI cJ cZ mre mth mxs mys mcu mnx mpo mpn mrn mrd mfi mar mfn mfa mnu mst) H → va_D A (wMod ad cI cJ cZ mre mth mxs mys mcu mnx mpo mpn mrn mrd mfi mar mfn mfa mnu mst) → va_S A s.heap H locs → W p l e rm_X4_border s m args below meth c H locs 0 0 Q (F0 m 128 ls [.int k31])) hw (fun k31 hw ls H locs hl hP hD hS => ?_) (fun hw hj0 => ?_)
            · refine lv_istore_n (lv' := [(3, .int k31), (0, .ref (ad 0)), (1, .int v1), (2, .int v2), (5, .int v5)]) hx hb dX4_border_128 rfl hl (by decide) rfl (fun ls hl => ?_)
              refine lv_iload hx hb dX4_border_129 (lv_at hl 4 rfl) ?_
              refine lv_istore (lv' := [(4, .int v5), (3, .int k31), (0, .ref (ad 0)), (1, .int v1), (2, .int v2), (5, .int v5)]) hx hb dX4_border_131 hl (by decide) rfl (fun ls hl => ?_)
              exact hj29 k31 v5 hw ls _ _ (lv_sub hl [2, 3, 4, 1, 0, 5] rfl) hP hD hS
            · have hj33 := hj0
              refine lv_icmp_ne (tgt := 127) hx hb dX4_border_118 (by decide) (fun hc => ?_) (fun hc => ?_)
              · have hw := hw.2 hc
                refine lv_iload_n hx hb dX4_border_127 rfl (lv_at hl 3 rfl) ?_
                exact hj33 v3 hw ls _ _ (lv_sub hl [0, 1, 2, 5] rfl) hP hD hS
              · have hw := hw.1 (hc)
                refine lv_iload_n hx hb dX4_border_121 rfl (lv_at hl 3 rfl) ?_
                refine lv_iconst (v := 1) hx hb dX4_border_122 (by decide) ?_
                refine lv_iadd hx hb dX4_border_123 ?_
                refine lv_goto (tgt := 128) hx hb dX4_border_124 (by decide) ?_
                exact hj33 (v3 + (1 : Int32)) hw ls _ _ (lv_sub hl [0, 1, 2, 5] rfl) hP hD hS
set_option maxRecDepth 100000 in
set_option maxHeartbeats 4000000 in
theorem c_X4_border (l : Launch) (dC : Nat → ClassId) (dI : Nat → Nat → Nat) (cI cJ cZ : ClassId) (ad : Nat → Nat) (sz : Nat) (mre : Int32) (mth : Nat → Int32) (mxs : Nat → Int32) (mys : Nat → Int32) (mcu : Int32) (mnx : Nat → Int32) (mpo : Nat → Int32) (mpn : Int32) (mrn : Int32) (mrd : Nat → Int32) (mfi : Nat → Int32) (mar : Nat → Int64) (mfn : Int32) (mfa : Nat → Int32) (mnu : Nat → Int32) (mst : Nat → Int32) (v1 : Int32) (v2 : Int32) {post : Int32 → Int32 → Int32 → (Nat → Int32) → (Nat → Int32) → Int32 → Int32 → (Nat → Int32) → (Nat → Int32) → (Nat → Int64) → Int32 → (Nat → Int32) → (Nat → Int32) → Prop} (hw : wp_X4_border mre mth mxs mys mcu mnx mpo mpn mrn mrd mfi mar mfn mfa mnu v1 v2 post) : Met l yX4_border wsX4_border rm_X4_border (va_Pc [.ref (ad 0), .int v1, .int v2] (fun U => U.heap.size = sz ∧ va_P (dC, dI) vwCl (wMod ad cI cJ cZ mre mth mxs mys mcu mnx mpo mpn mrn mrd mfi mar mfn mfa mnu mst) U.heap ∧ va_K (dC, dI) vwCl (tyL cI cJ cZ) U ∧ va_D (fun _ => True) (wMod ad cI cJ cZ mre mth mxs mys mcu mnx mpo mpn mrn mrd mfi mar mfn mfa mnu mst))) (va_Qi (fun (r : Int32) (uu : Int32 × Int32 × (Nat → Int32) × (Nat → Int32) × Int32 × Int32 × (Nat → Int32) × (Nat → Int32) × (Nat → Int64) × Int32 × (Nat → Int32) × (Nat → Int32)) => post r uu.1 uu.2.1 uu.2.2.1 uu.2.2.2.1 uu.2.2.2.2.1 uu.2.2.2.2.2.1 uu.2.2.2.2.2.2.1 uu.2.2.2.2.2.2.2.1 uu.2.2.2.2.2.2.2.2.1 uu.2.2.2.2.2.2.2.2.2.1 uu.2.2.2.2.2.2.2.2.2.2.1 uu.2.2.2.2.2.2.2.2.2.2.2) (fun (uu : Int32 × Int32 × (Nat → Int32) × (Nat → Int32) × Int32 × Int32 × (Nat → Int32) × (Nat → Int32) × (Nat → Int64) × Int32 × (Nat → Int32) × (Nat → Int32)) (t : State) => va_P (dC, dI) vwCl (wMod ad cI cJ cZ uu.1 mth mxs mys uu.2.1 uu.2.2.1 uu.2.2.2.1 uu.2.2.2.2.1 uu.2.2.2.2.2.1 uu.2.2.2.2.2.2.1 uu.2.2.2.2.2.2.2.1 uu.2.2.2.2.2.2.2.2.1 uu.2.2.2.2.2.2.2.2.2.1 uu.2.2.2.2.2.2.2.2.2.2.1 uu.2.2.2.2.2.2.2.2.2.2.2 mst) t.heap ∧ va_D (va_A (wMod ad cI cJ cZ mre mth mxs mys mcu mnx mpo mpn mrn mrd mfi mar mfn mfa mnu mst) sz) (wMod ad cI cJ cZ uu.1 mth mxs mys uu.2.1 uu.2.2.1 uu.2.2.2.1 uu.2.2.2.2.1 uu.2.2.2.2.2.1 uu.2.2.2.2.2.2.1 uu.2.2.2.2.2.2.2.1 uu.2.2.2.2.2.2.2.2.1 uu.2.2.2.2.2.2.2.2.2.1 uu.2.2.2.2.2.2.2.2.2.2.1 uu.2.2.2.2.2.2.2.2.2.2.2 mst)) (va_A (wMod ad cI cJ cZ mre mth mxs mys mcu mnx mpo mpn mrn mrd mfi mar mfn mfa mnu mst) sz)) 0 0 (va_A (wMod ad cI cJ cZ mre mth mxs mys mcu mnx mpo mpn mrn mrd mfi mar mfn mfa mnu mst) sz) := by
  unfold wp_X4_border at hw
  refine Met.ofW (cc := cX4_border) (maxL := 6) (ret := (some .int)) (by decide) rfl ?_
  intro p e s m args below meth c s₁ B hml hv
  obtain ⟨hav, hsz, hP, hK, hD0⟩ := hv
  have hx := B.exec
  have hb := B.bytes
  have hr := B.returns
  have hts := atoms_spec (ws := wsX4_border) B.pre
  have hown : s.vm.findClass RX4 = some m.cls := findClass_of_methodNamed B.named
  have hlocks := B.notSynchronized
  have C : CallFix p m c cX4_border 6 s args wsX4_border RX4 := ⟨hx, hb, hml, hown, hts⟩
  obtain ⟨ls, hE, hl⟩ := mx_entry (m := m) [.ref (ad 0), .int v1, .int v2] (n := 6) (Nat.le_of_ble_eq_true rfl)
  have hl : lv_has ls 6 [(0, .ref (ad 0)), (1, .int v1), (2, .int v2)] := hl
  rw [show entryFrame m args 6 = F0 m 0 ls [] by rw [hav]; exact hE]
  subst hsz
  have hD := hD0.self (sz := s.heap.size)
  generalize hAe : va_A (wMod ad cI cJ cZ mre mth mxs mys mcu mnx mpo mpn mrn mrd mfi mar mfn mfa mnu mst) s.heap.size = A at hD ⊢
  have hA : ∀ q : Nat, s.heap.size ≤ q → A q := fun q h => by rw [← hAe]; exact Or.inr h
  have hS : va_S A s.heap s.heap [] := va_S.rf
  obtain ⟨Q, hQ⟩ : ∃ Q, MQ below (va_Qi (fun (r : Int32) (uu : Int32 × Int32 × (Nat → Int32) × (Nat → Int32) × Int32 × Int32 × (Nat → Int32) × (Nat → Int32) × (Nat → Int64) × Int32 × (Nat → Int32) × (Nat → Int32)) => post r uu.1 uu.2.1 uu.2.2.1 uu.2.2.2.1 uu.2.2.2.2.1 uu.2.2.2.2.2.1 uu.2.2.2.2.2.2.1 uu.2.2.2.2.2.2.2.1 uu.2.2.2.2.2.2.2.2.1 uu.2.2.2.2.2.2.2.2.2.1 uu.2.2.2.2.2.2.2.2.2.2.1 uu.2.2.2.2.2.2.2.2.2.2.2) (fun (uu : Int32 × Int32 × (Nat → Int32) × (Nat → Int32) × Int32 × Int32 × (Nat → Int32) × (Nat → Int32) × (Nat → Int64) × Int32 × (Nat → Int32) × (Nat → Int32)) (t : State) => va_P (dC, dI) vwCl (wMod ad cI cJ cZ uu.1 mth mxs mys uu.2.1 uu.2.2.1 uu.2.2.2.1 uu.2.2.2.2.1 uu.2.2.2.2.2.1 uu.2.2.2.2.2.2.1 uu.2.2.2.2.2.2.2.1 uu.2.2.2.2.2.2.2.2.1 uu.2.2.2.2.2.2.2.2.2.1 uu.2.2.2.2.2.2.2.2.2.2.1 uu.2.2.2.2.2.2.2.2.2.2.2 mst) t.heap ∧ va_D A (wMod ad cI cJ cZ uu.1 mth mxs mys uu.2.1 uu.2.2.1 uu.2.2.2.1 uu.2.2.2.2.1 uu.2.2.2.2.2.1 uu.2.2.2.2.2.2.1 uu.2.2.2.2.2.2.2.1 uu.2.2.2.2.2.2.2.2.1 uu.2.2.2.2.2.2.2.2.2.1 uu.2.2.2.2.2.2.2.2.2.2.1 uu.2.2.2.2.2.2.2.2.2.2.2 mst)) A) args s 0 0 A = Q := ⟨_, rfl⟩
  rw [hQ]
  obtain ⟨H, hH⟩ : ∃ H, s.heap = H := ⟨_, rfl⟩
  have hS : va_S A s.heap H [] := by rw [← hH]; exact hS
  rw [hH] at hP
  show W p l e rm_X4_border s m args below meth c s.heap [] 0 0 Q (F0 m 0 ls [])
  suffices hg : W p l e rm_X4_border s m args below meth c H [] 0 0 Q (F0 m 0 ls []) by rw [hH]; exact hg
  clear hH
  generalize hlo : ([] : List Loc) = locs at hS ⊢
  refine lv_aload_n hx hb dX4_border_0 rfl (lv_at hl 0 rfl) ?_
  refine lv_aload_n hx hb dX4_border_1 rfl (lv_at hl 0 rfl) ?_
  refine lv_iload_n hx hb dX4_border_2 rfl (lv_at hl 1 rfl) ?_
  have hPc := hP.sub (ws' := (wMod ad cI cJ cZ mre mth mxs mys mcu mnx mpo mpn mrn mrd mfi mar mfn mfa mnu mst)) [0, 1, 2, 3, 4, 5, 6, 7, 8, 9, 10, 11] rfl
  have hDc := hD.sub (ws' := (wMod ad cI cJ cZ mre mth mxs mys mcu mnx mpo mpn mrn mrd mfi mar mfn mfa mnu mst)) [0, 1, 2, 3, 4, 5, 6, 7, 8, 9, 10, 11] (by decide) rfl
  have hFc := va_free (wc := (wMod ad cI cJ cZ mre mth mxs mys mcu mnx mpo mpn mrn mrd mfi mar mfn mfa mnu mst)) hD hS hA [0, 1, 2, 3, 4, 5, 6, 7, 8, 9, 10, 11] rfl
  refine va_calli (va_runV (As := [.int v1]) (rest := [.ref (ad 0)]) C (c_X4_isFace l dC dI cI cJ cZ ad _ mre mth mxs mys mcu mnx mpo mpn mrn mrd mfi mar mfn mfa mnu mst v1 hw) (cwV 1 hts gX4_border_X4_isFace rfl rfl rfl (by decide +kernel) ⟨Nat.le_of_ble_eq_true rfl, Nat.le_of_ble_eq_true rfl⟩) ⟨fb_rw, va_recv hK hPc (ci := 4) (q0 := 0) rfl rfl, fun U hU hW => ⟨rfl, by rw [hU], by rw [hU]; exact hPc, va_K.moved hW.alike hK, hDc.weaken (fun _ _ _ _ => trivial)⟩⟩ rfl rfl hl.1 rfl (lv_room (Nat.le_of_ble_eq_true rfl)) dX4_border_3 ⟨Nat.zero_le _, Nat.zero_le _⟩) hS (fun q _ h => hFc q h) hFc (fun r1 uu t H1 locs ht hvm hw hB hz1 hk1 hS => ?_)
  obtain ⟨mcu_2, mnx_3, mpo_4, mpn_5, mrn_6, mrd_7, mfi_8, mar_9, mfn_10, mfa_11, mnu_12⟩ := uu
  obtain ⟨hP1, hD1⟩ := hB
  rw [ht] at hP1
  try dsimp only at hw hP1 hD1
  obtain ⟨hP, hD⟩ := va_join (wr := []) (w1 := (wMod ad cI cJ cZ mre mth mxs mys mcu_2 mnx_3 mpo_4 mpn_5 mrn_6 mrd_7 mfi_8 mar_9 mfn_10 mfa_11 mnu_12 mst)) hP hD [0, 1, 2, 3, 4, 5, 6, 7, 8, 9, 10, 11] [] rfl rfl (by decide) (by decide) hk1 hFc hP1 hD1
  generalize H1 = H at hP hS ⊢
  have hP : va_P (dC, dI) vwCl (wMod ad cI cJ cZ mre mth mxs mys mcu_2 mnx_3 mpo_4 mpn_5 mrn_6 mrd_7 mfi_8 mar_9 mfn_10 mfa_11 mnu_12 mst) H := hP
  have hD : va_D A (wMod ad cI cJ cZ mre mth mxs mys mcu_2 mnx_3 mpo_4 mpn_5 mrn_6 mrd_7 mfi_8 mar_9 mfn_10 mfa_11 mnu_12 mst) := hD
  refine jn1_use (J := fun (k13 : Int32) => ∀ (ls : Array Slot) (H : Heap) (locs : List Loc), lv_has ls 6 [(0, .ref (ad 0)), (1, .int v1), (2, .int v2)] → va_P (dC, dI) vwCl (wMod ad cI cJ cZ mre mth mxs mys mcu_2 mnx_3 mpo_4 mpn_5 mrn_6 mrd_7 mfi_8 mar_9 mfn_10 mfa_11 mnu_12 mst) H → va_D A (wMod ad cI cJ cZ mre mth mxs mys mcu_2 mnx_3 mpo_4 mpn_5 mrn_6 mrd_7 mfi_8 mar_9 mfn_10 mfa_11 mnu_12 mst) → va_S A s.heap H locs → W p l e rm_X4_border s m args below meth c H locs 0 0 Q (F0 m 14 ls [.int k13, .ref (ad 0)])) hw (fun k13 hw ls H locs hl hP hD hS => ?_) (fun hw hj0 => ?_)
  · have hPc := hP.sub (ws' := (wMod ad cI cJ cZ mre mth mxs mys mcu_2 mnx_3 mpo_4 mpn_5 mrn_6 mrd_7 mfi_8 mar_9 mfn_10 mfa_11 mnu_12 mst)) [0, 1, 2, 3, 4, 5, 6, 7, 8, 9, 10, 11] rfl
    have hDc := hD.sub (ws' := (wMod ad cI cJ cZ mre mth mxs mys mcu_2 mnx_3 mpo_4 mpn_5 mrn_6 mrd_7 mfi_8 mar_9 mfn_10 mfa_11 mnu_12 mst)) [0, 1, 2, 3, 4, 5, 6, 7, 8, 9, 10, 11] (by decide) rfl
    have hFc := va_free (wc := (wMod ad cI cJ cZ mre mth mxs mys mcu_2 mnx_3 mpo_4 mpn_5 mrn_6 mrd_7 mfi_8 mar_9 mfn_10 mfa_11 mnu_12 mst)) hD hS hA [0, 1, 2, 3, 4, 5, 6, 7, 8, 9, 10, 11] rfl
    refine va_calli (va_runV (As := [.int k13]) (rest := []) C (c_X4_refused l dC dI cI cJ cZ ad _ mre mth mxs mys mcu_2 mnx_3 mpo_4 mpn_5 mrn_6 mrd_7 mfi_8 mar_9 mfn_10 mfa_11 mnu_12 mst k13 hw) (cwV 1 hts gX4_border_X4_refused rfl rfl rfl (by decide +kernel) ⟨Nat.le_of_ble_eq_true rfl, Nat.le_of_ble_eq_true rfl⟩) ⟨fb_rw, va_recv hK hPc (ci := 4) (q0 := 0) rfl rfl, fun U hU hW => ⟨rfl, by rw [hU], by rw [hU]; exact hPc, va_K.moved hW.alike hK, hDc.weaken (fun _ _ _ _ => trivial)⟩⟩ rfl rfl hl.1 rfl (lv_room (Nat.le_of_ble_eq_true rfl)) dX4_border_14 ⟨Nat.zero_le _, Nat.zero_le _⟩) hS (fun q _ h => hFc q h) hFc (fun r16 uu t H1 locs ht hvm hw hB hz1 hk1 hS => ?_)
    obtain ⟨mre_17, rfl⟩ : ∃ z, z = uu := ⟨_, rfl⟩
    obtain ⟨hP1, hD1⟩ := hB
    rw [ht] at hP1
    try dsimp only at hw hP1 hD1
    obtain ⟨hP, hD⟩ := va_join (wr := []) (w1 := (wMod ad cI cJ cZ mre_17 mth mxs mys mcu_2 mnx_3 mpo_4 mpn_5 mrn_6 mrd_7 mfi_8 mar_9 mfn_10 mfa_11 mnu_12 mst)) hP hD [0, 1, 2, 3, 4, 5, 6, 7, 8, 9, 10, 11] [] rfl rfl (by decide) (by decide) hk1 hFc hP1 hD1
    generalize H1 = H at hP hS ⊢
    have hP : va_P (dC, dI) vwCl (wMod ad cI cJ cZ mre_17 mth mxs mys mcu_2 mnx_3 mpo_4 mpn_5 mrn_6 mrd_7 mfi_8 mar_9 mfn_10 mfa_11 mnu_12 mst) H := hP
    have hD : va_D A (wMod ad cI cJ cZ mre_17 mth mxs mys mcu_2 mnx_3 mpo_4 mpn_5 mrn_6 mrd_7 mfi_8 mar_9 mfn_10 mfa_11 mnu_12 mst) := hD
    refine lv_if_eq (tgt := 22) hx hb dX4_border_17 (by decide) (fun hc => ?_) (fun hc => ?_)
    · have hw := hw.1 (hc)
      refine lv_iconst (v := 0) hx hb dX4_border_22 (by decide) ?_
      refine lv_istore_n (lv' := [(3, .int (0 : Int32)), (0, .ref (ad 0)), (1, .int v1), (2, .int v2)]) hx hb dX4_border_23 rfl hl (by decide) rfl (fun ls hl => ?_)
      refine lv_iconst (v := -1) hx hb dX4_border_24 (by decide) ?_
      refine lv_istore (lv' := [(4, .int (-1 : Int32)), (3, .int (0 : Int32)), (0, .ref (ad 0)), (1, .int v1), (2, .int v2)]) hx hb dX4_border_25 hl (by decide) rfl (fun ls hl => ?_)
      refine lv_iconst (v := 0) hx hb dX4_border_27 (by decide) ?_
      refine lv_istore (lv' := [(5, .int (0 : Int32)), (4, .int (-1 : Int32)), (3, .int (0 : Int32)), (0, .ref (ad 0)), (1, .int v1), (2, .int v2)]) hx hb dX4_border_28 hl (by decide) rfl (fun ls hl => ?_)
      obtain ⟨n42, hw⟩ := hw
      refine l_X4_border_30 C hK hA (fun w25 ls H locs hl hP hD hS hw => ?_) n42 (0 : Int32) (0 : Int32) ls _ _ (lv_sub hl [3, 4, 5, 2, 1, 0] rfl) hP hD hS hw
      refine lv_bipush (v := 119) hx hb dX4_border_85 (by decide) ?_
      refine lv_istore (lv' := [(5, .int (119 : Int32)), (0, .ref (ad 0)), (1, .int v1), (2, .int v2), (3, .int w25), (4, .int (-1 : Int32))]) hx hb dX4_border_87 hl (by decide) rfl (fun ls hl => ?_)
      obtain ⟨n41, hw⟩ := hw
      refine l_X4_border_89 C hK hA (fun w34 w35 ls H locs hl hP hD hS hw => ?_) n41 w25 (-1 : Int32) (119 : Int32) ls _ _ (lv_sub hl [1, 2, 3, 4, 5, 0] rfl) hP hD hS hw
      refine lv_iload_n hx hb dX4_border_139 rfl (lv_at hl 1 rfl) ?_
      refine lv_iconst (v := 2) hx hb dX4_border_140 (by decide) ?_
      refine jn1_use (J := fun (k36 : Int32) => ∀ (ls : Array Slot) (H : Heap) (locs : List Loc), lv_has ls 6 [(0, .ref (ad 0))] → va_P (dC, dI) vwCl (wMod ad cI cJ cZ mre_17 mth mxs mys mcu_2 mnx_3 mpo_4 mpn_5 mrn_6 mrd_7 mfi_8 mar_9 mfn_10 mfa_11 mnu_12 mst) H → va_D A (wMod ad cI cJ cZ mre_17 mth mxs mys mcu_2 mnx_3 mpo_4 mpn_5 mrn_6 mrd_7 mfi_8 mar_9 mfn_10 mfa_11 mnu_12 mst) → va_S A s.heap H locs → W p l e rm_X4_border s m args below meth c H locs 0 0 Q (F0 m 168 ls [.int k36])) hw (fun k36 hw ls H locs hl hP hD hS => ?_) (fun hw hj0 => ?_)
      · rw [← hQ]
        exact W.iret (v := k36) hx hb hr (fun t ht hW => ⟨⟨_, (mre_17, mcu_2, mnx_3, mpo_4, mpn_5, mrn_6, mrd_7, mfi_8, mar_9, mfn_10, mfa_11, mnu_12), rfl, hw, by rw [ht]; exact hP, hD⟩, hS.F ht⟩) hS.2.2 dX4_border_168
      · have hj38 := hj0
        refine lv_icmp_ne (tgt := 149) hx hb dX4_border_141 (by decide) (fun hc => ?_) (fun hc => ?_)
        · have hw := hw.2 hc
          refine lv_iload_n hx hb dX4_border_149 rfl (lv_at hl 1 rfl) ?_
          refine jn0_use (J := ∀ (ls : Array Slot) (H : Heap) (locs : List Loc), lv_has ls 6 [(0, .ref (ad 0)), (3, .int w34)] → va_P (dC, dI) vwCl (wMod ad cI cJ cZ mre_17 mth mxs mys mcu_2 mnx_3 mpo_4 mpn_5 mrn_6 mrd_7 mfi_8 mar_9 mfn_10 mfa_11 mnu_12 mst) H → va_D A (wMod ad cI cJ cZ mre_17 mth mxs mys mcu_2 mnx_3 mpo_4 mpn_5 mrn_6 mrd_7 mfi_8 mar_9 mfn_10 mfa_11 mnu_12 mst) → va_S A s.heap H locs → W p l e rm_X4_border s m args below meth c H locs 0 0 Q (F0 m 163 ls [])) hw (fun hw ls H locs hl hP hD hS => ?_) (fun hw hj0 => ?_)
          · refine lv_iload_n hx hb dX4_border_163 rfl (lv_at hl 1 rfl) ?_
            refine lv_goto (tgt := 168) hx hb dX4_border_164 (by decide) ?_
            exact hj38 w34 hw ls _ _ (lv_sub hl [0] rfl) hP hD hS
          · have hj40 := hj0
            refine lv_if_eq (tgt := 163) hx hb dX4_border_150 (by decide) (fun hc => ?_) (fun hc => ?_)
            · have hw := hw.1 (hc)
              exact hj40 hw ls _ _ (lv_sub hl [0, 2] rfl) hP hD hS
            · have hw := hw.2 hc
              refine lv_iload_n hx hb dX4_border_153 rfl (lv_at hl 1 rfl) ?_
              refine lv_iconst (v := 1) hx hb dX4_border_154 (by decide) ?_
              refine lv_icmp_eq (tgt := 163) hx hb dX4_border_155 (by decide) (fun hc => ?_) (fun hc => ?_)
              · have hw := hw.1 (hc)
                exact hj40 hw ls _ _ (lv_sub hl [0, 2] rfl) hP hD hS
              · have hw := hw.2 hc
                refine lv_iload_n hx hb dX4_border_158 rfl (lv_at hl 1 rfl) ?_
                refine lv_iconst (v := 3) hx hb dX4_border_159 (by decide) ?_
                refine lv_icmp_ne (tgt := 167) hx hb dX4_border_160 (by decide) (fun hc => ?_) (fun hc => ?_)
                · have hw := hw.2 hc
                  refine lv_iconst (v := -1) hx hb dX4_border_167 (by decide) ?_
                  exact hj38 (-1 : Int32) hw ls _ _ (lv_sub hl [0] rfl) hP hD hS
                · have hw := hw.1 (hc)
                  exact hj40 hw ls _ _ (lv_sub hl [0, 2] rfl) hP hD hS
        · have hw := hw.1 (hc)
          refine lv_iload hx hb dX4_border_144 (lv_at hl 3 rfl) ?_
          refine lv_goto (tgt := 168) hx hb dX4_border_146 (by decide) ?_
          exact hj38 w35 hw ls _ _ (lv_sub hl [0] rfl) hP hD hS
    · have hw := hw.2 hc
      refine lv_iconst (v := 0) hx hb dX4_border_20 (by decide) ?_
      rw [← hQ]
      exact W.iret (v := (0 : Int32)) hx hb hr (fun t ht hW => ⟨⟨_, (mre_17, mcu_2, mnx_3, mpo_4, mpn_5, mrn_6, mrd_7, mfi_8, mar_9, mfn_10, mfa_11, mnu_12), rfl, hw, by rw [ht]; exact hP, hD⟩, hS.F ht⟩) hS.2.2 dX4_border_21
  · have hj15 := hj0
    refine lv_if_eq (tgt := 13) hx hb dX4_border_6 (by decide) (fun hc => ?_) (fun hc => ?_)
    · have hw := hw.1 (hc)
      refine lv_iconst (v := 1) hx hb dX4_border_13 (by decide) ?_
      exact hj15 (1 : Int32) hw ls _ _ (lv_sub hl [0, 1, 2] rfl) hP hD hS
    · have hw := hw.2 hc
      refine lv_iconst (v := 0) hx hb dX4_border_9 (by decide) ?_
      refine lv_goto (tgt := 14) hx hb dX4_border_10 (by decide) ?_
      exact hj15 (0 : Int32) hw ls _ _ (lv_sub hl [0, 1, 2] rfl) hP hD hS
-- X4_locate
abbrev rm_X4_locate : Room := { frames := 6, cells := 0, slots := 0, locals := 144 }
theorem f_X4_locate_0 : (Cond.fieldLink RX4 7 "PlaneFacesModel" "isThere" "[Z") ∈ wsX4_locate := by decide +kernel
theorem f_X4_locate_1 : ∀ w ∈ wsX40, w ∈ wsX4_locate := by decide +kernel
theorem f_X4_locate_2 : (Cond.fieldLink RX4 13 "PlaneFacesModel" "xs" "[I") ∈ wsX4_locate := by decide +kernel
theorem f_X4_locate_3 : (Cond.fieldLink RX4 17 "PlaneFacesModel" "ys" "[I") ∈ wsX4_locate := by decide +kernel
theorem f_X4_locate_4 : (Cond.fieldLink RX4 36 "PlaneFacesModel" "faceOf" "[I") ∈ wsX4_locate := by decide +kernel
set_option maxRecDepth 100000 in
set_option maxHeartbeats 4000000 in
theorem l_X4_locate_34 {p : Program} {l : Launch} {e : Env} {s : State} {m : MethodId} {args : Array Value} {below : List Frame} {meth : Method} {c : Code} {Q : State → Prop} {dC : Nat → ClassId} {dI : Nat → Nat → Nat} {cI cJ cZ : ClassId} {ad : Nat → Nat} {mre : Int32} {mth : Nat → Int32} {mxs : Nat → Int32} {mys : Nat → Int32} {mcu : Int32} {mnx : Nat → Int32} {mpo : Nat → Int32} {mpn : Int32} {mrn : Int32} {mrd : Nat → Int32} {mfi : Nat → Int32} {mar : Nat → Int64} {mfn : Int32} {mfa : Nat → Int32} {mnu : Nat → Int32} {mst : Nat → Int32} {v1 : Int32} {v2 : Int32} {K50 : Int32 → Prop} {K61 : Prop} (C : CallFix p m c cX4_locate 4 s args wsX4_locate RX4) (hK : va_K (dC, dI) vwCl (tyL cI cJ cZ) s) {A : Nat → Prop} (hA : ∀ q : Nat, s.heap.size ≤ q → A q) (hk50 : ∀ (w3 : Int32) (ls : Array Slot) (H : Heap) (locs : List Loc), lv_has ls 4 [(0, .ref (ad 0)), (3, .int w3)] → va_P (dC, dI) vwCl (wMod ad cI cJ cZ mre mth mxs mys mcu mnx mpo mpn mrn mrd mfi mar mfn mfa mnu mst) H → va_D A (wMod ad cI cJ cZ mre mth mxs mys mcu mnx mpo mpn mrn mrd mfi mar mfn mfa mnu mst) → va_S A s.heap H locs → K50 w3 → W p l e rm_X4_locate s m args below meth c H locs 0 0 Q (F0 m 50 ls [])) (hk61 : ∀  (ls : Array Slot) (H : Heap) (locs : List Loc), lv_has ls 4 [(0, .ref (ad 0)), (1, .int v1), (2, .int v2)] → va_P (dC, dI) vwCl (wMod ad cI cJ cZ mre mth mxs mys mcu mnx mpo mpn mrn mrd mfi mar mfn mfa mnu mst) H → va_D A (wMod ad cI cJ cZ mre mth mxs mys mcu mnx mpo mpn mrn mrd mfi mar mfn mfa mnu mst) → va_S A s.heap H locs → K61 → W p l e rm_X4_locate s m args below meth c H locs 0 0 Q (F0 m 61 ls [])) : ∀ (n : Nat) (v3 : Int32) (ls : Array Slot) (H : Heap) (locs : List Loc), lv_has ls 4 [(0, .ref (ad 0)), (1, .int v1), (2, .int v2), (3, .int v3)] → va_P (dC, dI) vwCl (wMod ad cI cJ cZ mre mth mxs mys mcu mnx mpo mpn mrn mrd mfi mar mfn mfa mnu mst) H → va_D A (wMod ad cI cJ cZ mre mth mxs mys mcu mnx mpo mpn mrn mrd mfi mar mfn mfa mnu mst) → va_S A s.heap H locs → lp_X4_locate_34 mre mth mxs mys mcu mnx mpo mpn mrn mrd mfi mar mfn mfa mnu v1 v2 K50 K61 n v3 → W p l e rm_X4_locate s m args below meth c H locs 0 0 Q (F0 m 34 ls []) := by
  obtain ⟨hx, hb, hml, hown, hts⟩ := id C
  intro n
  induction n with
  | zero =>
    intro v3 ls H locs hl hP hD hS hw
    rw [lp_X4_locate_34.eq_1] at hw
    exact hw.elim
  | succ n ih =>
    intro v3 ls H locs hl hP hD hS hw
    rw [lp_X4_locate_34.eq_2] at hw
    refine lv_iload_n hx hb dX4_locate_34 rfl (lv_at hl 3 rfl) ?_
    refine lv_bipush (v := 120) hx hb dX4_locate_35 (by decide) ?_
    refine lv_icmp_ge (tgt := 61) hx hb dX4_locate_37 (by decide) (fun hc => ?_) (fun hc => ?_)
    · have hw := hw.1 (hc)
      exact hk61 ls _ _ (lv_sub hl [0, 1, 2] rfl) hP hD hS hw
    · have hw := hw.2 hc
      refine lv_aload_n hx hb dX4_locate_40 rfl (lv_at hl 0 rfl) ?_
      refine lv_iload_n hx hb dX4_locate_41 rfl (lv_at hl 3 rfl) ?_
      refine lv_iload_n hx hb dX4_locate_42 rfl (lv_at hl 1 rfl) ?_
      refine lv_iload_n hx hb dX4_locate_43 rfl (lv_at hl 2 rfl) ?_
      refine vp_callSi (W.runV (As := [.int v3, .int v1, .int v2]) (rest := []) C (c_X4_leaves l dC dI cI cJ cZ ad mre mth mxs mys mcu mnx mpo mpn mrn mrd mfi mar mfn mfa mnu mst v3 v1 v2 hw) (cwV 3 hts gX4_locate_X4_leaves rfl rfl rfl (by decide +kernel) ⟨Nat.le_of_ble_eq_true rfl, Nat.le_of_ble_eq_true rfl⟩) ⟨fb_ro, va_recv hK hP (ci := 4) (q0 := 0) rfl rfl, fun U hU hW => ⟨rfl, by rw [hU]; exact hP, va_K.moved hW.alike hK⟩⟩ rfl rfl hl.1 rfl (lv_room (Nat.le_of_ble_eq_true rfl)) dX4_locate_44 ⟨Nat.zero_le _, Nat.zero_le _⟩) (fun r18 hw => ?_)
      refine lv_if_eq (tgt := 55) hx hb dX4_locate_47 (by decide) (fun hc => ?_) (fun hc => ?_)
      · have hw := hw.1 (hc)
        refine lv_iinc (v := (v3 + (1 : Int32))) (lv' := [(3, .int (v3 + (1 : Int32))), (0, .ref (ad 0)), (1, .int v1), (2, .int v2)]) hx hb dX4_locate_55 hl (k := 3) rfl rfl (by decide) rfl (fun ls hl => ?_)
        refine lv_goto (tgt := 34) hx hb dX4_locate_58 (by decide) ?_
        exact ih (v3 + (1 : Int32)) ls _ _ (lv_sub hl [1, 2, 3, 0] rfl) hP hD hS hw
      · have hw := hw.2 hc
        exact hk50 v3 ls _ _ (lv_sub hl [0, 3] rfl) hP hD hS hw
set_option maxRecDepth 100000 in
set_option maxHeartbeats 4000000 in
theorem l_X4_locate_63 {p : Program} {l : Launch} {e : Env} {s : State} {m : MethodId} {args : Array Value} {below : List Frame} {meth : Method} {c : Code} {Q : State → Prop} {dC : Nat → ClassId} {dI : Nat → Nat → Nat} {cI cJ cZ : ClassId} {ad : Nat → Nat} {mre : Int32} {mth : Nat → Int32} {mxs : Nat → Int32} {mys : Nat → Int32} {mcu : Int32} {mnx : Nat → Int32} {mpo : Nat → Int32} {mpn : Int32} {mrn : Int32} {mrd : Nat → Int32} {mfi : Nat → Int32} {mar : Nat → Int64} {mfn : Int32} {mfa : Nat → Int32} {mnu : Nat → Int32} {mst : Nat → Int32} {v1 : Int32} {v2 : Int32} {K122 : Int32 → Prop} {K133 : Prop} (C : CallFix p m c cX4_locate 4 s args wsX4_locate RX4) (hK : va_K (dC, dI) vwCl (tyL cI cJ cZ) s) {A : Nat → Prop} (hA : ∀ q : Nat, s.heap.size ≤ q → A q) (hk122 : ∀ (w3 : Int32) (ls : Array Slot) (H : Heap) (locs : List Loc), lv_has ls 4 [(0, .ref (ad 0)), (3, .int w3)] → va_P (dC, dI) vwCl (wMod ad cI cJ cZ mre mth mxs mys mcu mnx mpo mpn mrn mrd mfi mar mfn mfa mnu mst) H → va_D A (wMod ad cI cJ cZ mre mth mxs mys mcu mnx mpo mpn mrn mrd mfi mar mfn mfa mnu mst) → va_S A s.heap H locs → K122 w3 → W p l e rm_X4_locate s m args below meth c H locs 0 0 Q (F0 m 122 ls [])) (hk133 : ∀  (ls : Array Slot) (H : Heap) (locs : List Loc), lv_has ls 4 [(0, .ref (ad 0)), (1, .int v1), (2, .int v2)] → va_P (dC, dI) vwCl (wMod ad cI cJ cZ mre mth mxs mys mcu mnx mpo mpn mrn mrd mfi mar mfn mfa mnu mst) H → va_D A (wMod ad cI cJ cZ mre mth mxs mys mcu mnx mpo mpn mrn mrd mfi mar mfn mfa mnu mst) → va_S A s.heap H locs → K133 → W p l e rm_X4_locate s m args below meth c H locs 0 0 Q (F0 m 133 ls [])) : ∀ (n : Nat) (v3 : Int32) (ls : Array Slot) (H : Heap) (locs : List Loc), lv_has ls 4 [(0, .ref (ad 0)), (1, .int v1), (2, .int v2), (3, .int v3)] → va_P (dC, dI) vwCl (wMod ad cI cJ cZ mre mth mxs mys mcu mnx mpo mpn mrn mrd mfi mar mfn mfa mnu mst) H → va_D A (wMod ad cI cJ cZ mre mth mxs mys mcu mnx mpo mpn mrn mrd mfi mar mfn mfa mnu mst) → va_S A s.heap H locs → lp_X4_locate_63 mre mth mxs mys mcu mnx mpo mpn mrn mrd mfi mar mfn mfa mnu v1 v2 K122 K133 n v3 → W p l e rm_X4_locate s m args below meth c H locs 0 0 Q (F0 m 63 ls []) := by
  obtain ⟨hx, hb, hml, hown, hts⟩ := id C
  intro n
  induction n with
  | zero =>
    intro v3 ls H locs hl hP hD hS hw
    rw [lp_X4_locate_63.eq_1] at hw
    exact hw.elim
  | succ n ih =>
    intro v3 ls H locs hl hP hD hS hw
    rw [lp_X4_locate_63.eq_2] at hw
    refine lv_iload_n hx hb dX4_locate_63 rfl (lv_at hl 3 rfl) ?_
    refine lv_bipush (v := 60) hx hb dX4_locate_64 (by decide) ?_
    refine lv_icmp_ge (tgt := 133) hx hb dX4_locate_66 (by decide) (fun hc => ?_) (fun hc => ?_)
    · have hw := hw.1 (hc)
      exact hk133 ls _ _ (lv_sub hl [0, 1, 2] rfl) hP hD hS hw
    · have hw := hw.2 hc
      refine lv_aload_n hx hb dX4_locate_69 rfl (lv_at hl 0 rfl) ?_
      refine va_get (D := (dC, dI)) (ci := 4) (v := .ref (ad 1)) (C := RX4) (T := TX4) (N := 16) hx hb hts f_X4_locate_1 hown hK hP 0 rfl rfl 1 (by decide) (hts _ f_X4_locate_0) (fun _ h9 => h9) rfl dX4_locate_70 ?_
      refine lv_iload_n hx hb dX4_locate_73 rfl (lv_at hl 3 rfl) ?_
      have hi := hw.1
      have hw := hw.2
      refine va_zald hx hb hK hP 1 2 rfl rfl hi dX4_locate_74 ?_
      refine jn0_use (J := ∀ (ls : Array Slot) (H : Heap) (locs : List Loc), lv_has ls 4 [(0, .ref (ad 0)), (1, .int v1), (2, .int v2), (3, .int v3)] → va_P (dC, dI) vwCl (wMod ad cI cJ cZ mre mth mxs mys mcu mnx mpo mpn mrn mrd mfi mar mfn mfa mnu mst) H → va_D A (wMod ad cI cJ cZ mre mth mxs mys mcu mnx mpo mpn mrn mrd mfi mar mfn mfa mnu mst) → va_S A s.heap H locs → W p l e rm_X4_locate s m args below meth c H locs 0 0 Q (F0 m 127 ls [])) hw (fun hw ls H locs hl hP hD hS => ?_) (fun hw hj0 => ?_)
      · refine lv_iinc (v := (v3 + (1 : Int32))) (lv' := [(3, .int (v3 + (1 : Int32))), (0, .ref (ad 0)), (1, .int v1), (2, .int v2)]) hx hb dX4_locate_127 hl (k := 3) rfl rfl (by decide) rfl (fun ls hl => ?_)
        refine lv_goto (tgt := 63) hx hb dX4_locate_130 (by decide) ?_
        exact ih (v3 + (1 : Int32)) ls _ _ (lv_sub hl [1, 2, 3, 0] rfl) hP hD hS hw
      · have hj21 := hj0
        refine lv_if_eq (tgt := 127) hx hb dX4_locate_75 (by decide) (fun hc => ?_) (fun hc => ?_)
        · have hw := hw.1 (hc)
          exact hj21 hw ls _ _ (lv_sub hl [0, 1, 2, 3] rfl) hP hD hS
        · have hw := hw.2 hc
          refine lv_aload_n hx hb dX4_locate_78 rfl (lv_at hl 0 rfl) ?_
          refine va_get (D := (dC, dI)) (ci := 4) (v := .ref (ad 2)) (C := RX4) (T := TX4) (N := 16) hx hb hts f_X4_locate_1 hown hK hP 0 rfl rfl 2 (by decide) (hts _ f_X4_locate_2) (fun _ h9 => h9) rfl dX4_locate_79 ?_
          refine lv_iconst (v := 2) hx hb dX4_locate_82 (by decide) ?_
          refine lv_iload_n hx hb dX4_locate_83 rfl (lv_at hl 3 rfl) ?_
          refine lv_imul hx hb dX4_locate_84 ?_
          have hi := hw.1
          have hw := hw.2
          refine va_iald hx hb hK hP 2 0 rfl rfl hi dX4_locate_85 ?_
          refine lv_aload_n hx hb dX4_locate_86 rfl (lv_at hl 0 rfl) ?_
          refine va_get (D := (dC, dI)) (ci := 4) (v := .ref (ad 3)) (C := RX4) (T := TX4) (N := 16) hx hb hts f_X4_locate_1 hown hK hP 0 rfl rfl 3 (by decide) (hts _ f_X4_locate_3) (fun _ h9 => h9) rfl dX4_locate_87 ?_
          refine lv_iconst (v := 2) hx hb dX4_locate_90 (by decide) ?_
          refine lv_iload_n hx hb dX4_locate_91 rfl (lv_at hl 3 rfl) ?_
          refine lv_imul hx hb dX4_locate_92 ?_
          have hi := hw.1
          have hw := hw.2
          refine va_iald hx hb hK hP 3 0 rfl rfl hi dX4_locate_93 ?_
          refine lv_aload_n hx hb dX4_locate_94 rfl (lv_at hl 0 rfl) ?_
          refine va_get (D := (dC, dI)) (ci := 4) (v := .ref (ad 2)) (C := RX4) (T := TX4) (N := 16) hx hb hts f_X4_locate_1 hown hK hP 0 rfl rfl 2 (by decide) (hts _ f_X4_locate_2) (fun _ h9 => h9) rfl dX4_locate_95 ?_
          refine lv_iconst (v := 2) hx hb dX4_locate_98 (by decide) ?_
          refine lv_iload_n hx hb dX4_locate_99 rfl (lv_at hl 3 rfl) ?_
          refine lv_imul hx hb dX4_locate_100 ?_
          refine lv_iconst (v := 1) hx hb dX4_locate_101 (by decide) ?_
          refine lv_iadd hx hb dX4_locate_102 ?_
          have hi := hw.1
          have hw := hw.2
          refine va_iald hx hb hK hP 2 0 rfl rfl hi dX4_locate_103 ?_
          refine lv_aload_n hx hb dX4_locate_104 rfl (lv_at hl 0 rfl) ?_
          refine va_get (D := (dC, dI)) (ci := 4) (v := .ref (ad 3)) (C := RX4) (T := TX4) (N := 16) hx hb hts f_X4_locate_1 hown hK hP 0 rfl rfl 3 (by decide) (hts _ f_X4_locate_3) (fun _ h9 => h9) rfl dX4_locate_105 ?_
          refine lv_iconst (v := 2) hx hb dX4_locate_108 (by decide) ?_
          refine lv_iload_n hx hb dX4_locate_109 rfl (lv_at hl 3 rfl) ?_
          refine lv_imul hx hb dX4_locate_110 ?_
          refine lv_iconst (v := 1) hx hb dX4_locate_111 (by decide) ?_
          refine lv_iadd hx hb dX4_locate_112 ?_
          have hi := hw.1
          have hw := hw.2
          refine va_iald hx hb hK hP 3 0 rfl rfl hi dX4_locate_113 ?_
          refine lv_iload_n hx hb dX4_locate_114 rfl (lv_at hl 1 rfl) ?_
          refine lv_iload_n hx hb dX4_locate_115 rfl (lv_at hl 2 rfl) ?_
          refine vp_callSi (W.runS (As := [.int (mxs ((2 : Int32) * v3).toNatClampNeg), .int (mys ((2 : Int32) * v3).toNatClampNeg), .int (mxs (((2 : Int32) * v3) + (1 : Int32)).toNatClampNeg), .int (mys (((2 : Int32) * v3) + (1 : Int32)).toNatClampNeg), .int v1, .int v2]) (rest := []) C (c_X4_isOn l (mxs ((2 : Int32) * v3).toNatClampNeg) (mys ((2 : Int32) * v3).toNatClampNeg) (mxs (((2 : Int32) * v3) + (1 : Int32)).toNatClampNeg) (mys (((2 : Int32) * v3) + (1 : Int32)).toNatClampNeg) v1 v2 hw) (va_cwS 6 hts gX4_locate_X4_isOn rfl rfl rfl (by decide +kernel) ⟨Nat.le_of_ble_eq_true rfl, Nat.le_of_ble_eq_true rfl⟩) ⟨fb_st, fun U hU hW => ⟨rfl, trivial⟩⟩ rfl rfl hl.1 rfl (lv_room (Nat.le_of_ble_eq_true rfl)) dX4_locate_116 ⟨Nat.zero_le _, Nat.zero_le _⟩) (fun r22 hw => ?_)
          refine lv_if_eq (tgt := 127) hx hb dX4_locate_119 (by decide) (fun hc => ?_) (fun hc => ?_)
          · have hw := hw.1 (hc)
            exact hj21 hw ls _ _ (lv_sub hl [0, 1, 2, 3] rfl) hP hD hS
          · have hw := hw.2 hc
            exact hk122 v3 ls _ _ (lv_sub hl [0, 3] rfl) hP hD hS hw
set_option maxRecDepth 100000 in
set_option maxHeartbeats 4000000 in
theorem c_X4_locate (l : Launch) (dC : Nat → ClassId) (dI : Nat → Nat → Nat) (cI cJ cZ : ClassId) (ad : Nat → Nat) (sz : Nat) (mre : Int32) (mth : Nat → Int32) (mxs : Nat → Int32) (mys : Nat → Int32) (mcu : Int32) (mnx : Nat → Int32) (mpo : Nat → Int32) (mpn : Int32) (mrn : Int32) (mrd : Nat → Int32) (mfi : Nat → Int32) (mar : Nat → Int64) (mfn : Int32) (mfa : Nat → Int32) (mnu : Nat → Int32) (mst : Nat → Int32) (v1 : Int32) (v2 : Int32) {post : Int32 → Int32 → Int32 → (Nat → Int32) → (Nat → Int32) → Int32 → Int32 → (Nat → Int32) → (Nat → Int32) → (Nat → Int64) → Int32 → (Nat → Int32) → (Nat → Int32) → Prop} (hw : wp_X4_locate mre mth mxs mys mcu mnx mpo mpn mrn mrd mfi mar mfn mfa mnu v1 v2 post) : Met l yX4_locate wsX4_locate rm_X4_locate (va_Pc [.ref (ad 0), .int v1, .int v2] (fun U => U.heap.size = sz ∧ va_P (dC, dI) vwCl (wMod ad cI cJ cZ mre mth mxs mys mcu mnx mpo mpn mrn mrd mfi mar mfn mfa mnu mst) U.heap ∧ va_K (dC, dI) vwCl (tyL cI cJ cZ) U ∧ va_D (fun _ => True) (wMod ad cI cJ cZ mre mth mxs mys mcu mnx mpo mpn mrn mrd mfi mar mfn mfa mnu mst))) (va_Qi (fun (r : Int32) (uu : Int32 × Int32 × (Nat → Int32) × (Nat → Int32) × Int32 × Int32 × (Nat → Int32) × (Nat → Int32) × (Nat → Int64) × Int32 × (Nat → Int32) × (Nat → Int32)) => post r uu.1 uu.2.1 uu.2.2.1 uu.2.2.2.1 uu.2.2.2.2.1 uu.2.2.2.2.2.1 uu.2.2.2.2.2.2.1 uu.2.2.2.2.2.2.2.1 uu.2.2.2.2.2.2.2.2.1 uu.2.2.2.2.2.2.2.2.2.1 uu.2.2.2.2.2.2.2.2.2.2.1 uu.2.2.2.2.2.2.2.2.2.2.2) (fun (uu : Int32 × Int32 × (Nat → Int32) × (Nat → Int32) × Int32 × Int32 × (Nat → Int32) × (Nat → Int32) × (Nat → Int64) × Int32 × (Nat → Int32) × (Nat → Int32)) (t : State) => va_P (dC, dI) vwCl (wMod ad cI cJ cZ uu.1 mth mxs mys uu.2.1 uu.2.2.1 uu.2.2.2.1 uu.2.2.2.2.1 uu.2.2.2.2.2.1 uu.2.2.2.2.2.2.1 uu.2.2.2.2.2.2.2.1 uu.2.2.2.2.2.2.2.2.1 uu.2.2.2.2.2.2.2.2.2.1 uu.2.2.2.2.2.2.2.2.2.2.1 uu.2.2.2.2.2.2.2.2.2.2.2 mst) t.heap ∧ va_D (va_A (wMod ad cI cJ cZ mre mth mxs mys mcu mnx mpo mpn mrn mrd mfi mar mfn mfa mnu mst) sz) (wMod ad cI cJ cZ uu.1 mth mxs mys uu.2.1 uu.2.2.1 uu.2.2.2.1 uu.2.2.2.2.1 uu.2.2.2.2.2.1 uu.2.2.2.2.2.2.1 uu.2.2.2.2.2.2.2.1 uu.2.2.2.2.2.2.2.2.1 uu.2.2.2.2.2.2.2.2.2.1 uu.2.2.2.2.2.2.2.2.2.2.1 uu.2.2.2.2.2.2.2.2.2.2.2 mst)) (va_A (wMod ad cI cJ cZ mre mth mxs mys mcu mnx mpo mpn mrn mrd mfi mar mfn mfa mnu mst) sz)) 0 0 (va_A (wMod ad cI cJ cZ mre mth mxs mys mcu mnx mpo mpn mrn mrd mfi mar mfn mfa mnu mst) sz) := by
  unfold wp_X4_locate at hw
  refine Met.ofW (cc := cX4_locate) (maxL := 4) (ret := (some .int)) (by decide) rfl ?_
  intro p e s m args below meth c s₁ B hml hv
  obtain ⟨hav, hsz, hP, hK, hD0⟩ := hv
  have hx := B.exec
  have hb := B.bytes
  have hr := B.returns
  have hts := atoms_spec (ws := wsX4_locate) B.pre
  have hown : s.vm.findClass RX4 = some m.cls := findClass_of_methodNamed B.named
  have hlocks := B.notSynchronized
  have C : CallFix p m c cX4_locate 4 s args wsX4_locate RX4 := ⟨hx, hb, hml, hown, hts⟩
  obtain ⟨ls, hE, hl⟩ := mx_entry (m := m) [.ref (ad 0), .int v1, .int v2] (n := 4) (Nat.le_of_ble_eq_true rfl)
  have hl : lv_has ls 4 [(0, .ref (ad 0)), (1, .int v1), (2, .int v2)] := hl
  rw [show entryFrame m args 4 = F0 m 0 ls [] by rw [hav]; exact hE]
  subst hsz
  have hD := hD0.self (sz := s.heap.size)
  generalize hAe : va_A (wMod ad cI cJ cZ mre mth mxs mys mcu mnx mpo mpn mrn mrd mfi mar mfn mfa mnu mst) s.heap.size = A at hD ⊢
  have hA : ∀ q : Nat, s.heap.size ≤ q → A q := fun q h => by rw [← hAe]; exact Or.inr h
  have hS : va_S A s.heap s.heap [] := va_S.rf
  obtain ⟨Q, hQ⟩ : ∃ Q, MQ below (va_Qi (fun (r : Int32) (uu : Int32 × Int32 × (Nat → Int32) × (Nat → Int32) × Int32 × Int32 × (Nat → Int32) × (Nat → Int32) × (Nat → Int64) × Int32 × (Nat → Int32) × (Nat → Int32)) => post r uu.1 uu.2.1 uu.2.2.1 uu.2.2.2.1 uu.2.2.2.2.1 uu.2.2.2.2.2.1 uu.2.2.2.2.2.2.1 uu.2.2.2.2.2.2.2.1 uu.2.2.2.2.2.2.2.2.1 uu.2.2.2.2.2.2.2.2.2.1 uu.2.2.2.2.2.2.2.2.2.2.1 uu.2.2.2.2.2.2.2.2.2.2.2) (fun (uu : Int32 × Int32 × (Nat → Int32) × (Nat → Int32) × Int32 × Int32 × (Nat → Int32) × (Nat → Int32) × (Nat → Int64) × Int32 × (Nat → Int32) × (Nat → Int32)) (t : State) => va_P (dC, dI) vwCl (wMod ad cI cJ cZ uu.1 mth mxs mys uu.2.1 uu.2.2.1 uu.2.2.2.1 uu.2.2.2.2.1 uu.2.2.2.2.2.1 uu.2.2.2.2.2.2.1 uu.2.2.2.2.2.2.2.1 uu.2.2.2.2.2.2.2.2.1 uu.2.2.2.2.2.2.2.2.2.1 uu.2.2.2.2.2.2.2.2.2.2.1 uu.2.2.2.2.2.2.2.2.2.2.2 mst) t.heap ∧ va_D A (wMod ad cI cJ cZ uu.1 mth mxs mys uu.2.1 uu.2.2.1 uu.2.2.2.1 uu.2.2.2.2.1 uu.2.2.2.2.2.1 uu.2.2.2.2.2.2.1 uu.2.2.2.2.2.2.2.1 uu.2.2.2.2.2.2.2.2.1 uu.2.2.2.2.2.2.2.2.2.1 uu.2.2.2.2.2.2.2.2.2.2.1 uu.2.2.2.2.2.2.2.2.2.2.2 mst)) A) args s 0 0 A = Q := ⟨_, rfl⟩
  rw [hQ]
  obtain ⟨H, hH⟩ : ∃ H, s.heap = H := ⟨_, rfl⟩
  have hS : va_S A s.heap H [] := by rw [← hH]; exact hS
  rw [hH] at hP
  show W p l e rm_X4_locate s m args below meth c s.heap [] 0 0 Q (F0 m 0 ls [])
  suffices hg : W p l e rm_X4_locate s m args below meth c H [] 0 0 Q (F0 m 0 ls []) by rw [hH]; exact hg
  clear hH
  generalize hlo : ([] : List Loc) = locs at hS ⊢
  refine lv_aload_n hx hb dX4_locate_0 rfl (lv_at hl 0 rfl) ?_
  refine lv_iload_n hx hb dX4_locate_1 rfl (lv_at hl 1 rfl) ?_
  refine vp_callSi (W.runS (As := [.int v1]) (rest := [.ref (ad 0)]) C (c_X4_isIn l v1 hw) (va_cwS 1 hts gX4_locate_X4_isIn rfl rfl rfl (by decide +kernel) ⟨Nat.le_of_ble_eq_true rfl, Nat.le_of_ble_eq_true rfl⟩) ⟨fb_st, fun U hU hW => ⟨rfl, trivial⟩⟩ rfl rfl hl.1 rfl (lv_room (Nat.le_of_ble_eq_true rfl)) dX4_locate_2 ⟨Nat.zero_le _, Nat.zero_le _⟩) (fun r1 hw => ?_)
  refine jn1_use (J := fun (k2 : Int32) => ∀ (ls : Array Slot) (H : Heap) (locs : List Loc), lv_has ls 4 [(0, .ref (ad 0)), (1, .int v1), (2, .int v2)] → va_P (dC, dI) vwCl (wMod ad cI cJ cZ mre mth mxs mys mcu mnx mpo mpn mrn mrd mfi mar mfn mfa mnu mst) H → va_D A (wMod ad cI cJ cZ mre mth mxs mys mcu mnx mpo mpn mrn mrd mfi mar mfn mfa mnu mst) → va_S A s.heap H locs → W p l e rm_X4_locate s m args below meth c H locs 0 0 Q (F0 m 20 ls [.int k2, .ref (ad 0)])) hw (fun k2 hw ls H locs hl hP hD hS => ?_) (fun hw hj0 => ?_)
  · have hPc := hP.sub (ws' := (wMod ad cI cJ cZ mre mth mxs mys mcu mnx mpo mpn mrn mrd mfi mar mfn mfa mnu mst)) [0, 1, 2, 3, 4, 5, 6, 7, 8, 9, 10, 11] rfl
    have hDc := hD.sub (ws' := (wMod ad cI cJ cZ mre mth mxs mys mcu mnx mpo mpn mrn mrd mfi mar mfn mfa mnu mst)) [0, 1, 2, 3, 4, 5, 6, 7, 8, 9, 10, 11] (by decide) rfl
    have hFc := va_free (wc := (wMod ad cI cJ cZ mre mth mxs mys mcu mnx mpo mpn mrn mrd mfi mar mfn mfa mnu mst)) hD hS hA [0, 1, 2, 3, 4, 5, 6, 7, 8, 9, 10, 11] rfl
    refine va_calli (va_runV (As := [.int k2]) (rest := []) C (c_X4_refused l dC dI cI cJ cZ ad _ mre mth mxs mys mcu mnx mpo mpn mrn mrd mfi mar mfn mfa mnu mst k2 hw) (cwV 1 hts gX4_locate_X4_refused rfl rfl rfl (by decide +kernel) ⟨Nat.le_of_ble_eq_true rfl, Nat.le_of_ble_eq_true rfl⟩) ⟨fb_rw, va_recv hK hPc (ci := 4) (q0 := 0) rfl rfl, fun U hU hW => ⟨rfl, by rw [hU], by rw [hU]; exact hPc, va_K.moved hW.alike hK, hDc.weaken (fun _ _ _ _ => trivial)⟩⟩ rfl rfl hl.1 rfl (lv_room (Nat.le_of_ble_eq_true rfl)) dX4_locate_20 ⟨Nat.zero_le _, Nat.zero_le _⟩) hS (fun q _ h => hFc q h) hFc (fun r5 uu t H1 locs ht hvm hw hB hz1 hk1 hS => ?_)
    obtain ⟨mre_6, rfl⟩ : ∃ z, z = uu := ⟨_, rfl⟩
    obtain ⟨hP1, hD1⟩ := hB
    rw [ht] at hP1
    try dsimp only at hw hP1 hD1
    obtain ⟨hP, hD⟩ := va_join (wr := []) (w1 := (wMod ad cI cJ cZ mre_6 mth mxs mys mcu mnx mpo mpn mrn mrd mfi mar mfn mfa mnu mst)) hP hD [0, 1, 2, 3, 4, 5, 6, 7, 8, 9, 10, 11] [] rfl rfl (by decide) (by decide) hk1 hFc hP1 hD1
    generalize H1 = H at hP hS ⊢
    have hP : va_P (dC, dI) vwCl (wMod ad cI cJ cZ mre_6 mth mxs mys mcu mnx mpo mpn mrn mrd mfi mar mfn mfa mnu mst) H := hP
    have hD : va_D A (wMod ad cI cJ cZ mre_6 mth mxs mys mcu mnx mpo mpn mrn mrd mfi mar mfn mfa mnu mst) := hD
    refine lv_if_eq (tgt := 28) hx hb dX4_locate_23 (by decide) (fun hc => ?_) (fun hc => ?_)
    · have hw := hw.1 (hc)
      refine lv_aload_n hx hb dX4_locate_28 rfl (lv_at hl 0 rfl) ?_
      have hPc := hP.sub (ws' := (wMod ad cI cJ cZ mre_6 mth mxs mys mcu mnx mpo mpn mrn mrd mfi mar mfn mfa mnu mst)) [0, 1, 2, 3, 4, 5, 6, 7, 8, 9, 10, 11] rfl
      have hDc := hD.sub (ws' := (wMod ad cI cJ cZ mre_6 mth mxs mys mcu mnx mpo mpn mrn mrd mfi mar mfn mfa mnu mst)) [0, 1, 2, 3, 4, 5, 6, 7, 8, 9, 10, 11] (by decide) rfl
      have hFc := va_free (wc := (wMod ad cI cJ cZ mre_6 mth mxs mys mcu mnx mpo mpn mrn mrd mfi mar mfn mfa mnu mst)) hD hS hA [0, 1, 2, 3, 4, 5, 6, 7, 8, 9, 10, 11] rfl
      refine va_callv (va_runV (As := []) (rest := []) C (c_X4_make l dC dI cI cJ cZ ad _ mre_6 mth mxs mys mcu mnx mpo mpn mrn mrd mfi mar mfn mfa mnu mst  hw) (cwV 0 hts gX4_locate_X4_make rfl rfl rfl (by decide +kernel) ⟨Nat.le_of_ble_eq_true rfl, Nat.le_of_ble_eq_true rfl⟩) ⟨fb_rw, va_recv hK hPc (ci := 4) (q0 := 0) rfl rfl, fun U hU hW => ⟨rfl, by rw [hU], by rw [hU]; exact hPc, va_K.moved hW.alike hK, hDc.weaken (fun _ _ _ _ => trivial)⟩⟩ rfl rfl hl.1 rfl (lv_room (Nat.le_of_ble_eq_true rfl)) dX4_locate_29 ⟨Nat.zero_le _, Nat.zero_le _⟩) hS (fun q _ h => hFc q h) hFc (fun uu t H1 locs ht hvm hw hB hz1 hk1 hS => ?_)
      obtain ⟨mcu_7, mnx_8, mpo_9, mpn_10, mrn_11, mrd_12, mfi_13, mar_14, mfn_15, mfa_16, mnu_17⟩ := uu
      obtain ⟨hP1, hD1⟩ := hB
      rw [ht] at hP1
      try dsimp only at hw hP1 hD1
      obtain ⟨hP, hD⟩ := va_join (wr := []) (w1 := (wMod ad cI cJ cZ mre_6 mth mxs mys mcu_7 mnx_8 mpo_9 mpn_10 mrn_11 mrd_12 mfi_13 mar_14 mfn_15 mfa_16 mnu_17 mst)) hP hD [0, 1, 2, 3, 4, 5, 6, 7, 8, 9, 10, 11] [] rfl rfl (by decide) (by decide) hk1 hFc hP1 hD1
      generalize H1 = H at hP hS ⊢
      have hP : va_P (dC, dI) vwCl (wMod ad cI cJ cZ mre_6 mth mxs mys mcu_7 mnx_8 mpo_9 mpn_10 mrn_11 mrd_12 mfi_13 mar_14 mfn_15 mfa_16 mnu_17 mst) H := hP
      have hD : va_D A (wMod ad cI cJ cZ mre_6 mth mxs mys mcu_7 mnx_8 mpo_9 mpn_10 mrn_11 mrd_12 mfi_13 mar_14 mfn_15 mfa_16 mnu_17 mst) := hD
      refine lv_iconst (v := 0) hx hb dX4_locate_32 (by decide) ?_
      refine lv_istore_n (lv' := [(3, .int (0 : Int32)), (0, .ref (ad 0)), (1, .int v1), (2, .int v2)]) hx hb dX4_locate_33 rfl hl (by decide) rfl (fun ls hl => ?_)
      obtain ⟨n29, hw⟩ := hw
      refine l_X4_locate_34 C hK hA (fun w19 ls H locs hl hP hD hS hw => ?_) (fun ls H locs hl hP hD hS hw => ?_) n29 (0 : Int32) ls _ _ (lv_sub hl [1, 2, 3, 0] rfl) hP hD hS hw
      · refine lv_bipush (v := -100) hx hb dX4_locate_50 (by decide) ?_
        refine lv_iload_n hx hb dX4_locate_52 rfl (lv_at hl 1 rfl) ?_
        refine lv_isub hx hb dX4_locate_53 ?_
        rw [← hQ]
        exact W.iret (v := ((-100 : Int32) - w19)) hx hb hr (fun t ht hW => ⟨⟨_, (mre_6, mcu_7, mnx_8, mpo_9, mpn_10, mrn_11, mrd_12, mfi_13, mar_14, mfn_15, mfa_16, mnu_17), rfl, hw, by rw [ht]; exact hP, hD⟩, hS.F ht⟩) hS.2.2 dX4_locate_54
      · refine lv_iconst (v := 0) hx hb dX4_locate_61 (by decide) ?_
        refine lv_istore_n (lv' := [(3, .int (0 : Int32)), (0, .ref (ad 0)), (1, .int v1), (2, .int v2)]) hx hb dX4_locate_62 rfl hl (by decide) rfl (fun ls hl => ?_)
        obtain ⟨n28, hw⟩ := hw
        refine l_X4_locate_63 C hK hA (fun w23 ls H locs hl hP hD hS hw => ?_) (fun ls H locs hl hP hD hS hw => ?_) n28 (0 : Int32) ls _ _ (lv_sub hl [1, 2, 3, 0] rfl) hP hD hS hw
        · refine lv_bipush (v := -2) hx hb dX4_locate_122 (by decide) ?_
          refine lv_iload_n hx hb dX4_locate_124 rfl (lv_at hl 1 rfl) ?_
          refine lv_isub hx hb dX4_locate_125 ?_
          rw [← hQ]
          exact W.iret (v := ((-2 : Int32) - w23)) hx hb hr (fun t ht hW => ⟨⟨_, (mre_6, mcu_7, mnx_8, mpo_9, mpn_10, mrn_11, mrd_12, mfi_13, mar_14, mfn_15, mfa_16, mnu_17), rfl, hw, by rw [ht]; exact hP, hD⟩, hS.F ht⟩) hS.2.2 dX4_locate_126
        · refine lv_aload_n hx hb dX4_locate_133 rfl (lv_at hl 0 rfl) ?_
          refine lv_iload_n hx hb dX4_locate_134 rfl (lv_at hl 1 rfl) ?_
          refine lv_iload_n hx hb dX4_locate_135 rfl (lv_at hl 2 rfl) ?_
          refine lv_iconst (v := -1) hx hb dX4_locate_136 (by decide) ?_
          refine vp_callSi (W.runV (As := [.int v1, .int v2, .int (-1 : Int32)]) (rest := []) C (c_X4_least l dC dI cI cJ cZ ad mre_6 mth mxs mys mcu_7 mnx_8 mpo_9 mpn_10 mrn_11 mrd_12 mfi_13 mar_14 mfn_15 mfa_16 mnu_17 mst v1 v2 (-1 : Int32) hw) (cwV 3 hts gX4_locate_X4_least rfl rfl rfl (by decide +kernel) ⟨Nat.le_of_ble_eq_true rfl, Nat.le_of_ble_eq_true rfl⟩) ⟨fb_ro, va_recv hK hP (ci := 4) (q0 := 0) rfl rfl, fun U hU hW => ⟨rfl, by rw [hU]; exact hP, va_K.moved hW.alike hK⟩⟩ rfl rfl hl.1 rfl (lv_room (Nat.le_of_ble_eq_true rfl)) dX4_locate_137 ⟨Nat.zero_le _, Nat.zero_le _⟩) (fun r24 hw => ?_)
          refine lv_istore_n (lv' := [(3, .int r24), (0, .ref (ad 0)), (1, .int v1), (2, .int v2)]) hx hb dX4_locate_140 rfl hl (by decide) rfl (fun ls hl => ?_)
          refine lv_iload_n hx hb dX4_locate_141 rfl (lv_at hl 0 rfl) ?_
          refine jn1_use (J := fun (k25 : Int32) => ∀ (ls : Array Slot) (H : Heap) (locs : List Loc), lv_has ls 4 [(0, .ref (ad 0))] → va_P (dC, dI) vwCl (wMod ad cI cJ cZ mre_6 mth mxs mys mcu_7 mnx_8 mpo_9 mpn_10 mrn_11 mrd_12 mfi_13 mar_14 mfn_15 mfa_16 mnu_17 mst) H → va_D A (wMod ad cI cJ cZ mre_6 mth mxs mys mcu_7 mnx_8 mpo_9 mpn_10 mrn_11 mrd_12 mfi_13 mar_14 mfn_15 mfa_16 mnu_17 mst) → va_S A s.heap H locs → W p l e rm_X4_locate s m args below meth c H locs 0 0 Q (F0 m 155 ls [.int k25])) hw (fun k25 hw ls H locs hl hP hD hS => ?_) (fun hw hj0 => ?_)
          · rw [← hQ]
            exact W.iret (v := k25) hx hb hr (fun t ht hW => ⟨⟨_, (mre_6, mcu_7, mnx_8, mpo_9, mpn_10, mrn_11, mrd_12, mfi_13, mar_14, mfn_15, mfa_16, mnu_17), rfl, hw, by rw [ht]; exact hP, hD⟩, hS.F ht⟩) hS.2.2 dX4_locate_155
          · have hj27 := hj0
            refine lv_if_ge (tgt := 149) hx hb dX4_locate_142 (by decide) (fun hc => ?_) (fun hc => ?_)
            · have hw := hw.1 (hc)
              refine lv_aload_n hx hb dX4_locate_149 rfl (lv_at hl 1 rfl) ?_
              refine va_get (D := (dC, dI)) (ci := 4) (v := .ref (ad 9)) (C := RX4) (T := TX4) (N := 16) hx hb hts f_X4_locate_1 hown hK hP 0 rfl rfl 13 (by decide) (hts _ f_X4_locate_4) (fun _ h9 => h9) rfl dX4_locate_150 ?_
              refine lv_iload_n hx hb dX4_locate_153 rfl (lv_at hl 0 rfl) ?_
              have hi := hw.1
              have hw := hw.2
              refine va_iald hx hb hK hP 9 0 rfl rfl hi dX4_locate_154 ?_
              exact hj27 (mfa_16 r24.toNatClampNeg) hw ls _ _ (lv_sub hl [1] rfl) hP hD hS
            · have hw := hw.2 hc
              refine lv_iconst (v := 0) hx hb dX4_locate_145 (by decide) ?_
              refine lv_goto (tgt := 155) hx hb dX4_locate_146 (by decide) ?_
              exact hj27 (0 : Int32) hw ls _ _ (lv_sub hl [1] rfl) hP hD hS
    · have hw := hw.2 hc
      refine lv_iconst (v := 0) hx hb dX4_locate_26 (by decide) ?_
      rw [← hQ]
      exact W.iret (v := (0 : Int32)) hx hb hr (fun t ht hW => ⟨⟨_, (mre_6, mcu, mnx, mpo, mpn, mrn, mrd, mfi, mar, mfn, mfa, mnu), rfl, hw, by rw [ht]; exact hP, hD⟩, hS.F ht⟩) hS.2.2 dX4_locate_27
  · have hj4 := hj0
    refine jn0_use (J := ∀ (ls : Array Slot) (H : Heap) (locs : List Loc), lv_has ls 4 [(0, .ref (ad 0)), (1, .int v1), (2, .int v2)] → va_P (dC, dI) vwCl (wMod ad cI cJ cZ mre mth mxs mys mcu mnx mpo mpn mrn mrd mfi mar mfn mfa mnu mst) H → va_D A (wMod ad cI cJ cZ mre mth mxs mys mcu mnx mpo mpn mrn mrd mfi mar mfn mfa mnu mst) → va_S A s.heap H locs → W p l e rm_X4_locate s m args below meth c H locs 0 0 Q (F0 m 19 ls [.ref (ad 0)])) hw (fun hw ls H locs hl hP hD hS => ?_) (fun hw hj0 => ?_)
    · refine lv_iconst (v := 1) hx hb dX4_locate_19 (by decide) ?_
      exact hj4 (1 : Int32) hw ls _ _ (lv_sub hl [0, 1, 2] rfl) hP hD hS
    · have hj31 := hj0
      refine lv_if_eq (tgt := 19) hx hb dX4_locate_5 (by decide) (fun hc => ?_) (fun hc => ?_)
      · have hw := hw.1 (hc)
        exact hj31 hw ls _ _ (lv_sub hl [0, 1, 2] rfl) hP hD hS
      · have hw := hw.2 hc
        refine lv_iload_n hx hb dX4_locate_8 rfl (lv_at hl 2 rfl) ?_
        refine vp_callSi (W.runS (As := [.int v2]) (rest := [.ref (ad 0)]) C (c_X4_isIn l v2 hw) (va_cwS 1 hts gX4_locate_X4_isIn rfl rfl rfl (by decide +kernel) ⟨Nat.le_of_ble_eq_true rfl, Nat.le_of_ble_eq_true rfl⟩) ⟨fb_st, fun U hU hW => ⟨rfl, trivial⟩⟩ rfl rfl hl.1 rfl (lv_room (Nat.le_of_ble_eq_true rfl)) dX4_locate_9 ⟨Nat.zero_le _, Nat.zero_le _⟩) (fun r32 hw => ?_)
        refine lv_if_eq (tgt := 19) hx hb dX4_locate_12 (by decide) (fun hc => ?_) (fun hc => ?_)
        · have hw := hw.1 (hc)
          exact hj31 hw ls _ _ (lv_sub hl [0, 1, 2] rfl) hP hD hS
        · have hw := hw.2 hc
          refine lv_iconst (v := 0) hx hb dX4_locate_15 (by decide) ?_
          refine lv_goto (tgt := 20) hx hb dX4_locate_16 (by decide) ?_
          exact hj4 (0 : Int32) hw ls _ _ (lv_sub hl [0, 1, 2] rfl) hP hD hS
-- X4_height
abbrev rm_X4_height : Room := { frames := 1, cells := 0, slots := 0, locals := 20 }
theorem f_X4_height_0 : (Cond.fieldLink RX4 13 "PlaneFacesModel" "xs" "[I") ∈ wsX4_height := by decide +kernel
theorem f_X4_height_1 : ∀ w ∈ wsX40, w ∈ wsX4_height := by decide +kernel
theorem f_X4_height_2 : (Cond.fieldLink RX4 17 "PlaneFacesModel" "ys" "[I") ∈ wsX4_height := by decide +kernel
theorem f_X4_height_3 : (Cond.constantLong RX4 140 (-100000)) ∈ wsX4_height := by decide +kernel
set_option maxRecDepth 100000 in
set_option maxHeartbeats 4000000 in
theorem c_X4_height (l : Launch) (dC : Nat → ClassId) (dI : Nat → Nat → Nat) (cI cJ cZ : ClassId) (ad : Nat → Nat) (mre : Int32) (mth : Nat → Int32) (mxs : Nat → Int32) (mys : Nat → Int32) (mcu : Int32) (mnx : Nat → Int32) (mpo : Nat → Int32) (mpn : Int32) (mrn : Int32) (mrd : Nat → Int32) (mfi : Nat → Int32) (mar : Nat → Int64) (mfn : Int32) (mfa : Nat → Int32) (mnu : Nat → Int32) (mst : Nat → Int32) (v1 : Int32) (v2 : Int32) (v3 : Int32) {post : Int64 → Prop} (hw : wp_X4_height mxs mys v1 v2 v3 post) : Met l yX4_height wsX4_height rm_X4_height (va_Pc [.ref (ad 0), .int v1, .int v2, .int v3] (fun U => va_P (dC, dI) vwCl (wMod ad cI cJ cZ mre mth mxs mys mcu mnx mpo mpn mrn mrd mfi mar mfn mfa mnu mst) U.heap ∧ va_K (dC, dI) vwCl (tyL cI cJ cZ) U)) (vp_Sl post) 0 0 (fun _ => False) := by
  unfold wp_X4_height at hw
  refine Met.ofW (cc := cX4_height) (maxL := 8) (ret := (some .long)) (by decide) rfl ?_
  intro p e s m args below meth c s₁ B hml hv
  obtain ⟨hav, hP, hK⟩ := hv
  have hx := B.exec
  have hb := B.bytes
  have hr := B.returns
  have hts := atoms_spec (ws := wsX4_height) B.pre
  have hown : s.vm.findClass RX4 = some m.cls := findClass_of_methodNamed B.named
  have hlocks := B.notSynchronized
  have C : CallFix p m c cX4_height 8 s args wsX4_height RX4 := ⟨hx, hb, hml, hown, hts⟩
  obtain ⟨ls, hE, hl⟩ := mx_entry (m := m) [.ref (ad 0), .int v1, .int v2, .int v3] (n := 8) (Nat.le_of_ble_eq_true rfl)
  have hl : lv_has ls 8 [(0, .ref (ad 0)), (1, .int v1), (2, .int v2), (3, .int v3)] := hl
  rw [show entryFrame m args 8 = F0 m 0 ls [] by rw [hav]; exact hE]
  obtain ⟨Q, hQ⟩ : ∃ Q, MQ below (vp_Sl post) args s 0 0 (fun _ => False) = Q := ⟨_, rfl⟩
  rw [hQ]
  obtain ⟨H, hH⟩ : ∃ H, s.heap = H := ⟨_, rfl⟩
  rw [hH]
  rw [hH] at hP
  show W p l e rm_X4_height s m args below meth c H [] 0 0 Q (F0 m 0 ls [])
  refine lv_aload_n hx hb dX4_height_0 rfl (lv_at hl 0 rfl) ?_
  refine va_get (D := (dC, dI)) (ci := 4) (v := .ref (ad 2)) (C := RX4) (T := TX4) (N := 16) hx hb hts f_X4_height_1 hown hK hP 0 rfl rfl 2 (by decide) (hts _ f_X4_height_0) (fun _ h9 => h9) rfl dX4_height_1 ?_
  refine lv_iconst (v := 2) hx hb dX4_height_4 (by decide) ?_
  refine lv_iload_n hx hb dX4_height_5 rfl (lv_at hl 1 rfl) ?_
  refine lv_imul hx hb dX4_height_6 ?_
  have hi := hw.1
  have hw := hw.2
  refine va_iald hx hb hK hP 2 0 rfl rfl hi dX4_height_7 ?_
  refine lv_aload_n hx hb dX4_height_8 rfl (lv_at hl 0 rfl) ?_
  refine va_get (D := (dC, dI)) (ci := 4) (v := .ref (ad 2)) (C := RX4) (T := TX4) (N := 16) hx hb hts f_X4_height_1 hown hK hP 0 rfl rfl 2 (by decide) (hts _ f_X4_height_0) (fun _ h9 => h9) rfl dX4_height_9 ?_
  refine lv_iconst (v := 2) hx hb dX4_height_12 (by decide) ?_
  refine lv_iload_n hx hb dX4_height_13 rfl (lv_at hl 1 rfl) ?_
  refine lv_imul hx hb dX4_height_14 ?_
  refine lv_iconst (v := 1) hx hb dX4_height_15 (by decide) ?_
  refine lv_iadd hx hb dX4_height_16 ?_
  have hi := hw.1
  have hw := hw.2
  refine va_iald hx hb hK hP 2 0 rfl rfl hi dX4_height_17 ?_
  refine jn1_use (J := fun (k1 : Int32) => ∀ ls : Array Slot, lv_has ls 8 [(0, .ref (ad 0)), (2, .int v2), (3, .int v3)] → W p l e rm_X4_height s m args below meth c H [] 0 0 Q (F0 m 32 ls [.int k1])) hw (fun k1 hw ls hl => ?_) (fun hw hj0 => ?_)
  · refine lv_istore (lv' := [(4, .int k1), (0, .ref (ad 0)), (2, .int v2), (3, .int v3)]) hx hb dX4_height_32 hl (by decide) rfl (fun ls hl => ?_)
    refine lv_iload hx hb dX4_height_34 (lv_at hl 0 rfl) ?_
    refine vp_callSi (W.runS (As := [.int k1]) (rest := []) C (c_X4_back l k1 hw) (va_cwS 1 hts gX4_height_X4_back rfl rfl rfl (by decide +kernel) ⟨Nat.le_of_ble_eq_true rfl, Nat.le_of_ble_eq_true rfl⟩) ⟨fb_st, fun U hU hW => ⟨rfl, trivial⟩⟩ rfl rfl hl.1 rfl (lv_room (Nat.le_of_ble_eq_true rfl)) dX4_height_36 ⟨Nat.zero_le _, Nat.zero_le _⟩) (fun r4 hw => ?_)
    refine lv_istore (lv' := [(5, .int r4), (4, .int k1), (0, .ref (ad 0)), (2, .int v2), (3, .int v3)]) hx hb dX4_height_39 hl (by decide) rfl (fun ls hl => ?_)
    refine lv_aload_n hx hb dX4_height_41 rfl (lv_at hl 2 rfl) ?_
    refine va_get (D := (dC, dI)) (ci := 4) (v := .ref (ad 2)) (C := RX4) (T := TX4) (N := 16) hx hb hts f_X4_height_1 hown hK hP 0 rfl rfl 2 (by decide) (hts _ f_X4_height_0) (fun _ h9 => h9) rfl dX4_height_42 ?_
    refine lv_iload hx hb dX4_height_45 (lv_at hl 1 rfl) ?_
    have hi := hw.1
    have hw := hw.2
    refine va_iald hx hb hK hP 2 0 rfl rfl hi dX4_height_47 ?_
    refine lv_aload_n hx hb dX4_height_48 rfl (lv_at hl 2 rfl) ?_
    refine va_get (D := (dC, dI)) (ci := 4) (v := .ref (ad 2)) (C := RX4) (T := TX4) (N := 16) hx hb hts f_X4_height_1 hown hK hP 0 rfl rfl 2 (by decide) (hts _ f_X4_height_0) (fun _ h9 => h9) rfl dX4_height_49 ?_
    refine lv_iload hx hb dX4_height_52 (lv_at hl 0 rfl) ?_
    have hi := hw.1
    have hw := hw.2
    refine va_iald hx hb hK hP 2 0 rfl rfl hi dX4_height_54 ?_
    refine lv_icmp_ne (tgt := 157) hx hb dX4_height_55 (by decide) (fun hc => ?_) (fun hc => ?_)
    · have hw := hw.2 hc
      refine lv_aload_n hx hb dX4_height_157 rfl (lv_at hl 2 rfl) ?_
      refine va_get (D := (dC, dI)) (ci := 4) (v := .ref (ad 3)) (C := RX4) (T := TX4) (N := 16) hx hb hts f_X4_height_1 hown hK hP 0 rfl rfl 3 (by decide) (hts _ f_X4_height_2) (fun _ h9 => h9) rfl dX4_height_158 ?_
      refine lv_iload hx hb dX4_height_161 (lv_at hl 1 rfl) ?_
      have hi := hw.1
      have hw := hw.2
      refine va_iald hx hb hK hP 3 0 rfl rfl hi dX4_height_163 ?_
      refine lv_i2l hx hb dX4_height_164 rfl ?_
      refine lv_aload_n hx hb dX4_height_165 rfl (lv_at hl 2 rfl) ?_
      refine va_get (D := (dC, dI)) (ci := 4) (v := .ref (ad 2)) (C := RX4) (T := TX4) (N := 16) hx hb hts f_X4_height_1 hown hK hP 0 rfl rfl 2 (by decide) (hts _ f_X4_height_0) (fun _ h9 => h9) rfl dX4_height_166 ?_
      refine lv_iload hx hb dX4_height_169 (lv_at hl 0 rfl) ?_
      have hi := hw.1
      have hw := hw.2
      refine va_iald hx hb hK hP 2 0 rfl rfl hi dX4_height_171 ?_
      refine lv_aload_n hx hb dX4_height_172 rfl (lv_at hl 2 rfl) ?_
      refine va_get (D := (dC, dI)) (ci := 4) (v := .ref (ad 2)) (C := RX4) (T := TX4) (N := 16) hx hb hts f_X4_height_1 hown hK hP 0 rfl rfl 2 (by decide) (hts _ f_X4_height_0) (fun _ h9 => h9) rfl dX4_height_173 ?_
      refine lv_iload hx hb dX4_height_176 (lv_at hl 1 rfl) ?_
      have hi := hw.1
      have hw := hw.2
      refine va_iald hx hb hK hP 2 0 rfl rfl hi dX4_height_178 ?_
      refine lv_isub hx hb dX4_height_179 ?_
      refine lv_i2l hx hb dX4_height_180 rfl ?_
      refine lv_lmul hx hb dX4_height_181 ?_
      refine lv_aload_n hx hb dX4_height_182 rfl (lv_at hl 2 rfl) ?_
      refine va_get (D := (dC, dI)) (ci := 4) (v := .ref (ad 3)) (C := RX4) (T := TX4) (N := 16) hx hb hts f_X4_height_1 hown hK hP 0 rfl rfl 3 (by decide) (hts _ f_X4_height_2) (fun _ h9 => h9) rfl dX4_height_183 ?_
      refine lv_iload hx hb dX4_height_186 (lv_at hl 0 rfl) ?_
      have hi := hw.1
      have hw := hw.2
      refine va_iald hx hb hK hP 3 0 rfl rfl hi dX4_height_188 ?_
      refine lv_aload_n hx hb dX4_height_189 rfl (lv_at hl 2 rfl) ?_
      refine va_get (D := (dC, dI)) (ci := 4) (v := .ref (ad 3)) (C := RX4) (T := TX4) (N := 16) hx hb hts f_X4_height_1 hown hK hP 0 rfl rfl 3 (by decide) (hts _ f_X4_height_2) (fun _ h9 => h9) rfl dX4_height_190 ?_
      refine lv_iload hx hb dX4_height_193 (lv_at hl 1 rfl) ?_
      have hi := hw.1
      have hw := hw.2
      refine va_iald hx hb hK hP 3 0 rfl rfl hi dX4_height_195 ?_
      refine lv_isub hx hb dX4_height_196 ?_
      refine lv_i2l hx hb dX4_height_197 rfl ?_
      refine lv_iload_n hx hb dX4_height_198 rfl (lv_at hl 3 rfl) ?_
      refine lv_aload_n hx hb dX4_height_199 rfl (lv_at hl 2 rfl) ?_
      refine va_get (D := (dC, dI)) (ci := 4) (v := .ref (ad 2)) (C := RX4) (T := TX4) (N := 16) hx hb hts f_X4_height_1 hown hK hP 0 rfl rfl 2 (by decide) (hts _ f_X4_height_0) (fun _ h9 => h9) rfl dX4_height_200 ?_
      refine lv_iload hx hb dX4_height_203 (lv_at hl 1 rfl) ?_
      have hi := hw.1
      have hw := hw.2
      refine va_iald hx hb hK hP 2 0 rfl rfl hi dX4_height_205 ?_
      refine lv_isub hx hb dX4_height_206 ?_
      refine lv_i2l hx hb dX4_height_207 rfl ?_
      refine lv_lmul hx hb dX4_height_208 ?_
      refine lv_ladd hx hb dX4_height_209 ?_
      rw [← hQ]
      exact W.lret (v := (((mys k1.toNatClampNeg).toInt64 * ((mxs r4.toNatClampNeg) - (mxs k1.toNatClampNeg)).toInt64) + (((mys r4.toNatClampNeg) - (mys k1.toNatClampNeg)).toInt64 * (v2 - (mxs k1.toNatClampNeg)).toInt64))) hx hb hr (fun t ht hW => ⟨_, rfl, hw, ht.trans hH.symm⟩) (fun q h => by cases h) dX4_height_210
    · have hw := hw.1 (hc)
      refine lv_aload_n hx hb dX4_height_58 rfl (lv_at hl 2 rfl) ?_
      refine va_get (D := (dC, dI)) (ci := 4) (v := .ref (ad 3)) (C := RX4) (T := TX4) (N := 16) hx hb hts f_X4_height_1 hown hK hP 0 rfl rfl 3 (by decide) (hts _ f_X4_height_2) (fun _ h9 => h9) rfl dX4_height_59 ?_
      refine lv_iload hx hb dX4_height_62 (lv_at hl 1 rfl) ?_
      have hi := hw.1
      have hw := hw.2
      refine va_iald hx hb hK hP 3 0 rfl rfl hi dX4_height_64 ?_
      refine lv_aload_n hx hb dX4_height_65 rfl (lv_at hl 2 rfl) ?_
      refine va_get (D := (dC, dI)) (ci := 4) (v := .ref (ad 3)) (C := RX4) (T := TX4) (N := 16) hx hb hts f_X4_height_1 hown hK hP 0 rfl rfl 3 (by decide) (hts _ f_X4_height_2) (fun _ h9 => h9) rfl dX4_height_66 ?_
      refine lv_iload hx hb dX4_height_69 (lv_at hl 0 rfl) ?_
      have hi := hw.1
      have hw := hw.2
      refine va_iald hx hb hK hP 3 0 rfl rfl hi dX4_height_71 ?_
      refine jn1_use (J := fun (k5 : Int32) => ∀ ls : Array Slot, lv_has ls 8 [(0, .ref (ad 0)), (3, .int v3), (4, .int k1), (5, .int r4)] → W p l e rm_X4_height s m args below meth c H [] 0 0 Q (F0 m 92 ls [.int k5])) hw (fun k5 hw ls hl => ?_) (fun hw hj0 => ?_)
      · refine lv_istore (lv' := [(6, .int k5), (0, .ref (ad 0)), (3, .int v3), (4, .int k1), (5, .int r4)]) hx hb dX4_height_92 hl (by decide) rfl (fun ls hl => ?_)
        refine lv_aload_n hx hb dX4_height_94 rfl (lv_at hl 1 rfl) ?_
        refine va_get (D := (dC, dI)) (ci := 4) (v := .ref (ad 3)) (C := RX4) (T := TX4) (N := 16) hx hb hts f_X4_height_1 hown hK hP 0 rfl rfl 3 (by decide) (hts _ f_X4_height_2) (fun _ h9 => h9) rfl dX4_height_95 ?_
        refine lv_iload hx hb dX4_height_98 (lv_at hl 3 rfl) ?_
        have hi := hw.1
        have hw := hw.2
        refine va_iald hx hb hK hP 3 0 rfl rfl hi dX4_height_100 ?_
        refine lv_aload_n hx hb dX4_height_101 rfl (lv_at hl 1 rfl) ?_
        refine va_get (D := (dC, dI)) (ci := 4) (v := .ref (ad 3)) (C := RX4) (T := TX4) (N := 16) hx hb hts f_X4_height_1 hown hK hP 0 rfl rfl 3 (by decide) (hts _ f_X4_height_2) (fun _ h9 => h9) rfl dX4_height_102 ?_
        refine lv_iload hx hb dX4_height_105 (lv_at hl 4 rfl) ?_
        have hi := hw.1
        have hw := hw.2
        refine va_iald hx hb hK hP 3 0 rfl rfl hi dX4_height_107 ?_
        refine jn1_use (J := fun (k8 : Int32) => ∀ ls : Array Slot, lv_has ls 8 [(0, .ref (ad 0)), (3, .int v3), (6, .int k5)] → W p l e rm_X4_height s m args below meth c H [] 0 0 Q (F0 m 128 ls [.int k8])) hw (fun k8 hw ls hl => ?_) (fun hw hj0 => ?_)
        · refine lv_istore (lv' := [(7, .int k8), (0, .ref (ad 0)), (3, .int v3), (6, .int k5)]) hx hb dX4_height_128 hl (by decide) rfl (fun ls hl => ?_)
          refine lv_iload hx hb dX4_height_130 (lv_at hl 3 rfl) ?_
          refine lv_iload_n hx hb dX4_height_132 rfl (lv_at hl 2 rfl) ?_
          refine jn1_use (J := fun (k11 : Int64) => ∀ ls : Array Slot, lv_has ls 8 [(0, .ref (ad 0))] → W p l e rm_X4_height s m args below meth c H [] 0 0 Q (F0 m 156 ls [.long k11])) hw (fun k11 hw ls hl => ?_) (fun hw hj0 => ?_)
          · rw [← hQ]
            exact W.lret (v := k11) hx hb hr (fun t ht hW => ⟨_, rfl, hw, ht.trans hH.symm⟩) (fun q h => by cases h) dX4_height_156
          · have hj13 := hj0
            refine lv_icmp_le (tgt := 142) hx hb dX4_height_133 (by decide) (fun hc => ?_) (fun hc => ?_)
            · have hw := hw.1 (hc)
              refine lv_iload hx hb dX4_height_142 (lv_at hl 0 rfl) ?_
              refine lv_iload_n hx hb dX4_height_144 rfl (lv_at hl 2 rfl) ?_
              refine lv_icmp_le (tgt := 153) hx hb dX4_height_145 (by decide) (fun hc => ?_) (fun hc => ?_)
              · have hw := hw.1 (hc)
                refine lv_ldc2 (v := -100000) hx hb hown (hts _ f_X4_height_3) dX4_height_153 ?_
                exact hj13 (-100000 : Int64) hw ls (lv_sub hl [1] rfl)
              · have hw := hw.2 hc
                refine lv_iload_n hx hb dX4_height_148 rfl (lv_at hl 2 rfl) ?_
                refine lv_i2l hx hb dX4_height_149 rfl ?_
                refine lv_goto (tgt := 156) hx hb dX4_height_150 (by decide) ?_
                exact hj13 (v3.toInt64) hw ls (lv_sub hl [1] rfl)
            · have hw := hw.2 hc
              refine lv_iload hx hb dX4_height_136 (lv_at hl 3 rfl) ?_
              refine lv_i2l hx hb dX4_height_138 rfl ?_
              refine lv_goto (tgt := 156) hx hb dX4_height_139 (by decide) ?_
              exact hj13 (k5.toInt64) hw ls (lv_sub hl [1] rfl)
        · have hj10 := hj0
          refine lv_icmp_ge (tgt := 121) hx hb dX4_height_108 (by decide) (fun hc => ?_) (fun hc => ?_)
          · have hw := hw.1 (hc)
            refine lv_aload_n hx hb dX4_height_121 rfl (lv_at hl 1 rfl) ?_
            refine va_get (D := (dC, dI)) (ci := 4) (v := .ref (ad 3)) (C := RX4) (T := TX4) (N := 16) hx hb hts f_X4_height_1 hown hK hP 0 rfl rfl 3 (by decide) (hts _ f_X4_height_2) (fun _ h9 => h9) rfl dX4_height_122 ?_
            refine lv_iload hx hb dX4_height_125 (lv_at hl 3 rfl) ?_
            have hi := hw.1
            have hw := hw.2
            refine va_iald hx hb hK hP 3 0 rfl rfl hi dX4_height_127 ?_
            exact hj10 (mys k1.toNatClampNeg) hw ls (lv_sub hl [1, 2, 0] rfl)
          · have hw := hw.2 hc
            refine lv_aload_n hx hb dX4_height_111 rfl (lv_at hl 1 rfl) ?_
            refine va_get (D := (dC, dI)) (ci := 4) (v := .ref (ad 3)) (C := RX4) (T := TX4) (N := 16) hx hb hts f_X4_height_1 hown hK hP 0 rfl rfl 3 (by decide) (hts _ f_X4_height_2) (fun _ h9 => h9) rfl dX4_height_112 ?_
            refine lv_iload hx hb dX4_height_115 (lv_at hl 4 rfl) ?_
            have hi := hw.1
            have hw := hw.2
            refine va_iald hx hb hK hP 3 0 rfl rfl hi dX4_height_117 ?_
            refine lv_goto (tgt := 128) hx hb dX4_height_118 (by decide) ?_
            exact hj10 (mys r4.toNatClampNeg) hw ls (lv_sub hl [1, 2, 0] rfl)
      · have hj7 := hj0
        refine lv_icmp_ge (tgt := 85) hx hb dX4_height_72 (by decide) (fun hc => ?_) (fun hc => ?_)
        · have hw := hw.1 (hc)
          refine lv_aload_n hx hb dX4_height_85 rfl (lv_at hl 2 rfl) ?_
          refine va_get (D := (dC, dI)) (ci := 4) (v := .ref (ad 3)) (C := RX4) (T := TX4) (N := 16) hx hb hts f_X4_height_1 hown hK hP 0 rfl rfl 3 (by decide) (hts _ f_X4_height_2) (fun _ h9 => h9) rfl dX4_height_86 ?_
          refine lv_iload hx hb dX4_height_89 (lv_at hl 0 rfl) ?_
          have hi := hw.1
          have hw := hw.2
          refine va_iald hx hb hK hP 3 0 rfl rfl hi dX4_height_91 ?_
          exact hj7 (mys r4.toNatClampNeg) hw ls (lv_sub hl [2, 4, 1, 0] rfl)
        · have hw := hw.2 hc
          refine lv_aload_n hx hb dX4_height_75 rfl (lv_at hl 2 rfl) ?_
          refine va_get (D := (dC, dI)) (ci := 4) (v := .ref (ad 3)) (C := RX4) (T := TX4) (N := 16) hx hb hts f_X4_height_1 hown hK hP 0 rfl rfl 3 (by decide) (hts _ f_X4_height_2) (fun _ h9 => h9) rfl dX4_height_76 ?_
          refine lv_iload hx hb dX4_height_79 (lv_at hl 1 rfl) ?_
          have hi := hw.1
          have hw := hw.2
          refine va_iald hx hb hK hP 3 0 rfl rfl hi dX4_height_81 ?_
          refine lv_goto (tgt := 92) hx hb dX4_height_82 (by decide) ?_
          exact hj7 (mys k1.toNatClampNeg) hw ls (lv_sub hl [2, 4, 1, 0] rfl)
  · have hj3 := hj0
    refine lv_icmp_ge (tgt := 27) hx hb dX4_height_18 (by decide) (fun hc => ?_) (fun hc => ?_)
    · have hw := hw.1 (hc)
      refine lv_iconst (v := 2) hx hb dX4_height_27 (by decide) ?_
      refine lv_iload_n hx hb dX4_height_28 rfl (lv_at hl 1 rfl) ?_
      refine lv_imul hx hb dX4_height_29 ?_
      refine lv_iconst (v := 1) hx hb dX4_height_30 (by decide) ?_
      refine lv_iadd hx hb dX4_height_31 ?_
      exact hj3 (((2 : Int32) * v1) + (1 : Int32)) hw ls (lv_sub hl [0, 2, 3] rfl)
    · have hw := hw.2 hc
      refine lv_iconst (v := 2) hx hb dX4_height_21 (by decide) ?_
      refine lv_iload_n hx hb dX4_height_22 rfl (lv_at hl 1 rfl) ?_
      refine lv_imul hx hb dX4_height_23 ?_
      refine lv_goto (tgt := 32) hx hb dX4_height_24 (by decide) ?_
      exact hj3 ((2 : Int32) * v1) hw ls (lv_sub hl [0, 2, 3] rfl)
-- X4_width
abbrev rm_X4_width : Room := { frames := 0, cells := 0, slots := 0, locals := 0 }
theorem f_X4_width_0 : (Cond.fieldLink RX4 13 "PlaneFacesModel" "xs" "[I") ∈ wsX4_width := by decide +kernel
theorem f_X4_width_1 : ∀ w ∈ wsX40, w ∈ wsX4_width := by decide +kernel
set_option maxRecDepth 100000 in
set_option maxHeartbeats 4000000 in
theorem c_X4_width (l : Launch) (dC : Nat → ClassId) (dI : Nat → Nat → Nat) (cI cJ cZ : ClassId) (ad : Nat → Nat) (mre : Int32) (mth : Nat → Int32) (mxs : Nat → Int32) (mys : Nat → Int32) (mcu : Int32) (mnx : Nat → Int32) (mpo : Nat → Int32) (mpn : Int32) (mrn : Int32) (mrd : Nat → Int32) (mfi : Nat → Int32) (mar : Nat → Int64) (mfn : Int32) (mfa : Nat → Int32) (mnu : Nat → Int32) (mst : Nat → Int32) (v1 : Int32) {post : Int64 → Prop} (hw : wp_X4_width mxs v1 post) : Met l yX4_width wsX4_width rm_X4_width (va_Pc [.ref (ad 0), .int v1] (fun U => va_P (dC, dI) vwCl (wMod ad cI cJ cZ mre mth mxs mys mcu mnx mpo mpn mrn mrd mfi mar mfn mfa mnu mst) U.heap ∧ va_K (dC, dI) vwCl (tyL cI cJ cZ) U)) (vp_Sl post) 0 0 (fun _ => False) := by
  unfold wp_X4_width at hw
  refine Met.ofW (cc := cX4_width) (maxL := 3) (ret := (some .long)) (by decide) rfl ?_
  intro p e s m args below meth c s₁ B hml hv
  obtain ⟨hav, hP, hK⟩ := hv
  have hx := B.exec
  have hb := B.bytes
  have hr := B.returns
  have hts := atoms_spec (ws := wsX4_width) B.pre
  have hown : s.vm.findClass RX4 = some m.cls := findClass_of_methodNamed B.named
  have hlocks := B.notSynchronized
  have C : CallFix p m c cX4_width 3 s args wsX4_width RX4 := ⟨hx, hb, hml, hown, hts⟩
  obtain ⟨ls, hE, hl⟩ := mx_entry (m := m) [.ref (ad 0), .int v1] (n := 3) (Nat.le_of_ble_eq_true rfl)
  have hl : lv_has ls 3 [(0, .ref (ad 0)), (1, .int v1)] := hl
  rw [show entryFrame m args 3 = F0 m 0 ls [] by rw [hav]; exact hE]
  obtain ⟨Q, hQ⟩ : ∃ Q, MQ below (vp_Sl post) args s 0 0 (fun _ => False) = Q := ⟨_, rfl⟩
  rw [hQ]
  obtain ⟨H, hH⟩ : ∃ H, s.heap = H := ⟨_, rfl⟩
  rw [hH]
  rw [hH] at hP
  show W p l e rm_X4_width s m args below meth c H [] 0 0 Q (F0 m 0 ls [])
  refine lv_aload_n hx hb dX4_width_0 rfl (lv_at hl 0 rfl) ?_
  refine va_get (D := (dC, dI)) (ci := 4) (v := .ref (ad 2)) (C := RX4) (T := TX4) (N := 16) hx hb hts f_X4_width_1 hown hK hP 0 rfl rfl 2 (by decide) (hts _ f_X4_width_0) (fun _ h9 => h9) rfl dX4_width_1 ?_
  refine lv_iconst (v := 2) hx hb dX4_width_4 (by decide) ?_
  refine lv_iload_n hx hb dX4_width_5 rfl (lv_at hl 1 rfl) ?_
  refine lv_imul hx hb dX4_width_6 ?_
  refine lv_iconst (v := 1) hx hb dX4_width_7 (by decide) ?_
  refine lv_iadd hx hb dX4_width_8 ?_
  have hi := hw.1
  have hw := hw.2
  refine va_iald hx hb hK hP 2 0 rfl rfl hi dX4_width_9 ?_
  refine lv_aload_n hx hb dX4_width_10 rfl (lv_at hl 0 rfl) ?_
  refine va_get (D := (dC, dI)) (ci := 4) (v := .ref (ad 2)) (C := RX4) (T := TX4) (N := 16) hx hb hts f_X4_width_1 hown hK hP 0 rfl rfl 2 (by decide) (hts _ f_X4_width_0) (fun _ h9 => h9) rfl dX4_width_11 ?_
  refine lv_iconst (v := 2) hx hb dX4_width_14 (by decide) ?_
  refine lv_iload_n hx hb dX4_width_15 rfl (lv_at hl 1 rfl) ?_
  refine lv_imul hx hb dX4_width_16 ?_
  have hi := hw.1
  have hw := hw.2
  refine va_iald hx hb hK hP 2 0 rfl rfl hi dX4_width_17 ?_
  refine lv_isub hx hb dX4_width_18 ?_
  refine lv_topi (fun a1 ea1 => ?_)
  have hw := hw a1 ea1
  refine lv_istore_n (lv' := [(2, .int a1), (0, .ref (ad 0)), (1, .int v1)]) hx hb dX4_width_19 rfl hl (by decide) rfl (fun ls hl => ?_)
  refine lv_iload_n hx hb dX4_width_20 rfl (lv_at hl 0 rfl) ?_
  refine jn1_use (J := fun (k2 : Int64) => ∀ ls : Array Slot, lv_has ls 3 [(0, .ref (ad 0))] → W p l e rm_X4_width s m args below meth c H [] 0 0 Q (F0 m 40 ls [.long k2])) hw (fun k2 hw ls hl => ?_) (fun hw hj0 => ?_)
  · rw [← hQ]
    exact W.lret (v := k2) hx hb hr (fun t ht hW => ⟨_, rfl, hw, ht.trans hH.symm⟩) (fun q h => by cases h) dX4_width_40
  · have hj4 := hj0
    refine lv_if_ne (tgt := 28) hx hb dX4_width_21 (by decide) (fun hc => ?_) (fun hc => ?_)
    · have hw := hw.2 hc
      refine lv_iload_n hx hb dX4_width_28 rfl (lv_at hl 0 rfl) ?_
      refine lv_if_ge (tgt := 38) hx hb dX4_width_29 (by decide) (fun hc => ?_) (fun hc => ?_)
      · have hw := hw.1 (hc)
        refine lv_iload_n hx hb dX4_width_38 rfl (lv_at hl 0 rfl) ?_
        refine lv_i2l hx hb dX4_width_39 rfl ?_
        exact hj4 (a1.toInt64) hw ls (lv_sub hl [1] rfl)
      · have hw := hw.2 hc
        refine lv_iload_n hx hb dX4_width_32 rfl (lv_at hl 0 rfl) ?_
        refine lv_ineg hx hb dX4_width_33 ?_
        refine lv_i2l hx hb dX4_width_34 rfl ?_
        refine lv_goto (tgt := 40) hx hb dX4_width_35 (by decide) ?_
        exact hj4 ((-a1).toInt64) hw ls (lv_sub hl [1] rfl)
    · have hw := hw.1 (hc)
      refine lv_lconst (v := 1) hx hb dX4_width_24 (by decide) ?_
      refine lv_goto (tgt := 40) hx hb dX4_width_25 (by decide) ?_
      exact hj4 (1 : Int64) hw ls (lv_sub hl [1] rfl)
-- X4_isMet
abbrev rm_X4_isMet : Room := { frames := 2, cells := 0, slots := 0, locals := 47 }
theorem f_X4_isMet_0 : (Cond.fieldLink RX4 13 "PlaneFacesModel" "xs" "[I") ∈ wsX4_isMet := by decide +kernel
theorem f_X4_isMet_1 : ∀ w ∈ wsX40, w ∈ wsX4_isMet := by decide +kernel
set_option maxRecDepth 100000 in
set_option maxHeartbeats 4000000 in
theorem c_X4_isMet (l : Launch) (dC : Nat → ClassId) (dI : Nat → Nat → Nat) (cI cJ cZ : ClassId) (ad : Nat → Nat) (mre : Int32) (mth : Nat → Int32) (mxs : Nat → Int32) (mys : Nat → Int32) (mcu : Int32) (mnx : Nat → Int32) (mpo : Nat → Int32) (mpn : Int32) (mrn : Int32) (mrd : Nat → Int32) (mfi : Nat → Int32) (mar : Nat → Int64) (mfn : Int32) (mfa : Nat → Int32) (mnu : Nat → Int32) (mst : Nat → Int32) (v1 : Int32) (v2 : Int32) (v3 : Int32) {post : Int32 → Prop} (hw : wp_X4_isMet mxs mys v1 v2 v3 post) : Met l yX4_isMet wsX4_isMet rm_X4_isMet (va_Pc [.ref (ad 0), .int v1, .int v2, .int v3] (fun U => va_P (dC, dI) vwCl (wMod ad cI cJ cZ mre mth mxs mys mcu mnx mpo mpn mrn mrd mfi mar mfn mfa mnu mst) U.heap ∧ va_K (dC, dI) vwCl (tyL cI cJ cZ) U)) (vp_Si post) 0 0 (fun _ => False) := by
  unfold wp_X4_isMet at hw
  refine Met.ofW (cc := cX4_isMet) (maxL := 7) (ret := (some .boolean)) (by decide) rfl ?_
  intro p e s m args below meth c s₁ B hml hv
  obtain ⟨hav, hP, hK⟩ := hv
  have hx := B.exec
  have hb := B.bytes
  have hr := B.returns
  have hts := atoms_spec (ws := wsX4_isMet) B.pre
  have hown : s.vm.findClass RX4 = some m.cls := findClass_of_methodNamed B.named
  have hlocks := B.notSynchronized
  have C : CallFix p m c cX4_isMet 7 s args wsX4_isMet RX4 := ⟨hx, hb, hml, hown, hts⟩
  obtain ⟨ls, hE, hl⟩ := mx_entry (m := m) [.ref (ad 0), .int v1, .int v2, .int v3] (n := 7) (Nat.le_of_ble_eq_true rfl)
  have hl : lv_has ls 7 [(0, .ref (ad 0)), (1, .int v1), (2, .int v2), (3, .int v3)] := hl
  rw [show entryFrame m args 7 = F0 m 0 ls [] by rw [hav]; exact hE]
  obtain ⟨Q, hQ⟩ : ∃ Q, MQ below (vp_Si post) args s 0 0 (fun _ => False) = Q := ⟨_, rfl⟩
  rw [hQ]
  obtain ⟨H, hH⟩ : ∃ H, s.heap = H := ⟨_, rfl⟩
  rw [hH]
  rw [hH] at hP
  show W p l e rm_X4_isMet s m args below meth c H [] 0 0 Q (F0 m 0 ls [])
  refine lv_aload_n hx hb dX4_isMet_0 rfl (lv_at hl 0 rfl) ?_
  refine va_get (D := (dC, dI)) (ci := 4) (v := .ref (ad 2)) (C := RX4) (T := TX4) (N := 16) hx hb hts f_X4_isMet_1 hown hK hP 0 rfl rfl 2 (by decide) (hts _ f_X4_isMet_0) (fun _ h9 => h9) rfl dX4_isMet_1 ?_
  refine lv_iconst (v := 2) hx hb dX4_isMet_4 (by decide) ?_
  refine lv_iload_n hx hb dX4_isMet_5 rfl (lv_at hl 1 rfl) ?_
  refine lv_imul hx hb dX4_isMet_6 ?_
  have hi := hw.1
  have hw := hw.2
  refine va_iald hx hb hK hP 2 0 rfl rfl hi dX4_isMet_7 ?_
  refine lv_topi (fun a1 ea1 => ?_)
  have hw := hw a1 ea1
  refine lv_istore (lv' := [(4, .int a1), (0, .ref (ad 0)), (1, .int v1), (2, .int v2), (3, .int v3)]) hx hb dX4_isMet_8 hl (by decide) rfl (fun ls hl => ?_)
  refine lv_aload_n hx hb dX4_isMet_10 rfl (lv_at hl 1 rfl) ?_
  refine va_get (D := (dC, dI)) (ci := 4) (v := .ref (ad 2)) (C := RX4) (T := TX4) (N := 16) hx hb hts f_X4_isMet_1 hown hK hP 0 rfl rfl 2 (by decide) (hts _ f_X4_isMet_0) (fun _ h9 => h9) rfl dX4_isMet_11 ?_
  refine lv_iconst (v := 2) hx hb dX4_isMet_14 (by decide) ?_
  refine lv_iload_n hx hb dX4_isMet_15 rfl (lv_at hl 2 rfl) ?_
  refine lv_imul hx hb dX4_isMet_16 ?_
  refine lv_iconst (v := 1) hx hb dX4_isMet_17 (by decide) ?_
  refine lv_iadd hx hb dX4_isMet_18 ?_
  have hi := hw.1
  have hw := hw.2
  refine va_iald hx hb hK hP 2 0 rfl rfl hi dX4_isMet_19 ?_
  refine lv_topi (fun a2 ea2 => ?_)
  have hw := hw a2 ea2
  refine lv_istore (lv' := [(5, .int a2), (4, .int a1), (0, .ref (ad 0)), (1, .int v1), (2, .int v2), (3, .int v3)]) hx hb dX4_isMet_20 hl (by decide) rfl (fun ls hl => ?_)
  refine lv_iload hx hb dX4_isMet_22 (lv_at hl 1 rfl) ?_
  refine lv_iload hx hb dX4_isMet_24 (lv_at hl 0 rfl) ?_
  refine lv_icmp_ne (tgt := 54) hx hb dX4_isMet_26 (by decide) (fun hc => ?_) (fun hc => ?_)
  · have hw := hw.2 hc
    refine lv_iload hx hb dX4_isMet_54 (lv_at hl 1 rfl) ?_
    refine lv_iload hx hb dX4_isMet_56 (lv_at hl 0 rfl) ?_
    refine jn1_use (J := fun (k3 : Int32) => ∀ ls : Array Slot, lv_has ls 7 [(0, .ref (ad 0)), (1, .int v1), (2, .int v2), (3, .int v3)] → W p l e rm_X4_isMet s m args below meth c H [] 0 0 Q (F0 m 98 ls [.int k3])) hw (fun k3 hw ls hl => ?_) (fun hw hj0 => ?_)
    · refine lv_istore (lv' := [(6, .int k3), (0, .ref (ad 0)), (1, .int v1), (2, .int v2), (3, .int v3)]) hx hb dX4_isMet_98 hl (by decide) rfl (fun ls hl => ?_)
      refine lv_iload hx hb dX4_isMet_100 (lv_at hl 0 rfl) ?_
      refine jn1_use (J := fun (k6 : Int32) => ∀ ls : Array Slot, lv_has ls 7 [(0, .ref (ad 0))] → W p l e rm_X4_isMet s m args below meth c H [] 0 0 Q (F0 m 129 ls [.int k6])) hw (fun k6 hw ls hl => ?_) (fun hw hj0 => ?_)
      · rw [← hQ]
        exact W.zret (v := k6) (ty := .boolean) hx hb hr (bz_n hw.1) (fun t ht hW => ⟨_, rfl, hw.2, ht.trans hH.symm⟩) (fun q h => by cases h) dX4_isMet_129
      · have hj8 := hj0
        refine jn0_use (J := ∀ ls : Array Slot, lv_has ls 7 [(0, .ref (ad 0))] → W p l e rm_X4_isMet s m args below meth c H [] 0 0 Q (F0 m 128 ls [])) hw (fun hw ls hl => ?_) (fun hw hj0 => ?_)
        · refine lv_iconst (v := 0) hx hb dX4_isMet_128 (by decide) ?_
          exact hj8 (0 : Int32) hw ls (lv_sub hl [0] rfl)
        · have hj10 := hj0
          refine lv_if_eq (tgt := 128) hx hb dX4_isMet_102 (by decide) (fun hc => ?_) (fun hc => ?_)
          · have hw := hw.1 (hc)
            exact hj10 hw ls (lv_sub hl [1] rfl)
          · have hw := hw.2 hc
            refine lv_aload_n hx hb dX4_isMet_105 rfl (lv_at hl 1 rfl) ?_
            refine lv_iload_n hx hb dX4_isMet_106 rfl (lv_at hl 2 rfl) ?_
            refine lv_iload_n hx hb dX4_isMet_107 rfl (lv_at hl 3 rfl) ?_
            refine lv_iload_n hx hb dX4_isMet_108 rfl (lv_at hl 4 rfl) ?_
            refine vp_callSl (W.runV (As := [.int v1, .int v2, .int v3]) (rest := []) C (c_X4_height l dC dI cI cJ cZ ad mre mth mxs mys mcu mnx mpo mpn mrn mrd mfi mar mfn mfa mnu mst v1 v2 v3 hw) (cwV 3 hts gX4_isMet_X4_height rfl rfl rfl (by decide +kernel) ⟨Nat.le_of_ble_eq_true rfl, Nat.le_of_ble_eq_true rfl⟩) ⟨fb_ro, va_recv hK hP (ci := 4) (q0 := 0) rfl rfl, fun U hU hW => ⟨rfl, by rw [hU]; exact hP, va_K.moved hW.alike hK⟩⟩ rfl rfl hl.1 rfl (lv_room (Nat.le_of_ble_eq_true rfl)) dX4_isMet_109 ⟨Nat.zero_le _, Nat.zero_le _⟩) (fun r11 hw => ?_)
            refine lv_iload_n hx hb dX4_isMet_112 rfl (lv_at hl 4 rfl) ?_
            refine lv_i2l hx hb dX4_isMet_113 rfl ?_
            refine lv_aload_n hx hb dX4_isMet_114 rfl (lv_at hl 1 rfl) ?_
            refine lv_iload_n hx hb dX4_isMet_115 rfl (lv_at hl 2 rfl) ?_
            refine vp_callSl (W.runV (As := [.int v1]) (rest := [.long v3.toInt64, .long r11]) C (c_X4_width l dC dI cI cJ cZ ad mre mth mxs mys mcu mnx mpo mpn mrn mrd mfi mar mfn mfa mnu mst v1 hw) (cwV 1 hts gX4_isMet_X4_width rfl rfl rfl (by decide +kernel) ⟨Nat.le_of_ble_eq_true rfl, Nat.le_of_ble_eq_true rfl⟩) ⟨fb_ro, va_recv hK hP (ci := 4) (q0 := 0) rfl rfl, fun U hU hW => ⟨rfl, by rw [hU]; exact hP, va_K.moved hW.alike hK⟩⟩ rfl rfl hl.1 rfl (lv_room (Nat.le_of_ble_eq_true rfl)) dX4_isMet_116 ⟨Nat.zero_le _, Nat.zero_le _⟩) (fun r12 hw => ?_)
            refine lv_lmul hx hb dX4_isMet_119 ?_
            refine W.lcmp hx hb dX4_isMet_120 ?_
            refine lv_if_le (tgt := 128) hx hb dX4_isMet_121 (by decide) (fun hc => ?_) (fun hc => ?_)
            · have hw := hw.1 ((lg_cmp_le _ _).mp hc)
              exact hj10 hw ls (lv_sub hl [1] rfl)
            · have hw := hw.2 (fun h9 => hc ((lg_cmp_le _ _).mpr h9))
              refine lv_iconst (v := 1) hx hb dX4_isMet_124 (by decide) ?_
              refine lv_goto (tgt := 129) hx hb dX4_isMet_125 (by decide) ?_
              exact hj8 (1 : Int32) hw ls (lv_sub hl [1] rfl)
    · have hj5 := hj0
      refine lv_icmp_ge (tgt := 81) hx hb dX4_isMet_58 (by decide) (fun hc => ?_) (fun hc => ?_)
      · have hw := hw.1 (hc)
        refine lv_iload_n hx hb dX4_isMet_81 rfl (lv_at hl 4 rfl) ?_
        refine lv_iload hx hb dX4_isMet_82 (lv_at hl 0 rfl) ?_
        refine jn0_use (J := ∀ ls : Array Slot, lv_has ls 7 [(0, .ref (ad 0)), (1, .int v1), (2, .int v2), (3, .int v3)] → W p l e rm_X4_isMet s m args below meth c H [] 0 0 Q (F0 m 97 ls [])) hw (fun hw ls hl => ?_) (fun hw hj0 => ?_)
        · refine lv_iconst (v := 0) hx hb dX4_isMet_97 (by decide) ?_
          exact hj5 (0 : Int32) hw ls (lv_sub hl [0, 1, 2, 3] rfl)
        · have hj14 := hj0
          refine lv_icmp_lt (tgt := 97) hx hb dX4_isMet_84 (by decide) (fun hc => ?_) (fun hc => ?_)
          · have hw := hw.1 (hc)
            exact hj14 hw ls (lv_sub hl [2, 3, 4, 5] rfl)
          · have hw := hw.2 hc
            refine lv_iload_n hx hb dX4_isMet_87 rfl (lv_at hl 4 rfl) ?_
            refine lv_iload hx hb dX4_isMet_88 (lv_at hl 1 rfl) ?_
            refine lv_icmp_gt (tgt := 97) hx hb dX4_isMet_90 (by decide) (fun hc => ?_) (fun hc => ?_)
            · have hw := hw.1 (hc)
              exact hj14 hw ls (lv_sub hl [2, 3, 4, 5] rfl)
            · have hw := hw.2 hc
              refine lv_iconst (v := 1) hx hb dX4_isMet_93 (by decide) ?_
              refine lv_goto (tgt := 98) hx hb dX4_isMet_94 (by decide) ?_
              exact hj5 (1 : Int32) hw ls (lv_sub hl [2, 3, 4, 5] rfl)
      · have hw := hw.2 hc
        refine lv_iload_n hx hb dX4_isMet_61 rfl (lv_at hl 4 rfl) ?_
        refine lv_iload hx hb dX4_isMet_62 (lv_at hl 1 rfl) ?_
        refine jn0_use (J := ∀ ls : Array Slot, lv_has ls 7 [(0, .ref (ad 0)), (1, .int v1), (2, .int v2), (3, .int v3)] → W p l e rm_X4_isMet s m args below meth c H [] 0 0 Q (F0 m 77 ls [])) hw (fun hw ls hl => ?_) (fun hw hj0 => ?_)
        · refine lv_iconst (v := 0) hx hb dX4_isMet_77 (by decide) ?_
          refine lv_goto (tgt := 98) hx hb dX4_isMet_78 (by decide) ?_
          exact hj5 (0 : Int32) hw ls (lv_sub hl [0, 1, 2, 3] rfl)
        · have hj16 := hj0
          refine lv_icmp_lt (tgt := 77) hx hb dX4_isMet_64 (by decide) (fun hc => ?_) (fun hc => ?_)
          · have hw := hw.1 (hc)
            exact hj16 hw ls (lv_sub hl [2, 3, 4, 5] rfl)
          · have hw := hw.2 hc
            refine lv_iload_n hx hb dX4_isMet_67 rfl (lv_at hl 4 rfl) ?_
            refine lv_iload hx hb dX4_isMet_68 (lv_at hl 0 rfl) ?_
            refine lv_icmp_gt (tgt := 77) hx hb dX4_isMet_70 (by decide) (fun hc => ?_) (fun hc => ?_)
            · have hw := hw.1 (hc)
              exact hj16 hw ls (lv_sub hl [2, 3, 4, 5] rfl)
            · have hw := hw.2 hc
              refine lv_iconst (v := 1) hx hb dX4_isMet_73 (by decide) ?_
              refine lv_goto (tgt := 98) hx hb dX4_isMet_74 (by decide) ?_
              exact hj5 (1 : Int32) hw ls (lv_sub hl [2, 3, 4, 5] rfl)
  · have hw := hw.1 (hc)
    refine lv_iload hx hb dX4_isMet_29 (lv_at hl 1 rfl) ?_
    refine lv_iload_n hx hb dX4_isMet_31 rfl (lv_at hl 4 rfl) ?_
    refine jn1_use (J := fun (k17 : Int32) => ∀ ls : Array Slot, lv_has ls 7 [(0, .ref (ad 0))] → W p l e rm_X4_isMet s m args below meth c H [] 0 0 Q (F0 m 53 ls [.int k17])) hw (fun k17 hw ls hl => ?_) (fun hw hj0 => ?_)
    · rw [← hQ]
      exact W.zret (v := k17) (ty := .boolean) hx hb hr (bz_n hw.1) (fun t ht hW => ⟨_, rfl, hw.2, ht.trans hH.symm⟩) (fun q h => by cases h) dX4_isMet_53
    · have hj19 := hj0
      refine jn0_use (J := ∀ ls : Array Slot, lv_has ls 7 [(0, .ref (ad 0))] → W p l e rm_X4_isMet s m args below meth c H [] 0 0 Q (F0 m 52 ls [])) hw (fun hw ls hl => ?_) (fun hw hj0 => ?_)
      · refine lv_iconst (v := 0) hx hb dX4_isMet_52 (by decide) ?_
        exact hj19 (0 : Int32) hw ls (lv_sub hl [0] rfl)
      · have hj21 := hj0
        refine lv_icmp_ne (tgt := 52) hx hb dX4_isMet_32 (by decide) (fun hc => ?_) (fun hc => ?_)
        · have hw := hw.2 hc
          exact hj21 hw ls (lv_sub hl [2] rfl)
        · have hw := hw.1 (hc)
          refine lv_aload_n hx hb dX4_isMet_35 rfl (lv_at hl 2 rfl) ?_
          refine lv_iload_n hx hb dX4_isMet_36 rfl (lv_at hl 3 rfl) ?_
          refine lv_iload_n hx hb dX4_isMet_37 rfl (lv_at hl 4 rfl) ?_
          refine lv_iload_n hx hb dX4_isMet_38 rfl (lv_at hl 5 rfl) ?_
          refine vp_callSl (W.runV (As := [.int v1, .int v2, .int v3]) (rest := []) C (c_X4_height l dC dI cI cJ cZ ad mre mth mxs mys mcu mnx mpo mpn mrn mrd mfi mar mfn mfa mnu mst v1 v2 v3 hw) (cwV 3 hts gX4_isMet_X4_height rfl rfl rfl (by decide +kernel) ⟨Nat.le_of_ble_eq_true rfl, Nat.le_of_ble_eq_true rfl⟩) ⟨fb_ro, va_recv hK hP (ci := 4) (q0 := 0) rfl rfl, fun U hU hW => ⟨rfl, by rw [hU]; exact hP, va_K.moved hW.alike hK⟩⟩ rfl rfl hl.1 rfl (lv_room (Nat.le_of_ble_eq_true rfl)) dX4_isMet_39 ⟨Nat.zero_le _, Nat.zero_le _⟩) (fun r22 hw => ?_)
          refine lv_iload_n hx hb dX4_isMet_42 rfl (lv_at hl 5 rfl) ?_
          refine lv_i2l hx hb dX4_isMet_43 rfl ?_
          refine W.lcmp hx hb dX4_isMet_44 ?_
          refine lv_if_lt (tgt := 52) hx hb dX4_isMet_45 (by decide) (fun hc => ?_) (fun hc => ?_)
          · have hw := hw.1 ((lg_cmp_lt _ _).mp hc)
            exact hj21 hw ls (lv_sub hl [2] rfl)
          · have hw := hw.2 (fun h9 => hc ((lg_cmp_lt _ _).mpr h9))
            refine lv_iconst (v := 1) hx hb dX4_isMet_48 (by decide) ?_
            refine lv_goto (tgt := 53) hx hb dX4_isMet_49 (by decide) ?_
            exact hj19 (1 : Int32) hw ls (lv_sub hl [2] rfl)
-- X4_above
abbrev rm_X4_above : Room := { frames := 3, cells := 0, slots := 0, locals := 73 }
theorem f_X4_above_0 : (Cond.fieldLink RX4 7 "PlaneFacesModel" "isThere" "[Z") ∈ wsX4_above := by decide +kernel
theorem f_X4_above_1 : ∀ w ∈ wsX40, w ∈ wsX4_above := by decide +kernel
set_option maxRecDepth 100000 in
set_option maxHeartbeats 4000000 in
theorem l_X4_above_33 {p : Program} {l : Launch} {e : Env} {s : State} {m : MethodId} {args : Array Value} {below : List Frame} {meth : Method} {c : Code} {Q : State → Prop} {dC : Nat → ClassId} {dI : Nat → Nat → Nat} {cI cJ cZ : ClassId} {ad : Nat → Nat} {mre : Int32} {mth : Nat → Int32} {mxs : Nat → Int32} {mys : Nat → Int32} {mcu : Int32} {mnx : Nat → Int32} {mpo : Nat → Int32} {mpn : Int32} {mrn : Int32} {mrd : Nat → Int32} {mfi : Nat → Int32} {mar : Nat → Int64} {mfn : Int32} {mfa : Nat → Int32} {mnu : Nat → Int32} {mst : Nat → Int32} {v1 : Int32} {v2 : Int32} {K122 : Int32 → Prop} (C : CallFix p m c cX4_above 6 s args wsX4_above RX4) (hK : va_K (dC, dI) vwCl (tyL cI cJ cZ) s) {A : Nat → Prop} (hA : ∀ q : Nat, s.heap.size ≤ q → A q) (hk122 : ∀ (w3 : Int32) (ls : Array Slot) (H : Heap) (locs : List Loc), lv_has ls 6 [(0, .ref (ad 0)), (3, .int w3)] → va_P (dC, dI) vwCl (wMod ad cI cJ cZ mre mth mxs mys mcu mnx mpo mpn mrn mrd mfi mar mfn mfa mnu mst) H → va_D A (wMod ad cI cJ cZ mre mth mxs mys mcu mnx mpo mpn mrn mrd mfi mar mfn mfa mnu mst) → va_S A s.heap H locs → K122 w3 → W p l e rm_X4_above s m args below meth c H locs 0 0 Q (F0 m 122 ls [])) : ∀ (n : Nat) (v3 : Int32) (v4 : Int32) (ls : Array Slot) (H : Heap) (locs : List Loc), lv_has ls 6 [(0, .ref (ad 0)), (1, .int v1), (2, .int v2), (3, .int v3), (4, .int v4)] → va_P (dC, dI) vwCl (wMod ad cI cJ cZ mre mth mxs mys mcu mnx mpo mpn mrn mrd mfi mar mfn mfa mnu mst) H → va_D A (wMod ad cI cJ cZ mre mth mxs mys mcu mnx mpo mpn mrn mrd mfi mar mfn mfa mnu mst) → va_S A s.heap H locs → lp_X4_above_33 mre mth mxs mys v1 v2 K122 n v3 v4 → W p l e rm_X4_above s m args below meth c H locs 0 0 Q (F0 m 33 ls []) := by
  obtain ⟨hx, hb, hml, hown, hts⟩ := id C
  intro n
  induction n with
  | zero =>
    intro v3 v4 ls H locs hl hP hD hS hw
    rw [lp_X4_above_33.eq_1] at hw
    exact hw.elim
  | succ n ih =>
    intro v3 v4 ls H locs hl hP hD hS hw
    rw [lp_X4_above_33.eq_2] at hw
    refine lv_iload hx hb dX4_above_33 (lv_at hl 4 rfl) ?_
    refine lv_bipush (v := 60) hx hb dX4_above_35 (by decide) ?_
    refine lv_icmp_ge (tgt := 122) hx hb dX4_above_37 (by decide) (fun hc => ?_) (fun hc => ?_)
    · have hw := hw.1 (hc)
      exact hk122 v3 ls _ _ (lv_sub hl [0, 3] rfl) hP hD hS hw
    · have hw := hw.2 hc
      refine lv_aload_n hx hb dX4_above_40 rfl (lv_at hl 0 rfl) ?_
      refine va_get (D := (dC, dI)) (ci := 4) (v := .ref (ad 1)) (C := RX4) (T := TX4) (N := 16) hx hb hts f_X4_above_1 hown hK hP 0 rfl rfl 1 (by decide) (hts _ f_X4_above_0) (fun _ h9 => h9) rfl dX4_above_41 ?_
      refine lv_iload hx hb dX4_above_44 (lv_at hl 4 rfl) ?_
      have hi := hw.1
      have hw := hw.2
      refine va_zald hx hb hK hP 1 2 rfl rfl hi dX4_above_46 ?_
      refine jn1_use (J := fun (j7 : Int32) => ∀ (ls : Array Slot) (H : Heap) (locs : List Loc), lv_has ls 6 [(0, .ref (ad 0)), (1, .int v1), (2, .int v2), (3, .int j7), (4, .int v4)] → va_P (dC, dI) vwCl (wMod ad cI cJ cZ mre mth mxs mys mcu mnx mpo mpn mrn mrd mfi mar mfn mfa mnu mst) H → va_D A (wMod ad cI cJ cZ mre mth mxs mys mcu mnx mpo mpn mrn mrd mfi mar mfn mfa mnu mst) → va_S A s.heap H locs → W p l e rm_X4_above s m args below meth c H locs 0 0 Q (F0 m 116 ls [])) hw (fun j7 hw ls H locs hl hP hD hS => ?_) (fun hw hj0 => ?_)
      · refine lv_iinc (v := (v4 + (1 : Int32))) (lv' := [(4, .int (v4 + (1 : Int32))), (0, .ref (ad 0)), (1, .int v1), (2, .int v2), (3, .int j7)]) hx hb dX4_above_116 hl (k := 4) rfl rfl (by decide) rfl (fun ls hl => ?_)
        refine lv_goto (tgt := 33) hx hb dX4_above_119 (by decide) ?_
        exact ih j7 (v4 + (1 : Int32)) ls _ _ (lv_sub hl [1, 2, 3, 4, 0] rfl) hP hD hS hw
      · have hj9 := hj0
        refine lv_if_eq (tgt := 116) hx hb dX4_above_47 (by decide) (fun hc => ?_) (fun hc => ?_)
        · have hw := hw.1 (hc)
          exact hj9 v3 hw ls _ _ (lv_sub hl [0, 1, 2, 3, 4] rfl) hP hD hS
        · have hw := hw.2 hc
          refine lv_aload_n hx hb dX4_above_50 rfl (lv_at hl 0 rfl) ?_
          refine lv_iload hx hb dX4_above_51 (lv_at hl 4 rfl) ?_
          refine lv_iload_n hx hb dX4_above_53 rfl (lv_at hl 1 rfl) ?_
          refine lv_iload_n hx hb dX4_above_54 rfl (lv_at hl 2 rfl) ?_
          refine vp_callSi (W.runV (As := [.int v4, .int v1, .int v2]) (rest := []) C (c_X4_isMet l dC dI cI cJ cZ ad mre mth mxs mys mcu mnx mpo mpn mrn mrd mfi mar mfn mfa mnu mst v4 v1 v2 hw) (cwV 3 hts gX4_above_X4_isMet rfl rfl rfl (by decide +kernel) ⟨Nat.le_of_ble_eq_true rfl, Nat.le_of_ble_eq_true rfl⟩) ⟨fb_ro, va_recv hK hP (ci := 4) (q0 := 0) rfl rfl, fun U hU hW => ⟨rfl, by rw [hU]; exact hP, va_K.moved hW.alike hK⟩⟩ rfl rfl hl.1 rfl (lv_room (Nat.le_of_ble_eq_true rfl)) dX4_above_55 ⟨Nat.zero_le _, Nat.zero_le _⟩) (fun r10 hw => ?_)
          refine lv_if_eq (tgt := 116) hx hb dX4_above_58 (by decide) (fun hc => ?_) (fun hc => ?_)
          · have hw := hw.1 (hc)
            exact hj9 v3 hw ls _ _ (lv_sub hl [0, 1, 2, 3, 4] rfl) hP hD hS
          · have hw := hw.2 hc
            refine lv_iload_n hx hb dX4_above_61 rfl (lv_at hl 3 rfl) ?_
            refine jn1_use (J := fun (k11 : Int32) => ∀ (ls : Array Slot) (H : Heap) (locs : List Loc), lv_has ls 6 [(0, .ref (ad 0)), (1, .int v1), (2, .int v2), (3, .int v3), (4, .int v4)] → va_P (dC, dI) vwCl (wMod ad cI cJ cZ mre mth mxs mys mcu mnx mpo mpn mrn mrd mfi mar mfn mfa mnu mst) H → va_D A (wMod ad cI cJ cZ mre mth mxs mys mcu mnx mpo mpn mrn mrd mfi mar mfn mfa mnu mst) → va_S A s.heap H locs → W p l e rm_X4_above s m args below meth c H locs 0 0 Q (F0 m 102 ls [.int k11])) hw (fun k11 hw ls H locs hl hP hD hS => ?_) (fun hw hj0 => ?_)
            · refine lv_istore (lv' := [(5, .int k11), (0, .ref (ad 0)), (1, .int v1), (2, .int v2), (3, .int v3), (4, .int v4)]) hx hb dX4_above_102 hl (by decide) rfl (fun ls hl => ?_)
              refine lv_iload hx hb dX4_above_104 (lv_at hl 0 rfl) ?_
              refine jn1_use (J := fun (k14 : Int32) => ∀ (ls : Array Slot) (H : Heap) (locs : List Loc), lv_has ls 6 [(0, .ref (ad 0)), (1, .int v1), (2, .int v2), (4, .int v4)] → va_P (dC, dI) vwCl (wMod ad cI cJ cZ mre mth mxs mys mcu mnx mpo mpn mrn mrd mfi mar mfn mfa mnu mst) H → va_D A (wMod ad cI cJ cZ mre mth mxs mys mcu mnx mpo mpn mrn mrd mfi mar mfn mfa mnu mst) → va_S A s.heap H locs → W p l e rm_X4_above s m args below meth c H locs 0 0 Q (F0 m 115 ls [.int k14])) hw (fun k14 hw ls H locs hl hP hD hS => ?_) (fun hw hj0 => ?_)
              · refine lv_istore_n (lv' := [(3, .int k14), (0, .ref (ad 0)), (1, .int v1), (2, .int v2), (4, .int v4)]) hx hb dX4_above_115 rfl hl (by decide) rfl (fun ls hl => ?_)
                exact hj9 k14 hw ls _ _ (lv_sub hl [1, 2, 3, 0, 4] rfl) hP hD hS
              · have hj16 := hj0
                refine lv_if_eq (tgt := 114) hx hb dX4_above_106 (by decide) (fun hc => ?_) (fun hc => ?_)
                · have hw := hw.1 (hc)
                  refine lv_iload_n hx hb dX4_above_114 rfl (lv_at hl 4 rfl) ?_
                  exact hj16 v3 hw ls _ _ (lv_sub hl [1, 2, 3, 5] rfl) hP hD hS
                · have hw := hw.2 hc
                  refine lv_iload hx hb dX4_above_109 (lv_at hl 5 rfl) ?_
                  refine lv_goto (tgt := 115) hx hb dX4_above_111 (by decide) ?_
                  exact hj16 v4 hw ls _ _ (lv_sub hl [1, 2, 3, 5] rfl) hP hD hS
            · have hj13 := hj0
              refine jn0_use (J := ∀ (ls : Array Slot) (H : Heap) (locs : List Loc), lv_has ls 6 [(0, .ref (ad 0)), (1, .int v1), (2, .int v2), (3, .int v3), (4, .int v4)] → va_P (dC, dI) vwCl (wMod ad cI cJ cZ mre mth mxs mys mcu mnx mpo mpn mrn mrd mfi mar mfn mfa mnu mst) H → va_D A (wMod ad cI cJ cZ mre mth mxs mys mcu mnx mpo mpn mrn mrd mfi mar mfn mfa mnu mst) → va_S A s.heap H locs → W p l e rm_X4_above s m args below meth c H locs 0 0 Q (F0 m 97 ls [])) hw (fun hw ls H locs hl hP hD hS => ?_) (fun hw hj0 => ?_)
              · refine lv_iconst (v := 1) hx hb dX4_above_97 (by decide) ?_
                refine lv_goto (tgt := 102) hx hb dX4_above_98 (by decide) ?_
                exact hj13 (1 : Int32) hw ls _ _ (lv_sub hl [0, 1, 2, 3, 4] rfl) hP hD hS
              · have hj18 := hj0
                refine lv_if_lt (tgt := 97) hx hb dX4_above_62 (by decide) (fun hc => ?_) (fun hc => ?_)
                · have hw := hw.1 (hc)
                  exact hj18 hw ls _ _ (lv_sub hl [0, 1, 2, 3, 4] rfl) hP hD hS
                · have hw := hw.2 hc
                  refine lv_aload_n hx hb dX4_above_65 rfl (lv_at hl 0 rfl) ?_
                  refine lv_iload hx hb dX4_above_66 (lv_at hl 4 rfl) ?_
                  refine lv_iload_n hx hb dX4_above_68 rfl (lv_at hl 1 rfl) ?_
                  refine lv_iload_n hx hb dX4_above_69 rfl (lv_at hl 2 rfl) ?_
                  refine vp_callSl (W.runV (As := [.int v4, .int v1, .int v2]) (rest := []) C (c_X4_height l dC dI cI cJ cZ ad mre mth mxs mys mcu mnx mpo mpn mrn mrd mfi mar mfn mfa mnu mst v4 v1 v2 hw) (cwV 3 hts gX4_above_X4_height rfl rfl rfl (by decide +kernel) ⟨Nat.le_of_ble_eq_true rfl, Nat.le_of_ble_eq_true rfl⟩) ⟨fb_ro, va_recv hK hP (ci := 4) (q0 := 0) rfl rfl, fun U hU hW => ⟨rfl, by rw [hU]; exact hP, va_K.moved hW.alike hK⟩⟩ rfl rfl hl.1 rfl (lv_room (Nat.le_of_ble_eq_true rfl)) dX4_above_70 ⟨Nat.zero_le _, Nat.zero_le _⟩) (fun r19 hw => ?_)
                  refine lv_aload_n hx hb dX4_above_73 rfl (lv_at hl 0 rfl) ?_
                  refine lv_iload_n hx hb dX4_above_74 rfl (lv_at hl 3 rfl) ?_
                  refine vp_callSl (W.runV (As := [.int v3]) (rest := [.long r19]) C (c_X4_width l dC dI cI cJ cZ ad mre mth mxs mys mcu mnx mpo mpn mrn mrd mfi mar mfn mfa mnu mst v3 hw) (cwV 1 hts gX4_above_X4_width rfl rfl rfl (by decide +kernel) ⟨Nat.le_of_ble_eq_true rfl, Nat.le_of_ble_eq_true rfl⟩) ⟨fb_ro, va_recv hK hP (ci := 4) (q0 := 0) rfl rfl, fun U hU hW => ⟨rfl, by rw [hU]; exact hP, va_K.moved hW.alike hK⟩⟩ rfl rfl hl.1 rfl (lv_room (Nat.le_of_ble_eq_true rfl)) dX4_above_75 ⟨Nat.zero_le _, Nat.zero_le _⟩) (fun r20 hw => ?_)
                  refine lv_lmul hx hb dX4_above_78 ?_
                  refine lv_aload_n hx hb dX4_above_79 rfl (lv_at hl 0 rfl) ?_
                  refine lv_iload_n hx hb dX4_above_80 rfl (lv_at hl 3 rfl) ?_
                  refine lv_iload_n hx hb dX4_above_81 rfl (lv_at hl 1 rfl) ?_
                  refine lv_iload_n hx hb dX4_above_82 rfl (lv_at hl 2 rfl) ?_
                  refine vp_callSl (W.runV (As := [.int v3, .int v1, .int v2]) (rest := [.long (r19 * r20)]) C (c_X4_height l dC dI cI cJ cZ ad mre mth mxs mys mcu mnx mpo mpn mrn mrd mfi mar mfn mfa mnu mst v3 v1 v2 hw) (cwV 3 hts gX4_above_X4_height rfl rfl rfl (by decide +kernel) ⟨Nat.le_of_ble_eq_true rfl, Nat.le_of_ble_eq_true rfl⟩) ⟨fb_ro, va_recv hK hP (ci := 4) (q0 := 0) rfl rfl, fun U hU hW => ⟨rfl, by rw [hU]; exact hP, va_K.moved hW.alike hK⟩⟩ rfl rfl hl.1 rfl (lv_room (Nat.le_of_ble_eq_true rfl)) dX4_above_83 ⟨Nat.zero_le _, Nat.zero_le _⟩) (fun r21 hw => ?_)
                  refine lv_aload_n hx hb dX4_above_86 rfl (lv_at hl 0 rfl) ?_
                  refine lv_iload hx hb dX4_above_87 (lv_at hl 4 rfl) ?_
                  refine vp_callSl (W.runV (As := [.int v4]) (rest := [.long r21, .long (r19 * r20)]) C (c_X4_width l dC dI cI cJ cZ ad mre mth mxs mys mcu mnx mpo mpn mrn mrd mfi mar mfn mfa mnu mst v4 hw) (cwV 1 hts gX4_above_X4_width rfl rfl rfl (by decide +kernel) ⟨Nat.le_of_ble_eq_true rfl, Nat.le_of_ble_eq_true rfl⟩) ⟨fb_ro, va_recv hK hP (ci := 4) (q0 := 0) rfl rfl, fun U hU hW => ⟨rfl, by rw [hU]; exact hP, va_K.moved hW.alike hK⟩⟩ rfl rfl hl.1 rfl (lv_room (Nat.le_of_ble_eq_true rfl)) dX4_above_89 ⟨Nat.zero_le _, Nat.zero_le _⟩) (fun r22 hw => ?_)
                  refine lv_lmul hx hb dX4_above_92 ?_
                  refine W.lcmp hx hb dX4_above_93 ?_
                  refine lv_if_ge (tgt := 101) hx hb dX4_above_94 (by decide) (fun hc => ?_) (fun hc => ?_)
                  · have hw := hw.1 ((lg_cmp_ge _ _).mp hc)
                    refine lv_iconst (v := 0) hx hb dX4_above_101 (by decide) ?_
                    exact hj13 (0 : Int32) hw ls _ _ (lv_sub hl [0, 1, 2, 3, 4] rfl) hP hD hS
                  · have hw := hw.2 (fun h9 => hc ((lg_cmp_ge _ _).mpr h9))
                    exact hj18 hw ls _ _ (lv_sub hl [0, 1, 2, 3, 4] rfl) hP hD hS
set_option maxRecDepth 100000 in
set_option maxHeartbeats 4000000 in
theorem c_X4_above (l : Launch) (dC : Nat → ClassId) (dI : Nat → Nat → Nat) (cI cJ cZ : ClassId) (ad : Nat → Nat) (sz : Nat) (mre : Int32) (mth : Nat → Int32) (mxs : Nat → Int32) (mys : Nat → Int32) (mcu : Int32) (mnx : Nat → Int32) (mpo : Nat → Int32) (mpn : Int32) (mrn : Int32) (mrd : Nat → Int32) (mfi : Nat → Int32) (mar : Nat → Int64) (mfn : Int32) (mfa : Nat → Int32) (mnu : Nat → Int32) (mst : Nat → Int32) (v1 : Int32) (v2 : Int32) {post : Int32 → Int32 → Prop} (hw : wp_X4_above mre mth mxs mys v1 v2 post) : Met l yX4_above wsX4_above rm_X4_above (va_Pc [.ref (ad 0), .int v1, .int v2] (fun U => U.heap.size = sz ∧ va_P (dC, dI) vwCl (wMod ad cI cJ cZ mre mth mxs mys mcu mnx mpo mpn mrn mrd mfi mar mfn mfa mnu mst) U.heap ∧ va_K (dC, dI) vwCl (tyL cI cJ cZ) U ∧ va_D (fun _ => True) (wMod ad cI cJ cZ mre mth mxs mys mcu mnx mpo mpn mrn mrd mfi mar mfn mfa mnu mst))) (va_Qi (fun (r : Int32) (uu : Int32) => post r uu) (fun (uu : Int32) (t : State) => va_P (dC, dI) vwCl (wMod ad cI cJ cZ uu mth mxs mys mcu mnx mpo mpn mrn mrd mfi mar mfn mfa mnu mst) t.heap ∧ va_D (va_A (wMod ad cI cJ cZ mre mth mxs mys mcu mnx mpo mpn mrn mrd mfi mar mfn mfa mnu mst) sz) (wMod ad cI cJ cZ uu mth mxs mys mcu mnx mpo mpn mrn mrd mfi mar mfn mfa mnu mst)) (va_A (wMod ad cI cJ cZ mre mth mxs mys mcu mnx mpo mpn mrn mrd mfi mar mfn mfa mnu mst) sz)) 0 0 (va_A (wMod ad cI cJ cZ mre mth mxs mys mcu mnx mpo mpn mrn mrd mfi mar mfn mfa mnu mst) sz) := by
  unfold wp_X4_above at hw
  refine Met.ofW (cc := cX4_above) (maxL := 6) (ret := (some .int)) (by decide) rfl ?_
  intro p e s m args below meth c s₁ B hml hv
  obtain ⟨hav, hsz, hP, hK, hD0⟩ := hv
  have hx := B.exec
  have hb := B.bytes
  have hr := B.returns
  have hts := atoms_spec (ws := wsX4_above) B.pre
  have hown : s.vm.findClass RX4 = some m.cls := findClass_of_methodNamed B.named
  have hlocks := B.notSynchronized
  have C : CallFix p m c cX4_above 6 s args wsX4_above RX4 := ⟨hx, hb, hml, hown, hts⟩
  obtain ⟨ls, hE, hl⟩ := mx_entry (m := m) [.ref (ad 0), .int v1, .int v2] (n := 6) (Nat.le_of_ble_eq_true rfl)
  have hl : lv_has ls 6 [(0, .ref (ad 0)), (1, .int v1), (2, .int v2)] := hl
  rw [show entryFrame m args 6 = F0 m 0 ls [] by rw [hav]; exact hE]
  subst hsz
  have hD := hD0.self (sz := s.heap.size)
  generalize hAe : va_A (wMod ad cI cJ cZ mre mth mxs mys mcu mnx mpo mpn mrn mrd mfi mar mfn mfa mnu mst) s.heap.size = A at hD ⊢
  have hA : ∀ q : Nat, s.heap.size ≤ q → A q := fun q h => by rw [← hAe]; exact Or.inr h
  have hS : va_S A s.heap s.heap [] := va_S.rf
  obtain ⟨Q, hQ⟩ : ∃ Q, MQ below (va_Qi (fun (r : Int32) (uu : Int32) => post r uu) (fun (uu : Int32) (t : State) => va_P (dC, dI) vwCl (wMod ad cI cJ cZ uu mth mxs mys mcu mnx mpo mpn mrn mrd mfi mar mfn mfa mnu mst) t.heap ∧ va_D A (wMod ad cI cJ cZ uu mth mxs mys mcu mnx mpo mpn mrn mrd mfi mar mfn mfa mnu mst)) A) args s 0 0 A = Q := ⟨_, rfl⟩
  rw [hQ]
  obtain ⟨H, hH⟩ : ∃ H, s.heap = H := ⟨_, rfl⟩
  have hS : va_S A s.heap H [] := by rw [← hH]; exact hS
  rw [hH] at hP
  show W p l e rm_X4_above s m args below meth c s.heap [] 0 0 Q (F0 m 0 ls [])
  suffices hg : W p l e rm_X4_above s m args below meth c H [] 0 0 Q (F0 m 0 ls []) by rw [hH]; exact hg
  clear hH
  generalize hlo : ([] : List Loc) = locs at hS ⊢
  refine lv_aload_n hx hb dX4_above_0 rfl (lv_at hl 0 rfl) ?_
  refine lv_iload_n hx hb dX4_above_1 rfl (lv_at hl 1 rfl) ?_
  refine vp_callSi (W.runS (As := [.int v1]) (rest := [.ref (ad 0)]) C (c_X4_isIn l v1 hw) (va_cwS 1 hts gX4_above_X4_isIn rfl rfl rfl (by decide +kernel) ⟨Nat.le_of_ble_eq_true rfl, Nat.le_of_ble_eq_true rfl⟩) ⟨fb_st, fun U hU hW => ⟨rfl, trivial⟩⟩ rfl rfl hl.1 rfl (lv_room (Nat.le_of_ble_eq_true rfl)) dX4_above_2 ⟨Nat.zero_le _, Nat.zero_le _⟩) (fun r1 hw => ?_)
  refine jn1_use (J := fun (k2 : Int32) => ∀ (ls : Array Slot) (H : Heap) (locs : List Loc), lv_has ls 6 [(0, .ref (ad 0)), (1, .int v1), (2, .int v2)] → va_P (dC, dI) vwCl (wMod ad cI cJ cZ mre mth mxs mys mcu mnx mpo mpn mrn mrd mfi mar mfn mfa mnu mst) H → va_D A (wMod ad cI cJ cZ mre mth mxs mys mcu mnx mpo mpn mrn mrd mfi mar mfn mfa mnu mst) → va_S A s.heap H locs → W p l e rm_X4_above s m args below meth c H locs 0 0 Q (F0 m 20 ls [.int k2, .ref (ad 0)])) hw (fun k2 hw ls H locs hl hP hD hS => ?_) (fun hw hj0 => ?_)
  · have hPc := hP.sub (ws' := (wMod ad cI cJ cZ mre mth mxs mys mcu mnx mpo mpn mrn mrd mfi mar mfn mfa mnu mst)) [0, 1, 2, 3, 4, 5, 6, 7, 8, 9, 10, 11] rfl
    have hDc := hD.sub (ws' := (wMod ad cI cJ cZ mre mth mxs mys mcu mnx mpo mpn mrn mrd mfi mar mfn mfa mnu mst)) [0, 1, 2, 3, 4, 5, 6, 7, 8, 9, 10, 11] (by decide) rfl
    have hFc := va_free (wc := (wMod ad cI cJ cZ mre mth mxs mys mcu mnx mpo mpn mrn mrd mfi mar mfn mfa mnu mst)) hD hS hA [0, 1, 2, 3, 4, 5, 6, 7, 8, 9, 10, 11] rfl
    refine va_calli (va_runV (As := [.int k2]) (rest := []) C (c_X4_refused l dC dI cI cJ cZ ad _ mre mth mxs mys mcu mnx mpo mpn mrn mrd mfi mar mfn mfa mnu mst k2 hw) (cwV 1 hts gX4_above_X4_refused rfl rfl rfl (by decide +kernel) ⟨Nat.le_of_ble_eq_true rfl, Nat.le_of_ble_eq_true rfl⟩) ⟨fb_rw, va_recv hK hPc (ci := 4) (q0 := 0) rfl rfl, fun U hU hW => ⟨rfl, by rw [hU], by rw [hU]; exact hPc, va_K.moved hW.alike hK, hDc.weaken (fun _ _ _ _ => trivial)⟩⟩ rfl rfl hl.1 rfl (lv_room (Nat.le_of_ble_eq_true rfl)) dX4_above_20 ⟨Nat.zero_le _, Nat.zero_le _⟩) hS (fun q _ h => hFc q h) hFc (fun r5 uu t H1 locs ht hvm hw hB hz1 hk1 hS => ?_)
    obtain ⟨mre_6, rfl⟩ : ∃ z, z = uu := ⟨_, rfl⟩
    obtain ⟨hP1, hD1⟩ := hB
    rw [ht] at hP1
    try dsimp only at hw hP1 hD1
    obtain ⟨hP, hD⟩ := va_join (wr := []) (w1 := (wMod ad cI cJ cZ mre_6 mth mxs mys mcu mnx mpo mpn mrn mrd mfi mar mfn mfa mnu mst)) hP hD [0, 1, 2, 3, 4, 5, 6, 7, 8, 9, 10, 11] [] rfl rfl (by decide) (by decide) hk1 hFc hP1 hD1
    generalize H1 = H at hP hS ⊢
    have hP : va_P (dC, dI) vwCl (wMod ad cI cJ cZ mre_6 mth mxs mys mcu mnx mpo mpn mrn mrd mfi mar mfn mfa mnu mst) H := hP
    have hD : va_D A (wMod ad cI cJ cZ mre_6 mth mxs mys mcu mnx mpo mpn mrn mrd mfi mar mfn mfa mnu mst) := hD
    refine lv_if_eq (tgt := 28) hx hb dX4_above_23 (by decide) (fun hc => ?_) (fun hc => ?_)
    · have hw := hw.1 (hc)
      refine lv_iconst (v := -1) hx hb dX4_above_28 (by decide) ?_
      refine lv_istore_n (lv' := [(3, .int (-1 : Int32)), (0, .ref (ad 0)), (1, .int v1), (2, .int v2)]) hx hb dX4_above_29 rfl hl (by decide) rfl (fun ls hl => ?_)
      refine lv_iconst (v := 0) hx hb dX4_above_30 (by decide) ?_
      refine lv_istore (lv' := [(4, .int (0 : Int32)), (3, .int (-1 : Int32)), (0, .ref (ad 0)), (1, .int v1), (2, .int v2)]) hx hb dX4_above_31 hl (by decide) rfl (fun ls hl => ?_)
      obtain ⟨n24, hw⟩ := hw
      refine l_X4_above_33 C hK hA (fun w23 ls H locs hl hP hD hS hw => ?_) n24 (-1 : Int32) (0 : Int32) ls _ _ (lv_sub hl [2, 3, 4, 1, 0] rfl) hP hD hS hw
      refine lv_iload_n hx hb dX4_above_122 rfl (lv_at hl 1 rfl) ?_
      rw [← hQ]
      exact W.iret (v := w23) hx hb hr (fun t ht hW => ⟨⟨_, mre_6, rfl, hw, by rw [ht]; exact hP, hD⟩, hS.F ht⟩) hS.2.2 dX4_above_123
    · have hw := hw.2 hc
      refine lv_iconst (v := 0) hx hb dX4_above_26 (by decide) ?_
      rw [← hQ]
      exact W.iret (v := (0 : Int32)) hx hb hr (fun t ht hW => ⟨⟨_, mre_6, rfl, hw, by rw [ht]; exact hP, hD⟩, hS.F ht⟩) hS.2.2 dX4_above_27
  · have hj4 := hj0
    refine jn0_use (J := ∀ (ls : Array Slot) (H : Heap) (locs : List Loc), lv_has ls 6 [(0, .ref (ad 0)), (1, .int v1), (2, .int v2)] → va_P (dC, dI) vwCl (wMod ad cI cJ cZ mre mth mxs mys mcu mnx mpo mpn mrn mrd mfi mar mfn mfa mnu mst) H → va_D A (wMod ad cI cJ cZ mre mth mxs mys mcu mnx mpo mpn mrn mrd mfi mar mfn mfa mnu mst) → va_S A s.heap H locs → W p l e rm_X4_above s m args below meth c H locs 0 0 Q (F0 m 19 ls [.ref (ad 0)])) hw (fun hw ls H locs hl hP hD hS => ?_) (fun hw hj0 => ?_)
    · refine lv_iconst (v := 1) hx hb dX4_above_19 (by decide) ?_
      exact hj4 (1 : Int32) hw ls _ _ (lv_sub hl [0, 1, 2] rfl) hP hD hS
    · have hj26 := hj0
      refine lv_if_eq (tgt := 19) hx hb dX4_above_5 (by decide) (fun hc => ?_) (fun hc => ?_)
      · have hw := hw.1 (hc)
        exact hj26 hw ls _ _ (lv_sub hl [0, 1, 2] rfl) hP hD hS
      · have hw := hw.2 hc
        refine lv_iload_n hx hb dX4_above_8 rfl (lv_at hl 2 rfl) ?_
        refine vp_callSi (W.runS (As := [.int v2]) (rest := [.ref (ad 0)]) C (c_X4_isIn l v2 hw) (va_cwS 1 hts gX4_above_X4_isIn rfl rfl rfl (by decide +kernel) ⟨Nat.le_of_ble_eq_true rfl, Nat.le_of_ble_eq_true rfl⟩) ⟨fb_st, fun U hU hW => ⟨rfl, trivial⟩⟩ rfl rfl hl.1 rfl (lv_room (Nat.le_of_ble_eq_true rfl)) dX4_above_9 ⟨Nat.zero_le _, Nat.zero_le _⟩) (fun r27 hw => ?_)
        refine lv_if_eq (tgt := 19) hx hb dX4_above_12 (by decide) (fun hc => ?_) (fun hc => ?_)
        · have hw := hw.1 (hc)
          exact hj26 hw ls _ _ (lv_sub hl [0, 1, 2] rfl) hP hD hS
        · have hw := hw.2 hc
          refine lv_iconst (v := 0) hx hb dX4_above_15 (by decide) ?_
          refine lv_goto (tgt := 20) hx hb dX4_above_16 (by decide) ?_
          exact hj4 (0 : Int32) hw ls _ _ (lv_sub hl [0, 1, 2] rfl) hP hD hS
-- X4_across
abbrev rm_X4_across : Room := { frames := 7, cells := 0, slots := 0, locals := 165 }
theorem f_X4_across_0 : (Cond.fieldLink RX4 118 "PlaneFacesModel" "faces" "I") ∈ wsX4_across := by decide +kernel
theorem f_X4_across_1 : ∀ w ∈ wsX40, w ∈ wsX4_across := by decide +kernel
theorem f_X4_across_2 : (Cond.fieldLink RX4 42 "PlaneFacesModel" "steps" "[I") ∈ wsX4_across := by decide +kernel
theorem f_X4_across_3 : (Cond.fieldLink RX4 7 "PlaneFacesModel" "isThere" "[Z") ∈ wsX4_across := by decide +kernel
set_option maxRecDepth 100000 in
set_option maxHeartbeats 4000000 in
theorem l_X4_across_32 {p : Program} {l : Launch} {e : Env} {s : State} {m : MethodId} {args : Array Value} {below : List Frame} {meth : Method} {c : Code} {Q : State → Prop} {dC : Nat → ClassId} {dI : Nat → Nat → Nat} {cI cJ cZ : ClassId} {ad : Nat → Nat} {mre : Int32} {mth : Nat → Int32} {mxs : Nat → Int32} {mys : Nat → Int32} {mcu : Int32} {mnx : Nat → Int32} {mpo : Nat → Int32} {mpn : Int32} {mrn : Int32} {mrd : Nat → Int32} {mfi : Nat → Int32} {mar : Nat → Int64} {mfn : Int32} {mfa : Nat → Int32} {mnu : Nat → Int32} {v1 : Int32} {v2 : Int32} {K64 : (Nat → Int32) → Prop} (C : CallFix p m c cX4_across 5 s args wsX4_across RX4) (hK : va_K (dC, dI) vwCl (tyL cI cJ cZ) s) {A : Nat → Prop} (hA : ∀ q : Nat, s.heap.size ≤ q → A q) (hk64 : ∀ (mst_w : Nat → Int32) (ls : Array Slot) (H : Heap) (locs : List Loc), lv_has ls 5 [(0, .ref (ad 0)), (2, .int v2)] → va_P (dC, dI) vwCl (wMod ad cI cJ cZ mre mth mxs mys mcu mnx mpo mpn mrn mrd mfi mar mfn mfa mnu mst_w) H → va_D A (wMod ad cI cJ cZ mre mth mxs mys mcu mnx mpo mpn mrn mrd mfi mar mfn mfa mnu mst_w) → va_S A s.heap H locs → K64 mst_w → W p l e rm_X4_across s m args below meth c H locs 0 0 Q (F0 m 64 ls [])) : ∀ (n : Nat) (mst : Nat → Int32) (v3 : Int32) (ls : Array Slot) (H : Heap) (locs : List Loc), lv_has ls 5 [(0, .ref (ad 0)), (1, .int v1), (2, .int v2), (3, .int v3)] → va_P (dC, dI) vwCl (wMod ad cI cJ cZ mre mth mxs mys mcu mnx mpo mpn mrn mrd mfi mar mfn mfa mnu mst) H → va_D A (wMod ad cI cJ cZ mre mth mxs mys mcu mnx mpo mpn mrn mrd mfi mar mfn mfa mnu mst) → va_S A s.heap H locs → lp_X4_across_32 mre mth mxs mys mcu mnx mpo mpn mrn mrd mfi mar mfn mfa mnu v1 v2 K64 n mst v3 → W p l e rm_X4_across s m args below meth c H locs 0 0 Q (F0 m 32 ls []) := by
  obtain ⟨hx, hb, hml, hown, hts⟩ := id C
  intro n
  induction n with
  | zero =>
    intro mst v3 ls H locs hl hP hD hS hw
    rw [lp_X4_across_32.eq_1] at hw
    exact hw.elim
  | succ n ih =>
    intro mst v3 ls H locs hl hP hD hS hw
    rw [lp_X4_across_32.eq_2] at hw
    refine lv_iload_n hx hb dX4_across_32 rfl (lv_at hl 3 rfl) ?_
    refine lv_aload_n hx hb dX4_across_33 rfl (lv_at hl 0 rfl) ?_
    refine va_get (D := (dC, dI)) (ci := 4) (v := .int mfn) (C := RX4) (T := TX4) (N := 16) hx hb hts f_X4_across_1 hown hK hP 0 rfl rfl 12 (by decide) (hts _ f_X4_across_0) (fun _ h9 => h9) rfl dX4_across_34 ?_
    refine lv_icmp_ge (tgt := 64) hx hb dX4_across_37 (by decide) (fun hc => ?_) (fun hc => ?_)
    · have hw := hw.1 (hc)
      exact hk64 mst ls _ _ (lv_sub hl [0, 2] rfl) hP hD hS hw
    · have hw := hw.2 hc
      refine lv_aload_n hx hb dX4_across_40 rfl (lv_at hl 0 rfl) ?_
      refine va_get (D := (dC, dI)) (ci := 4) (v := .ref (ad 11)) (C := RX4) (T := TX4) (N := 16) hx hb hts f_X4_across_1 hown hK hP 0 rfl rfl 15 (by decide) (hts _ f_X4_across_2) (fun _ h9 => h9) rfl dX4_across_41 ?_
      refine lv_iload_n hx hb dX4_across_44 rfl (lv_at hl 3 rfl) ?_
      refine lv_iload_n hx hb dX4_across_45 rfl (lv_at hl 3 rfl) ?_
      refine lv_iload_n hx hb dX4_across_46 rfl (lv_at hl 1 rfl) ?_
      refine jn2_use (J := fun (k29 : Int32) (k30 : Int32) => ∀ (ls : Array Slot) (H : Heap) (locs : List Loc), lv_has ls 5 [(0, .ref (ad 0)), (1, .int v1), (2, .int v2), (3, .int v3)] → va_P (dC, dI) vwCl (wMod ad cI cJ cZ mre mth mxs mys mcu mnx mpo mpn mrn mrd mfi mar mfn mfa mnu mst) H → va_D A (wMod ad cI cJ cZ mre mth mxs mys mcu mnx mpo mpn mrn mrd mfi mar mfn mfa mnu mst) → va_S A s.heap H locs → W p l e rm_X4_across s m args below meth c H locs 0 0 Q (F0 m 57 ls [.int k29, .int k30, .ref (ad 11)])) hw (fun k29 k30 hw ls H locs hl hP hD hS => ?_) (fun hw hj0 => ?_)
      · have hi := hw.1
        have hw := hw.2 _ rfl
        refine va_iast hx hb hK hP hD hS 11 0 rfl rfl hi dX4_across_57 (fun H locs hP hD hS => ?_)
        generalize hmst_33 : (upd mst k30.toNatClampNeg k29) = mst_33 at hw hP hD
        have hP : va_P (dC, dI) vwCl (wMod ad cI cJ cZ mre mth mxs mys mcu mnx mpo mpn mrn mrd mfi mar mfn mfa mnu mst_33) H := hP
        have hD : va_D A (wMod ad cI cJ cZ mre mth mxs mys mcu mnx mpo mpn mrn mrd mfi mar mfn mfa mnu mst_33) := hD
        refine lv_iinc (v := (v3 + (1 : Int32))) (lv' := [(3, .int (v3 + (1 : Int32))), (0, .ref (ad 0)), (1, .int v1), (2, .int v2)]) hx hb dX4_across_58 hl (k := 3) rfl rfl (by decide) rfl (fun ls hl => ?_)
        refine lv_goto (tgt := 32) hx hb dX4_across_61 (by decide) ?_
        exact ih mst_33 (v3 + (1 : Int32)) ls _ _ (lv_sub hl [1, 2, 3, 0] rfl) hP hD hS hw
      · have hj32 := hj0
        refine lv_icmp_ne (tgt := 54) hx hb dX4_across_47 (by decide) (fun hc => ?_) (fun hc => ?_)
        · have hw := hw.2 hc
          refine lv_sipush (v := 1000) hx hb dX4_across_54 (by decide) ?_
          exact hj32 (1000 : Int32) v3 hw ls _ _ (lv_sub hl [0, 1, 2, 3] rfl) hP hD hS
        · have hw := hw.1 (hc)
          refine lv_iconst (v := 0) hx hb dX4_across_50 (by decide) ?_
          refine lv_goto (tgt := 57) hx hb dX4_across_51 (by decide) ?_
          exact hj32 (0 : Int32) v3 hw ls _ _ (lv_sub hl [0, 1, 2, 3] rfl) hP hD hS
set_option maxRecDepth 100000 in
set_option maxHeartbeats 4000000 in
theorem l_X4_across_75 {p : Program} {l : Launch} {e : Env} {s : State} {m : MethodId} {args : Array Value} {below : List Frame} {meth : Method} {c : Code} {Q : State → Prop} {dC : Nat → ClassId} {dI : Nat → Nat → Nat} {cI cJ cZ : ClassId} {ad : Nat → Nat} {mre : Int32} {mth : Nat → Int32} {mxs : Nat → Int32} {mys : Nat → Int32} {mcu : Int32} {mnx : Nat → Int32} {mpo : Nat → Int32} {mpn : Int32} {mrn : Int32} {mrd : Nat → Int32} {mfi : Nat → Int32} {mar : Nat → Int64} {mfn : Int32} {mfa : Nat → Int32} {mnu : Nat → Int32} {v2 : Int32} {K159 : Int32 → (Nat → Int32) → Prop} (C : CallFix p m c cX4_across 5 s args wsX4_across RX4) (hK : va_K (dC, dI) vwCl (tyL cI cJ cZ) s) {A : Nat → Prop} (hA : ∀ q : Nat, s.heap.size ≤ q → A q) (hk159 : ∀ (w3 : Int32) (mst_w : Nat → Int32) (ls : Array Slot) (H : Heap) (locs : List Loc), lv_has ls 5 [(0, .ref (ad 0)), (2, .int v2), (3, .int w3)] → va_P (dC, dI) vwCl (wMod ad cI cJ cZ mre mth mxs mys mcu mnx mpo mpn mrn mrd mfi mar mfn mfa mnu mst_w) H → va_D A (wMod ad cI cJ cZ mre mth mxs mys mcu mnx mpo mpn mrn mrd mfi mar mfn mfa mnu mst_w) → va_S A s.heap H locs → K159 w3 mst_w → W p l e rm_X4_across s m args below meth c H locs 0 0 Q (F0 m 159 ls [])) : ∀ (n : Nat) (mst : Nat → Int32) (v3 : Int32) (v4 : Int32) (ls : Array Slot) (H : Heap) (locs : List Loc), lv_has ls 5 [(0, .ref (ad 0)), (2, .int v2), (3, .int v3), (4, .int v4)] → va_P (dC, dI) vwCl (wMod ad cI cJ cZ mre mth mxs mys mcu mnx mpo mpn mrn mrd mfi mar mfn mfa mnu mst) H → va_D A (wMod ad cI cJ cZ mre mth mxs mys mcu mnx mpo mpn mrn mrd mfi mar mfn mfa mnu mst) → va_S A s.heap H locs → lp_X4_across_75 mre mth mxs mys mcu mnx mpo mpn mrn mrd mfi mar mfn mfa mnu v2 K159 n mst v3 v4 → W p l e rm_X4_across s m args below meth c H locs 0 0 Q (F0 m 75 ls []) := by
  obtain ⟨hx, hb, hml, hown, hts⟩ := id C
  intro n
  induction n with
  | zero =>
    intro mst v3 v4 ls H locs hl hP hD hS hw
    rw [lp_X4_across_75.eq_1] at hw
    exact hw.elim
  | succ n ih =>
    intro mst v3 v4 ls H locs hl hP hD hS hw
    rw [lp_X4_across_75.eq_2] at hw
    refine lv_iload hx hb dX4_across_75 (lv_at hl 3 rfl) ?_
    refine lv_bipush (v := 120) hx hb dX4_across_77 (by decide) ?_
    refine lv_icmp_ge (tgt := 159) hx hb dX4_across_79 (by decide) (fun hc => ?_) (fun hc => ?_)
    · have hw := hw.1 (hc)
      exact hk159 v3 mst ls _ _ (lv_sub hl [0, 1, 2] rfl) hP hD hS hw
    · have hw := hw.2 hc
      refine lv_aload_n hx hb dX4_across_82 rfl (lv_at hl 0 rfl) ?_
      refine va_get (D := (dC, dI)) (ci := 4) (v := .ref (ad 1)) (C := RX4) (T := TX4) (N := 16) hx hb hts f_X4_across_1 hown hK hP 0 rfl rfl 1 (by decide) (hts _ f_X4_across_3) (fun _ h9 => h9) rfl dX4_across_83 ?_
      refine lv_iload hx hb dX4_across_86 (lv_at hl 3 rfl) ?_
      refine lv_iconst (v := 2) hx hb dX4_across_88 (by decide) ?_
      refine lv_idiv hx hb dX4_across_89 (by decide) ?_
      have hi := hw.1
      have hw := hw.2
      refine va_zald hx hb hK hP 1 2 rfl rfl hi dX4_across_90 ?_
      refine jn2_use (J := fun (j35 : Int32) (mst_36 : Nat → Int32) => ∀ (ls : Array Slot) (H : Heap) (locs : List Loc), lv_has ls 5 [(0, .ref (ad 0)), (2, .int v2), (3, .int j35), (4, .int v4)] → va_P (dC, dI) vwCl (wMod ad cI cJ cZ mre mth mxs mys mcu mnx mpo mpn mrn mrd mfi mar mfn mfa mnu mst_36) H → va_D A (wMod ad cI cJ cZ mre mth mxs mys mcu mnx mpo mpn mrn mrd mfi mar mfn mfa mnu mst_36) → va_S A s.heap H locs → W p l e rm_X4_across s m args below meth c H locs 0 0 Q (F0 m 153 ls [])) hw (fun j35 mst_36 hw ls H locs hl hP hD hS => ?_) (fun hw hj0 => ?_)
      · refine lv_iinc (v := (v4 + (1 : Int32))) (lv' := [(4, .int (v4 + (1 : Int32))), (0, .ref (ad 0)), (2, .int v2), (3, .int j35)]) hx hb dX4_across_153 hl (k := 3) rfl rfl (by decide) rfl (fun ls hl => ?_)
        refine lv_goto (tgt := 75) hx hb dX4_across_156 (by decide) ?_
        exact ih mst_36 j35 (v4 + (1 : Int32)) ls _ _ (lv_sub hl [1, 2, 3, 0] rfl) hP hD hS hw
      · have hj38 := hj0
        refine lv_if_eq (tgt := 153) hx hb dX4_across_91 (by decide) (fun hc => ?_) (fun hc => ?_)
        · have hw := hw.1 (hc)
          exact hj38 v3 mst hw ls _ _ (lv_sub hl [0, 1, 2, 3] rfl) hP hD hS
        · have hw := hw.2 hc
          refine lv_aload_n hx hb dX4_across_94 rfl (lv_at hl 0 rfl) ?_
          refine va_get (D := (dC, dI)) (ci := 4) (v := .ref (ad 11)) (C := RX4) (T := TX4) (N := 16) hx hb hts f_X4_across_1 hown hK hP 0 rfl rfl 15 (by decide) (hts _ f_X4_across_2) (fun _ h9 => h9) rfl dX4_across_95 ?_
          refine lv_aload_n hx hb dX4_across_98 rfl (lv_at hl 0 rfl) ?_
          refine lv_iload hx hb dX4_across_99 (lv_at hl 3 rfl) ?_
          refine vp_callSi (W.runV (As := [.int v4]) (rest := [.ref (ad 11)]) C (c_X4_left l dC dI cI cJ cZ ad mre mth mxs mys mcu mnx mpo mpn mrn mrd mfi mar mfn mfa mnu mst v4 hw) (cwV 1 hts gX4_across_X4_left rfl rfl rfl (by decide +kernel) ⟨Nat.le_of_ble_eq_true rfl, Nat.le_of_ble_eq_true rfl⟩) ⟨fb_ro, va_recv hK hP (ci := 4) (q0 := 0) rfl rfl, fun U hU hW => ⟨rfl, by rw [hU]; exact hP, va_K.moved hW.alike hK⟩⟩ rfl rfl hl.1 rfl (lv_room (Nat.le_of_ble_eq_true rfl)) dX4_across_101 ⟨Nat.zero_le _, Nat.zero_le _⟩) (fun r39 hw => ?_)
          have hi := hw.1
          have hw := hw.2
          refine va_iald hx hb hK hP 11 0 rfl rfl hi dX4_across_104 ?_
          refine lv_iconst (v := 1) hx hb dX4_across_105 (by decide) ?_
          refine lv_iadd hx hb dX4_across_106 ?_
          refine lv_aload_n hx hb dX4_across_107 rfl (lv_at hl 0 rfl) ?_
          refine va_get (D := (dC, dI)) (ci := 4) (v := .ref (ad 11)) (C := RX4) (T := TX4) (N := 16) hx hb hts f_X4_across_1 hown hK hP 0 rfl rfl 15 (by decide) (hts _ f_X4_across_2) (fun _ h9 => h9) rfl dX4_across_108 ?_
          refine lv_aload_n hx hb dX4_across_111 rfl (lv_at hl 0 rfl) ?_
          refine lv_iload hx hb dX4_across_112 (lv_at hl 3 rfl) ?_
          refine vp_callSi (W.runS (As := [.int v4]) (rest := [.ref (ad 0), .ref (ad 11), .int ((mst r39.toNatClampNeg) + (1 : Int32))]) C (c_X4_back l v4 hw) (va_cwS 1 hts gX4_across_X4_back rfl rfl rfl (by decide +kernel) ⟨Nat.le_of_ble_eq_true rfl, Nat.le_of_ble_eq_true rfl⟩) ⟨fb_st, fun U hU hW => ⟨rfl, trivial⟩⟩ rfl rfl hl.1 rfl (lv_room (Nat.le_of_ble_eq_true rfl)) dX4_across_114 ⟨Nat.zero_le _, Nat.zero_le _⟩) (fun r40 hw => ?_)
          refine vp_callSi (W.runV (As := [.int r40]) (rest := [.ref (ad 11), .int ((mst r39.toNatClampNeg) + (1 : Int32))]) C (c_X4_left l dC dI cI cJ cZ ad mre mth mxs mys mcu mnx mpo mpn mrn mrd mfi mar mfn mfa mnu mst r40 hw) (cwV 1 hts gX4_across_X4_left rfl rfl rfl (by decide +kernel) ⟨Nat.le_of_ble_eq_true rfl, Nat.le_of_ble_eq_true rfl⟩) ⟨fb_ro, va_recv hK hP (ci := 4) (q0 := 0) rfl rfl, fun U hU hW => ⟨rfl, by rw [hU]; exact hP, va_K.moved hW.alike hK⟩⟩ rfl rfl hl.1 rfl (lv_room (Nat.le_of_ble_eq_true rfl)) dX4_across_117 ⟨Nat.zero_le _, Nat.zero_le _⟩) (fun r41 hw => ?_)
          have hi := hw.1
          have hw := hw.2
          refine va_iald hx hb hK hP 11 0 rfl rfl hi dX4_across_120 ?_
          refine lv_icmp_ge (tgt := 153) hx hb dX4_across_121 (by decide) (fun hc => ?_) (fun hc => ?_)
          · have hw := hw.1 (hc)
            exact hj38 v3 mst hw ls _ _ (lv_sub hl [0, 1, 2, 3] rfl) hP hD hS
          · have hw := hw.2 hc
            refine lv_aload_n hx hb dX4_across_124 rfl (lv_at hl 0 rfl) ?_
            refine va_get (D := (dC, dI)) (ci := 4) (v := .ref (ad 11)) (C := RX4) (T := TX4) (N := 16) hx hb hts f_X4_across_1 hown hK hP 0 rfl rfl 15 (by decide) (hts _ f_X4_across_2) (fun _ h9 => h9) rfl dX4_across_125 ?_
            refine lv_aload_n hx hb dX4_across_128 rfl (lv_at hl 0 rfl) ?_
            refine lv_iload hx hb dX4_across_129 (lv_at hl 3 rfl) ?_
            refine vp_callSi (W.runS (As := [.int v4]) (rest := [.ref (ad 0), .ref (ad 11)]) C (c_X4_back l v4 hw) (va_cwS 1 hts gX4_across_X4_back rfl rfl rfl (by decide +kernel) ⟨Nat.le_of_ble_eq_true rfl, Nat.le_of_ble_eq_true rfl⟩) ⟨fb_st, fun U hU hW => ⟨rfl, trivial⟩⟩ rfl rfl hl.1 rfl (lv_room (Nat.le_of_ble_eq_true rfl)) dX4_across_131 ⟨Nat.zero_le _, Nat.zero_le _⟩) (fun r42 hw => ?_)
            refine vp_callSi (W.runV (As := [.int r42]) (rest := [.ref (ad 11)]) C (c_X4_left l dC dI cI cJ cZ ad mre mth mxs mys mcu mnx mpo mpn mrn mrd mfi mar mfn mfa mnu mst r42 hw) (cwV 1 hts gX4_across_X4_left rfl rfl rfl (by decide +kernel) ⟨Nat.le_of_ble_eq_true rfl, Nat.le_of_ble_eq_true rfl⟩) ⟨fb_ro, va_recv hK hP (ci := 4) (q0 := 0) rfl rfl, fun U hU hW => ⟨rfl, by rw [hU]; exact hP, va_K.moved hW.alike hK⟩⟩ rfl rfl hl.1 rfl (lv_room (Nat.le_of_ble_eq_true rfl)) dX4_across_134 ⟨Nat.zero_le _, Nat.zero_le _⟩) (fun r43 hw => ?_)
            refine lv_aload_n hx hb dX4_across_137 rfl (lv_at hl 0 rfl) ?_
            refine va_get (D := (dC, dI)) (ci := 4) (v := .ref (ad 11)) (C := RX4) (T := TX4) (N := 16) hx hb hts f_X4_across_1 hown hK hP 0 rfl rfl 15 (by decide) (hts _ f_X4_across_2) (fun _ h9 => h9) rfl dX4_across_138 ?_
            refine lv_aload_n hx hb dX4_across_141 rfl (lv_at hl 0 rfl) ?_
            refine lv_iload hx hb dX4_across_142 (lv_at hl 3 rfl) ?_
            refine vp_callSi (W.runV (As := [.int v4]) (rest := [.ref (ad 11), .int r43, .ref (ad 11)]) C (c_X4_left l dC dI cI cJ cZ ad mre mth mxs mys mcu mnx mpo mpn mrn mrd mfi mar mfn mfa mnu mst v4 hw) (cwV 1 hts gX4_across_X4_left rfl rfl rfl (by decide +kernel) ⟨Nat.le_of_ble_eq_true rfl, Nat.le_of_ble_eq_true rfl⟩) ⟨fb_ro, va_recv hK hP (ci := 4) (q0 := 0) rfl rfl, fun U hU hW => ⟨rfl, by rw [hU]; exact hP, va_K.moved hW.alike hK⟩⟩ rfl rfl hl.1 rfl (lv_room (Nat.le_of_ble_eq_true rfl)) dX4_across_144 ⟨Nat.zero_le _, Nat.zero_le _⟩) (fun r44 hw => ?_)
            have hi := hw.1
            have hw := hw.2
            refine va_iald hx hb hK hP 11 0 rfl rfl hi dX4_across_147 ?_
            refine lv_iconst (v := 1) hx hb dX4_across_148 (by decide) ?_
            refine lv_iadd hx hb dX4_across_149 ?_
            have hi := hw.1
            have hw := hw.2 _ rfl
            refine va_iast hx hb hK hP hD hS 11 0 rfl rfl hi dX4_across_150 (fun H locs hP hD hS => ?_)
            generalize hmst_45 : (upd mst r43.toNatClampNeg ((mst r44.toNatClampNeg) + (1 : Int32))) = mst_45 at hw hP hD
            have hP : va_P (dC, dI) vwCl (wMod ad cI cJ cZ mre mth mxs mys mcu mnx mpo mpn mrn mrd mfi mar mfn mfa mnu mst_45) H := hP
            have hD : va_D A (wMod ad cI cJ cZ mre mth mxs mys mcu mnx mpo mpn mrn mrd mfi mar mfn mfa mnu mst_45) := hD
            refine lv_iconst (v := 1) hx hb dX4_across_151 (by decide) ?_
            refine lv_istore_n (lv' := [(3, .int (1 : Int32)), (0, .ref (ad 0)), (2, .int v2), (4, .int v4)]) hx hb dX4_across_152 rfl hl (by decide) rfl (fun ls hl => ?_)
            exact hj38 (1 : Int32) mst_45 hw ls _ _ (lv_sub hl [1, 2, 0, 3] rfl) hP hD hS
set_option maxRecDepth 100000 in
set_option maxHeartbeats 4000000 in
theorem l_X4_across_66 {p : Program} {l : Launch} {e : Env} {s : State} {m : MethodId} {args : Array Value} {below : List Frame} {meth : Method} {c : Code} {Q : State → Prop} {dC : Nat → ClassId} {dI : Nat → Nat → Nat} {cI cJ cZ : ClassId} {ad : Nat → Nat} {mre : Int32} {mth : Nat → Int32} {mxs : Nat → Int32} {mys : Nat → Int32} {mcu : Int32} {mnx : Nat → Int32} {mpo : Nat → Int32} {mpn : Int32} {mrn : Int32} {mrd : Nat → Int32} {mfi : Nat → Int32} {mar : Nat → Int64} {mfn : Int32} {mfa : Nat → Int32} {mnu : Nat → Int32} {v2 : Int32} {K162 : (Nat → Int32) → Prop} (C : CallFix p m c cX4_across 5 s args wsX4_across RX4) (hK : va_K (dC, dI) vwCl (tyL cI cJ cZ) s) {A : Nat → Prop} (hA : ∀ q : Nat, s.heap.size ≤ q → A q) (hk162 : ∀ (mst_w : Nat → Int32) (ls : Array Slot) (H : Heap) (locs : List Loc), lv_has ls 5 [(0, .ref (ad 0)), (2, .int v2)] → va_P (dC, dI) vwCl (wMod ad cI cJ cZ mre mth mxs mys mcu mnx mpo mpn mrn mrd mfi mar mfn mfa mnu mst_w) H → va_D A (wMod ad cI cJ cZ mre mth mxs mys mcu mnx mpo mpn mrn mrd mfi mar mfn mfa mnu mst_w) → va_S A s.heap H locs → K162 mst_w → W p l e rm_X4_across s m args below meth c H locs 0 0 Q (F0 m 162 ls [])) : ∀ (n : Nat) (mst : Nat → Int32) (v3 : Int32) (ls : Array Slot) (H : Heap) (locs : List Loc), lv_has ls 5 [(0, .ref (ad 0)), (2, .int v2), (3, .int v3)] → va_P (dC, dI) vwCl (wMod ad cI cJ cZ mre mth mxs mys mcu mnx mpo mpn mrn mrd mfi mar mfn mfa mnu mst) H → va_D A (wMod ad cI cJ cZ mre mth mxs mys mcu mnx mpo mpn mrn mrd mfi mar mfn mfa mnu mst) → va_S A s.heap H locs → lp_X4_across_66 mre mth mxs mys mcu mnx mpo mpn mrn mrd mfi mar mfn mfa mnu v2 K162 n mst v3 → W p l e rm_X4_across s m args below meth c H locs 0 0 Q (F0 m 66 ls []) := by
  obtain ⟨hx, hb, hml, hown, hts⟩ := id C
  intro n
  induction n with
  | zero =>
    intro mst v3 ls H locs hl hP hD hS hw
    rw [lp_X4_across_66.eq_1] at hw
    exact hw.elim
  | succ n ih =>
    intro mst v3 ls H locs hl hP hD hS hw
    rw [lp_X4_across_66.eq_2] at hw
    refine lv_iload_n hx hb dX4_across_66 rfl (lv_at hl 2 rfl) ?_
    refine lv_if_eq (tgt := 162) hx hb dX4_across_67 (by decide) (fun hc => ?_) (fun hc => ?_)
    · have hw := hw.1 (hc)
      exact hk162 mst ls _ _ (lv_sub hl [0, 1] rfl) hP hD hS hw
    · have hw := hw.2 hc
      refine lv_iconst (v := 0) hx hb dX4_across_70 (by decide) ?_
      refine lv_istore_n (lv' := [(3, .int (0 : Int32)), (0, .ref (ad 0)), (2, .int v2)]) hx hb dX4_across_71 rfl hl (by decide) rfl (fun ls hl => ?_)
      refine lv_iconst (v := 0) hx hb dX4_across_72 (by decide) ?_
      refine lv_istore (lv' := [(4, .int (0 : Int32)), (3, .int (0 : Int32)), (0, .ref (ad 0)), (2, .int v2)]) hx hb dX4_across_73 hl (by decide) rfl (fun ls hl => ?_)
      obtain ⟨n48, hw⟩ := hw
      refine l_X4_across_75 C hK hA (fun w46 mst_47 ls H locs hl hP hD hS hw => ?_) n48 mst (0 : Int32) (0 : Int32) ls _ _ (lv_sub hl [2, 3, 1, 0] rfl) hP hD hS hw
      refine lv_goto (tgt := 66) hx hb dX4_across_159 (by decide) ?_
      exact ih mst_47 w46 ls _ _ (lv_sub hl [0, 1, 2] rfl) hP hD hS hw
set_option maxRecDepth 100000 in
set_option maxHeartbeats 4000000 in
theorem c_X4_across (l : Launch) (dC : Nat → ClassId) (dI : Nat → Nat → Nat) (cI cJ cZ : ClassId) (ad : Nat → Nat) (sz : Nat) (mre : Int32) (mth : Nat → Int32) (mxs : Nat → Int32) (mys : Nat → Int32) (mcu : Int32) (mnx : Nat → Int32) (mpo : Nat → Int32) (mpn : Int32) (mrn : Int32) (mrd : Nat → Int32) (mfi : Nat → Int32) (mar : Nat → Int64) (mfn : Int32) (mfa : Nat → Int32) (mnu : Nat → Int32) (mst : Nat → Int32) (v1 : Int32) (v2 : Int32) {post : Int32 → Int32 → Int32 → (Nat → Int32) → (Nat → Int32) → Int32 → Int32 → (Nat → Int32) → (Nat → Int32) → (Nat → Int64) → Int32 → (Nat → Int32) → (Nat → Int32) → (Nat → Int32) → Prop} (hw : wp_X4_across mre mth mxs mys mcu mnx mpo mpn mrn mrd mfi mar mfn mfa mnu mst v1 v2 post) : Met l yX4_across wsX4_across rm_X4_across (va_Pc [.ref (ad 0), .int v1, .int v2] (fun U => U.heap.size = sz ∧ va_P (dC, dI) vwCl (wMod ad cI cJ cZ mre mth mxs mys mcu mnx mpo mpn mrn mrd mfi mar mfn mfa mnu mst) U.heap ∧ va_K (dC, dI) vwCl (tyL cI cJ cZ) U ∧ va_D (fun _ => True) (wMod ad cI cJ cZ mre mth mxs mys mcu mnx mpo mpn mrn mrd mfi mar mfn mfa mnu mst))) (va_Qi (fun (r : Int32) (uu : Int32 × Int32 × (Nat → Int32) × (Nat → Int32) × Int32 × Int32 × (Nat → Int32) × (Nat → Int32) × (Nat → Int64) × Int32 × (Nat → Int32) × (Nat → Int32) × (Nat → Int32)) => post r uu.1 uu.2.1 uu.2.2.1 uu.2.2.2.1 uu.2.2.2.2.1 uu.2.2.2.2.2.1 uu.2.2.2.2.2.2.1 uu.2.2.2.2.2.2.2.1 uu.2.2.2.2.2.2.2.2.1 uu.2.2.2.2.2.2.2.2.2.1 uu.2.2.2.2.2.2.2.2.2.2.1 uu.2.2.2.2.2.2.2.2.2.2.2.1 uu.2.2.2.2.2.2.2.2.2.2.2.2) (fun (uu : Int32 × Int32 × (Nat → Int32) × (Nat → Int32) × Int32 × Int32 × (Nat → Int32) × (Nat → Int32) × (Nat → Int64) × Int32 × (Nat → Int32) × (Nat → Int32) × (Nat → Int32)) (t : State) => va_P (dC, dI) vwCl (wMod ad cI cJ cZ uu.1 mth mxs mys uu.2.1 uu.2.2.1 uu.2.2.2.1 uu.2.2.2.2.1 uu.2.2.2.2.2.1 uu.2.2.2.2.2.2.1 uu.2.2.2.2.2.2.2.1 uu.2.2.2.2.2.2.2.2.1 uu.2.2.2.2.2.2.2.2.2.1 uu.2.2.2.2.2.2.2.2.2.2.1 uu.2.2.2.2.2.2.2.2.2.2.2.1 uu.2.2.2.2.2.2.2.2.2.2.2.2) t.heap ∧ va_D (va_A (wMod ad cI cJ cZ mre mth mxs mys mcu mnx mpo mpn mrn mrd mfi mar mfn mfa mnu mst) sz) (wMod ad cI cJ cZ uu.1 mth mxs mys uu.2.1 uu.2.2.1 uu.2.2.2.1 uu.2.2.2.2.1 uu.2.2.2.2.2.1 uu.2.2.2.2.2.2.1 uu.2.2.2.2.2.2.2.1 uu.2.2.2.2.2.2.2.2.1 uu.2.2.2.2.2.2.2.2.2.1 uu.2.2.2.2.2.2.2.2.2.2.1 uu.2.2.2.2.2.2.2.2.2.2.2.1 uu.2.2.2.2.2.2.2.2.2.2.2.2)) (va_A (wMod ad cI cJ cZ mre mth mxs mys mcu mnx mpo mpn mrn mrd mfi mar mfn mfa mnu mst) sz)) 0 0 (va_A (wMod ad cI cJ cZ mre mth mxs mys mcu mnx mpo mpn mrn mrd mfi mar mfn mfa mnu mst) sz) := by
  unfold wp_X4_across at hw
  refine Met.ofW (cc := cX4_across) (maxL := 5) (ret := (some .int)) (by decide) rfl ?_
  intro p e s m args below meth c s₁ B hml hv
  obtain ⟨hav, hsz, hP, hK, hD0⟩ := hv
  have hx := B.exec
  have hb := B.bytes
  have hr := B.returns
  have hts := atoms_spec (ws := wsX4_across) B.pre
  have hown : s.vm.findClass RX4 = some m.cls := findClass_of_methodNamed B.named
  have hlocks := B.notSynchronized
  have C : CallFix p m c cX4_across 5 s args wsX4_across RX4 := ⟨hx, hb, hml, hown, hts⟩
  obtain ⟨ls, hE, hl⟩ := mx_entry (m := m) [.ref (ad 0), .int v1, .int v2] (n := 5) (Nat.le_of_ble_eq_true rfl)
  have hl : lv_has ls 5 [(0, .ref (ad 0)), (1, .int v1), (2, .int v2)] := hl
  rw [show entryFrame m args 5 = F0 m 0 ls [] by rw [hav]; exact hE]
  subst hsz
  have hD := hD0.self (sz := s.heap.size)
  generalize hAe : va_A (wMod ad cI cJ cZ mre mth mxs mys mcu mnx mpo mpn mrn mrd mfi mar mfn mfa mnu mst) s.heap.size = A at hD ⊢
  have hA : ∀ q : Nat, s.heap.size ≤ q → A q := fun q h => by rw [← hAe]; exact Or.inr h
  have hS : va_S A s.heap s.heap [] := va_S.rf
  obtain ⟨Q, hQ⟩ : ∃ Q, MQ below (va_Qi (fun (r : Int32) (uu : Int32 × Int32 × (Nat → Int32) × (Nat → Int32) × Int32 × Int32 × (Nat → Int32) × (Nat → Int32) × (Nat → Int64) × Int32 × (Nat → Int32) × (Nat → Int32) × (Nat → Int32)) => post r uu.1 uu.2.1 uu.2.2.1 uu.2.2.2.1 uu.2.2.2.2.1 uu.2.2.2.2.2.1 uu.2.2.2.2.2.2.1 uu.2.2.2.2.2.2.2.1 uu.2.2.2.2.2.2.2.2.1 uu.2.2.2.2.2.2.2.2.2.1 uu.2.2.2.2.2.2.2.2.2.2.1 uu.2.2.2.2.2.2.2.2.2.2.2.1 uu.2.2.2.2.2.2.2.2.2.2.2.2) (fun (uu : Int32 × Int32 × (Nat → Int32) × (Nat → Int32) × Int32 × Int32 × (Nat → Int32) × (Nat → Int32) × (Nat → Int64) × Int32 × (Nat → Int32) × (Nat → Int32) × (Nat → Int32)) (t : State) => va_P (dC, dI) vwCl (wMod ad cI cJ cZ uu.1 mth mxs mys uu.2.1 uu.2.2.1 uu.2.2.2.1 uu.2.2.2.2.1 uu.2.2.2.2.2.1 uu.2.2.2.2.2.2.1 uu.2.2.2.2.2.2.2.1 uu.2.2.2.2.2.2.2.2.1 uu.2.2.2.2.2.2.2.2.2.1 uu.2.2.2.2.2.2.2.2.2.2.1 uu.2.2.2.2.2.2.2.2.2.2.2.1 uu.2.2.2.2.2.2.2.2.2.2.2.2) t.heap ∧ va_D A (wMod ad cI cJ cZ uu.1 mth mxs mys uu.2.1 uu.2.2.1 uu.2.2.2.1 uu.2.2.2.2.1 uu.2.2.2.2.2.1 uu.2.2.2.2.2.2.1 uu.2.2.2.2.2.2.2.1 uu.2.2.2.2.2.2.2.2.1 uu.2.2.2.2.2.2.2.2.2.1 uu.2.2.2.2.2.2.2.2.2.2.1 uu.2.2.2.2.2.2.2.2.2.2.2.1 uu.2.2.2.2.2.2.2.2.2.2.2.2)) A) args s 0 0 A = Q := ⟨_, rfl⟩
  rw [hQ]
  obtain ⟨H, hH⟩ : ∃ H, s.heap = H := ⟨_, rfl⟩
  have hS : va_S A s.heap H [] := by rw [← hH]; exact hS
  rw [hH] at hP
  show W p l e rm_X4_across s m args below meth c s.heap [] 0 0 Q (F0 m 0 ls [])
  suffices hg : W p l e rm_X4_across s m args below meth c H [] 0 0 Q (F0 m 0 ls []) by rw [hH]; exact hg
  clear hH
  generalize hlo : ([] : List Loc) = locs at hS ⊢
  refine lv_aload_n hx hb dX4_across_0 rfl (lv_at hl 0 rfl) ?_
  refine lv_aload_n hx hb dX4_across_1 rfl (lv_at hl 0 rfl) ?_
  refine lv_iload_n hx hb dX4_across_2 rfl (lv_at hl 1 rfl) ?_
  have hPc := hP.sub (ws' := (wMod ad cI cJ cZ mre mth mxs mys mcu mnx mpo mpn mrn mrd mfi mar mfn mfa mnu mst)) [0, 1, 2, 3, 4, 5, 6, 7, 8, 9, 10, 11] rfl
  have hDc := hD.sub (ws' := (wMod ad cI cJ cZ mre mth mxs mys mcu mnx mpo mpn mrn mrd mfi mar mfn mfa mnu mst)) [0, 1, 2, 3, 4, 5, 6, 7, 8, 9, 10, 11] (by decide) rfl
  have hFc := va_free (wc := (wMod ad cI cJ cZ mre mth mxs mys mcu mnx mpo mpn mrn mrd mfi mar mfn mfa mnu mst)) hD hS hA [0, 1, 2, 3, 4, 5, 6, 7, 8, 9, 10, 11] rfl
  refine va_calli (va_runV (As := [.int v1]) (rest := [.ref (ad 0)]) C (c_X4_isFace l dC dI cI cJ cZ ad _ mre mth mxs mys mcu mnx mpo mpn mrn mrd mfi mar mfn mfa mnu mst v1 hw) (cwV 1 hts gX4_across_X4_isFace rfl rfl rfl (by decide +kernel) ⟨Nat.le_of_ble_eq_true rfl, Nat.le_of_ble_eq_true rfl⟩) ⟨fb_rw, va_recv hK hPc (ci := 4) (q0 := 0) rfl rfl, fun U hU hW => ⟨rfl, by rw [hU], by rw [hU]; exact hPc, va_K.moved hW.alike hK, hDc.weaken (fun _ _ _ _ => trivial)⟩⟩ rfl rfl hl.1 rfl (lv_room (Nat.le_of_ble_eq_true rfl)) dX4_across_3 ⟨Nat.zero_le _, Nat.zero_le _⟩) hS (fun q _ h => hFc q h) hFc (fun r1 uu t H1 locs ht hvm hw hB hz1 hk1 hS => ?_)
  obtain ⟨mcu_2, mnx_3, mpo_4, mpn_5, mrn_6, mrd_7, mfi_8, mar_9, mfn_10, mfa_11, mnu_12⟩ := uu
  obtain ⟨hP1, hD1⟩ := hB
  rw [ht] at hP1
  try dsimp only at hw hP1 hD1
  obtain ⟨hP, hD⟩ := va_join (wr := []) (w1 := (wMod ad cI cJ cZ mre mth mxs mys mcu_2 mnx_3 mpo_4 mpn_5 mrn_6 mrd_7 mfi_8 mar_9 mfn_10 mfa_11 mnu_12 mst)) hP hD [0, 1, 2, 3, 4, 5, 6, 7, 8, 9, 10, 11] [] rfl rfl (by decide) (by decide) hk1 hFc hP1 hD1
  generalize H1 = H at hP hS ⊢
  have hP : va_P (dC, dI) vwCl (wMod ad cI cJ cZ mre mth mxs mys mcu_2 mnx_3 mpo_4 mpn_5 mrn_6 mrd_7 mfi_8 mar_9 mfn_10 mfa_11 mnu_12 mst) H := hP
  have hD : va_D A (wMod ad cI cJ cZ mre mth mxs mys mcu_2 mnx_3 mpo_4 mpn_5 mrn_6 mrd_7 mfi_8 mar_9 mfn_10 mfa_11 mnu_12 mst) := hD
  refine jn12_use (J := fun (k13 : Int32) (mcu_14 : Int32) (mnx_15 : Nat → Int32) (mpo_16 : Nat → Int32) (mpn_17 : Int32) (mrn_18 : Int32) (mrd_19 : Nat → Int32) (mfi_20 : Nat → Int32) (mar_21 : Nat → Int64) (mfn_22 : Int32) (mfa_23 : Nat → Int32) (mnu_24 : Nat → Int32) => ∀ (ls : Array Slot) (H : Heap) (locs : List Loc), lv_has ls 5 [(0, .ref (ad 0)), (1, .int v1), (2, .int v2)] → va_P (dC, dI) vwCl (wMod ad cI cJ cZ mre mth mxs mys mcu_14 mnx_15 mpo_16 mpn_17 mrn_18 mrd_19 mfi_20 mar_21 mfn_22 mfa_23 mnu_24 mst) H → va_D A (wMod ad cI cJ cZ mre mth mxs mys mcu_14 mnx_15 mpo_16 mpn_17 mrn_18 mrd_19 mfi_20 mar_21 mfn_22 mfa_23 mnu_24 mst) → va_S A s.heap H locs → W p l e rm_X4_across s m args below meth c H locs 0 0 Q (F0 m 22 ls [.int k13, .ref (ad 0)])) hw (fun k13 mcu_14 mnx_15 mpo_16 mpn_17 mrn_18 mrd_19 mfi_20 mar_21 mfn_22 mfa_23 mnu_24 hw ls H locs hl hP hD hS => ?_) (fun hw hj0 => ?_)
  · have hPc := hP.sub (ws' := (wMod ad cI cJ cZ mre mth mxs mys mcu_14 mnx_15 mpo_16 mpn_17 mrn_18 mrd_19 mfi_20 mar_21 mfn_22 mfa_23 mnu_24 mst)) [0, 1, 2, 3, 4, 5, 6, 7, 8, 9, 10, 11] rfl
    have hDc := hD.sub (ws' := (wMod ad cI cJ cZ mre mth mxs mys mcu_14 mnx_15 mpo_16 mpn_17 mrn_18 mrd_19 mfi_20 mar_21 mfn_22 mfa_23 mnu_24 mst)) [0, 1, 2, 3, 4, 5, 6, 7, 8, 9, 10, 11] (by decide) rfl
    have hFc := va_free (wc := (wMod ad cI cJ cZ mre mth mxs mys mcu_14 mnx_15 mpo_16 mpn_17 mrn_18 mrd_19 mfi_20 mar_21 mfn_22 mfa_23 mnu_24 mst)) hD hS hA [0, 1, 2, 3, 4, 5, 6, 7, 8, 9, 10, 11] rfl
    refine va_calli (va_runV (As := [.int k13]) (rest := []) C (c_X4_refused l dC dI cI cJ cZ ad _ mre mth mxs mys mcu_14 mnx_15 mpo_16 mpn_17 mrn_18 mrd_19 mfi_20 mar_21 mfn_22 mfa_23 mnu_24 mst k13 hw) (cwV 1 hts gX4_across_X4_refused rfl rfl rfl (by decide +kernel) ⟨Nat.le_of_ble_eq_true rfl, Nat.le_of_ble_eq_true rfl⟩) ⟨fb_rw, va_recv hK hPc (ci := 4) (q0 := 0) rfl rfl, fun U hU hW => ⟨rfl, by rw [hU], by rw [hU]; exact hPc, va_K.moved hW.alike hK, hDc.weaken (fun _ _ _ _ => trivial)⟩⟩ rfl rfl hl.1 rfl (lv_room (Nat.le_of_ble_eq_true rfl)) dX4_across_22 ⟨Nat.zero_le _, Nat.zero_le _⟩) hS (fun q _ h => hFc q h) hFc (fun r27 uu t H1 locs ht hvm hw hB hz1 hk1 hS => ?_)
    obtain ⟨mre_28, rfl⟩ : ∃ z, z = uu := ⟨_, rfl⟩
    obtain ⟨hP1, hD1⟩ := hB
    rw [ht] at hP1
    try dsimp only at hw hP1 hD1
    obtain ⟨hP, hD⟩ := va_join (wr := []) (w1 := (wMod ad cI cJ cZ mre_28 mth mxs mys mcu_14 mnx_15 mpo_16 mpn_17 mrn_18 mrd_19 mfi_20 mar_21 mfn_22 mfa_23 mnu_24 mst)) hP hD [0, 1, 2, 3, 4, 5, 6, 7, 8, 9, 10, 11] [] rfl rfl (by decide) (by decide) hk1 hFc hP1 hD1
    generalize H1 = H at hP hS ⊢
    have hP : va_P (dC, dI) vwCl (wMod ad cI cJ cZ mre_28 mth mxs mys mcu_14 mnx_15 mpo_16 mpn_17 mrn_18 mrd_19 mfi_20 mar_21 mfn_22 mfa_23 mnu_24 mst) H := hP
    have hD : va_D A (wMod ad cI cJ cZ mre_28 mth mxs mys mcu_14 mnx_15 mpo_16 mpn_17 mrn_18 mrd_19 mfi_20 mar_21 mfn_22 mfa_23 mnu_24 mst) := hD
    refine lv_if_eq (tgt := 30) hx hb dX4_across_25 (by decide) (fun hc => ?_) (fun hc => ?_)
    · have hw := hw.1 (hc)
      refine lv_iconst (v := 0) hx hb dX4_across_30 (by decide) ?_
      refine lv_istore_n (lv' := [(3, .int (0 : Int32)), (0, .ref (ad 0)), (1, .int v1), (2, .int v2)]) hx hb dX4_across_31 rfl hl (by decide) rfl (fun ls hl => ?_)
      obtain ⟨n51, hw⟩ := hw
      refine l_X4_across_32 C hK hA (fun mst_34 ls H locs hl hP hD hS hw => ?_) n51 mst (0 : Int32) ls _ _ (lv_sub hl [1, 2, 3, 0] rfl) hP hD hS hw
      refine lv_iconst (v := 1) hx hb dX4_across_64 (by decide) ?_
      refine lv_istore_n (lv' := [(3, .int (1 : Int32)), (0, .ref (ad 0)), (2, .int v2)]) hx hb dX4_across_65 rfl hl (by decide) rfl (fun ls hl => ?_)
      obtain ⟨n50, hw⟩ := hw
      refine l_X4_across_66 C hK hA (fun mst_49 ls H locs hl hP hD hS hw => ?_) n50 mst_34 (1 : Int32) ls _ _ (lv_sub hl [1, 2, 0] rfl) hP hD hS hw
      refine lv_aload_n hx hb dX4_across_162 rfl (lv_at hl 0 rfl) ?_
      refine va_get (D := (dC, dI)) (ci := 4) (v := .ref (ad 11)) (C := RX4) (T := TX4) (N := 16) hx hb hts f_X4_across_1 hown hK hP 0 rfl rfl 15 (by decide) (hts _ f_X4_across_2) (fun _ h9 => h9) rfl dX4_across_163 ?_
      refine lv_iload_n hx hb dX4_across_166 rfl (lv_at hl 1 rfl) ?_
      have hi := hw.1
      have hw := hw.2
      refine va_iald hx hb hK hP 11 0 rfl rfl hi dX4_across_167 ?_
      rw [← hQ]
      exact W.iret (v := (mst_49 v2.toNatClampNeg)) hx hb hr (fun t ht hW => ⟨⟨_, (mre_28, mcu_14, mnx_15, mpo_16, mpn_17, mrn_18, mrd_19, mfi_20, mar_21, mfn_22, mfa_23, mnu_24, mst_49), rfl, hw, by rw [ht]; exact hP, hD⟩, hS.F ht⟩) hS.2.2 dX4_across_168
    · have hw := hw.2 hc
      refine lv_iconst (v := 0) hx hb dX4_across_28 (by decide) ?_
      rw [← hQ]
      exact W.iret (v := (0 : Int32)) hx hb hr (fun t ht hW => ⟨⟨_, (mre_28, mcu_14, mnx_15, mpo_16, mpn_17, mrn_18, mrd_19, mfi_20, mar_21, mfn_22, mfa_23, mnu_24, mst), rfl, hw, by rw [ht]; exact hP, hD⟩, hS.F ht⟩) hS.2.2 dX4_across_29
  · have hj26 := hj0
    refine jn11_use (J := fun (mcu_52 : Int32) (mnx_53 : Nat → Int32) (mpo_54 : Nat → Int32) (mpn_55 : Int32) (mrn_56 : Int32) (mrd_57 : Nat → Int32) (mfi_58 : Nat → Int32) (mar_59 : Nat → Int64) (mfn_60 : Int32) (mfa_61 : Nat → Int32) (mnu_62 : Nat → Int32) => ∀ (ls : Array Slot) (H : Heap) (locs : List Loc), lv_has ls 5 [(0, .ref (ad 0)), (1, .int v1), (2, .int v2)] → va_P (dC, dI) vwCl (wMod ad cI cJ cZ mre mth mxs mys mcu_52 mnx_53 mpo_54 mpn_55 mrn_56 mrd_57 mfi_58 mar_59 mfn_60 mfa_61 mnu_62 mst) H → va_D A (wMod ad cI cJ cZ mre mth mxs mys mcu_52 mnx_53 mpo_54 mpn_55 mrn_56 mrd_57 mfi_58 mar_59 mfn_60 mfa_61 mnu_62 mst) → va_S A s.heap H locs → W p l e rm_X4_across s m args below meth c H locs 0 0 Q (F0 m 21 ls [.ref (ad 0)])) hw (fun mcu_52 mnx_53 mpo_54 mpn_55 mrn_56 mrd_57 mfi_58 mar_59 mfn_60 mfa_61 mnu_62 hw ls H locs hl hP hD hS => ?_) (fun hw hj0 => ?_)
    · refine lv_iconst (v := 1) hx hb dX4_across_21 (by decide) ?_
      exact hj26 (1 : Int32) mcu_52 mnx_53 mpo_54 mpn_55 mrn_56 mrd_57 mfi_58 mar_59 mfn_60 mfa_61 mnu_62 hw ls _ _ (lv_sub hl [0, 1, 2] rfl) hP hD hS
    · have hj64 := hj0
      refine lv_if_eq (tgt := 21) hx hb dX4_across_6 (by decide) (fun hc => ?_) (fun hc => ?_)
      · have hw := hw.1 (hc)
        exact hj64 mcu_2 mnx_3 mpo_4 mpn_5 mrn_6 mrd_7 mfi_8 mar_9 mfn_10 mfa_11 mnu_12 hw ls _ _ (lv_sub hl [0, 1, 2] rfl) hP hD hS
      · have hw := hw.2 hc
        refine lv_aload_n hx hb dX4_across_9 rfl (lv_at hl 0 rfl) ?_
        refine lv_iload_n hx hb dX4_across_10 rfl (lv_at hl 2 rfl) ?_
        have hPc := hP.sub (ws' := (wMod ad cI cJ cZ mre mth mxs mys mcu_2 mnx_3 mpo_4 mpn_5 mrn_6 mrd_7 mfi_8 mar_9 mfn_10 mfa_11 mnu_12 mst)) [0, 1, 2, 3, 4, 5, 6, 7, 8, 9, 10, 11] rfl
        have hDc := hD.sub (ws' := (wMod ad cI cJ cZ mre mth mxs mys mcu_2 mnx_3 mpo_4 mpn_5 mrn_6 mrd_7 mfi_8 mar_9 mfn_10 mfa_11 mnu_12 mst)) [0, 1, 2, 3, 4, 5, 6, 7, 8, 9, 10, 11] (by decide) rfl
        have hFc := va_free (wc := (wMod ad cI cJ cZ mre mth mxs mys mcu_2 mnx_3 mpo_4 mpn_5 mrn_6 mrd_7 mfi_8 mar_9 mfn_10 mfa_11 mnu_12 mst)) hD hS hA [0, 1, 2, 3, 4, 5, 6, 7, 8, 9, 10, 11] rfl
        refine va_calli (va_runV (As := [.int v2]) (rest := [.ref (ad 0)]) C (c_X4_isFace l dC dI cI cJ cZ ad _ mre mth mxs mys mcu_2 mnx_3 mpo_4 mpn_5 mrn_6 mrd_7 mfi_8 mar_9 mfn_10 mfa_11 mnu_12 mst v2 hw) (cwV 1 hts gX4_across_X4_isFace rfl rfl rfl (by decide +kernel) ⟨Nat.le_of_ble_eq_true rfl, Nat.le_of_ble_eq_true rfl⟩) ⟨fb_rw, va_recv hK hPc (ci := 4) (q0 := 0) rfl rfl, fun U hU hW => ⟨rfl, by rw [hU], by rw [hU]; exact hPc, va_K.moved hW.alike hK, hDc.weaken (fun _ _ _ _ => trivial)⟩⟩ rfl rfl hl.1 rfl (lv_room (Nat.le_of_ble_eq_true rfl)) dX4_across_11 ⟨Nat.zero_le _, Nat.zero_le _⟩) hS (fun q _ h => hFc q h) hFc (fun r65 uu t H1 locs ht hvm hw hB hz1 hk1 hS => ?_)
        obtain ⟨mcu_66, mnx_67, mpo_68, mpn_69, mrn_70, mrd_71, mfi_72, mar_73, mfn_74, mfa_75, mnu_76⟩ := uu
        obtain ⟨hP1, hD1⟩ := hB
        rw [ht] at hP1
        try dsimp only at hw hP1 hD1
        obtain ⟨hP, hD⟩ := va_join (wr := []) (w1 := (wMod ad cI cJ cZ mre mth mxs mys mcu_66 mnx_67 mpo_68 mpn_69 mrn_70 mrd_71 mfi_72 mar_73 mfn_74 mfa_75 mnu_76 mst)) hP hD [0, 1, 2, 3, 4, 5, 6, 7, 8, 9, 10, 11] [] rfl rfl (by decide) (by decide) hk1 hFc hP1 hD1
        generalize H1 = H at hP hS ⊢
        have hP : va_P (dC, dI) vwCl (wMod ad cI cJ cZ mre mth mxs mys mcu_66 mnx_67 mpo_68 mpn_69 mrn_70 mrd_71 mfi_72 mar_73 mfn_74 mfa_75 mnu_76 mst) H := hP
        have hD : va_D A (wMod ad cI cJ cZ mre mth mxs mys mcu_66 mnx_67 mpo_68 mpn_69 mrn_70 mrd_71 mfi_72 mar_73 mfn_74 mfa_75 mnu_76 mst) := hD
        refine lv_if_eq (tgt := 21) hx hb dX4_across_14 (by decide) (fun hc => ?_) (fun hc => ?_)
        · have hw := hw.1 (hc)
          exact hj64 mcu_66 mnx_67 mpo_68 mpn_69 mrn_70 mrd_71 mfi_72 mar_73 mfn_74 mfa_75 mnu_76 hw ls _ _ (lv_sub hl [0, 1, 2] rfl) hP hD hS
        · have hw := hw.2 hc
          refine lv_iconst (v := 0) hx hb dX4_across_17 (by decide) ?_
          refine lv_goto (tgt := 22) hx hb dX4_across_18 (by decide) ?_
          exact hj26 (0 : Int32) mcu_66 mnx_67 mpo_68 mpn_69 mrn_70 mrd_71 mfi_72 mar_73 mfn_74 mfa_75 mnu_76 hw ls _ _ (lv_sub hl [0, 1, 2] rfl) hP hD hS
