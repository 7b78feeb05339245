-- X4_isHalf
abbrev rm_X4_isHalf : Room := { frames := 0, cells := 0, slots := 0, locals := 0 }
theorem f_X4_isHalf_0 : (Cond.fieldLink RX4 7 "PlaneFacesModel" "isThere" "[Z") ∈ wsX4_isHalf := by decide +kernel
theorem f_X4_isHalf_1 : ∀ w ∈ wsX40, w ∈ wsX4_isHalf := by decide +kernel
set_option maxRecDepth 100000 in
set_option maxHeartbeats 4000000 in
theorem c_X4_isHalf (l : Launch) (dC : Nat → ClassId) (dI : Nat → Nat → Nat) (cI cJ cZ : ClassId) (ad : Nat → Nat) (mre : Int32) (mth : Nat → Int32) (mxs : Nat → Int32) (mys : Nat → Int32) (mcu : Int32) (mnx : Nat → Int32) (mpo : Nat → Int32) (mpn : Int32) (mrn : Int32) (mrd : Nat → Int32) (mfi : Nat → Int32) (mar : Nat → Int64) (mfn : Int32) (mfa : Nat → Int32) (mnu : Nat → Int32) (mst : Nat → Int32) (v1 : Int32) {post : Int32 → Prop} (hw : wp_X4_isHalf mth v1 post) : Met l yX4_isHalf wsX4_isHalf rm_X4_isHalf (va_Pc [.ref (ad 0), .int v1] (fun U => va_P (dC, dI) vwCl (wMod ad cI cJ cZ mre mth mxs mys mcu mnx mpo mpn mrn mrd mfi mar mfn mfa mnu mst) U.heap ∧ va_K (dC, dI) vwCl (tyL cI cJ cZ) U)) (vp_Si post) 0 0 (fun _ => False) := by
  unfold wp_X4_isHalf at hw
  refine Met.ofW (cc := cX4_isHalf) (maxL := 2) (ret := (some .boolean)) (by decide) rfl ?_
  intro p e s m args below meth c s₁ B hml hv
  obtain ⟨hav, hP, hK⟩ := hv
  have hx := B.exec
  have hb := B.bytes
  have hr := B.returns
  have hts := atoms_spec (ws := wsX4_isHalf) B.pre
  have hown : s.vm.findClass RX4 = some m.cls := findClass_of_methodNamed B.named
  have hlocks := B.notSynchronized
  have C : CallFix p m c cX4_isHalf 2 s args wsX4_isHalf RX4 := ⟨hx, hb, hml, hown, hts⟩
  obtain ⟨ls, hE, hl⟩ := mx_entry (m := m) [.ref (ad 0), .int v1] (n := 2) (Nat.le_of_ble_eq_true rfl)
  have hl : lv_has ls 2 [(0, .ref (ad 0)), (1, .int v1)] := hl
  rw [show entryFrame m args 2 = F0 m 0 ls [] by rw [hav]; exact hE]
  obtain ⟨Q, hQ⟩ : ∃ Q, MQ below (vp_Si post) args s 0 0 (fun _ => False) = Q := ⟨_, rfl⟩
  rw [hQ]
  obtain ⟨H, hH⟩ : ∃ H, s.heap = H := ⟨_, rfl⟩
  rw [hH]
  rw [hH] at hP
  show W p l e rm_X4_isHalf s m args below meth c H [] 0 0 Q (F0 m 0 ls [])
  refine lv_iload_n hx hb dX4_isHalf_0 rfl (lv_at hl 1 rfl) ?_
  refine jn1_use (J := fun (k1 : Int32) => ∀ ls : Array Slot, lv_has ls 2 [(0, .ref (ad 0))] → W p l e rm_X4_isHalf s m args below meth c H [] 0 0 Q (F0 m 26 ls [.int k1])) hw (fun k1 hw ls hl => ?_) (fun hw hj0 => ?_)
  · rw [← hQ]
    exact W.zret (v := k1) (ty := .boolean) hx hb hr (bz_n hw.1) (fun t ht hW => ⟨_, rfl, hw.2, ht.trans hH.symm⟩) (fun q h => by cases h) dX4_isHalf_26
  · have hj3 := hj0
    refine jn0_use (J := ∀ ls : Array Slot, lv_has ls 2 [(0, .ref (ad 0))] → W p l e rm_X4_isHalf s m args below meth c H [] 0 0 Q (F0 m 25 ls [])) hw (fun hw ls hl => ?_) (fun hw hj0 => ?_)
    · refine lv_iconst (v := 0) hx hb dX4_isHalf_25 (by decide) ?_
      exact hj3 (0 : Int32) hw ls (lv_sub hl [0] rfl)
    · have hj5 := hj0
      refine lv_if_lt (tgt := 25) hx hb dX4_isHalf_1 (by decide) (fun hc => ?_) (fun hc => ?_)
      · have hw := hw.1 (hc)
        exact hj5 hw ls (lv_sub hl [0] rfl)
      · have hw := hw.2 hc
        refine lv_iload_n hx hb dX4_isHalf_4 rfl (lv_at hl 1 rfl) ?_
        refine lv_bipush (v := 120) hx hb dX4_isHalf_5 (by decide) ?_
        refine lv_icmp_ge (tgt := 25) hx hb dX4_isHalf_7 (by decide) (fun hc => ?_) (fun hc => ?_)
        · have hw := hw.1 (hc)
          exact hj5 hw ls (lv_sub hl [0] rfl)
        · have hw := hw.2 hc
          refine lv_aload_n hx hb dX4_isHalf_10 rfl (lv_at hl 0 rfl) ?_
          refine va_get (D := (dC, dI)) (ci := 4) (v := .ref (ad 1)) (C := RX4) (T := TX4) (N := 16) hx hb hts f_X4_isHalf_1 hown hK hP 0 rfl rfl 1 (by decide) (hts _ f_X4_isHalf_0) (fun _ h9 => h9) rfl dX4_isHalf_11 ?_
          refine lv_iload_n hx hb dX4_isHalf_14 rfl (lv_at hl 1 rfl) ?_
          refine lv_iconst (v := 2) hx hb dX4_isHalf_15 (by decide) ?_
          refine lv_idiv hx hb dX4_isHalf_16 (by decide) ?_
          have hi := hw.1
          have hw := hw.2
          refine va_zald hx hb hK hP 1 2 rfl rfl hi dX4_isHalf_17 ?_
          refine lv_if_eq (tgt := 25) hx hb dX4_isHalf_18 (by decide) (fun hc => ?_) (fun hc => ?_)
          · have hw := hw.1 (hc)
            exact hj5 hw ls (lv_sub hl [0] rfl)
          · have hw := hw.2 hc
            refine lv_iconst (v := 1) hx hb dX4_isHalf_21 (by decide) ?_
            refine lv_goto (tgt := 26) hx hb dX4_isHalf_22 (by decide) ?_
            exact hj3 (1 : Int32) hw ls (lv_sub hl [0] rfl)
-- X4_back
abbrev rm_X4_back : Room := { frames := 0, cells := 0, slots := 0, locals := 0 }
set_option maxRecDepth 100000 in
set_option maxHeartbeats 4000000 in
theorem c_X4_back (l : Launch)  (v0 : Int32) {post : Int32 → Prop} (hw : wp_X4_back v0 post) : Met l yX4_back wsX4_back rm_X4_back (va_Pc [.int v0] (fun _ => True)) (vp_Si post) 0 0 (fun _ => False) := by
  unfold wp_X4_back at hw
  refine Met.ofW (cc := cX4_back) (maxL := 1) (ret := (some .int)) (by decide) rfl ?_
  intro p e s m args below meth c s₁ B hml hv
  obtain ⟨hav, -⟩ := hv
  have hx := B.exec
  have hb := B.bytes
  have hr := B.returns
  have hts := atoms_spec (ws := wsX4_back) B.pre
  have hown : s.vm.findClass RX4 = some m.cls := findClass_of_methodNamed B.named
  have hlocks := B.notSynchronized
  have C : CallFix p m c cX4_back 1 s args wsX4_back RX4 := ⟨hx, hb, hml, hown, hts⟩
  obtain ⟨ls, hE, hl⟩ := mx_entry (m := m) [.int v0] (n := 1) (Nat.le_of_ble_eq_true rfl)
  have hl : lv_has ls 1 [(0, .int v0)] := hl
  rw [show entryFrame m args 1 = F0 m 0 ls [] by rw [hav]; exact hE]
  obtain ⟨Q, hQ⟩ : ∃ Q, MQ below (vp_Si post) args s 0 0 (fun _ => False) = Q := ⟨_, rfl⟩
  rw [hQ]
  obtain ⟨H, hH⟩ : ∃ H, s.heap = H := ⟨_, rfl⟩
  rw [hH]
  show W p l e rm_X4_back s m args below meth c H [] 0 0 Q (F0 m 0 ls [])
  refine lv_iload_n hx hb dX4_back_0 rfl (lv_at hl 0 rfl) ?_
  refine lv_iconst (v := 2) hx hb dX4_back_1 (by decide) ?_
  refine lv_irem hx hb dX4_back_2 (by decide) ?_
  refine jn1_use (J := fun (k1 : Int32) => ∀ ls : Array Slot, lv_has ls 1 [] → W p l e rm_X4_back s m args below meth c H [] 0 0 Q (F0 m 15 ls [.int k1])) hw (fun k1 hw ls hl => ?_) (fun hw hj0 => ?_)
  · rw [← hQ]
    exact W.iret (v := k1) hx hb hr (fun t ht hW => ⟨_, rfl, hw, ht.trans hH.symm⟩) (fun q h => by cases h) dX4_back_15
  · have hj3 := hj0
    refine lv_if_ne (tgt := 12) hx hb dX4_back_3 (by decide) (fun hc => ?_) (fun hc => ?_)
    · have hw := hw.2 hc
      refine lv_iload_n hx hb dX4_back_12 rfl (lv_at hl 0 rfl) ?_
      refine lv_iconst (v := 1) hx hb dX4_back_13 (by decide) ?_
      refine lv_isub hx hb dX4_back_14 ?_
      exact hj3 (v0 - (1 : Int32)) hw ls (lv_sub hl [] rfl)
    · have hw := hw.1 (hc)
      refine lv_iload_n hx hb dX4_back_6 rfl (lv_at hl 0 rfl) ?_
      refine lv_iconst (v := 1) hx hb dX4_back_7 (by decide) ?_
      refine lv_iadd hx hb dX4_back_8 ?_
      refine lv_goto (tgt := 15) hx hb dX4_back_9 (by decide) ?_
      exact hj3 (v0 + (1 : Int32)) hw ls (lv_sub hl [] rfl)
-- X4_leaves
abbrev rm_X4_leaves : Room := { frames := 0, cells := 0, slots := 0, locals := 0 }
theorem f_X4_leaves_0 : (Cond.fieldLink RX4 7 "PlaneFacesModel" "isThere" "[Z") ∈ wsX4_leaves := by decide +kernel
theorem f_X4_leaves_1 : ∀ w ∈ wsX40, w ∈ wsX4_leaves := by decide +kernel
theorem f_X4_leaves_2 : (Cond.fieldLink RX4 13 "PlaneFacesModel" "xs" "[I") ∈ wsX4_leaves := by decide +kernel
theorem f_X4_leaves_3 : (Cond.fieldLink RX4 17 "PlaneFacesModel" "ys" "[I") ∈ wsX4_leaves := by decide +kernel
set_option maxRecDepth 100000 in
set_option maxHeartbeats 4000000 in
theorem c_X4_leaves (l : Launch) (dC : Nat → ClassId) (dI : Nat → Nat → Nat) (cI cJ cZ : ClassId) (ad : Nat → Nat) (mre : Int32) (mth : Nat → Int32) (mxs : Nat → Int32) (mys : Nat → Int32) (mcu : Int32) (mnx : Nat → Int32) (mpo : Nat → Int32) (mpn : Int32) (mrn : Int32) (mrd : Nat → Int32) (mfi : Nat → Int32) (mar : Nat → Int64) (mfn : Int32) (mfa : Nat → Int32) (mnu : Nat → Int32) (mst : Nat → Int32) (v1 : Int32) (v2 : Int32) (v3 : Int32) {post : Int32 → Prop} (hw : wp_X4_leaves mth mxs mys v1 v2 v3 post) : Met l yX4_leaves wsX4_leaves rm_X4_leaves (va_Pc [.ref (ad 0), .int v1, .int v2, .int v3] (fun U => va_P (dC, dI) vwCl (wMod ad cI cJ cZ mre mth mxs mys mcu mnx mpo mpn mrn mrd mfi mar mfn mfa mnu mst) U.heap ∧ va_K (dC, dI) vwCl (tyL cI cJ cZ) U)) (vp_Si post) 0 0 (fun _ => False) := by
  unfold wp_X4_leaves at hw
  refine Met.ofW (cc := cX4_leaves) (maxL := 4) (ret := (some .boolean)) (by decide) rfl ?_
  intro p e s m args below meth c s₁ B hml hv
  obtain ⟨hav, hP, hK⟩ := hv
  have hx := B.exec
  have hb := B.bytes
  have hr := B.returns
  have hts := atoms_spec (ws := wsX4_leaves) B.pre
  have hown : s.vm.findClass RX4 = some m.cls := findClass_of_methodNamed B.named
  have hlocks := B.notSynchronized
  have C : CallFix p m c cX4_leaves 4 s args wsX4_leaves RX4 := ⟨hx, hb, hml, hown, hts⟩
  obtain ⟨ls, hE, hl⟩ := mx_entry (m := m) [.ref (ad 0), .int v1, .int v2, .int v3] (n := 4) (Nat.le_of_ble_eq_true rfl)
  have hl : lv_has ls 4 [(0, .ref (ad 0)), (1, .int v1), (2, .int v2), (3, .int v3)] := hl
  rw [show entryFrame m args 4 = F0 m 0 ls [] by rw [hav]; exact hE]
  obtain ⟨Q, hQ⟩ : ∃ Q, MQ below (vp_Si post) args s 0 0 (fun _ => False) = Q := ⟨_, rfl⟩
  rw [hQ]
  obtain ⟨H, hH⟩ : ∃ H, s.heap = H := ⟨_, rfl⟩
  rw [hH]
  rw [hH] at hP
  show W p l e rm_X4_leaves s m args below meth c H [] 0 0 Q (F0 m 0 ls [])
  refine lv_aload_n hx hb dX4_leaves_0 rfl (lv_at hl 0 rfl) ?_
  refine va_get (D := (dC, dI)) (ci := 4) (v := .ref (ad 1)) (C := RX4) (T := TX4) (N := 16) hx hb hts f_X4_leaves_1 hown hK hP 0 rfl rfl 1 (by decide) (hts _ f_X4_leaves_0) (fun _ h9 => h9) rfl dX4_leaves_1 ?_
  refine lv_iload_n hx hb dX4_leaves_4 rfl (lv_at hl 1 rfl) ?_
  refine lv_iconst (v := 2) hx hb dX4_leaves_5 (by decide) ?_
  refine lv_idiv hx hb dX4_leaves_6 (by decide) ?_
  have hi := hw.1
  have hw := hw.2
  refine va_zald hx hb hK hP 1 2 rfl rfl hi dX4_leaves_7 ?_
  refine jn1_use (J := fun (k1 : Int32) => ∀ ls : Array Slot, lv_has ls 4 [(0, .ref (ad 0))] → W p l e rm_X4_leaves s m args below meth c H [] 0 0 Q (F0 m 36 ls [.int k1])) hw (fun k1 hw ls hl => ?_) (fun hw hj0 => ?_)
  · rw [← hQ]
    exact W.zret (v := k1) (ty := .boolean) hx hb hr (bz_n hw.1) (fun t ht hW => ⟨_, rfl, hw.2, ht.trans hH.symm⟩) (fun q h => by cases h) dX4_leaves_36
  · have hj3 := hj0
    refine jn0_use (J := ∀ ls : Array Slot, lv_has ls 4 [(0, .ref (ad 0))] → W p l e rm_X4_leaves s m args below meth c H [] 0 0 Q (F0 m 35 ls [])) hw (fun hw ls hl => ?_) (fun hw hj0 => ?_)
    · refine lv_iconst (v := 0) hx hb dX4_leaves_35 (by decide) ?_
      exact hj3 (0 : Int32) hw ls (lv_sub hl [0] rfl)
    · have hj5 := hj0
      refine lv_if_eq (tgt := 35) hx hb dX4_leaves_8 (by decide) (fun hc => ?_) (fun hc => ?_)
      · have hw := hw.1 (hc)
        exact hj5 hw ls (lv_sub hl [0] rfl)
      · have hw := hw.2 hc
        refine lv_aload_n hx hb dX4_leaves_11 rfl (lv_at hl 0 rfl) ?_
        refine va_get (D := (dC, dI)) (ci := 4) (v := .ref (ad 2)) (C := RX4) (T := TX4) (N := 16) hx hb hts f_X4_leaves_1 hown hK hP 0 rfl rfl 2 (by decide) (hts _ f_X4_leaves_2) (fun _ h9 => h9) rfl dX4_leaves_12 ?_
        refine lv_iload_n hx hb dX4_leaves_15 rfl (lv_at hl 1 rfl) ?_
        have hi := hw.1
        have hw := hw.2
        refine va_iald hx hb hK hP 2 0 rfl rfl hi dX4_leaves_16 ?_
        refine lv_iload_n hx hb dX4_leaves_17 rfl (lv_at hl 2 rfl) ?_
        refine lv_icmp_ne (tgt := 35) hx hb dX4_leaves_18 (by decide) (fun hc => ?_) (fun hc => ?_)
        · have hw := hw.2 hc
          exact hj5 hw ls (lv_sub hl [0] rfl)
        · have hw := hw.1 (hc)
          refine lv_aload_n hx hb dX4_leaves_21 rfl (lv_at hl 0 rfl) ?_
          refine va_get (D := (dC, dI)) (ci := 4) (v := .ref (ad 3)) (C := RX4) (T := TX4) (N := 16) hx hb hts f_X4_leaves_1 hown hK hP 0 rfl rfl 3 (by decide) (hts _ f_X4_leaves_3) (fun _ h9 => h9) rfl dX4_leaves_22 ?_
          refine lv_iload_n hx hb dX4_leaves_25 rfl (lv_at hl 1 rfl) ?_
          have hi := hw.1
          have hw := hw.2
          refine va_iald hx hb hK hP 3 0 rfl rfl hi dX4_leaves_26 ?_
          refine lv_iload_n hx hb dX4_leaves_27 rfl (lv_at hl 3 rfl) ?_
          refine lv_icmp_ne (tgt := 35) hx hb dX4_leaves_28 (by decide) (fun hc => ?_) (fun hc => ?_)
          · have hw := hw.2 hc
            exact hj5 hw ls (lv_sub hl [0] rfl)
          · have hw := hw.1 (hc)
            refine lv_iconst (v := 1) hx hb dX4_leaves_31 (by decide) ?_
            refine lv_goto (tgt := 36) hx hb dX4_leaves_32 (by decide) ?_
            exact hj3 (1 : Int32) hw ls (lv_sub hl [0] rfl)
-- X4_crossOf
abbrev rm_X4_crossOf : Room := { frames := 1, cells := 0, slots := 0, locals := 20 }
theorem f_X4_crossOf_0 : (Cond.fieldLink RX4 13 "PlaneFacesModel" "xs" "[I") ∈ wsX4_crossOf := by decide +kernel
theorem f_X4_crossOf_1 : ∀ w ∈ wsX40, w ∈ wsX4_crossOf := by decide +kernel
theorem f_X4_crossOf_2 : (Cond.fieldLink RX4 17 "PlaneFacesModel" "ys" "[I") ∈ wsX4_crossOf := by decide +kernel
set_option maxRecDepth 100000 in
set_option maxHeartbeats 4000000 in
theorem c_X4_crossOf (l : Launch) (dC : Nat → ClassId) (dI : Nat → Nat → Nat) (cI cJ cZ : ClassId) (ad : Nat → Nat) (mre : Int32) (mth : Nat → Int32) (mxs : Nat → Int32) (mys : Nat → Int32) (mcu : Int32) (mnx : Nat → Int32) (mpo : Nat → Int32) (mpn : Int32) (mrn : Int32) (mrd : Nat → Int32) (mfi : Nat → Int32) (mar : Nat → Int64) (mfn : Int32) (mfa : Nat → Int32) (mnu : Nat → Int32) (mst : Nat → Int32) (v1 : Int32) (v2 : Int32) {post : Int64 → Prop} (hw : wp_X4_crossOf mxs mys v1 v2 post) : Met l yX4_crossOf wsX4_crossOf rm_X4_crossOf (va_Pc [.ref (ad 0), .int v1, .int v2] (fun U => va_P (dC, dI) vwCl (wMod ad cI cJ cZ mre mth mxs mys mcu mnx mpo mpn mrn mrd mfi mar mfn mfa mnu mst) U.heap ∧ va_K (dC, dI) vwCl (tyL cI cJ cZ) U)) (vp_Sl post) 0 0 (fun _ => False) := by
  unfold wp_X4_crossOf at hw
  refine Met.ofW (cc := cX4_crossOf) (maxL := 11) (ret := (some .long)) (by decide) rfl ?_
  intro p e s m args below meth c s₁ B hml hv
  obtain ⟨hav, hP, hK⟩ := hv
  have hx := B.exec
  have hb := B.bytes
  have hr := B.returns
  have hts := atoms_spec (ws := wsX4_crossOf) B.pre
  have hown : s.vm.findClass RX4 = some m.cls := findClass_of_methodNamed B.named
  have hlocks := B.notSynchronized
  have C : CallFix p m c cX4_crossOf 11 s args wsX4_crossOf RX4 := ⟨hx, hb, hml, hown, hts⟩
  obtain ⟨ls, hE, hl⟩ := mx_entry (m := m) [.ref (ad 0), .int v1, .int v2] (n := 11) (Nat.le_of_ble_eq_true rfl)
  have hl : lv_has ls 11 [(0, .ref (ad 0)), (1, .int v1), (2, .int v2)] := hl
  rw [show entryFrame m args 11 = F0 m 0 ls [] by rw [hav]; exact hE]
  obtain ⟨Q, hQ⟩ : ∃ Q, MQ below (vp_Sl post) args s 0 0 (fun _ => False) = Q := ⟨_, rfl⟩
  rw [hQ]
  obtain ⟨H, hH⟩ : ∃ H, s.heap = H := ⟨_, rfl⟩
  rw [hH]
  rw [hH] at hP
  show W p l e rm_X4_crossOf s m args below meth c H [] 0 0 Q (F0 m 0 ls [])
  refine lv_aload_n hx hb dX4_crossOf_0 rfl (lv_at hl 0 rfl) ?_
  refine va_get (D := (dC, dI)) (ci := 4) (v := .ref (ad 2)) (C := RX4) (T := TX4) (N := 16) hx hb hts f_X4_crossOf_1 hown hK hP 0 rfl rfl 2 (by decide) (hts _ f_X4_crossOf_0) (fun _ h9 => h9) rfl dX4_crossOf_1 ?_
  refine lv_iload_n hx hb dX4_crossOf_4 rfl (lv_at hl 1 rfl) ?_
  refine vp_callSi (W.runS (As := [.int v1]) (rest := [.ref (ad 2)]) C (c_X4_back l v1 hw) (va_cwS 1 hts gX4_crossOf_X4_back rfl rfl rfl (by decide +kernel) ⟨Nat.le_of_ble_eq_true rfl, Nat.le_of_ble_eq_true rfl⟩) ⟨fb_st, fun U hU hW => ⟨rfl, trivial⟩⟩ rfl rfl hl.1 rfl (lv_room (Nat.le_of_ble_eq_true rfl)) dX4_crossOf_5 ⟨Nat.zero_le _, Nat.zero_le _⟩) (fun r1 hw => ?_)
  have hi := hw.1
  have hw := hw.2
  refine va_iald hx hb hK hP 2 0 rfl rfl hi dX4_crossOf_8 ?_
  refine lv_aload_n hx hb dX4_crossOf_9 rfl (lv_at hl 0 rfl) ?_
  refine va_get (D := (dC, dI)) (ci := 4) (v := .ref (ad 2)) (C := RX4) (T := TX4) (N := 16) hx hb hts f_X4_crossOf_1 hown hK hP 0 rfl rfl 2 (by decide) (hts _ f_X4_crossOf_0) (fun _ h9 => h9) rfl dX4_crossOf_10 ?_
  refine lv_iload_n hx hb dX4_crossOf_13 rfl (lv_at hl 1 rfl) ?_
  have hi := hw.1
  have hw := hw.2
  refine va_iald hx hb hK hP 2 0 rfl rfl hi dX4_crossOf_14 ?_
  refine lv_isub hx hb dX4_crossOf_15 ?_
  refine lv_i2l hx hb dX4_crossOf_16 rfl ?_
  refine lv_topl (fun a2 ea2 => ?_)
  have hw := hw a2 ea2
  refine lv_lstore_n (lv' := [(3, .long a2), (0, .ref (ad 0)), (1, .int v1), (2, .int v2)]) hx hb dX4_crossOf_17 rfl hl (by decide) rfl (fun ls hl => ?_)
  refine lv_aload_n hx hb dX4_crossOf_18 rfl (lv_at hl 1 rfl) ?_
  refine va_get (D := (dC, dI)) (ci := 4) (v := .ref (ad 3)) (C := RX4) (T := TX4) (N := 16) hx hb hts f_X4_crossOf_1 hown hK hP 0 rfl rfl 3 (by decide) (hts _ f_X4_crossOf_2) (fun _ h9 => h9) rfl dX4_crossOf_19 ?_
  refine lv_iload_n hx hb dX4_crossOf_22 rfl (lv_at hl 2 rfl) ?_
  refine vp_callSi (W.runS (As := [.int v1]) (rest := [.ref (ad 3)]) C (c_X4_back l v1 hw) (va_cwS 1 hts gX4_crossOf_X4_back rfl rfl rfl (by decide +kernel) ⟨Nat.le_of_ble_eq_true rfl, Nat.le_of_ble_eq_true rfl⟩) ⟨fb_st, fun U hU hW => ⟨rfl, trivial⟩⟩ rfl rfl hl.1 rfl (lv_room (Nat.le_of_ble_eq_true rfl)) dX4_crossOf_23 ⟨Nat.zero_le _, Nat.zero_le _⟩) (fun r3 hw => ?_)
  have hi := hw.1
  have hw := hw.2
  refine va_iald hx hb hK hP 3 0 rfl rfl hi dX4_crossOf_26 ?_
  refine lv_aload_n hx hb dX4_crossOf_27 rfl (lv_at hl 1 rfl) ?_
  refine va_get (D := (dC, dI)) (ci := 4) (v := .ref (ad 3)) (C := RX4) (T := TX4) (N := 16) hx hb hts f_X4_crossOf_1 hown hK hP 0 rfl rfl 3 (by decide) (hts _ f_X4_crossOf_2) (fun _ h9 => h9) rfl dX4_crossOf_28 ?_
  refine lv_iload_n hx hb dX4_crossOf_31 rfl (lv_at hl 2 rfl) ?_
  have hi := hw.1
  have hw := hw.2
  refine va_iald hx hb hK hP 3 0 rfl rfl hi dX4_crossOf_32 ?_
  refine lv_isub hx hb dX4_crossOf_33 ?_
  refine lv_i2l hx hb dX4_crossOf_34 rfl ?_
  refine lv_topl (fun a4 ea4 => ?_)
  have hw := hw a4 ea4
  refine lv_lstore (lv' := [(5, .long a4), (3, .long a2), (0, .ref (ad 0)), (1, .int v1), (2, .int v2)]) hx hb dX4_crossOf_35 hl (by decide) rfl (fun ls hl => ?_)
  refine lv_aload_n hx hb dX4_crossOf_37 rfl (lv_at hl 2 rfl) ?_
  refine va_get (D := (dC, dI)) (ci := 4) (v := .ref (ad 2)) (C := RX4) (T := TX4) (N := 16) hx hb hts f_X4_crossOf_1 hown hK hP 0 rfl rfl 2 (by decide) (hts _ f_X4_crossOf_0) (fun _ h9 => h9) rfl dX4_crossOf_38 ?_
  refine lv_iload_n hx hb dX4_crossOf_41 rfl (lv_at hl 4 rfl) ?_
  refine vp_callSi (W.runS (As := [.int v2]) (rest := [.ref (ad 2)]) C (c_X4_back l v2 hw) (va_cwS 1 hts gX4_crossOf_X4_back rfl rfl rfl (by decide +kernel) ⟨Nat.le_of_ble_eq_true rfl, Nat.le_of_ble_eq_true rfl⟩) ⟨fb_st, fun U hU hW => ⟨rfl, trivial⟩⟩ rfl rfl hl.1 rfl (lv_room (Nat.le_of_ble_eq_true rfl)) dX4_crossOf_42 ⟨Nat.zero_le _, Nat.zero_le _⟩) (fun r5 hw => ?_)
  have hi := hw.1
  have hw := hw.2
  refine va_iald hx hb hK hP 2 0 rfl rfl hi dX4_crossOf_45 ?_
  refine lv_aload_n hx hb dX4_crossOf_46 rfl (lv_at hl 2 rfl) ?_
  refine va_get (D := (dC, dI)) (ci := 4) (v := .ref (ad 2)) (C := RX4) (T := TX4) (N := 16) hx hb hts f_X4_crossOf_1 hown hK hP 0 rfl rfl 2 (by decide) (hts _ f_X4_crossOf_0) (fun _ h9 => h9) rfl dX4_crossOf_47 ?_
  refine lv_iload_n hx hb dX4_crossOf_50 rfl (lv_at hl 4 rfl) ?_
  have hi := hw.1
  have hw := hw.2
  refine va_iald hx hb hK hP 2 0 rfl rfl hi dX4_crossOf_51 ?_
  refine lv_isub hx hb dX4_crossOf_52 ?_
  refine lv_i2l hx hb dX4_crossOf_53 rfl ?_
  refine lv_topl (fun a6 ea6 => ?_)
  have hw := hw a6 ea6
  refine lv_lstore (lv' := [(7, .long a6), (5, .long a4), (3, .long a2), (0, .ref (ad 0)), (1, .int v1), (2, .int v2)]) hx hb dX4_crossOf_54 hl (by decide) rfl (fun ls hl => ?_)
  refine lv_aload_n hx hb dX4_crossOf_56 rfl (lv_at hl 3 rfl) ?_
  refine va_get (D := (dC, dI)) (ci := 4) (v := .ref (ad 3)) (C := RX4) (T := TX4) (N := 16) hx hb hts f_X4_crossOf_1 hown hK hP 0 rfl rfl 3 (by decide) (hts _ f_X4_crossOf_2) (fun _ h9 => h9) rfl dX4_crossOf_57 ?_
  refine lv_iload_n hx hb dX4_crossOf_60 rfl (lv_at hl 5 rfl) ?_
  refine vp_callSi (W.runS (As := [.int v2]) (rest := [.ref (ad 3)]) C (c_X4_back l v2 hw) (va_cwS 1 hts gX4_crossOf_X4_back rfl rfl rfl (by decide +kernel) ⟨Nat.le_of_ble_eq_true rfl, Nat.le_of_ble_eq_true rfl⟩) ⟨fb_st, fun U hU hW => ⟨rfl, trivial⟩⟩ rfl rfl hl.1 rfl (lv_room (Nat.le_of_ble_eq_true rfl)) dX4_crossOf_61 ⟨Nat.zero_le _, Nat.zero_le _⟩) (fun r7 hw => ?_)
  have hi := hw.1
  have hw := hw.2
  refine va_iald hx hb hK hP 3 0 rfl rfl hi dX4_crossOf_64 ?_
  refine lv_aload_n hx hb dX4_crossOf_65 rfl (lv_at hl 3 rfl) ?_
  refine va_get (D := (dC, dI)) (ci := 4) (v := .ref (ad 3)) (C := RX4) (T := TX4) (N := 16) hx hb hts f_X4_crossOf_1 hown hK hP 0 rfl rfl 3 (by decide) (hts _ f_X4_crossOf_2) (fun _ h9 => h9) rfl dX4_crossOf_66 ?_
  refine lv_iload_n hx hb dX4_crossOf_69 rfl (lv_at hl 5 rfl) ?_
  have hi := hw.1
  have hw := hw.2
  refine va_iald hx hb hK hP 3 0 rfl rfl hi dX4_crossOf_70 ?_
  refine lv_isub hx hb dX4_crossOf_71 ?_
  refine lv_i2l hx hb dX4_crossOf_72 rfl ?_
  refine lv_topl (fun a8 ea8 => ?_)
  have hw := hw a8 ea8
  refine lv_lstore (lv' := [(9, .long a8), (7, .long a6), (5, .long a4), (3, .long a2), (0, .ref (ad 0)), (1, .int v1), (2, .int v2)]) hx hb dX4_crossOf_73 hl (by decide) rfl (fun ls hl => ?_)
  refine lv_lload_n hx hb dX4_crossOf_75 rfl (lv_at hl 3 rfl) ?_
  refine lv_lload hx hb dX4_crossOf_76 (lv_at hl 0 rfl) ?_
  refine lv_lmul hx hb dX4_crossOf_78 ?_
  refine lv_lload hx hb dX4_crossOf_79 (lv_at hl 2 rfl) ?_
  refine lv_lload hx hb dX4_crossOf_81 (lv_at hl 1 rfl) ?_
  refine lv_lmul hx hb dX4_crossOf_83 ?_
  refine lv_lsub hx hb dX4_crossOf_84 ?_
  rw [← hQ]
  exact W.lret (v := ((a2 * a8) - (a4 * a6))) hx hb hr (fun t ht hW => ⟨_, rfl, hw, ht.trans hH.symm⟩) (fun q h => by cases h) dX4_crossOf_85
-- X4_turned
abbrev rm_X4_turned : Room := { frames := 2, cells := 0, slots := 0, locals := 50 }
set_option maxRecDepth 100000 in
set_option maxHeartbeats 4000000 in
theorem c_X4_turned (l : Launch) (dC : Nat → ClassId) (dI : Nat → Nat → Nat) (cI cJ cZ : ClassId) (ad : Nat → Nat) (mre : Int32) (mth : Nat → Int32) (mxs : Nat → Int32) (mys : Nat → Int32) (mcu : Int32) (mnx : Nat → Int32) (mpo : Nat → Int32) (mpn : Int32) (mrn : Int32) (mrd : Nat → Int32) (mfi : Nat → Int32) (mar : Nat → Int64) (mfn : Int32) (mfa : Nat → Int32) (mnu : Nat → Int32) (mst : Nat → Int32) (v1 : Int32) (v2 : Int32) {post : Int32 → Prop} (hw : wp_X4_turned mxs mys v1 v2 post) : Met l yX4_turned wsX4_turned rm_X4_turned (va_Pc [.ref (ad 0), .int v1, .int v2] (fun U => va_P (dC, dI) vwCl (wMod ad cI cJ cZ mre mth mxs mys mcu mnx mpo mpn mrn mrd mfi mar mfn mfa mnu mst) U.heap ∧ va_K (dC, dI) vwCl (tyL cI cJ cZ) U)) (vp_Si post) 0 0 (fun _ => False) := by
  unfold wp_X4_turned at hw
  refine Met.ofW (cc := cX4_turned) (maxL := 5) (ret := (some .int)) (by decide) rfl ?_
  intro p e s m args below meth c s₁ B hml hv
  obtain ⟨hav, hP, hK⟩ := hv
  have hx := B.exec
  have hb := B.bytes
  have hr := B.returns
  have hts := atoms_spec (ws := wsX4_turned) B.pre
  have hown : s.vm.findClass RX4 = some m.cls := findClass_of_methodNamed B.named
  have hlocks := B.notSynchronized
  have C : CallFix p m c cX4_turned 5 s args wsX4_turned RX4 := ⟨hx, hb, hml, hown, hts⟩
  obtain ⟨ls, hE, hl⟩ := mx_entry (m := m) [.ref (ad 0), .int v1, .int v2] (n := 5) (Nat.le_of_ble_eq_true rfl)
  have hl : lv_has ls 5 [(0, .ref (ad 0)), (1, .int v1), (2, .int v2)] := hl
  rw [show entryFrame m args 5 = F0 m 0 ls [] by rw [hav]; exact hE]
  obtain ⟨Q, hQ⟩ : ∃ Q, MQ below (vp_Si post) args s 0 0 (fun _ => False) = Q := ⟨_, rfl⟩
  rw [hQ]
  obtain ⟨H, hH⟩ : ∃ H, s.heap = H := ⟨_, rfl⟩
  rw [hH]
  rw [hH] at hP
  show W p l e rm_X4_turned s m args below meth c H [] 0 0 Q (F0 m 0 ls [])
  refine lv_aload_n hx hb dX4_turned_0 rfl (lv_at hl 0 rfl) ?_
  refine lv_iload_n hx hb dX4_turned_1 rfl (lv_at hl 1 rfl) ?_
  refine lv_iload_n hx hb dX4_turned_2 rfl (lv_at hl 2 rfl) ?_
  refine vp_callSl (W.runV (As := [.int v1, .int v2]) (rest := []) C (c_X4_crossOf l dC dI cI cJ cZ ad mre mth mxs mys mcu mnx mpo mpn mrn mrd mfi mar mfn mfa mnu mst v1 v2 hw) (cwV 2 hts gX4_turned_X4_crossOf rfl rfl rfl (by decide +kernel) ⟨Nat.le_of_ble_eq_true rfl, Nat.le_of_ble_eq_true rfl⟩) ⟨fb_ro, va_recv hK hP (ci := 4) (q0 := 0) rfl rfl, fun U hU hW => ⟨rfl, by rw [hU]; exact hP, va_K.moved hW.alike hK⟩⟩ rfl rfl hl.1 rfl (lv_room (Nat.le_of_ble_eq_true rfl)) dX4_turned_3 ⟨Nat.zero_le _, Nat.zero_le _⟩) (fun r1 hw => ?_)
  refine lv_lstore_n (lv' := [(3, .long r1), (0, .ref (ad 0)), (1, .int v1), (2, .int v2)]) hx hb dX4_turned_6 rfl hl (by decide) rfl (fun ls hl => ?_)
  refine lv_lload_n hx hb dX4_turned_7 rfl (lv_at hl 0 rfl) ?_
  refine lv_lconst (v := 0) hx hb dX4_turned_8 (by decide) ?_
  refine W.lcmp hx hb dX4_turned_9 ?_
  refine jn1_use (J := fun (k2 : Int32) => ∀ ls : Array Slot, lv_has ls 5 [(0, .ref (ad 0))] → W p l e rm_X4_turned s m args below meth c H [] 0 0 Q (F0 m 28 ls [.int k2])) hw (fun k2 hw ls hl => ?_) (fun hw hj0 => ?_)
  · rw [← hQ]
    exact W.iret (v := k2) hx hb hr (fun t ht hW => ⟨_, rfl, hw, ht.trans hH.symm⟩) (fun q h => by cases h) dX4_turned_28
  · have hj4 := hj0
    refine lv_if_ge (tgt := 17) hx hb dX4_turned_10 (by decide) (fun hc => ?_) (fun hc => ?_)
    · have hw := hw.1 ((lg_cmp_ge _ _).mp hc)
      refine lv_lload_n hx hb dX4_turned_17 rfl (lv_at hl 0 rfl) ?_
      refine lv_lconst (v := 0) hx hb dX4_turned_18 (by decide) ?_
      refine W.lcmp hx hb dX4_turned_19 ?_
      refine lv_if_ne (tgt := 27) hx hb dX4_turned_20 (by decide) (fun hc => ?_) (fun hc => ?_)
      · have hw := hw.2 (fun h9 => hc ((lg_cmp_eq _ _).mpr h9))
        refine lv_iconst (v := 2) hx hb dX4_turned_27 (by decide) ?_
        exact hj4 (2 : Int32) hw ls (lv_sub hl [1] rfl)
      · have hw := hw.1 ((lg_cmp_eq _ _).mp hc)
        refine lv_iconst (v := 1) hx hb dX4_turned_23 (by decide) ?_
        refine lv_goto (tgt := 28) hx hb dX4_turned_24 (by decide) ?_
        exact hj4 (1 : Int32) hw ls (lv_sub hl [1] rfl)
    · have hw := hw.2 (fun h9 => hc ((lg_cmp_ge _ _).mpr h9))
      refine lv_iconst (v := 0) hx hb dX4_turned_13 (by decide) ?_
      refine lv_goto (tgt := 28) hx hb dX4_turned_14 (by decide) ?_
      exact hj4 (0 : Int32) hw ls (lv_sub hl [1] rfl)
-- X4_nextOf
abbrev rm_X4_nextOf : Room := { frames := 3, cells := 0, slots := 0, locals := 74 }
theorem f_X4_nextOf_0 : (Cond.fieldLink RX4 13 "PlaneFacesModel" "xs" "[I") ∈ wsX4_nextOf := by decide +kernel
theorem f_X4_nextOf_1 : ∀ w ∈ wsX40, w ∈ wsX4_nextOf := by decide +kernel
theorem f_X4_nextOf_2 : (Cond.fieldLink RX4 17 "PlaneFacesModel" "ys" "[I") ∈ wsX4_nextOf := by decide +kernel
set_option maxRecDepth 100000 in
set_option maxHeartbeats 4000000 in
theorem l_X4_nextOf_10 {p : Program} {l : Launch} {e : Env} {s : State} {m : MethodId} {args : Array Value} {below : List Frame} {meth : Method} {c : Code} {Q : State → Prop} {dC : Nat → ClassId} {dI : Nat → Nat → Nat} {cI cJ cZ : ClassId} {ad : Nat → Nat} {mre : Int32} {mth : Nat → Int32} {mxs : Nat → Int32} {mys : Nat → Int32} {mcu : Int32} {mnx : Nat → Int32} {mpo : Nat → Int32} {mpn : Int32} {mrn : Int32} {mrd : Nat → Int32} {mfi : Nat → Int32} {mar : Nat → Int64} {mfn : Int32} {mfa : Nat → Int32} {mnu : Nat → Int32} {mst : Nat → Int32} {v2 : Int32} {K117 : Int32 → Prop} (C : CallFix p m c cX4_nextOf 6 s args wsX4_nextOf RX4) (hK : va_K (dC, dI) vwCl (tyL cI cJ cZ) s) {H : Heap} (hP : va_P (dC, dI) vwCl (wMod ad cI cJ cZ mre mth mxs mys mcu mnx mpo mpn mrn mrd mfi mar mfn mfa mnu mst) H) (hk117 : ∀ (w3 : Int32) (ls : Array Slot), lv_has ls 6 [(0, .ref (ad 0)), (2, .int v2), (3, .int w3)] → K117 w3 → W p l e rm_X4_nextOf s m args below meth c H [] 0 0 Q (F0 m 117 ls [])) : ∀ (n : Nat) (v3 : Int32) (v4 : Int32) (ls : Array Slot), lv_has ls 6 [(0, .ref (ad 0)), (2, .int v2), (3, .int v3), (4, .int v4)] → lp_X4_nextOf_10 mth mxs mys v2 K117 n v3 v4 → W p l e rm_X4_nextOf s m args below meth c H [] 0 0 Q (F0 m 10 ls []) := by
  obtain ⟨hx, hb, hml, hown, hts⟩ := id C
  intro n
  induction n with
  | zero =>
    intro v3 v4 ls hl hw
    rw [lp_X4_nextOf_10.eq_1] at hw
    exact hw.elim
  | succ n ih =>
    intro v3 v4 ls hl hw
    rw [lp_X4_nextOf_10.eq_2] at hw
    refine lv_iload hx hb dX4_nextOf_10 (lv_at hl 3 rfl) ?_
    refine lv_bipush (v := 120) hx hb dX4_nextOf_12 (by decide) ?_
    refine lv_icmp_ge (tgt := 117) hx hb dX4_nextOf_14 (by decide) (fun hc => ?_) (fun hc => ?_)
    · have hw := hw.1 (hc)
      exact hk117 v3 ls (lv_sub hl [0, 1, 2] rfl) hw
    · have hw := hw.2 hc
      refine lv_iload hx hb dX4_nextOf_17 (lv_at hl 3 rfl) ?_
      refine lv_iload_n hx hb dX4_nextOf_19 rfl (lv_at hl 1 rfl) ?_
      refine jn1_use (J := fun (j2 : Int32) => ∀ ls : Array Slot, lv_has ls 6 [(0, .ref (ad 0)), (2, .int v2), (3, .int j2), (4, .int v4)] → W p l e rm_X4_nextOf s m args below meth c H [] 0 0 Q (F0 m 111 ls [])) hw (fun j2 hw ls hl => ?_) (fun hw hj0 => ?_)
      · refine lv_iinc (v := (v4 + (1 : Int32))) (lv' := [(4, .int (v4 + (1 : Int32))), (0, .ref (ad 0)), (2, .int v2), (3, .int j2)]) hx hb dX4_nextOf_111 hl (k := 3) rfl rfl (by decide) rfl (fun ls hl => ?_)
        refine lv_goto (tgt := 10) hx hb dX4_nextOf_114 (by decide) ?_
        exact ih j2 (v4 + (1 : Int32)) ls (lv_sub hl [1, 2, 3, 0] rfl) hw
      · have hj4 := hj0
        refine lv_icmp_eq (tgt := 111) hx hb dX4_nextOf_20 (by decide) (fun hc => ?_) (fun hc => ?_)
        · have hw := hw.1 (hc)
          exact hj4 v3 hw ls (lv_sub hl [0, 1, 2, 3] rfl)
        · have hw := hw.2 hc
          refine lv_aload_n hx hb dX4_nextOf_23 rfl (lv_at hl 0 rfl) ?_
          refine lv_iload hx hb dX4_nextOf_24 (lv_at hl 3 rfl) ?_
          refine lv_aload_n hx hb dX4_nextOf_26 rfl (lv_at hl 0 rfl) ?_
          refine va_get (D := (dC, dI)) (ci := 4) (v := .ref (ad 2)) (C := RX4) (T := TX4) (N := 16) hx hb hts f_X4_nextOf_1 hown hK hP 0 rfl rfl 2 (by decide) (hts _ f_X4_nextOf_0) (fun _ h9 => h9) rfl dX4_nextOf_27 ?_
          refine lv_iload_n hx hb dX4_nextOf_30 rfl (lv_at hl 1 rfl) ?_
          have hi := hw.1
          have hw := hw.2
          refine va_iald hx hb hK hP 2 0 rfl rfl hi dX4_nextOf_31 ?_
          refine lv_aload_n hx hb dX4_nextOf_32 rfl (lv_at hl 0 rfl) ?_
          refine va_get (D := (dC, dI)) (ci := 4) (v := .ref (ad 3)) (C := RX4) (T := TX4) (N := 16) hx hb hts f_X4_nextOf_1 hown hK hP 0 rfl rfl 3 (by decide) (hts _ f_X4_nextOf_2) (fun _ h9 => h9) rfl dX4_nextOf_33 ?_
          refine lv_iload_n hx hb dX4_nextOf_36 rfl (lv_at hl 1 rfl) ?_
          have hi := hw.1
          have hw := hw.2
          refine va_iald hx hb hK hP 3 0 rfl rfl hi dX4_nextOf_37 ?_
          refine vp_callSi (W.runV (As := [.int v4, .int (mxs v2.toNatClampNeg), .int (mys v2.toNatClampNeg)]) (rest := []) C (c_X4_leaves l dC dI cI cJ cZ ad mre mth mxs mys mcu mnx mpo mpn mrn mrd mfi mar mfn mfa mnu mst v4 (mxs v2.toNatClampNeg) (mys v2.toNatClampNeg) hw) (cwV 3 hts gX4_nextOf_X4_leaves rfl rfl rfl (by decide +kernel) ⟨Nat.le_of_ble_eq_true rfl, Nat.le_of_ble_eq_true rfl⟩) ⟨fb_ro, va_recv hK hP (ci := 4) (q0 := 0) rfl rfl, fun U hU hW => ⟨rfl, by rw [hU]; exact hP, va_K.moved hW.alike hK⟩⟩ rfl rfl hl.1 rfl (lv_room (Nat.le_of_ble_eq_true rfl)) dX4_nextOf_38 ⟨Nat.zero_le _, Nat.zero_le _⟩) (fun r5 hw => ?_)
          refine lv_if_eq (tgt := 111) hx hb dX4_nextOf_41 (by decide) (fun hc => ?_) (fun hc => ?_)
          · have hw := hw.1 (hc)
            exact hj4 v3 hw ls (lv_sub hl [0, 1, 2, 3] rfl)
          · have hw := hw.2 hc
            refine lv_iload_n hx hb dX4_nextOf_44 rfl (lv_at hl 2 rfl) ?_
            refine jn1_use (J := fun (k6 : Int32) => ∀ ls : Array Slot, lv_has ls 6 [(0, .ref (ad 0)), (2, .int v2), (3, .int v3), (4, .int v4)] → W p l e rm_X4_nextOf s m args below meth c H [] 0 0 Q (F0 m 97 ls [.int k6])) hw (fun k6 hw ls hl => ?_) (fun hw hj0 => ?_)
            · refine lv_istore (lv' := [(5, .int k6), (0, .ref (ad 0)), (2, .int v2), (3, .int v3), (4, .int v4)]) hx hb dX4_nextOf_97 hl (by decide) rfl (fun ls hl => ?_)
              refine lv_iload hx hb dX4_nextOf_99 (lv_at hl 0 rfl) ?_
              refine jn1_use (J := fun (k9 : Int32) => ∀ ls : Array Slot, lv_has ls 6 [(0, .ref (ad 0)), (2, .int v2), (4, .int v4)] → W p l e rm_X4_nextOf s m args below meth c H [] 0 0 Q (F0 m 110 ls [.int k9])) hw (fun k9 hw ls hl => ?_) (fun hw hj0 => ?_)
              · refine lv_istore_n (lv' := [(3, .int k9), (0, .ref (ad 0)), (2, .int v2), (4, .int v4)]) hx hb dX4_nextOf_110 rfl hl (by decide) rfl (fun ls hl => ?_)
                exact hj4 k9 hw ls (lv_sub hl [1, 2, 0, 3] rfl)
              · have hj11 := hj0
                refine lv_if_eq (tgt := 109) hx hb dX4_nextOf_101 (by decide) (fun hc => ?_) (fun hc => ?_)
                · have hw := hw.1 (hc)
                  refine lv_iload_n hx hb dX4_nextOf_109 rfl (lv_at hl 3 rfl) ?_
                  exact hj11 v3 hw ls (lv_sub hl [1, 2, 4] rfl)
                · have hw := hw.2 hc
                  refine lv_iload hx hb dX4_nextOf_104 (lv_at hl 4 rfl) ?_
                  refine lv_goto (tgt := 110) hx hb dX4_nextOf_106 (by decide) ?_
                  exact hj11 v4 hw ls (lv_sub hl [1, 2, 4] rfl)
            · have hj8 := hj0
              refine jn0_use (J := ∀ ls : Array Slot, lv_has ls 6 [(0, .ref (ad 0)), (2, .int v2), (3, .int v3), (4, .int v4)] → W p l e rm_X4_nextOf s m args below meth c H [] 0 0 Q (F0 m 92 ls [])) hw (fun hw ls hl => ?_) (fun hw hj0 => ?_)
              · refine lv_iconst (v := 1) hx hb dX4_nextOf_92 (by decide) ?_
                refine lv_goto (tgt := 97) hx hb dX4_nextOf_93 (by decide) ?_
                exact hj8 (1 : Int32) hw ls (lv_sub hl [0, 1, 2, 3] rfl)
              · have hj13 := hj0
                refine lv_if_lt (tgt := 92) hx hb dX4_nextOf_45 (by decide) (fun hc => ?_) (fun hc => ?_)
                · have hw := hw.1 (hc)
                  exact hj13 hw ls (lv_sub hl [0, 1, 2, 3] rfl)
                · have hw := hw.2 hc
                  refine lv_aload_n hx hb dX4_nextOf_48 rfl (lv_at hl 0 rfl) ?_
                  refine lv_iload_n hx hb dX4_nextOf_49 rfl (lv_at hl 1 rfl) ?_
                  refine lv_iload hx hb dX4_nextOf_50 (lv_at hl 3 rfl) ?_
                  refine vp_callSi (W.runV (As := [.int v2, .int v4]) (rest := []) C (c_X4_turned l dC dI cI cJ cZ ad mre mth mxs mys mcu mnx mpo mpn mrn mrd mfi mar mfn mfa mnu mst v2 v4 hw) (cwV 2 hts gX4_nextOf_X4_turned rfl rfl rfl (by decide +kernel) ⟨Nat.le_of_ble_eq_true rfl, Nat.le_of_ble_eq_true rfl⟩) ⟨fb_ro, va_recv hK hP (ci := 4) (q0 := 0) rfl rfl, fun U hU hW => ⟨rfl, by rw [hU]; exact hP, va_K.moved hW.alike hK⟩⟩ rfl rfl hl.1 rfl (lv_room (Nat.le_of_ble_eq_true rfl)) dX4_nextOf_52 ⟨Nat.zero_le _, Nat.zero_le _⟩) (fun r14 hw => ?_)
                  refine lv_aload_n hx hb dX4_nextOf_55 rfl (lv_at hl 0 rfl) ?_
                  refine lv_iload_n hx hb dX4_nextOf_56 rfl (lv_at hl 1 rfl) ?_
                  refine lv_iload_n hx hb dX4_nextOf_57 rfl (lv_at hl 2 rfl) ?_
                  refine vp_callSi (W.runV (As := [.int v2, .int v3]) (rest := [.int r14]) C (c_X4_turned l dC dI cI cJ cZ ad mre mth mxs mys mcu mnx mpo mpn mrn mrd mfi mar mfn mfa mnu mst v2 v3 hw) (cwV 2 hts gX4_nextOf_X4_turned rfl rfl rfl (by decide +kernel) ⟨Nat.le_of_ble_eq_true rfl, Nat.le_of_ble_eq_true rfl⟩) ⟨fb_ro, va_recv hK hP (ci := 4) (q0 := 0) rfl rfl, fun U hU hW => ⟨rfl, by rw [hU]; exact hP, va_K.moved hW.alike hK⟩⟩ rfl rfl hl.1 rfl (lv_room (Nat.le_of_ble_eq_true rfl)) dX4_nextOf_58 ⟨Nat.zero_le _, Nat.zero_le _⟩) (fun r15 hw => ?_)
                  refine lv_icmp_lt (tgt := 92) hx hb dX4_nextOf_61 (by decide) (fun hc => ?_) (fun hc => ?_)
                  · have hw := hw.1 (hc)
                    exact hj13 hw ls (lv_sub hl [0, 1, 2, 3] rfl)
                  · have hw := hw.2 hc
                    refine lv_aload_n hx hb dX4_nextOf_64 rfl (lv_at hl 0 rfl) ?_
                    refine lv_iload_n hx hb dX4_nextOf_65 rfl (lv_at hl 1 rfl) ?_
                    refine lv_iload hx hb dX4_nextOf_66 (lv_at hl 3 rfl) ?_
                    refine vp_callSi (W.runV (As := [.int v2, .int v4]) (rest := []) C (c_X4_turned l dC dI cI cJ cZ ad mre mth mxs mys mcu mnx mpo mpn mrn mrd mfi mar mfn mfa mnu mst v2 v4 hw) (cwV 2 hts gX4_nextOf_X4_turned rfl rfl rfl (by decide +kernel) ⟨Nat.le_of_ble_eq_true rfl, Nat.le_of_ble_eq_true rfl⟩) ⟨fb_ro, va_recv hK hP (ci := 4) (q0 := 0) rfl rfl, fun U hU hW => ⟨rfl, by rw [hU]; exact hP, va_K.moved hW.alike hK⟩⟩ rfl rfl hl.1 rfl (lv_room (Nat.le_of_ble_eq_true rfl)) dX4_nextOf_68 ⟨Nat.zero_le _, Nat.zero_le _⟩) (fun r16 hw => ?_)
                    refine lv_aload_n hx hb dX4_nextOf_71 rfl (lv_at hl 0 rfl) ?_
                    refine lv_iload_n hx hb dX4_nextOf_72 rfl (lv_at hl 1 rfl) ?_
                    refine lv_iload_n hx hb dX4_nextOf_73 rfl (lv_at hl 2 rfl) ?_
                    refine vp_callSi (W.runV (As := [.int v2, .int v3]) (rest := [.int r16]) C (c_X4_turned l dC dI cI cJ cZ ad mre mth mxs mys mcu mnx mpo mpn mrn mrd mfi mar mfn mfa mnu mst v2 v3 hw) (cwV 2 hts gX4_nextOf_X4_turned rfl rfl rfl (by decide +kernel) ⟨Nat.le_of_ble_eq_true rfl, Nat.le_of_ble_eq_true rfl⟩) ⟨fb_ro, va_recv hK hP (ci := 4) (q0 := 0) rfl rfl, fun U hU hW => ⟨rfl, by rw [hU]; exact hP, va_K.moved hW.alike hK⟩⟩ rfl rfl hl.1 rfl (lv_room (Nat.le_of_ble_eq_true rfl)) dX4_nextOf_74 ⟨Nat.zero_le _, Nat.zero_le _⟩) (fun r17 hw => ?_)
                    refine jn0_use (J := ∀ ls : Array Slot, lv_has ls 6 [(0, .ref (ad 0)), (2, .int v2), (3, .int v3), (4, .int v4)] → W p l e rm_X4_nextOf s m args below meth c H [] 0 0 Q (F0 m 96 ls [])) hw (fun hw ls hl => ?_) (fun hw hj0 => ?_)
                    · refine lv_iconst (v := 0) hx hb dX4_nextOf_96 (by decide) ?_
                      exact hj8 (0 : Int32) hw ls (lv_sub hl [0, 1, 2, 3] rfl)
                    · have hj19 := hj0
                      refine lv_icmp_ne (tgt := 96) hx hb dX4_nextOf_77 (by decide) (fun hc => ?_) (fun hc => ?_)
                      · have hw := hw.2 hc
                        exact hj19 hw ls (lv_sub hl [0, 1, 2, 3] rfl)
                      · have hw := hw.1 (hc)
                        refine lv_aload_n hx hb dX4_nextOf_80 rfl (lv_at hl 0 rfl) ?_
                        refine lv_iload hx hb dX4_nextOf_81 (lv_at hl 3 rfl) ?_
                        refine lv_iload_n hx hb dX4_nextOf_83 rfl (lv_at hl 2 rfl) ?_
                        refine vp_callSl (W.runV (As := [.int v4, .int v3]) (rest := []) C (c_X4_crossOf l dC dI cI cJ cZ ad mre mth mxs mys mcu mnx mpo mpn mrn mrd mfi mar mfn mfa mnu mst v4 v3 hw) (cwV 2 hts gX4_nextOf_X4_crossOf rfl rfl rfl (by decide +kernel) ⟨Nat.le_of_ble_eq_true rfl, Nat.le_of_ble_eq_true rfl⟩) ⟨fb_ro, va_recv hK hP (ci := 4) (q0 := 0) rfl rfl, fun U hU hW => ⟨rfl, by rw [hU]; exact hP, va_K.moved hW.alike hK⟩⟩ rfl rfl hl.1 rfl (lv_room (Nat.le_of_ble_eq_true rfl)) dX4_nextOf_84 ⟨Nat.zero_le _, Nat.zero_le _⟩) (fun r20 hw => ?_)
                        refine lv_lconst (v := 0) hx hb dX4_nextOf_87 (by decide) ?_
                        refine W.lcmp hx hb dX4_nextOf_88 ?_
                        refine lv_if_ge (tgt := 96) hx hb dX4_nextOf_89 (by decide) (fun hc => ?_) (fun hc => ?_)
                        · have hw := hw.1 ((lg_cmp_ge _ _).mp hc)
                          exact hj19 hw ls (lv_sub hl [0, 1, 2, 3] rfl)
                        · have hw := hw.2 (fun h9 => hc ((lg_cmp_ge _ _).mpr h9))
                          exact hj13 hw ls (lv_sub hl [0, 1, 2, 3] rfl)
set_option maxRecDepth 100000 in
set_option maxHeartbeats 4000000 in
theorem c_X4_nextOf (l : Launch) (dC : Nat → ClassId) (dI : Nat → Nat → Nat) (cI cJ cZ : ClassId) (ad : Nat → Nat) (mre : Int32) (mth : Nat → Int32) (mxs : Nat → Int32) (mys : Nat → Int32) (mcu : Int32) (mnx : Nat → Int32) (mpo : Nat → Int32) (mpn : Int32) (mrn : Int32) (mrd : Nat → Int32) (mfi : Nat → Int32) (mar : Nat → Int64) (mfn : Int32) (mfa : Nat → Int32) (mnu : Nat → Int32) (mst : Nat → Int32) (v1 : Int32) {post : Int32 → Prop} (hw : wp_X4_nextOf mth mxs mys v1 post) : Met l yX4_nextOf wsX4_nextOf rm_X4_nextOf (va_Pc [.ref (ad 0), .int v1] (fun U => va_P (dC, dI) vwCl (wMod ad cI cJ cZ mre mth mxs mys mcu mnx mpo mpn mrn mrd mfi mar mfn mfa mnu mst) U.heap ∧ va_K (dC, dI) vwCl (tyL cI cJ cZ) U)) (vp_Si post) 0 0 (fun _ => False) := by
  unfold wp_X4_nextOf at hw
  refine Met.ofW (cc := cX4_nextOf) (maxL := 6) (ret := (some .int)) (by decide) rfl ?_
  intro p e s m args below meth c s₁ B hml hv
  obtain ⟨hav, hP, hK⟩ := hv
  have hx := B.exec
  have hb := B.bytes
  have hr := B.returns
  have hts := atoms_spec (ws := wsX4_nextOf) B.pre
  have hown : s.vm.findClass RX4 = some m.cls := findClass_of_methodNamed B.named
  have hlocks := B.notSynchronized
  have C : CallFix p m c cX4_nextOf 6 s args wsX4_nextOf RX4 := ⟨hx, hb, hml, hown, hts⟩
  obtain ⟨ls, hE, hl⟩ := mx_entry (m := m) [.ref (ad 0), .int v1] (n := 6) (Nat.le_of_ble_eq_true rfl)
  have hl : lv_has ls 6 [(0, .ref (ad 0)), (1, .int v1)] := hl
  rw [show entryFrame m args 6 = F0 m 0 ls [] by rw [hav]; exact hE]
  obtain ⟨Q, hQ⟩ : ∃ Q, MQ below (vp_Si post) args s 0 0 (fun _ => False) = Q := ⟨_, rfl⟩
  rw [hQ]
  obtain ⟨H, hH⟩ : ∃ H, s.heap = H := ⟨_, rfl⟩
  rw [hH]
  rw [hH] at hP
  show W p l e rm_X4_nextOf s m args below meth c H [] 0 0 Q (F0 m 0 ls [])
  refine lv_iload_n hx hb dX4_nextOf_0 rfl (lv_at hl 1 rfl) ?_
  refine vp_callSi (W.runS (As := [.int v1]) (rest := []) C (c_X4_back l v1 hw) (va_cwS 1 hts gX4_nextOf_X4_back rfl rfl rfl (by decide +kernel) ⟨Nat.le_of_ble_eq_true rfl, Nat.le_of_ble_eq_true rfl⟩) ⟨fb_st, fun U hU hW => ⟨rfl, trivial⟩⟩ rfl rfl hl.1 rfl (lv_room (Nat.le_of_ble_eq_true rfl)) dX4_nextOf_1 ⟨Nat.zero_le _, Nat.zero_le _⟩) (fun r1 hw => ?_)
  refine lv_istore_n (lv' := [(2, .int r1), (0, .ref (ad 0)), (1, .int v1)]) hx hb dX4_nextOf_4 rfl hl (by decide) rfl (fun ls hl => ?_)
  refine lv_iconst (v := -1) hx hb dX4_nextOf_5 (by decide) ?_
  refine lv_istore_n (lv' := [(3, .int (-1 : Int32)), (2, .int r1), (0, .ref (ad 0)), (1, .int v1)]) hx hb dX4_nextOf_6 rfl hl (by decide) rfl (fun ls hl => ?_)
  refine lv_iconst (v := 0) hx hb dX4_nextOf_7 (by decide) ?_
  refine lv_istore (lv' := [(4, .int (0 : Int32)), (3, .int (-1 : Int32)), (2, .int r1), (0, .ref (ad 0)), (1, .int v1)]) hx hb dX4_nextOf_8 hl (by decide) rfl (fun ls hl => ?_)
  obtain ⟨n25, hw⟩ := hw
  refine l_X4_nextOf_10 C hK hP (fun w21 ls hl hw => ?_) n25 (-1 : Int32) (0 : Int32) ls (lv_sub hl [3, 2, 1, 0] rfl) hw
  refine lv_iload_n hx hb dX4_nextOf_117 rfl (lv_at hl 2 rfl) ?_
  refine jn1_use (J := fun (k22 : Int32) => ∀ ls : Array Slot, lv_has ls 6 [(0, .ref (ad 0))] → W p l e rm_X4_nextOf s m args below meth c H [] 0 0 Q (F0 m 126 ls [.int k22])) hw (fun k22 hw ls hl => ?_) (fun hw hj0 => ?_)
  · rw [← hQ]
    exact W.iret (v := k22) hx hb hr (fun t ht hW => ⟨_, rfl, hw, ht.trans hH.symm⟩) (fun q h => by cases h) dX4_nextOf_126
  · have hj24 := hj0
    refine lv_if_ge (tgt := 125) hx hb dX4_nextOf_118 (by decide) (fun hc => ?_) (fun hc => ?_)
    · have hw := hw.1 (hc)
      refine lv_iload_n hx hb dX4_nextOf_125 rfl (lv_at hl 2 rfl) ?_
      exact hj24 w21 hw ls (lv_sub hl [0] rfl)
    · have hw := hw.2 hc
      refine lv_iload_n hx hb dX4_nextOf_121 rfl (lv_at hl 1 rfl) ?_
      refine lv_goto (tgt := 126) hx hb dX4_nextOf_122 (by decide) ?_
      exact hj24 r1 hw ls (lv_sub hl [0] rfl)
-- X4_spreadPiece
abbrev rm_X4_spreadPiece : Room := { frames := 1, cells := 0, slots := 0, locals := 20 }
theorem f_X4_spreadPiece_0 : (Cond.fieldLink RX4 23 "PlaneFacesModel" "pieceOf" "[I") ∈ wsX4_spreadPiece := by decide +kernel
theorem f_X4_spreadPiece_1 : ∀ w ∈ wsX40, w ∈ wsX4_spreadPiece := by decide +kernel
theorem f_X4_spreadPiece_2 : (Cond.fieldLink RX4 7 "PlaneFacesModel" "isThere" "[Z") ∈ wsX4_spreadPiece := by decide +kernel
theorem f_X4_spreadPiece_3 : (Cond.fieldLink RX4 13 "PlaneFacesModel" "xs" "[I") ∈ wsX4_spreadPiece := by decide +kernel
theorem f_X4_spreadPiece_4 : (Cond.fieldLink RX4 17 "PlaneFacesModel" "ys" "[I") ∈ wsX4_spreadPiece := by decide +kernel
set_option maxRecDepth 100000 in
set_option maxHeartbeats 4000000 in
theorem l_X4_spreadPiece_31 {p : Program} {l : Launch} {e : Env} {s : State} {m : MethodId} {args : Array Value} {below : List Frame} {meth : Method} {c : Code} {Q : State → Prop} {dC : Nat → ClassId} {dI : Nat → Nat → Nat} {cI cJ cZ : ClassId} {ad : Nat → Nat} {mre : Int32} {mth : Nat → Int32} {mxs : Nat → Int32} {mys : Nat → Int32} {mcu : Int32} {mnx : Nat → Int32} {mpo : Nat → Int32} {mpn : Int32} {mrn : Int32} {mrd : Nat → Int32} {mfi : Nat → Int32} {mar : Nat → Int64} {mfn : Int32} {mfa : Nat → Int32} {mnu : Nat → Int32} {mst : Nat → Int32} {v2 : Int32} {v3 : Int32} {v4 : Int32} {K145 : Int32 → Prop} (C : CallFix p m c cX4_spreadPiece 7 s args wsX4_spreadPiece RX4) (hK : va_K (dC, dI) vwCl (tyL cI cJ cZ) s) {A : Nat → Prop} (hA : ∀ q : Nat, s.heap.size ≤ q → A q) (hk145 : ∀ (w5 : Int32) (ls : Array Slot) (H : Heap) (locs : List Loc), lv_has ls 7 [(0, .ref (ad 0)), (2, .int v2), (3, .int v3), (4, .int v4), (5, .int w5)] → va_P (dC, dI) vwCl (wMod ad cI cJ cZ mre mth mxs mys mcu mnx mpo mpn mrn mrd mfi mar mfn mfa mnu mst) H → va_D A (wMod ad cI cJ cZ mre mth mxs mys mcu mnx mpo mpn mrn mrd mfi mar mfn mfa mnu mst) → va_S A s.heap H locs → K145 w5 → W p l e rm_X4_spreadPiece s m args below meth c H locs 0 0 Q (F0 m 145 ls [])) : ∀ (n : Nat) (v5 : Int32) (v6 : Int32) (ls : Array Slot) (H : Heap) (locs : List Loc), lv_has ls 7 [(0, .ref (ad 0)), (2, .int v2), (3, .int v3), (4, .int v4), (5, .int v5), (6, .int v6)] → va_P (dC, dI) vwCl (wMod ad cI cJ cZ mre mth mxs mys mcu mnx mpo mpn mrn mrd mfi mar mfn mfa mnu mst) H → va_D A (wMod ad cI cJ cZ mre mth mxs mys mcu mnx mpo mpn mrn mrd mfi mar mfn mfa mnu mst) → va_S A s.heap H locs → lp_X4_spreadPiece_31 mth mxs mys mpo v2 v3 v4 K145 n v5 v6 → W p l e rm_X4_spreadPiece s m args below meth c H locs 0 0 Q (F0 m 31 ls []) := by
  obtain ⟨hx, hb, hml, hown, hts⟩ := id C
  intro n
  induction n with
  | zero =>
    intro v5 v6 ls H locs hl hP hD hS hw
    rw [lp_X4_spreadPiece_31.eq_1] at hw
    exact hw.elim
  | succ n ih =>
    intro v5 v6 ls H locs hl hP hD hS hw
    rw [lp_X4_spreadPiece_31.eq_2] at hw
    refine lv_iload hx hb dX4_spreadPiece_31 (lv_at hl 5 rfl) ?_
    refine lv_bipush (v := 120) hx hb dX4_spreadPiece_33 (by decide) ?_
    refine lv_icmp_ge (tgt := 145) hx hb dX4_spreadPiece_35 (by decide) (fun hc => ?_) (fun hc => ?_)
    · have hw := hw.1 (hc)
      exact hk145 v5 ls _ _ (lv_sub hl [0, 1, 2, 3, 4] rfl) hP hD hS hw
    · have hw := hw.2 hc
      refine lv_aload_n hx hb dX4_spreadPiece_38 rfl (lv_at hl 0 rfl) ?_
      refine va_get (D := (dC, dI)) (ci := 4) (v := .ref (ad 1)) (C := RX4) (T := TX4) (N := 16) hx hb hts f_X4_spreadPiece_1 hown hK hP 0 rfl rfl 1 (by decide) (hts _ f_X4_spreadPiece_2) (fun _ h9 => h9) rfl dX4_spreadPiece_39 ?_
      refine lv_iload hx hb dX4_spreadPiece_42 (lv_at hl 3 rfl) ?_
      refine lv_iconst (v := 2) hx hb dX4_spreadPiece_44 (by decide) ?_
      refine lv_idiv hx hb dX4_spreadPiece_45 (by decide) ?_
      have hi := hw.1
      have hw := hw.2
      refine va_zald hx hb hK hP 1 2 rfl rfl hi dX4_spreadPiece_46 ?_
      refine lv_if_eq (tgt := 145) hx hb dX4_spreadPiece_47 (by decide) (fun hc => ?_) (fun hc => ?_)
      · have hw := hw.1 (hc)
        exact hk145 v5 ls _ _ (lv_sub hl [0, 1, 2, 3, 4] rfl) hP hD hS hw
      · have hw := hw.2 hc
        refine lv_aload_n hx hb dX4_spreadPiece_50 rfl (lv_at hl 0 rfl) ?_
        refine va_get (D := (dC, dI)) (ci := 4) (v := .ref (ad 5)) (C := RX4) (T := TX4) (N := 16) hx hb hts f_X4_spreadPiece_1 hown hK hP 0 rfl rfl 6 (by decide) (hts _ f_X4_spreadPiece_0) (fun _ h9 => h9) rfl dX4_spreadPiece_51 ?_
        refine lv_iload hx hb dX4_spreadPiece_54 (lv_at hl 3 rfl) ?_
        have hi := hw.1
        have hw := hw.2
        refine va_iald hx hb hK hP 5 0 rfl rfl hi dX4_spreadPiece_56 ?_
        refine lv_if_ge (tgt := 145) hx hb dX4_spreadPiece_57 (by decide) (fun hc => ?_) (fun hc => ?_)
        · have hw := hw.1 (hc)
          exact hk145 v5 ls _ _ (lv_sub hl [0, 1, 2, 3, 4] rfl) hP hD hS hw
        · have hw := hw.2 hc
          refine lv_iload hx hb dX4_spreadPiece_60 (lv_at hl 4 rfl) ?_
          refine jn1_use (J := fun (k2 : Int32) => ∀ (ls : Array Slot) (H : Heap) (locs : List Loc), lv_has ls 7 [(0, .ref (ad 0)), (2, .int v2), (3, .int v3), (4, .int v4), (6, .int v6)] → va_P (dC, dI) vwCl (wMod ad cI cJ cZ mre mth mxs mys mcu mnx mpo mpn mrn mrd mfi mar mfn mfa mnu mst) H → va_D A (wMod ad cI cJ cZ mre mth mxs mys mcu mnx mpo mpn mrn mrd mfi mar mfn mfa mnu mst) → va_S A s.heap H locs → W p l e rm_X4_spreadPiece s m args below meth c H locs 0 0 Q (F0 m 137 ls [.int k2])) hw (fun k2 hw ls H locs hl hP hD hS => ?_) (fun hw hj0 => ?_)
          · refine lv_istore (lv' := [(5, .int k2), (0, .ref (ad 0)), (2, .int v2), (3, .int v3), (4, .int v4), (6, .int v6)]) hx hb dX4_spreadPiece_137 hl (by decide) rfl (fun ls hl => ?_)
            refine lv_iinc (v := (v6 + (1 : Int32))) (lv' := [(6, .int (v6 + (1 : Int32))), (5, .int k2), (0, .ref (ad 0)), (2, .int v2), (3, .int v3), (4, .int v4)]) hx hb dX4_spreadPiece_139 hl (k := 5) rfl rfl (by decide) rfl (fun ls hl => ?_)
            refine lv_goto (tgt := 31) hx hb dX4_spreadPiece_142 (by decide) ?_
            exact ih k2 (v6 + (1 : Int32)) ls _ _ (lv_sub hl [2, 3, 4, 5, 1, 0] rfl) hP hD hS hw
          · have hj4 := hj0
            refine jn0_use (J := ∀ (ls : Array Slot) (H : Heap) (locs : List Loc), lv_has ls 7 [(0, .ref (ad 0)), (2, .int v2), (3, .int v3), (4, .int v4), (6, .int v6)] → va_P (dC, dI) vwCl (wMod ad cI cJ cZ mre mth mxs mys mcu mnx mpo mpn mrn mrd mfi mar mfn mfa mnu mst) H → va_D A (wMod ad cI cJ cZ mre mth mxs mys mcu mnx mpo mpn mrn mrd mfi mar mfn mfa mnu mst) → va_S A s.heap H locs → W p l e rm_X4_spreadPiece s m args below meth c H locs 0 0 Q (F0 m 132 ls [])) hw (fun hw ls H locs hl hP hD hS => ?_) (fun hw hj0 => ?_)
            · refine lv_iconst (v := 1) hx hb dX4_spreadPiece_132 (by decide) ?_
              refine lv_goto (tgt := 137) hx hb dX4_spreadPiece_133 (by decide) ?_
              exact hj4 (1 : Int32) hw ls _ _ (lv_sub hl [0, 1, 2, 3, 4] rfl) hP hD hS
            · have hj6 := hj0
              refine lv_if_ne (tgt := 132) hx hb dX4_spreadPiece_62 (by decide) (fun hc => ?_) (fun hc => ?_)
              · have hw := hw.2 hc
                exact hj6 hw ls _ _ (lv_sub hl [0, 1, 2, 3, 5] rfl) hP hD hS
              · have hw := hw.1 (hc)
                refine lv_aload_n hx hb dX4_spreadPiece_65 rfl (lv_at hl 0 rfl) ?_
                refine va_get (D := (dC, dI)) (ci := 4) (v := .ref (ad 5)) (C := RX4) (T := TX4) (N := 16) hx hb hts f_X4_spreadPiece_1 hown hK hP 0 rfl rfl 6 (by decide) (hts _ f_X4_spreadPiece_0) (fun _ h9 => h9) rfl dX4_spreadPiece_66 ?_
                refine lv_iload hx hb dX4_spreadPiece_69 (lv_at hl 5 rfl) ?_
                have hi := hw.1
                have hw := hw.2
                refine va_iald hx hb hK hP 5 0 rfl rfl hi dX4_spreadPiece_71 ?_
                refine lv_iload_n hx hb dX4_spreadPiece_72 rfl (lv_at hl 1 rfl) ?_
                refine jn0_use (J := ∀ (ls : Array Slot) (H : Heap) (locs : List Loc), lv_has ls 7 [(0, .ref (ad 0)), (2, .int v2), (3, .int v3), (4, .int v4), (6, .int v6)] → va_P (dC, dI) vwCl (wMod ad cI cJ cZ mre mth mxs mys mcu mnx mpo mpn mrn mrd mfi mar mfn mfa mnu mst) H → va_D A (wMod ad cI cJ cZ mre mth mxs mys mcu mnx mpo mpn mrn mrd mfi mar mfn mfa mnu mst) → va_S A s.heap H locs → W p l e rm_X4_spreadPiece s m args below meth c H locs 0 0 Q (F0 m 136 ls [])) hw (fun hw ls H locs hl hP hD hS => ?_) (fun hw hj0 => ?_)
                · refine lv_iconst (v := 0) hx hb dX4_spreadPiece_136 (by decide) ?_
                  exact hj4 (0 : Int32) hw ls _ _ (lv_sub hl [0, 1, 2, 3, 4] rfl) hP hD hS
                · have hj8 := hj0
                  refine lv_icmp_ne (tgt := 136) hx hb dX4_spreadPiece_73 (by decide) (fun hc => ?_) (fun hc => ?_)
                  · have hw := hw.2 hc
                    exact hj8 hw ls _ _ (lv_sub hl [0, 1, 2, 3, 5] rfl) hP hD hS
                  · have hw := hw.1 (hc)
                    refine lv_aload_n hx hb dX4_spreadPiece_76 rfl (lv_at hl 0 rfl) ?_
                    refine va_get (D := (dC, dI)) (ci := 4) (v := .ref (ad 1)) (C := RX4) (T := TX4) (N := 16) hx hb hts f_X4_spreadPiece_1 hown hK hP 0 rfl rfl 1 (by decide) (hts _ f_X4_spreadPiece_2) (fun _ h9 => h9) rfl dX4_spreadPiece_77 ?_
                    refine lv_iload hx hb dX4_spreadPiece_80 (lv_at hl 5 rfl) ?_
                    refine lv_iconst (v := 2) hx hb dX4_spreadPiece_82 (by decide) ?_
                    refine lv_idiv hx hb dX4_spreadPiece_83 (by decide) ?_
                    have hi := hw.1
                    have hw := hw.2
                    refine va_zald hx hb hK hP 1 2 rfl rfl hi dX4_spreadPiece_84 ?_
                    refine lv_if_eq (tgt := 136) hx hb dX4_spreadPiece_85 (by decide) (fun hc => ?_) (fun hc => ?_)
                    · have hw := hw.1 (hc)
                      exact hj8 hw ls _ _ (lv_sub hl [0, 1, 2, 3, 5] rfl) hP hD hS
                    · have hw := hw.2 hc
                      refine lv_aload_n hx hb dX4_spreadPiece_88 rfl (lv_at hl 0 rfl) ?_
                      refine va_get (D := (dC, dI)) (ci := 4) (v := .ref (ad 2)) (C := RX4) (T := TX4) (N := 16) hx hb hts f_X4_spreadPiece_1 hown hK hP 0 rfl rfl 2 (by decide) (hts _ f_X4_spreadPiece_3) (fun _ h9 => h9) rfl dX4_spreadPiece_89 ?_
                      refine lv_iload hx hb dX4_spreadPiece_92 (lv_at hl 5 rfl) ?_
                      have hi := hw.1
                      have hw := hw.2
                      refine va_iald hx hb hK hP 2 0 rfl rfl hi dX4_spreadPiece_94 ?_
                      refine lv_aload_n hx hb dX4_spreadPiece_95 rfl (lv_at hl 0 rfl) ?_
                      refine va_get (D := (dC, dI)) (ci := 4) (v := .ref (ad 2)) (C := RX4) (T := TX4) (N := 16) hx hb hts f_X4_spreadPiece_1 hown hK hP 0 rfl rfl 2 (by decide) (hts _ f_X4_spreadPiece_3) (fun _ h9 => h9) rfl dX4_spreadPiece_96 ?_
                      refine lv_iload hx hb dX4_spreadPiece_99 (lv_at hl 3 rfl) ?_
                      have hi := hw.1
                      have hw := hw.2
                      refine va_iald hx hb hK hP 2 0 rfl rfl hi dX4_spreadPiece_101 ?_
                      refine jn0_use (J := ∀ (ls : Array Slot) (H : Heap) (locs : List Loc), lv_has ls 7 [(0, .ref (ad 0)), (2, .int v2), (3, .int v3), (4, .int v4), (6, .int v6)] → va_P (dC, dI) vwCl (wMod ad cI cJ cZ mre mth mxs mys mcu mnx mpo mpn mrn mrd mfi mar mfn mfa mnu mst) H → va_D A (wMod ad cI cJ cZ mre mth mxs mys mcu mnx mpo mpn mrn mrd mfi mar mfn mfa mnu mst) → va_S A s.heap H locs → W p l e rm_X4_spreadPiece s m args below meth c H locs 0 0 Q (F0 m 122 ls [])) hw (fun hw ls H locs hl hP hD hS => ?_) (fun hw hj0 => ?_)
                      · refine lv_iload hx hb dX4_spreadPiece_122 (lv_at hl 4 rfl) ?_
                        refine lv_iload hx hb dX4_spreadPiece_124 (lv_at hl 3 rfl) ?_
                        refine vp_callSi (W.runS (As := [.int v4]) (rest := [.int v6]) C (c_X4_back l v4 hw) (va_cwS 1 hts gX4_spreadPiece_X4_back rfl rfl rfl (by decide +kernel) ⟨Nat.le_of_ble_eq_true rfl, Nat.le_of_ble_eq_true rfl⟩) ⟨fb_st, fun U hU hW => ⟨rfl, trivial⟩⟩ rfl rfl hl.1 rfl (lv_room (Nat.le_of_ble_eq_true rfl)) dX4_spreadPiece_126 ⟨Nat.zero_le _, Nat.zero_le _⟩) (fun r11 hw => ?_)
                        refine lv_icmp_ne (tgt := 136) hx hb dX4_spreadPiece_129 (by decide) (fun hc => ?_) (fun hc => ?_)
                        · have hw := hw.2 hc
                          exact hj8 hw ls _ _ (lv_sub hl [0, 1, 2, 3, 4] rfl) hP hD hS
                        · have hw := hw.1 (hc)
                          exact hj6 hw ls _ _ (lv_sub hl [0, 1, 2, 3, 4] rfl) hP hD hS
                      · have hj10 := hj0
                        refine lv_icmp_ne (tgt := 122) hx hb dX4_spreadPiece_102 (by decide) (fun hc => ?_) (fun hc => ?_)
                        · have hw := hw.2 hc
                          exact hj10 hw ls _ _ (lv_sub hl [0, 1, 2, 3, 5] rfl) hP hD hS
                        · have hw := hw.1 (hc)
                          refine lv_aload_n hx hb dX4_spreadPiece_105 rfl (lv_at hl 0 rfl) ?_
                          refine va_get (D := (dC, dI)) (ci := 4) (v := .ref (ad 3)) (C := RX4) (T := TX4) (N := 16) hx hb hts f_X4_spreadPiece_1 hown hK hP 0 rfl rfl 3 (by decide) (hts _ f_X4_spreadPiece_4) (fun _ h9 => h9) rfl dX4_spreadPiece_106 ?_
                          refine lv_iload hx hb dX4_spreadPiece_109 (lv_at hl 5 rfl) ?_
                          have hi := hw.1
                          have hw := hw.2
                          refine va_iald hx hb hK hP 3 0 rfl rfl hi dX4_spreadPiece_111 ?_
                          refine lv_aload_n hx hb dX4_spreadPiece_112 rfl (lv_at hl 0 rfl) ?_
                          refine va_get (D := (dC, dI)) (ci := 4) (v := .ref (ad 3)) (C := RX4) (T := TX4) (N := 16) hx hb hts f_X4_spreadPiece_1 hown hK hP 0 rfl rfl 3 (by decide) (hts _ f_X4_spreadPiece_4) (fun _ h9 => h9) rfl dX4_spreadPiece_113 ?_
                          refine lv_iload hx hb dX4_spreadPiece_116 (lv_at hl 3 rfl) ?_
                          have hi := hw.1
                          have hw := hw.2
                          refine va_iald hx hb hK hP 3 0 rfl rfl hi dX4_spreadPiece_118 ?_
                          refine lv_icmp_eq (tgt := 132) hx hb dX4_spreadPiece_119 (by decide) (fun hc => ?_) (fun hc => ?_)
                          · have hw := hw.1 (hc)
                            exact hj6 hw ls _ _ (lv_sub hl [0, 1, 2, 3, 5] rfl) hP hD hS
                          · have hw := hw.2 hc
                            exact hj10 hw ls _ _ (lv_sub hl [0, 1, 2, 3, 5] rfl) hP hD hS
set_option maxRecDepth 100000 in
set_option maxHeartbeats 4000000 in
theorem l_X4_spreadPiece_18 {p : Program} {l : Launch} {e : Env} {s : State} {m : MethodId} {args : Array Value} {below : List Frame} {meth : Method} {c : Code} {Q : State → Prop} {dC : Nat → ClassId} {dI : Nat → Nat → Nat} {cI cJ cZ : ClassId} {ad : Nat → Nat} {mre : Int32} {mth : Nat → Int32} {mxs : Nat → Int32} {mys : Nat → Int32} {mcu : Int32} {mnx : Nat → Int32} {mpn : Int32} {mrn : Int32} {mrd : Nat → Int32} {mfi : Nat → Int32} {mar : Nat → Int64} {mfn : Int32} {mfa : Nat → Int32} {mnu : Nat → Int32} {mst : Nat → Int32} {v2 : Int32} {K166 : Int32 → (Nat → Int32) → Prop} (C : CallFix p m c cX4_spreadPiece 7 s args wsX4_spreadPiece RX4) (hK : va_K (dC, dI) vwCl (tyL cI cJ cZ) s) {A : Nat → Prop} (hA : ∀ q : Nat, s.heap.size ≤ q → A q) (hk166 : ∀ (w3 : Int32) (mpo_w : Nat → Int32) (ls : Array Slot) (H : Heap) (locs : List Loc), lv_has ls 7 [(0, .ref (ad 0)), (2, .int v2), (3, .int w3)] → va_P (dC, dI) vwCl (wMod ad cI cJ cZ mre mth mxs mys mcu mnx mpo_w mpn mrn mrd mfi mar mfn mfa mnu mst) H → va_D A (wMod ad cI cJ cZ mre mth mxs mys mcu mnx mpo_w mpn mrn mrd mfi mar mfn mfa mnu mst) → va_S A s.heap H locs → K166 w3 mpo_w → W p l e rm_X4_spreadPiece s m args below meth c H locs 0 0 Q (F0 m 166 ls [])) : ∀ (n : Nat) (mpo : Nat → Int32) (v3 : Int32) (v4 : Int32) (ls : Array Slot) (H : Heap) (locs : List Loc), lv_has ls 7 [(0, .ref (ad 0)), (2, .int v2), (3, .int v3), (4, .int v4)] → va_P (dC, dI) vwCl (wMod ad cI cJ cZ mre mth mxs mys mcu mnx mpo mpn mrn mrd mfi mar mfn mfa mnu mst) H → va_D A (wMod ad cI cJ cZ mre mth mxs mys mcu mnx mpo mpn mrn mrd mfi mar mfn mfa mnu mst) → va_S A s.heap H locs → lp_X4_spreadPiece_18 mth mxs mys v2 K166 n mpo v3 v4 → W p l e rm_X4_spreadPiece s m args below meth c H locs 0 0 Q (F0 m 18 ls []) := by
  obtain ⟨hx, hb, hml, hown, hts⟩ := id C
  intro n
  induction n with
  | zero =>
    intro mpo v3 v4 ls H locs hl hP hD hS hw
    rw [lp_X4_spreadPiece_18.eq_1] at hw
    exact hw.elim
  | succ n ih =>
    intro mpo v3 v4 ls H locs hl hP hD hS hw
    rw [lp_X4_spreadPiece_18.eq_2] at hw
    refine lv_iload hx hb dX4_spreadPiece_18 (lv_at hl 3 rfl) ?_
    refine lv_bipush (v := 120) hx hb dX4_spreadPiece_20 (by decide) ?_
    refine lv_icmp_ge (tgt := 166) hx hb dX4_spreadPiece_22 (by decide) (fun hc => ?_) (fun hc => ?_)
    · have hw := hw.1 (hc)
      exact hk166 v3 mpo ls _ _ (lv_sub hl [0, 1, 2] rfl) hP hD hS hw
    · have hw := hw.2 hc
      refine lv_iconst (v := 0) hx hb dX4_spreadPiece_25 (by decide) ?_
      refine lv_istore (lv' := [(5, .int (0 : Int32)), (0, .ref (ad 0)), (2, .int v2), (3, .int v3), (4, .int v4)]) hx hb dX4_spreadPiece_26 hl (by decide) rfl (fun ls hl => ?_)
      refine lv_iconst (v := 0) hx hb dX4_spreadPiece_28 (by decide) ?_
      refine lv_istore (lv' := [(6, .int (0 : Int32)), (5, .int (0 : Int32)), (0, .ref (ad 0)), (2, .int v2), (3, .int v3), (4, .int v4)]) hx hb dX4_spreadPiece_29 hl (by decide) rfl (fun ls hl => ?_)
      obtain ⟨n18, hw⟩ := hw
      refine l_X4_spreadPiece_31 C hK hA (fun w12 ls H locs hl hP hD hS hw => ?_) n18 (0 : Int32) (0 : Int32) ls _ _ (lv_sub hl [2, 3, 4, 5, 1, 0] rfl) hP hD hS hw
      refine lv_iload hx hb dX4_spreadPiece_145 (lv_at hl 4 rfl) ?_
      refine jn2_use (J := fun (j13 : Int32) (mpo_14 : Nat → Int32) => ∀ (ls : Array Slot) (H : Heap) (locs : List Loc), lv_has ls 7 [(0, .ref (ad 0)), (2, .int v2), (3, .int j13), (4, .int v4)] → va_P (dC, dI) vwCl (wMod ad cI cJ cZ mre mth mxs mys mcu mnx mpo_14 mpn mrn mrd mfi mar mfn mfa mnu mst) H → va_D A (wMod ad cI cJ cZ mre mth mxs mys mcu mnx mpo_14 mpn mrn mrd mfi mar mfn mfa mnu mst) → va_S A s.heap H locs → W p l e rm_X4_spreadPiece s m args below meth c H locs 0 0 Q (F0 m 160 ls [])) hw (fun j13 mpo_14 hw ls H locs hl hP hD hS => ?_) (fun hw hj0 => ?_)
      · refine lv_iinc (v := (v4 + (1 : Int32))) (lv' := [(4, .int (v4 + (1 : Int32))), (0, .ref (ad 0)), (2, .int v2), (3, .int j13)]) hx hb dX4_spreadPiece_160 hl (k := 3) rfl rfl (by decide) rfl (fun ls hl => ?_)
        refine lv_goto (tgt := 18) hx hb dX4_spreadPiece_163 (by decide) ?_
        exact ih mpo_14 j13 (v4 + (1 : Int32)) ls _ _ (lv_sub hl [1, 2, 3, 0] rfl) hP hD hS hw
      · have hj16 := hj0
        refine lv_if_eq (tgt := 160) hx hb dX4_spreadPiece_147 (by decide) (fun hc => ?_) (fun hc => ?_)
        · have hw := hw.1 (hc)
          exact hj16 v3 mpo hw ls _ _ (lv_sub hl [0, 1, 2, 3] rfl) hP hD hS
        · have hw := hw.2 hc
          refine lv_aload_n hx hb dX4_spreadPiece_150 rfl (lv_at hl 0 rfl) ?_
          refine va_get (D := (dC, dI)) (ci := 4) (v := .ref (ad 5)) (C := RX4) (T := TX4) (N := 16) hx hb hts f_X4_spreadPiece_1 hown hK hP 0 rfl rfl 6 (by decide) (hts _ f_X4_spreadPiece_0) (fun _ h9 => h9) rfl dX4_spreadPiece_151 ?_
          refine lv_iload hx hb dX4_spreadPiece_154 (lv_at hl 3 rfl) ?_
          refine lv_iload_n hx hb dX4_spreadPiece_156 rfl (lv_at hl 1 rfl) ?_
          have hi := hw.1
          have hw := hw.2 _ rfl
          refine va_iast hx hb hK hP hD hS 5 0 rfl rfl hi dX4_spreadPiece_157 (fun H locs hP hD hS => ?_)
          generalize hmpo_17 : (upd mpo v4.toNatClampNeg v2) = mpo_17 at hw hP hD
          have hP : va_P (dC, dI) vwCl (wMod ad cI cJ cZ mre mth mxs mys mcu mnx mpo_17 mpn mrn mrd mfi mar mfn mfa mnu mst) H := hP
          have hD : va_D A (wMod ad cI cJ cZ mre mth mxs mys mcu mnx mpo_17 mpn mrn mrd mfi mar mfn mfa mnu mst) := hD
          refine lv_iconst (v := 1) hx hb dX4_spreadPiece_158 (by decide) ?_
          refine lv_istore_n (lv' := [(3, .int (1 : Int32)), (0, .ref (ad 0)), (2, .int v2), (4, .int v4), (5, .int w12)]) hx hb dX4_spreadPiece_159 rfl hl (by decide) rfl (fun ls hl => ?_)
          exact hj16 (1 : Int32) mpo_17 hw ls _ _ (lv_sub hl [1, 2, 0, 3] rfl) hP hD hS
set_option maxRecDepth 100000 in
set_option maxHeartbeats 4000000 in
theorem l_X4_spreadPiece_9 {p : Program} {l : Launch} {e : Env} {s : State} {m : MethodId} {args : Array Value} {below : List Frame} {meth : Method} {c : Code} {Q : State → Prop} {dC : Nat → ClassId} {dI : Nat → Nat → Nat} {cI cJ cZ : ClassId} {ad : Nat → Nat} {mre : Int32} {mth : Nat → Int32} {mxs : Nat → Int32} {mys : Nat → Int32} {mcu : Int32} {mnx : Nat → Int32} {mpn : Int32} {mrn : Int32} {mrd : Nat → Int32} {mfi : Nat → Int32} {mar : Nat → Int64} {mfn : Int32} {mfa : Nat → Int32} {mnu : Nat → Int32} {mst : Nat → Int32} {v2 : Int32} {K169 : (Nat → Int32) → Prop} (C : CallFix p m c cX4_spreadPiece 7 s args wsX4_spreadPiece RX4) (hK : va_K (dC, dI) vwCl (tyL cI cJ cZ) s) {A : Nat → Prop} (hA : ∀ q : Nat, s.heap.size ≤ q → A q) (hk169 : ∀ (mpo_w : Nat → Int32) (ls : Array Slot) (H : Heap) (locs : List Loc), lv_has ls 7 [(0, .ref (ad 0))] → va_P (dC, dI) vwCl (wMod ad cI cJ cZ mre mth mxs mys mcu mnx mpo_w mpn mrn mrd mfi mar mfn mfa mnu mst) H → va_D A (wMod ad cI cJ cZ mre mth mxs mys mcu mnx mpo_w mpn mrn mrd mfi mar mfn mfa mnu mst) → va_S A s.heap H locs → K169 mpo_w → W p l e rm_X4_spreadPiece s m args below meth c H locs 0 0 Q (F0 m 169 ls [])) : ∀ (n : Nat) (mpo : Nat → Int32) (v3 : Int32) (ls : Array Slot) (H : Heap) (locs : List Loc), lv_has ls 7 [(0, .ref (ad 0)), (2, .int v2), (3, .int v3)] → va_P (dC, dI) vwCl (wMod ad cI cJ cZ mre mth mxs mys mcu mnx mpo mpn mrn mrd mfi mar mfn mfa mnu mst) H → va_D A (wMod ad cI cJ cZ mre mth mxs mys mcu mnx mpo mpn mrn mrd mfi mar mfn mfa mnu mst) → va_S A s.heap H locs → lp_X4_spreadPiece_9 mth mxs mys v2 K169 n mpo v3 → W p l e rm_X4_spreadPiece s m args below meth c H locs 0 0 Q (F0 m 9 ls []) := by
  obtain ⟨hx, hb, hml, hown, hts⟩ := id C
  intro n
  induction n with
  | zero =>
    intro mpo v3 ls H locs hl hP hD hS hw
    rw [lp_X4_spreadPiece_9.eq_1] at hw
    exact hw.elim
  | succ n ih =>
    intro mpo v3 ls H locs hl hP hD hS hw
    rw [lp_X4_spreadPiece_9.eq_2] at hw
    refine lv_iload_n hx hb dX4_spreadPiece_9 rfl (lv_at hl 2 rfl) ?_
    refine lv_if_eq (tgt := 169) hx hb dX4_spreadPiece_10 (by decide) (fun hc => ?_) (fun hc => ?_)
    · have hw := hw.1 (hc)
      exact hk169 mpo ls _ _ (lv_sub hl [0] rfl) hP hD hS hw
    · have hw := hw.2 hc
      refine lv_iconst (v := 0) hx hb dX4_spreadPiece_13 (by decide) ?_
      refine lv_istore_n (lv' := [(3, .int (0 : Int32)), (0, .ref (ad 0)), (2, .int v2)]) hx hb dX4_spreadPiece_14 rfl hl (by decide) rfl (fun ls hl => ?_)
      refine lv_iconst (v := 0) hx hb dX4_spreadPiece_15 (by decide) ?_
      refine lv_istore (lv' := [(4, .int (0 : Int32)), (3, .int (0 : Int32)), (0, .ref (ad 0)), (2, .int v2)]) hx hb dX4_spreadPiece_16 hl (by decide) rfl (fun ls hl => ?_)
      obtain ⟨n21, hw⟩ := hw
      refine l_X4_spreadPiece_18 C hK hA (fun w19 mpo_20 ls H locs hl hP hD hS hw => ?_) n21 mpo (0 : Int32) (0 : Int32) ls _ _ (lv_sub hl [2, 3, 1, 0] rfl) hP hD hS hw
      refine lv_goto (tgt := 9) hx hb dX4_spreadPiece_166 (by decide) ?_
      exact ih mpo_20 w19 ls _ _ (lv_sub hl [0, 1, 2] rfl) hP hD hS hw
set_option maxRecDepth 100000 in
set_option maxHeartbeats 4000000 in
theorem c_X4_spreadPiece (l : Launch) (dC : Nat → ClassId) (dI : Nat → Nat → Nat) (cI cJ cZ : ClassId) (ad : Nat → Nat) (sz : Nat) (mre : Int32) (mth : Nat → Int32) (mxs : Nat → Int32) (mys : Nat → Int32) (mcu : Int32) (mnx : Nat → Int32) (mpo : Nat → Int32) (mpn : Int32) (mrn : Int32) (mrd : Nat → Int32) (mfi : Nat → Int32) (mar : Nat → Int64) (mfn : Int32) (mfa : Nat → Int32) (mnu : Nat → Int32) (mst : Nat → Int32) (v1 : Int32) (v2 : Int32) {post : (Nat → Int32) → Prop} (hw : wp_X4_spreadPiece mth mxs mys mpo v1 v2 post) : Met l yX4_spreadPiece wsX4_spreadPiece rm_X4_spreadPiece (va_Pc [.ref (ad 0), .int v1, .int v2] (fun U => U.heap.size = sz ∧ va_P (dC, dI) vwCl (wMod ad cI cJ cZ mre mth mxs mys mcu mnx mpo mpn mrn mrd mfi mar mfn mfa mnu mst) U.heap ∧ va_K (dC, dI) vwCl (tyL cI cJ cZ) U ∧ va_D (fun _ => True) (wMod ad cI cJ cZ mre mth mxs mys mcu mnx mpo mpn mrn mrd mfi mar mfn mfa mnu mst))) (va_Qv (fun uu : (Nat → Int32) => post uu) (fun (uu : (Nat → Int32)) (t : State) => va_P (dC, dI) vwCl (wMod ad cI cJ cZ mre mth mxs mys mcu mnx uu mpn mrn mrd mfi mar mfn mfa mnu mst) t.heap ∧ va_D (va_A (wMod ad cI cJ cZ mre mth mxs mys mcu mnx mpo mpn mrn mrd mfi mar mfn mfa mnu mst) sz) (wMod ad cI cJ cZ mre mth mxs mys mcu mnx uu mpn mrn mrd mfi mar mfn mfa mnu mst)) (va_A (wMod ad cI cJ cZ mre mth mxs mys mcu mnx mpo mpn mrn mrd mfi mar mfn mfa mnu mst) sz)) 0 0 (va_A (wMod ad cI cJ cZ mre mth mxs mys mcu mnx mpo mpn mrn mrd mfi mar mfn mfa mnu mst) sz) := by
  unfold wp_X4_spreadPiece at hw
  refine Met.ofW (cc := cX4_spreadPiece) (maxL := 7) (ret := none) (by decide) rfl ?_
  intro p e s m args below meth c s₁ B hml hv
  obtain ⟨hav, hsz, hP, hK, hD0⟩ := hv
  have hx := B.exec
  have hb := B.bytes
  have hr := B.returns
  have hts := atoms_spec (ws := wsX4_spreadPiece) B.pre
  have hown : s.vm.findClass RX4 = some m.cls := findClass_of_methodNamed B.named
  have hlocks := B.notSynchronized
  have C : CallFix p m c cX4_spreadPiece 7 s args wsX4_spreadPiece RX4 := ⟨hx, hb, hml, hown, hts⟩
  obtain ⟨ls, hE, hl⟩ := mx_entry (m := m) [.ref (ad 0), .int v1, .int v2] (n := 7) (Nat.le_of_ble_eq_true rfl)
  have hl : lv_has ls 7 [(0, .ref (ad 0)), (1, .int v1), (2, .int v2)] := hl
  rw [show entryFrame m args 7 = F0 m 0 ls [] by rw [hav]; exact hE]
  subst hsz
  have hD := hD0.self (sz := s.heap.size)
  generalize hAe : va_A (wMod ad cI cJ cZ mre mth mxs mys mcu mnx mpo mpn mrn mrd mfi mar mfn mfa mnu mst) s.heap.size = A at hD ⊢
  have hA : ∀ q : Nat, s.heap.size ≤ q → A q := fun q h => by rw [← hAe]; exact Or.inr h
  have hS : va_S A s.heap s.heap [] := va_S.rf
  obtain ⟨Q, hQ⟩ : ∃ Q, MQ below (va_Qv (fun uu : (Nat → Int32) => post uu) (fun (uu : (Nat → Int32)) (t : State) => va_P (dC, dI) vwCl (wMod ad cI cJ cZ mre mth mxs mys mcu mnx uu mpn mrn mrd mfi mar mfn mfa mnu mst) t.heap ∧ va_D A (wMod ad cI cJ cZ mre mth mxs mys mcu mnx uu mpn mrn mrd mfi mar mfn mfa mnu mst)) A) args s 0 0 A = Q := ⟨_, rfl⟩
  rw [hQ]
  obtain ⟨H, hH⟩ : ∃ H, s.heap = H := ⟨_, rfl⟩
  have hS : va_S A s.heap H [] := by rw [← hH]; exact hS
  rw [hH] at hP
  show W p l e rm_X4_spreadPiece s m args below meth c s.heap [] 0 0 Q (F0 m 0 ls [])
  suffices hg : W p l e rm_X4_spreadPiece s m args below meth c H [] 0 0 Q (F0 m 0 ls []) by rw [hH]; exact hg
  clear hH
  generalize hlo : ([] : List Loc) = locs at hS ⊢
  refine lv_aload_n hx hb dX4_spreadPiece_0 rfl (lv_at hl 0 rfl) ?_
  refine va_get (D := (dC, dI)) (ci := 4) (v := .ref (ad 5)) (C := RX4) (T := TX4) (N := 16) hx hb hts f_X4_spreadPiece_1 hown hK hP 0 rfl rfl 6 (by decide) (hts _ f_X4_spreadPiece_0) (fun _ h9 => h9) rfl dX4_spreadPiece_1 ?_
  refine lv_iload_n hx hb dX4_spreadPiece_4 rfl (lv_at hl 1 rfl) ?_
  refine lv_iload_n hx hb dX4_spreadPiece_5 rfl (lv_at hl 2 rfl) ?_
  have hi := hw.1
  have hw := hw.2 _ rfl
  refine va_iast hx hb hK hP hD hS 5 0 rfl rfl hi dX4_spreadPiece_6 (fun H locs hP hD hS => ?_)
  generalize hmpo_1 : (upd mpo v1.toNatClampNeg v2) = mpo_1 at hw hP hD
  have hP : va_P (dC, dI) vwCl (wMod ad cI cJ cZ mre mth mxs mys mcu mnx mpo_1 mpn mrn mrd mfi mar mfn mfa mnu mst) H := hP
  have hD : va_D A (wMod ad cI cJ cZ mre mth mxs mys mcu mnx mpo_1 mpn mrn mrd mfi mar mfn mfa mnu mst) := hD
  refine lv_iconst (v := 1) hx hb dX4_spreadPiece_7 (by decide) ?_
  refine lv_istore_n (lv' := [(3, .int (1 : Int32)), (0, .ref (ad 0)), (1, .int v1), (2, .int v2)]) hx hb dX4_spreadPiece_8 rfl hl (by decide) rfl (fun ls hl => ?_)
  obtain ⟨n23, hw⟩ := hw
  refine l_X4_spreadPiece_9 C hK hA (fun mpo_22 ls H locs hl hP hD hS hw => ?_) n23 mpo_1 (1 : Int32) ls _ _ (lv_sub hl [1, 3, 0] rfl) hP hD hS hw
  rw [← hQ]
  exact W.vret hx hb hr (fun t ht hW => ⟨⟨mpo_22, rfl, hw, by rw [ht]; exact hP, hD⟩, hS.F ht⟩) hS.2.2 dX4_spreadPiece_169
-- X4_makeRound
abbrev rm_X4_makeRound : Room := { frames := 1, cells := 0, slots := 0, locals := 20 }
theorem f_X4_makeRound_0 : (Cond.fieldLink RX4 29 "PlaneFacesModel" "firsts" "[I") ∈ wsX4_makeRound := by decide +kernel
theorem f_X4_makeRound_1 : ∀ w ∈ wsX40, w ∈ wsX4_makeRound := by decide +kernel
theorem f_X4_makeRound_2 : (Cond.fieldLink RX4 95 "PlaneFacesModel" "rounds" "I") ∈ wsX4_makeRound := by decide +kernel
theorem f_X4_makeRound_3 : (Cond.fieldLink RX4 32 "PlaneFacesModel" "areas" "[J") ∈ wsX4_makeRound := by decide +kernel
theorem f_X4_makeRound_4 : (Cond.fieldLink RX4 26 "PlaneFacesModel" "roundOf" "[I") ∈ wsX4_makeRound := by decide +kernel
theorem f_X4_makeRound_5 : (Cond.fieldLink RX4 13 "PlaneFacesModel" "xs" "[I") ∈ wsX4_makeRound := by decide +kernel
theorem f_X4_makeRound_6 : (Cond.fieldLink RX4 17 "PlaneFacesModel" "ys" "[I") ∈ wsX4_makeRound := by decide +kernel
theorem f_X4_makeRound_7 : (Cond.fieldLink RX4 20 "PlaneFacesModel" "nexts" "[I") ∈ wsX4_makeRound := by decide +kernel
set_option maxRecDepth 100000 in
set_option maxHeartbeats 4000000 in
theorem l_X4_makeRound_24 {p : Program} {l : Launch} {e : Env} {s : State} {m : MethodId} {args : Array Value} {below : List Frame} {meth : Method} {c : Code} {Q : State → Prop} {dC : Nat → ClassId} {dI : Nat → Nat → Nat} {cI cJ cZ : ClassId} {ad : Nat → Nat} {mre : Int32} {mth : Nat → Int32} {mxs : Nat → Int32} {mys : Nat → Int32} {mcu : Int32} {mnx : Nat → Int32} {mpo : Nat → Int32} {mpn : Int32} {mrn : Int32} {mfi : Nat → Int32} {mfn : Int32} {mfa : Nat → Int32} {mnu : Nat → Int32} {mst : Nat → Int32} {v1 : Int32} {K115 : (Nat → Int32) → (Nat → Int64) → Prop} (C : CallFix p m c cX4_makeRound 4 s args wsX4_makeRound RX4) (hK : va_K (dC, dI) vwCl (tyL cI cJ cZ) s) {A : Nat → Prop} (hA : ∀ q : Nat, s.heap.size ≤ q → A q) (hk115 : ∀ (mrd_w : Nat → Int32) (mar_w : Nat → Int64) (ls : Array Slot) (H : Heap) (locs : List Loc), lv_has ls 4 [(0, .ref (ad 0))] → va_P (dC, dI) vwCl (wMod ad cI cJ cZ mre mth mxs mys mcu mnx mpo mpn mrn mrd_w mfi mar_w mfn mfa mnu mst) H → va_D A (wMod ad cI cJ cZ mre mth mxs mys mcu mnx mpo mpn mrn mrd_w mfi mar_w mfn mfa mnu mst) → va_S A s.heap H locs → K115 mrd_w mar_w → W p l e rm_X4_makeRound s m args below meth c H locs 0 0 Q (F0 m 115 ls [])) : ∀ (n : Nat) (mrd : Nat → Int32) (mar : Nat → Int64) (v2 : Int32) (v3 : Int32) (ls : Array Slot) (H : Heap) (locs : List Loc), lv_has ls 4 [(0, .ref (ad 0)), (1, .int v1), (2, .int v2), (3, .int v3)] → va_P (dC, dI) vwCl (wMod ad cI cJ cZ mre mth mxs mys mcu mnx mpo mpn mrn mrd mfi mar mfn mfa mnu mst) H → va_D A (wMod ad cI cJ cZ mre mth mxs mys mcu mnx mpo mpn mrn mrd mfi mar mfn mfa mnu mst) → va_S A s.heap H locs → lp_X4_makeRound_24 mxs mys mnx mrn mfi v1 K115 n mrd mar v2 v3 → W p l e rm_X4_makeRound s m args below meth c H locs 0 0 Q (F0 m 24 ls []) := by
  obtain ⟨hx, hb, hml, hown, hts⟩ := id C
  intro n
  induction n with
  | zero =>
    intro mrd mar v2 v3 ls H locs hl hP hD hS hw
    rw [lp_X4_makeRound_24.eq_1] at hw
    exact hw.elim
  | succ n ih =>
    intro mrd mar v2 v3 ls H locs hl hP hD hS hw
    rw [lp_X4_makeRound_24.eq_2] at hw
    refine lv_iload_n hx hb dX4_makeRound_24 rfl (lv_at hl 3 rfl) ?_
    refine lv_if_eq (tgt := 115) hx hb dX4_makeRound_25 (by decide) (fun hc => ?_) (fun hc => ?_)
    · have hw := hw.1 (hc)
      exact hk115 mrd mar ls _ _ (lv_sub hl [0] rfl) hP hD hS hw
    · have hw := hw.2 hc
      refine lv_aload_n hx hb dX4_makeRound_28 rfl (lv_at hl 0 rfl) ?_
      refine va_get (D := (dC, dI)) (ci := 4) (v := .ref (ad 6)) (C := RX4) (T := TX4) (N := 16) hx hb hts f_X4_makeRound_1 hown hK hP 0 rfl rfl 9 (by decide) (hts _ f_X4_makeRound_4) (fun _ h9 => h9) rfl dX4_makeRound_29 ?_
      refine lv_iload_n hx hb dX4_makeRound_32 rfl (lv_at hl 2 rfl) ?_
      refine lv_aload_n hx hb dX4_makeRound_33 rfl (lv_at hl 0 rfl) ?_
      refine va_get (D := (dC, dI)) (ci := 4) (v := .int mrn) (C := RX4) (T := TX4) (N := 16) hx hb hts f_X4_makeRound_1 hown hK hP 0 rfl rfl 8 (by decide) (hts _ f_X4_makeRound_2) (fun _ h9 => h9) rfl dX4_makeRound_34 ?_
      have hi := hw.1
      have hw := hw.2 _ rfl
      refine va_iast hx hb hK hP hD hS 6 0 rfl rfl hi dX4_makeRound_37 (fun H locs hP hD hS => ?_)
      generalize hmrd_3 : (upd mrd v2.toNatClampNeg mrn) = mrd_3 at hw hP hD
      have hP : va_P (dC, dI) vwCl (wMod ad cI cJ cZ mre mth mxs mys mcu mnx mpo mpn mrn mrd_3 mfi mar mfn mfa mnu mst) H := hP
      have hD : va_D A (wMod ad cI cJ cZ mre mth mxs mys mcu mnx mpo mpn mrn mrd_3 mfi mar mfn mfa mnu mst) := hD
      refine lv_aload_n hx hb dX4_makeRound_38 rfl (lv_at hl 0 rfl) ?_
      refine va_get (D := (dC, dI)) (ci := 4) (v := .ref (ad 8)) (C := RX4) (T := TX4) (N := 16) hx hb hts f_X4_makeRound_1 hown hK hP 0 rfl rfl 11 (by decide) (hts _ f_X4_makeRound_3) (fun _ h9 => h9) rfl dX4_makeRound_39 ?_
      refine lv_aload_n hx hb dX4_makeRound_42 rfl (lv_at hl 0 rfl) ?_
      refine va_get (D := (dC, dI)) (ci := 4) (v := .int mrn) (C := RX4) (T := TX4) (N := 16) hx hb hts f_X4_makeRound_1 hown hK hP 0 rfl rfl 8 (by decide) (hts _ f_X4_makeRound_2) (fun _ h9 => h9) rfl dX4_makeRound_43 ?_
      refine lv_aload_n hx hb dX4_makeRound_46 rfl (lv_at hl 0 rfl) ?_
      refine va_get (D := (dC, dI)) (ci := 4) (v := .ref (ad 8)) (C := RX4) (T := TX4) (N := 16) hx hb hts f_X4_makeRound_1 hown hK hP 0 rfl rfl 11 (by decide) (hts _ f_X4_makeRound_3) (fun _ h9 => h9) rfl dX4_makeRound_47 ?_
      refine lv_aload_n hx hb dX4_makeRound_50 rfl (lv_at hl 0 rfl) ?_
      refine va_get (D := (dC, dI)) (ci := 4) (v := .int mrn) (C := RX4) (T := TX4) (N := 16) hx hb hts f_X4_makeRound_1 hown hK hP 0 rfl rfl 8 (by decide) (hts _ f_X4_makeRound_2) (fun _ h9 => h9) rfl dX4_makeRound_51 ?_
      have hi := hw.1
      have hw := hw.2
      refine va_lald hx hb hK hP 8 1 rfl rfl hi dX4_makeRound_54 ?_
      refine lv_aload_n hx hb dX4_makeRound_55 rfl (lv_at hl 0 rfl) ?_
      refine va_get (D := (dC, dI)) (ci := 4) (v := .ref (ad 2)) (C := RX4) (T := TX4) (N := 16) hx hb hts f_X4_makeRound_1 hown hK hP 0 rfl rfl 2 (by decide) (hts _ f_X4_makeRound_5) (fun _ h9 => h9) rfl dX4_makeRound_56 ?_
      refine lv_iload_n hx hb dX4_makeRound_59 rfl (lv_at hl 2 rfl) ?_
      have hi := hw.1
      have hw := hw.2
      refine va_iald hx hb hK hP 2 0 rfl rfl hi dX4_makeRound_60 ?_
      refine lv_i2l hx hb dX4_makeRound_61 rfl ?_
      refine lv_aload_n hx hb dX4_makeRound_62 rfl (lv_at hl 0 rfl) ?_
      refine va_get (D := (dC, dI)) (ci := 4) (v := .ref (ad 3)) (C := RX4) (T := TX4) (N := 16) hx hb hts f_X4_makeRound_1 hown hK hP 0 rfl rfl 3 (by decide) (hts _ f_X4_makeRound_6) (fun _ h9 => h9) rfl dX4_makeRound_63 ?_
      refine lv_iload_n hx hb dX4_makeRound_66 rfl (lv_at hl 2 rfl) ?_
      refine vp_callSi (W.runS (As := [.int v2]) (rest := [.ref (ad 3), .long (mxs v2.toNatClampNeg).toInt64, .long (mar mrn.toNatClampNeg), .int mrn, .ref (ad 8)]) C (c_X4_back l v2 hw) (va_cwS 1 hts gX4_makeRound_X4_back rfl rfl rfl (by decide +kernel) ⟨Nat.le_of_ble_eq_true rfl, Nat.le_of_ble_eq_true rfl⟩) ⟨fb_st, fun U hU hW => ⟨rfl, trivial⟩⟩ rfl rfl hl.1 rfl (lv_room (Nat.le_of_ble_eq_true rfl)) dX4_makeRound_67 ⟨Nat.zero_le _, Nat.zero_le _⟩) (fun r4 hw => ?_)
      have hi := hw.1
      have hw := hw.2
      refine va_iald hx hb hK hP 3 0 rfl rfl hi dX4_makeRound_70 ?_
      refine lv_i2l hx hb dX4_makeRound_71 rfl ?_
      refine lv_lmul hx hb dX4_makeRound_72 ?_
      refine lv_ladd hx hb dX4_makeRound_73 ?_
      refine lv_aload_n hx hb dX4_makeRound_74 rfl (lv_at hl 0 rfl) ?_
      refine va_get (D := (dC, dI)) (ci := 4) (v := .ref (ad 2)) (C := RX4) (T := TX4) (N := 16) hx hb hts f_X4_makeRound_1 hown hK hP 0 rfl rfl 2 (by decide) (hts _ f_X4_makeRound_5) (fun _ h9 => h9) rfl dX4_makeRound_75 ?_
      refine lv_iload_n hx hb dX4_makeRound_78 rfl (lv_at hl 2 rfl) ?_
      refine vp_callSi (W.runS (As := [.int v2]) (rest := [.ref (ad 2), .long ((mar mrn.toNatClampNeg) + ((mxs v2.toNatClampNeg).toInt64 * (mys r4.toNatClampNeg).toInt64)), .int mrn, .ref (ad 8)]) C (c_X4_back l v2 hw) (va_cwS 1 hts gX4_makeRound_X4_back rfl rfl rfl (by decide +kernel) ⟨Nat.le_of_ble_eq_true rfl, Nat.le_of_ble_eq_true rfl⟩) ⟨fb_st, fun U hU hW => ⟨rfl, trivial⟩⟩ rfl rfl hl.1 rfl (lv_room (Nat.le_of_ble_eq_true rfl)) dX4_makeRound_79 ⟨Nat.zero_le _, Nat.zero_le _⟩) (fun r5 hw => ?_)
      have hi := hw.1
      have hw := hw.2
      refine va_iald hx hb hK hP 2 0 rfl rfl hi dX4_makeRound_82 ?_
      refine lv_i2l hx hb dX4_makeRound_83 rfl ?_
      refine lv_aload_n hx hb dX4_makeRound_84 rfl (lv_at hl 0 rfl) ?_
      refine va_get (D := (dC, dI)) (ci := 4) (v := .ref (ad 3)) (C := RX4) (T := TX4) (N := 16) hx hb hts f_X4_makeRound_1 hown hK hP 0 rfl rfl 3 (by decide) (hts _ f_X4_makeRound_6) (fun _ h9 => h9) rfl dX4_makeRound_85 ?_
      refine lv_iload_n hx hb dX4_makeRound_88 rfl (lv_at hl 2 rfl) ?_
      have hi := hw.1
      have hw := hw.2
      refine va_iald hx hb hK hP 3 0 rfl rfl hi dX4_makeRound_89 ?_
      refine lv_i2l hx hb dX4_makeRound_90 rfl ?_
      refine lv_lmul hx hb dX4_makeRound_91 ?_
      refine lv_lsub hx hb dX4_makeRound_92 ?_
      have hi := hw.1
      have hw := hw.2 _ rfl
      refine va_last hx hb hK hP hD hS 8 1 rfl rfl hi dX4_makeRound_93 (fun H locs hP hD hS => ?_)
      generalize hmar_6 : (vp_updL mar mrn.toNatClampNeg (((mar mrn.toNatClampNeg) + ((mxs v2.toNatClampNeg).toInt64 * (mys r4.toNatClampNeg).toInt64)) - ((mxs r5.toNatClampNeg).toInt64 * (mys v2.toNatClampNeg).toInt64))) = mar_6 at hw hP hD
      have hP : va_P (dC, dI) vwCl (wMod ad cI cJ cZ mre mth mxs mys mcu mnx mpo mpn mrn mrd_3 mfi mar_6 mfn mfa mnu mst) H := hP
      have hD : va_D A (wMod ad cI cJ cZ mre mth mxs mys mcu mnx mpo mpn mrn mrd_3 mfi mar_6 mfn mfa mnu mst) := hD
      refine lv_aload_n hx hb dX4_makeRound_94 rfl (lv_at hl 0 rfl) ?_
      refine va_get (D := (dC, dI)) (ci := 4) (v := .ref (ad 4)) (C := RX4) (T := TX4) (N := 16) hx hb hts f_X4_makeRound_1 hown hK hP 0 rfl rfl 5 (by decide) (hts _ f_X4_makeRound_7) (fun _ h9 => h9) rfl dX4_makeRound_95 ?_
      refine lv_iload_n hx hb dX4_makeRound_98 rfl (lv_at hl 2 rfl) ?_
      have hi := hw.1
      have hw := hw.2
      refine va_iald hx hb hK hP 4 0 rfl rfl hi dX4_makeRound_99 ?_
      refine lv_topi (fun a7 ea7 => ?_)
      have hw := hw a7 ea7
      refine lv_istore_n (lv' := [(2, .int a7), (0, .ref (ad 0)), (1, .int v1), (3, .int v3)]) hx hb dX4_makeRound_100 rfl hl (by decide) rfl (fun ls hl => ?_)
      refine lv_iload_n hx hb dX4_makeRound_101 rfl (lv_at hl 0 rfl) ?_
      refine lv_iload_n hx hb dX4_makeRound_102 rfl (lv_at hl 2 rfl) ?_
      refine jn1_use (J := fun (k8 : Int32) => ∀ (ls : Array Slot) (H : Heap) (locs : List Loc), lv_has ls 4 [(0, .ref (ad 0)), (1, .int v1), (2, .int a7)] → va_P (dC, dI) vwCl (wMod ad cI cJ cZ mre mth mxs mys mcu mnx mpo mpn mrn mrd_3 mfi mar_6 mfn mfa mnu mst) H → va_D A (wMod ad cI cJ cZ mre mth mxs mys mcu mnx mpo mpn mrn mrd_3 mfi mar_6 mfn mfa mnu mst) → va_S A s.heap H locs → W p l e rm_X4_makeRound s m args below meth c H locs 0 0 Q (F0 m 111 ls [.int k8])) hw (fun k8 hw ls H locs hl hP hD hS => ?_) (fun hw hj0 => ?_)
      · refine lv_istore_n (lv' := [(3, .int k8), (0, .ref (ad 0)), (1, .int v1), (2, .int a7)]) hx hb dX4_makeRound_111 rfl hl (by decide) rfl (fun ls hl => ?_)
        refine lv_goto (tgt := 24) hx hb dX4_makeRound_112 (by decide) ?_
        exact ih mrd_3 mar_6 a7 k8 ls _ _ (lv_sub hl [1, 2, 3, 0] rfl) hP hD hS hw
      · have hj10 := hj0
        refine lv_icmp_eq (tgt := 110) hx hb dX4_makeRound_103 (by decide) (fun hc => ?_) (fun hc => ?_)
        · have hw := hw.1 (hc)
          refine lv_iconst (v := 0) hx hb dX4_makeRound_110 (by decide) ?_
          exact hj10 (0 : Int32) hw ls _ _ (lv_sub hl [1, 2, 0] rfl) hP hD hS
        · have hw := hw.2 hc
          refine lv_iconst (v := 1) hx hb dX4_makeRound_106 (by decide) ?_
          refine lv_goto (tgt := 111) hx hb dX4_makeRound_107 (by decide) ?_
          exact hj10 (1 : Int32) hw ls _ _ (lv_sub hl [1, 2, 0] rfl) hP hD hS
set_option maxRecDepth 100000 in
set_option maxHeartbeats 4000000 in
theorem c_X4_makeRound (l : Launch) (dC : Nat → ClassId) (dI : Nat → Nat → Nat) (cI cJ cZ : ClassId) (ad : Nat → Nat) (sz : Nat) (mre : Int32) (mth : Nat → Int32) (mxs : Nat → Int32) (mys : Nat → Int32) (mcu : Int32) (mnx : Nat → Int32) (mpo : Nat → Int32) (mpn : Int32) (mrn : Int32) (mrd : Nat → Int32) (mfi : Nat → Int32) (mar : Nat → Int64) (mfn : Int32) (mfa : Nat → Int32) (mnu : Nat → Int32) (mst : Nat → Int32) (v1 : Int32) {post : Int32 → (Nat → Int32) → (Nat → Int32) → (Nat → Int64) → Prop} (hw : wp_X4_makeRound mxs mys mnx mrn mrd mfi mar v1 post) : Met l yX4_makeRound wsX4_makeRound rm_X4_makeRound (va_Pc [.ref (ad 0), .int v1] (fun U => U.heap.size = sz ∧ va_P (dC, dI) vwCl (wMod ad cI cJ cZ mre mth mxs mys mcu mnx mpo mpn mrn mrd mfi mar mfn mfa mnu mst) U.heap ∧ va_K (dC, dI) vwCl (tyL cI cJ cZ) U ∧ va_D (fun _ => True) (wMod ad cI cJ cZ mre mth mxs mys mcu mnx mpo mpn mrn mrd mfi mar mfn mfa mnu mst))) (va_Qv (fun uu : Int32 × (Nat → Int32) × (Nat → Int32) × (Nat → Int64) => post uu.1 uu.2.1 uu.2.2.1 uu.2.2.2) (fun (uu : Int32 × (Nat → Int32) × (Nat → Int32) × (Nat → Int64)) (t : State) => va_P (dC, dI) vwCl (wMod ad cI cJ cZ mre mth mxs mys mcu mnx mpo mpn uu.1 uu.2.1 uu.2.2.1 uu.2.2.2 mfn mfa mnu mst) t.heap ∧ va_D (va_A (wMod ad cI cJ cZ mre mth mxs mys mcu mnx mpo mpn mrn mrd mfi mar mfn mfa mnu mst) sz) (wMod ad cI cJ cZ mre mth mxs mys mcu mnx mpo mpn uu.1 uu.2.1 uu.2.2.1 uu.2.2.2 mfn mfa mnu mst)) (va_A (wMod ad cI cJ cZ mre mth mxs mys mcu mnx mpo mpn mrn mrd mfi mar mfn mfa mnu mst) sz)) 0 0 (va_A (wMod ad cI cJ cZ mre mth mxs mys mcu mnx mpo mpn mrn mrd mfi mar mfn mfa mnu mst) sz) := by
  unfold wp_X4_makeRound at hw
  refine Met.ofW (cc := cX4_makeRound) (maxL := 4) (ret := none) (by decide) rfl ?_
  intro p e s m args below meth c s₁ B hml hv
  obtain ⟨hav, hsz, hP, hK, hD0⟩ := hv
  have hx := B.exec
  have hb := B.bytes
  have hr := B.returns
  have hts := atoms_spec (ws := wsX4_makeRound) B.pre
  have hown : s.vm.findClass RX4 = some m.cls := findClass_of_methodNamed B.named
  have hlocks := B.notSynchronized
  have C : CallFix p m c cX4_makeRound 4 s args wsX4_makeRound RX4 := ⟨hx, hb, hml, hown, hts⟩
  obtain ⟨ls, hE, hl⟩ := mx_entry (m := m) [.ref (ad 0), .int v1] (n := 4) (Nat.le_of_ble_eq_true rfl)
  have hl : lv_has ls 4 [(0, .ref (ad 0)), (1, .int v1)] := hl
  rw [show entryFrame m args 4 = F0 m 0 ls [] by rw [hav]; exact hE]
  subst hsz
  have hD := hD0.self (sz := s.heap.size)
  generalize hAe : va_A (wMod ad cI cJ cZ mre mth mxs mys mcu mnx mpo mpn mrn mrd mfi mar mfn mfa mnu mst) s.heap.size = A at hD ⊢
  have hA : ∀ q : Nat, s.heap.size ≤ q → A q := fun q h => by rw [← hAe]; exact Or.inr h
  have hS : va_S A s.heap s.heap [] := va_S.rf
  obtain ⟨Q, hQ⟩ : ∃ Q, MQ below (va_Qv (fun uu : Int32 × (Nat → Int32) × (Nat → Int32) × (Nat → Int64) => post uu.1 uu.2.1 uu.2.2.1 uu.2.2.2) (fun (uu : Int32 × (Nat → Int32) × (Nat → Int32) × (Nat → Int64)) (t : State) => va_P (dC, dI) vwCl (wMod ad cI cJ cZ mre mth mxs mys mcu mnx mpo mpn uu.1 uu.2.1 uu.2.2.1 uu.2.2.2 mfn mfa mnu mst) t.heap ∧ va_D A (wMod ad cI cJ cZ mre mth mxs mys mcu mnx mpo mpn uu.1 uu.2.1 uu.2.2.1 uu.2.2.2 mfn mfa mnu mst)) A) args s 0 0 A = Q := ⟨_, rfl⟩
  rw [hQ]
  obtain ⟨H, hH⟩ : ∃ H, s.heap = H := ⟨_, rfl⟩
  have hS : va_S A s.heap H [] := by rw [← hH]; exact hS
  rw [hH] at hP
  show W p l e rm_X4_makeRound s m args below meth c s.heap [] 0 0 Q (F0 m 0 ls [])
  suffices hg : W p l e rm_X4_makeRound s m args below meth c H [] 0 0 Q (F0 m 0 ls []) by rw [hH]; exact hg
  clear hH
  generalize hlo : ([] : List Loc) = locs at hS ⊢
  refine lv_aload_n hx hb dX4_makeRound_0 rfl (lv_at hl 0 rfl) ?_
  refine va_get (D := (dC, dI)) (ci := 4) (v := .ref (ad 7)) (C := RX4) (T := TX4) (N := 16) hx hb hts f_X4_makeRound_1 hown hK hP 0 rfl rfl 10 (by decide) (hts _ f_X4_makeRound_0) (fun _ h9 => h9) rfl dX4_makeRound_1 ?_
  refine lv_aload_n hx hb dX4_makeRound_4 rfl (lv_at hl 0 rfl) ?_
  refine va_get (D := (dC, dI)) (ci := 4) (v := .int mrn) (C := RX4) (T := TX4) (N := 16) hx hb hts f_X4_makeRound_1 hown hK hP 0 rfl rfl 8 (by decide) (hts _ f_X4_makeRound_2) (fun _ h9 => h9) rfl dX4_makeRound_5 ?_
  refine lv_iload_n hx hb dX4_makeRound_8 rfl (lv_at hl 1 rfl) ?_
  have hi := hw.1
  have hw := hw.2 _ rfl
  refine va_iast hx hb hK hP hD hS 7 0 rfl rfl hi dX4_makeRound_9 (fun H locs hP hD hS => ?_)
  generalize hmfi_1 : (upd mfi mrn.toNatClampNeg v1) = mfi_1 at hw hP hD
  have hP : va_P (dC, dI) vwCl (wMod ad cI cJ cZ mre mth mxs mys mcu mnx mpo mpn mrn mrd mfi_1 mar mfn mfa mnu mst) H := hP
  have hD : va_D A (wMod ad cI cJ cZ mre mth mxs mys mcu mnx mpo mpn mrn mrd mfi_1 mar mfn mfa mnu mst) := hD
  refine lv_aload_n hx hb dX4_makeRound_10 rfl (lv_at hl 0 rfl) ?_
  refine va_get (D := (dC, dI)) (ci := 4) (v := .ref (ad 8)) (C := RX4) (T := TX4) (N := 16) hx hb hts f_X4_makeRound_1 hown hK hP 0 rfl rfl 11 (by decide) (hts _ f_X4_makeRound_3) (fun _ h9 => h9) rfl dX4_makeRound_11 ?_
  refine lv_aload_n hx hb dX4_makeRound_14 rfl (lv_at hl 0 rfl) ?_
  refine va_get (D := (dC, dI)) (ci := 4) (v := .int mrn) (C := RX4) (T := TX4) (N := 16) hx hb hts f_X4_makeRound_1 hown hK hP 0 rfl rfl 8 (by decide) (hts _ f_X4_makeRound_2) (fun _ h9 => h9) rfl dX4_makeRound_15 ?_
  refine lv_lconst (v := 0) hx hb dX4_makeRound_18 (by decide) ?_
  have hi := hw.1
  have hw := hw.2 _ rfl
  refine va_last hx hb hK hP hD hS 8 1 rfl rfl hi dX4_makeRound_19 (fun H locs hP hD hS => ?_)
  generalize hmar_2 : (vp_updL mar mrn.toNatClampNeg (0 : Int64)) = mar_2 at hw hP hD
  have hP : va_P (dC, dI) vwCl (wMod ad cI cJ cZ mre mth mxs mys mcu mnx mpo mpn mrn mrd mfi_1 mar_2 mfn mfa mnu mst) H := hP
  have hD : va_D A (wMod ad cI cJ cZ mre mth mxs mys mcu mnx mpo mpn mrn mrd mfi_1 mar_2 mfn mfa mnu mst) := hD
  refine lv_iload_n hx hb dX4_makeRound_20 rfl (lv_at hl 1 rfl) ?_
  refine lv_istore_n (lv' := [(2, .int v1), (0, .ref (ad 0)), (1, .int v1)]) hx hb dX4_makeRound_21 rfl hl (by decide) rfl (fun ls hl => ?_)
  refine lv_iconst (v := 1) hx hb dX4_makeRound_22 (by decide) ?_
  refine lv_istore_n (lv' := [(3, .int (1 : Int32)), (2, .int v1), (0, .ref (ad 0)), (1, .int v1)]) hx hb dX4_makeRound_23 rfl hl (by decide) rfl (fun ls hl => ?_)
  obtain ⟨n13, hw⟩ := hw
  refine l_X4_makeRound_24 C hK hA (fun mrd_11 mar_12 ls H locs hl hP hD hS hw => ?_) n13 mrd mar_2 v1 (1 : Int32) ls _ _ (lv_sub hl [2, 3, 1, 0] rfl) hP hD hS hw
  refine lv_aload_n hx hb dX4_makeRound_115 rfl (lv_at hl 0 rfl) ?_
  refine lv_dup hx hb dX4_makeRound_116 rfl ?_
  refine va_get (D := (dC, dI)) (ci := 4) (v := .int mrn) (C := RX4) (T := TX4) (N := 16) hx hb hts f_X4_makeRound_1 hown hK hP 0 rfl rfl 8 (by decide) (hts _ f_X4_makeRound_2) (fun _ h9 => h9) rfl dX4_makeRound_117 ?_
  refine lv_iconst (v := 1) hx hb dX4_makeRound_120 (by decide) ?_
  refine lv_iadd hx hb dX4_makeRound_121 ?_
  refine va_put (D := (dC, dI)) (ci := 4) (v := .int (mrn + (1 : Int32))) (ty := .int) (C := RX4) (T := TX4) (N := 16) hx hb hts f_X4_makeRound_1 tyX4 tyX4_ok nmX4 hown hK hP hD hS 0 rfl rfl 8 (by decide) (hts _ f_X4_makeRound_2) (fun _ h9 => h9) rfl (by decide +kernel) rfl rfl (Nat.le_of_ble_eq_true rfl) dX4_makeRound_122 (fun H locs hP hD hS => ?_)
  have hP : va_P (dC, dI) vwCl (wMod ad cI cJ cZ mre mth mxs mys mcu mnx mpo mpn (mrn + (1 : Int32)) mrd_11 mfi_1 mar_12 mfn mfa mnu mst) H := hP
  have hD : va_D A (wMod ad cI cJ cZ mre mth mxs mys mcu mnx mpo mpn (mrn + (1 : Int32)) mrd_11 mfi_1 mar_12 mfn mfa mnu mst) := hD
  rw [← hQ]
  exact W.vret hx hb hr (fun t ht hW => ⟨⟨((mrn + (1 : Int32)), mrd_11, mfi_1, mar_12), rfl, hw, by rw [ht]; exact hP, hD⟩, hS.F ht⟩) hS.2.2 dX4_makeRound_125
-- X4_isWithin
abbrev rm_X4_isWithin : Room := { frames := 2, cells := 0, slots := 0, locals := 46 }
theorem f_X4_isWithin_0 : (Cond.fieldLink RX4 7 "PlaneFacesModel" "isThere" "[Z") ∈ wsX4_isWithin := by decide +kernel
theorem f_X4_isWithin_1 : ∀ w ∈ wsX40, w ∈ wsX4_isWithin := by decide +kernel
theorem f_X4_isWithin_2 : (Cond.fieldLink RX4 26 "PlaneFacesModel" "roundOf" "[I") ∈ wsX4_isWithin := by decide +kernel
theorem f_X4_isWithin_3 : (Cond.fieldLink RX4 13 "PlaneFacesModel" "xs" "[I") ∈ wsX4_isWithin := by decide +kernel
theorem f_X4_isWithin_4 : (Cond.fieldLink RX4 17 "PlaneFacesModel" "ys" "[I") ∈ wsX4_isWithin := by decide +kernel
set_option maxRecDepth 100000 in
set_option maxHeartbeats 4000000 in
theorem l_X4_isWithin_6 {p : Program} {l : Launch} {e : Env} {s : State} {m : MethodId} {args : Array Value} {below : List Frame} {meth : Method} {c : Code} {Q : State → Prop} {dC : Nat → ClassId} {dI : Nat → Nat → Nat} {cI cJ cZ : ClassId} {ad : Nat → Nat} {mre : Int32} {mth : Nat → Int32} {mxs : Nat → Int32} {mys : Nat → Int32} {mcu : Int32} {mnx : Nat → Int32} {mpo : Nat → Int32} {mpn : Int32} {mrn : Int32} {mrd : Nat → Int32} {mfi : Nat → Int32} {mar : Nat → Int64} {mfn : Int32} {mfa : Nat → Int32} {mnu : Nat → Int32} {mst : Nat → Int32} {v1 : Int32} {v2 : Int32} {v3 : Int32} {K168 : Int32 → Prop} (C : CallFix p m c cX4_isWithin 9 s args wsX4_isWithin RX4) (hK : va_K (dC, dI) vwCl (tyL cI cJ cZ) s) {H : Heap} (hP : va_P (dC, dI) vwCl (wMod ad cI cJ cZ mre mth mxs mys mcu mnx mpo mpn mrn mrd mfi mar mfn mfa mnu mst) H) (hk168 : ∀ (w4 : Int32) (ls : Array Slot), lv_has ls 9 [(0, .ref (ad 0)), (4, .int w4)] → K168 w4 → W p l e rm_X4_isWithin s m args below meth c H [] 0 0 Q (F0 m 168 ls [])) : ∀ (n : Nat) (v4 : Int32) (v5 : Int32) (ls : Array Slot), lv_has ls 9 [(0, .ref (ad 0)), (1, .int v1), (2, .int v2), (3, .int v3), (4, .int v4), (5, .int v5)] → lp_X4_isWithin_6 mth mxs mys mrd v1 v2 v3 K168 n v4 v5 → W p l e rm_X4_isWithin s m args below meth c H [] 0 0 Q (F0 m 6 ls []) := by
  obtain ⟨hx, hb, hml, hown, hts⟩ := id C
  intro n
  induction n with
  | zero =>
    intro v4 v5 ls hl hw
    rw [lp_X4_isWithin_6.eq_1] at hw
    exact hw.elim
  | succ n ih =>
    intro v4 v5 ls hl hw
    rw [lp_X4_isWithin_6.eq_2] at hw
    refine lv_iload hx hb dX4_isWithin_6 (lv_at hl 5 rfl) ?_
    refine lv_bipush (v := 120) hx hb dX4_isWithin_8 (by decide) ?_
    refine lv_icmp_ge (tgt := 168) hx hb dX4_isWithin_10 (by decide) (fun hc => ?_) (fun hc => ?_)
    · have hw := hw.1 (hc)
      exact hk168 v4 ls (lv_sub hl [0, 4] rfl) hw
    · have hw := hw.2 hc
      refine lv_aload_n hx hb dX4_isWithin_13 rfl (lv_at hl 0 rfl) ?_
      refine va_get (D := (dC, dI)) (ci := 4) (v := .ref (ad 1)) (C := RX4) (T := TX4) (N := 16) hx hb hts f_X4_isWithin_1 hown hK hP 0 rfl rfl 1 (by decide) (hts _ f_X4_isWithin_0) (fun _ h9 => h9) rfl dX4_isWithin_14 ?_
      refine lv_iload hx hb dX4_isWithin_17 (lv_at hl 5 rfl) ?_
      refine lv_iconst (v := 2) hx hb dX4_isWithin_19 (by decide) ?_
      refine lv_idiv hx hb dX4_isWithin_20 (by decide) ?_
      have hi := hw.1
      have hw := hw.2
      refine va_zald hx hb hK hP 1 2 rfl rfl hi dX4_isWithin_21 ?_
      refine jn1_use (J := fun (j1 : Int32) => ∀ ls : Array Slot, lv_has ls 9 [(0, .ref (ad 0)), (1, .int v1), (2, .int v2), (3, .int v3), (4, .int j1), (5, .int v5)] → W p l e rm_X4_isWithin s m args below meth c H [] 0 0 Q (F0 m 162 ls [])) hw (fun j1 hw ls hl => ?_) (fun hw hj0 => ?_)
      · refine lv_iinc (v := (v5 + (1 : Int32))) (lv' := [(5, .int (v5 + (1 : Int32))), (0, .ref (ad 0)), (1, .int v1), (2, .int v2), (3, .int v3), (4, .int j1)]) hx hb dX4_isWithin_162 hl (k := 5) rfl rfl (by decide) rfl (fun ls hl => ?_)
        refine lv_goto (tgt := 6) hx hb dX4_isWithin_165 (by decide) ?_
        exact ih j1 (v5 + (1 : Int32)) ls (lv_sub hl [1, 2, 3, 4, 5, 0] rfl) hw
      · have hj3 := hj0
        refine lv_if_eq (tgt := 162) hx hb dX4_isWithin_22 (by decide) (fun hc => ?_) (fun hc => ?_)
        · have hw := hw.1 (hc)
          exact hj3 v4 hw ls (lv_sub hl [0, 1, 2, 3, 4, 5] rfl)
        · have hw := hw.2 hc
          refine lv_aload_n hx hb dX4_isWithin_25 rfl (lv_at hl 0 rfl) ?_
          refine va_get (D := (dC, dI)) (ci := 4) (v := .ref (ad 6)) (C := RX4) (T := TX4) (N := 16) hx hb hts f_X4_isWithin_1 hown hK hP 0 rfl rfl 9 (by decide) (hts _ f_X4_isWithin_2) (fun _ h9 => h9) rfl dX4_isWithin_26 ?_
          refine lv_iload hx hb dX4_isWithin_29 (lv_at hl 5 rfl) ?_
          have hi := hw.1
          have hw := hw.2
          refine va_iald hx hb hK hP 6 0 rfl rfl hi dX4_isWithin_31 ?_
          refine lv_iload_n hx hb dX4_isWithin_32 rfl (lv_at hl 1 rfl) ?_
          refine lv_icmp_ne (tgt := 162) hx hb dX4_isWithin_33 (by decide) (fun hc => ?_) (fun hc => ?_)
          · have hw := hw.2 hc
            exact hj3 v4 hw ls (lv_sub hl [0, 1, 2, 3, 4, 5] rfl)
          · have hw := hw.1 (hc)
            refine lv_aload_n hx hb dX4_isWithin_36 rfl (lv_at hl 0 rfl) ?_
            refine va_get (D := (dC, dI)) (ci := 4) (v := .ref (ad 2)) (C := RX4) (T := TX4) (N := 16) hx hb hts f_X4_isWithin_1 hown hK hP 0 rfl rfl 2 (by decide) (hts _ f_X4_isWithin_3) (fun _ h9 => h9) rfl dX4_isWithin_37 ?_
            refine lv_iload hx hb dX4_isWithin_40 (lv_at hl 5 rfl) ?_
            have hi := hw.1
            have hw := hw.2
            refine va_iald hx hb hK hP 2 0 rfl rfl hi dX4_isWithin_42 ?_
            refine lv_aload_n hx hb dX4_isWithin_43 rfl (lv_at hl 0 rfl) ?_
            refine va_get (D := (dC, dI)) (ci := 4) (v := .ref (ad 2)) (C := RX4) (T := TX4) (N := 16) hx hb hts f_X4_isWithin_1 hown hK hP 0 rfl rfl 2 (by decide) (hts _ f_X4_isWithin_3) (fun _ h9 => h9) rfl dX4_isWithin_44 ?_
            refine lv_iload hx hb dX4_isWithin_47 (lv_at hl 5 rfl) ?_
            refine vp_callSi (W.runS (As := [.int v5]) (rest := [.ref (ad 2), .int (mxs v5.toNatClampNeg)]) C (c_X4_back l v5 hw) (va_cwS 1 hts gX4_isWithin_X4_back rfl rfl rfl (by decide +kernel) ⟨Nat.le_of_ble_eq_true rfl, Nat.le_of_ble_eq_true rfl⟩) ⟨fb_st, fun U hU hW => ⟨rfl, trivial⟩⟩ rfl rfl hl.1 rfl (lv_room (Nat.le_of_ble_eq_true rfl)) dX4_isWithin_49 ⟨Nat.zero_le _, Nat.zero_le _⟩) (fun r4 hw => ?_)
            have hi := hw.1
            have hw := hw.2
            refine va_iald hx hb hK hP 2 0 rfl rfl hi dX4_isWithin_52 ?_
            refine jn1_use (J := fun (k5 : Int32) => ∀ ls : Array Slot, lv_has ls 9 [(0, .ref (ad 0)), (1, .int v1), (2, .int v2), (3, .int v3), (4, .int v4), (5, .int v5)] → W p l e rm_X4_isWithin s m args below meth c H [] 0 0 Q (F0 m 66 ls [.int k5])) hw (fun k5 hw ls hl => ?_) (fun hw hj0 => ?_)
            · refine lv_istore (lv' := [(6, .int k5), (0, .ref (ad 0)), (1, .int v1), (2, .int v2), (3, .int v3), (4, .int v4), (5, .int v5)]) hx hb dX4_isWithin_66 hl (by decide) rfl (fun ls hl => ?_)
              refine lv_iload hx hb dX4_isWithin_68 (lv_at hl 0 rfl) ?_
              refine vp_callSi (W.runS (As := [.int k5]) (rest := []) C (c_X4_back l k5 hw) (va_cwS 1 hts gX4_isWithin_X4_back rfl rfl rfl (by decide +kernel) ⟨Nat.le_of_ble_eq_true rfl, Nat.le_of_ble_eq_true rfl⟩) ⟨fb_st, fun U hU hW => ⟨rfl, trivial⟩⟩ rfl rfl hl.1 rfl (lv_room (Nat.le_of_ble_eq_true rfl)) dX4_isWithin_70 ⟨Nat.zero_le _, Nat.zero_le _⟩) (fun r8 hw => ?_)
              refine lv_istore (lv' := [(7, .int r8), (6, .int k5), (0, .ref (ad 0)), (1, .int v1), (2, .int v2), (3, .int v3), (4, .int v4), (5, .int v5)]) hx hb dX4_isWithin_73 hl (by decide) rfl (fun ls hl => ?_)
              refine lv_aload_n hx hb dX4_isWithin_75 rfl (lv_at hl 2 rfl) ?_
              refine va_get (D := (dC, dI)) (ci := 4) (v := .ref (ad 2)) (C := RX4) (T := TX4) (N := 16) hx hb hts f_X4_isWithin_1 hown hK hP 0 rfl rfl 2 (by decide) (hts _ f_X4_isWithin_3) (fun _ h9 => h9) rfl dX4_isWithin_76 ?_
              refine lv_iload hx hb dX4_isWithin_79 (lv_at hl 1 rfl) ?_
              have hi := hw.1
              have hw := hw.2
              refine va_iald hx hb hK hP 2 0 rfl rfl hi dX4_isWithin_81 ?_
              refine lv_iload_n hx hb dX4_isWithin_82 rfl (lv_at hl 4 rfl) ?_
              refine jn1_use (J := fun (k9 : Int32) => ∀ ls : Array Slot, lv_has ls 9 [(0, .ref (ad 0)), (1, .int v1), (2, .int v2), (3, .int v3), (4, .int v4), (5, .int v5)] → W p l e rm_X4_isWithin s m args below meth c H [] 0 0 Q (F0 m 138 ls [.int k9])) hw (fun k9 hw ls hl => ?_) (fun hw hj0 => ?_)
              · refine lv_istore (lv' := [(8, .int k9), (0, .ref (ad 0)), (1, .int v1), (2, .int v2), (3, .int v3), (4, .int v4), (5, .int v5)]) hx hb dX4_isWithin_138 hl (by decide) rfl (fun ls hl => ?_)
                refine lv_iload hx hb dX4_isWithin_140 (lv_at hl 0 rfl) ?_
                refine jn1_use (J := fun (k12 : Int32) => ∀ ls : Array Slot, lv_has ls 9 [(0, .ref (ad 0)), (1, .int v1), (2, .int v2), (3, .int v3), (5, .int v5)] → W p l e rm_X4_isWithin s m args below meth c H [] 0 0 Q (F0 m 160 ls [.int k12])) hw (fun k12 hw ls hl => ?_) (fun hw hj0 => ?_)
                · refine lv_istore (lv' := [(4, .int k12), (0, .ref (ad 0)), (1, .int v1), (2, .int v2), (3, .int v3), (5, .int v5)]) hx hb dX4_isWithin_160 hl (by decide) rfl (fun ls hl => ?_)
                  exact hj3 k12 hw ls (lv_sub hl [1, 2, 3, 4, 0, 5] rfl)
                · have hj14 := hj0
                  refine lv_if_eq (tgt := 158) hx hb dX4_isWithin_142 (by decide) (fun hc => ?_) (fun hc => ?_)
                  · have hw := hw.1 (hc)
                    refine lv_iload hx hb dX4_isWithin_158 (lv_at hl 5 rfl) ?_
                    exact hj14 v4 hw ls (lv_sub hl [1, 2, 3, 4, 6] rfl)
                  · have hw := hw.2 hc
                    refine lv_iload hx hb dX4_isWithin_145 (lv_at hl 5 rfl) ?_
                    refine lv_if_ne (tgt := 154) hx hb dX4_isWithin_147 (by decide) (fun hc => ?_) (fun hc => ?_)
                    · have hw := hw.2 hc
                      refine lv_iconst (v := 0) hx hb dX4_isWithin_154 (by decide) ?_
                      refine lv_goto (tgt := 160) hx hb dX4_isWithin_155 (by decide) ?_
                      exact hj14 (0 : Int32) hw ls (lv_sub hl [1, 2, 3, 4, 6] rfl)
                    · have hw := hw.1 (hc)
                      refine lv_iconst (v := 1) hx hb dX4_isWithin_150 (by decide) ?_
                      refine lv_goto (tgt := 160) hx hb dX4_isWithin_151 (by decide) ?_
                      exact hj14 (1 : Int32) hw ls (lv_sub hl [1, 2, 3, 4, 6] rfl)
              · have hj11 := hj0
                refine jn0_use (J := ∀ ls : Array Slot, lv_has ls 9 [(0, .ref (ad 0)), (1, .int v1), (2, .int v2), (3, .int v3), (4, .int v4), (5, .int v5)] → W p l e rm_X4_isWithin s m args below meth c H [] 0 0 Q (F0 m 137 ls [])) hw (fun hw ls hl => ?_) (fun hw hj0 => ?_)
                · refine lv_iconst (v := 0) hx hb dX4_isWithin_137 (by decide) ?_
                  exact hj11 (0 : Int32) hw ls (lv_sub hl [0, 1, 2, 3, 4, 5] rfl)
                · have hj16 := hj0
                  refine lv_icmp_gt (tgt := 137) hx hb dX4_isWithin_83 (by decide) (fun hc => ?_) (fun hc => ?_)
                  · have hw := hw.1 (hc)
                    exact hj16 hw ls (lv_sub hl [2, 3, 4, 5, 6, 7] rfl)
                  · have hw := hw.2 hc
                    refine lv_iload_n hx hb dX4_isWithin_86 rfl (lv_at hl 4 rfl) ?_
                    refine lv_aload_n hx hb dX4_isWithin_87 rfl (lv_at hl 2 rfl) ?_
                    refine va_get (D := (dC, dI)) (ci := 4) (v := .ref (ad 2)) (C := RX4) (T := TX4) (N := 16) hx hb hts f_X4_isWithin_1 hown hK hP 0 rfl rfl 2 (by decide) (hts _ f_X4_isWithin_3) (fun _ h9 => h9) rfl dX4_isWithin_88 ?_
                    refine lv_iload hx hb dX4_isWithin_91 (lv_at hl 0 rfl) ?_
                    have hi := hw.1
                    have hw := hw.2
                    refine va_iald hx hb hK hP 2 0 rfl rfl hi dX4_isWithin_93 ?_
                    refine lv_icmp_ge (tgt := 137) hx hb dX4_isWithin_94 (by decide) (fun hc => ?_) (fun hc => ?_)
                    · have hw := hw.1 (hc)
                      exact hj16 hw ls (lv_sub hl [2, 3, 4, 5, 6, 7] rfl)
                    · have hw := hw.2 hc
                      refine lv_aload_n hx hb dX4_isWithin_97 rfl (lv_at hl 2 rfl) ?_
                      refine va_get (D := (dC, dI)) (ci := 4) (v := .ref (ad 2)) (C := RX4) (T := TX4) (N := 16) hx hb hts f_X4_isWithin_1 hown hK hP 0 rfl rfl 2 (by decide) (hts _ f_X4_isWithin_3) (fun _ h9 => h9) rfl dX4_isWithin_98 ?_
                      refine lv_iload hx hb dX4_isWithin_101 (lv_at hl 1 rfl) ?_
                      have hi := hw.1
                      have hw := hw.2
                      refine va_iald hx hb hK hP 2 0 rfl rfl hi dX4_isWithin_103 ?_
                      refine lv_aload_n hx hb dX4_isWithin_104 rfl (lv_at hl 2 rfl) ?_
                      refine va_get (D := (dC, dI)) (ci := 4) (v := .ref (ad 3)) (C := RX4) (T := TX4) (N := 16) hx hb hts f_X4_isWithin_1 hown hK hP 0 rfl rfl 3 (by decide) (hts _ f_X4_isWithin_4) (fun _ h9 => h9) rfl dX4_isWithin_105 ?_
                      refine lv_iload hx hb dX4_isWithin_108 (lv_at hl 1 rfl) ?_
                      have hi := hw.1
                      have hw := hw.2
                      refine va_iald hx hb hK hP 3 0 rfl rfl hi dX4_isWithin_110 ?_
                      refine lv_aload_n hx hb dX4_isWithin_111 rfl (lv_at hl 2 rfl) ?_
                      refine va_get (D := (dC, dI)) (ci := 4) (v := .ref (ad 2)) (C := RX4) (T := TX4) (N := 16) hx hb hts f_X4_isWithin_1 hown hK hP 0 rfl rfl 2 (by decide) (hts _ f_X4_isWithin_3) (fun _ h9 => h9) rfl dX4_isWithin_112 ?_
                      refine lv_iload hx hb dX4_isWithin_115 (lv_at hl 0 rfl) ?_
                      have hi := hw.1
                      have hw := hw.2
                      refine va_iald hx hb hK hP 2 0 rfl rfl hi dX4_isWithin_117 ?_
                      refine lv_aload_n hx hb dX4_isWithin_118 rfl (lv_at hl 2 rfl) ?_
                      refine va_get (D := (dC, dI)) (ci := 4) (v := .ref (ad 3)) (C := RX4) (T := TX4) (N := 16) hx hb hts f_X4_isWithin_1 hown hK hP 0 rfl rfl 3 (by decide) (hts _ f_X4_isWithin_4) (fun _ h9 => h9) rfl dX4_isWithin_119 ?_
                      refine lv_iload hx hb dX4_isWithin_122 (lv_at hl 0 rfl) ?_
                      have hi := hw.1
                      have hw := hw.2
                      refine va_iald hx hb hK hP 3 0 rfl rfl hi dX4_isWithin_124 ?_
                      refine lv_iload_n hx hb dX4_isWithin_125 rfl (lv_at hl 4 rfl) ?_
                      refine lv_iload_n hx hb dX4_isWithin_126 rfl (lv_at hl 5 rfl) ?_
                      refine vp_callSi (W.runS (As := [.int (mxs k5.toNatClampNeg), .int (mys k5.toNatClampNeg), .int (mxs r8.toNatClampNeg), .int (mys r8.toNatClampNeg), .int v2, .int v3]) (rest := []) C (c_X4_side l (mxs k5.toNatClampNeg) (mys k5.toNatClampNeg) (mxs r8.toNatClampNeg) (mys r8.toNatClampNeg) v2 v3 hw) (va_cwS 6 hts gX4_isWithin_X4_side rfl rfl rfl (by decide +kernel) ⟨Nat.le_of_ble_eq_true rfl, Nat.le_of_ble_eq_true rfl⟩) ⟨fb_st, fun U hU hW => ⟨rfl, trivial⟩⟩ rfl rfl hl.1 rfl (lv_room (Nat.le_of_ble_eq_true rfl)) dX4_isWithin_127 ⟨Nat.zero_le _, Nat.zero_le _⟩) (fun r17 hw => ?_)
                      refine lv_if_ge (tgt := 137) hx hb dX4_isWithin_130 (by decide) (fun hc => ?_) (fun hc => ?_)
                      · have hw := hw.1 (hc)
                        exact hj16 hw ls (lv_sub hl [2, 3, 4, 5, 6, 7] rfl)
                      · have hw := hw.2 hc
                        refine lv_iconst (v := 1) hx hb dX4_isWithin_133 (by decide) ?_
                        refine lv_goto (tgt := 138) hx hb dX4_isWithin_134 (by decide) ?_
                        exact hj11 (1 : Int32) hw ls (lv_sub hl [2, 3, 4, 5, 6, 7] rfl)
            · have hj7 := hj0
              refine lv_icmp_ge (tgt := 61) hx hb dX4_isWithin_53 (by decide) (fun hc => ?_) (fun hc => ?_)
              · have hw := hw.1 (hc)
                refine lv_iload hx hb dX4_isWithin_61 (lv_at hl 5 rfl) ?_
                refine vp_callSi (W.runS (As := [.int v5]) (rest := []) C (c_X4_back l v5 hw) (va_cwS 1 hts gX4_isWithin_X4_back rfl rfl rfl (by decide +kernel) ⟨Nat.le_of_ble_eq_true rfl, Nat.le_of_ble_eq_true rfl⟩) ⟨fb_st, fun U hU hW => ⟨rfl, trivial⟩⟩ rfl rfl hl.1 rfl (lv_room (Nat.le_of_ble_eq_true rfl)) dX4_isWithin_63 ⟨Nat.zero_le _, Nat.zero_le _⟩) (fun r18 hw => ?_)
                exact hj7 r18 hw ls (lv_sub hl [0, 1, 2, 3, 4, 5] rfl)
              · have hw := hw.2 hc
                refine lv_iload hx hb dX4_isWithin_56 (lv_at hl 5 rfl) ?_
                refine lv_goto (tgt := 66) hx hb dX4_isWithin_58 (by decide) ?_
                exact hj7 v5 hw ls (lv_sub hl [0, 1, 2, 3, 4, 5] rfl)
set_option maxRecDepth 100000 in
set_option maxHeartbeats 4000000 in
theorem c_X4_isWithin (l : Launch) (dC : Nat → ClassId) (dI : Nat → Nat → Nat) (cI cJ cZ : ClassId) (ad : Nat → Nat) (mre : Int32) (mth : Nat → Int32) (mxs : Nat → Int32) (mys : Nat → Int32) (mcu : Int32) (mnx : Nat → Int32) (mpo : Nat → Int32) (mpn : Int32) (mrn : Int32) (mrd : Nat → Int32) (mfi : Nat → Int32) (mar : Nat → Int64) (mfn : Int32) (mfa : Nat → Int32) (mnu : Nat → Int32) (mst : Nat → Int32) (v1 : Int32) (v2 : Int32) (v3 : Int32) {post : Int32 → Prop} (hw : wp_X4_isWithin mth mxs mys mrd v1 v2 v3 post) : Met l yX4_isWithin wsX4_isWithin rm_X4_isWithin (va_Pc [.ref (ad 0), .int v1, .int v2, .int v3] (fun U => va_P (dC, dI) vwCl (wMod ad cI cJ cZ mre mth mxs mys mcu mnx mpo mpn mrn mrd mfi mar mfn mfa mnu mst) U.heap ∧ va_K (dC, dI) vwCl (tyL cI cJ cZ) U)) (vp_Si post) 0 0 (fun _ => False) := by
  unfold wp_X4_isWithin at hw
  refine Met.ofW (cc := cX4_isWithin) (maxL := 9) (ret := (some .boolean)) (by decide) rfl ?_
  intro p e s m args below meth c s₁ B hml hv
  obtain ⟨hav, hP, hK⟩ := hv
  have hx := B.exec
  have hb := B.bytes
  have hr := B.returns
  have hts := atoms_spec (ws := wsX4_isWithin) B.pre
  have hown : s.vm.findClass RX4 = some m.cls := findClass_of_methodNamed B.named
  have hlocks := B.notSynchronized
  have C : CallFix p m c cX4_isWithin 9 s args wsX4_isWithin RX4 := ⟨hx, hb, hml, hown, hts⟩
  obtain ⟨ls, hE, hl⟩ := mx_entry (m := m) [.ref (ad 0), .int v1, .int v2, .int v3] (n := 9) (Nat.le_of_ble_eq_true rfl)
  have hl : lv_has ls 9 [(0, .ref (ad 0)), (1, .int v1), (2, .int v2), (3, .int v3)] := hl
  rw [show entryFrame m args 9 = F0 m 0 ls [] by rw [hav]; exact hE]
  obtain ⟨Q, hQ⟩ : ∃ Q, MQ below (vp_Si post) args s 0 0 (fun _ => False) = Q := ⟨_, rfl⟩
  rw [hQ]
  obtain ⟨H, hH⟩ : ∃ H, s.heap = H := ⟨_, rfl⟩
  rw [hH]
  rw [hH] at hP
  show W p l e rm_X4_isWithin s m args below meth c H [] 0 0 Q (F0 m 0 ls [])
  refine lv_iconst (v := 0) hx hb dX4_isWithin_0 (by decide) ?_
  refine lv_istore (lv' := [(4, .int (0 : Int32)), (0, .ref (ad 0)), (1, .int v1), (2, .int v2), (3, .int v3)]) hx hb dX4_isWithin_1 hl (by decide) rfl (fun ls hl => ?_)
  refine lv_iconst (v := 0) hx hb dX4_isWithin_3 (by decide) ?_
  refine lv_istore (lv' := [(5, .int (0 : Int32)), (4, .int (0 : Int32)), (0, .ref (ad 0)), (1, .int v1), (2, .int v2), (3, .int v3)]) hx hb dX4_isWithin_4 hl (by decide) rfl (fun ls hl => ?_)
  obtain ⟨n20, hw⟩ := hw
  refine l_X4_isWithin_6 C hK hP (fun w19 ls hl hw => ?_) n20 (0 : Int32) (0 : Int32) ls (lv_sub hl [2, 3, 4, 5, 1, 0] rfl) hw
  refine lv_iload hx hb dX4_isWithin_168 (lv_at hl 1 rfl) ?_
  rw [← hQ]
  exact W.zret (v := w19) (ty := .boolean) hx hb hr (bz_n hw.1) (fun t ht hW => ⟨_, rfl, hw.2, ht.trans hH.symm⟩) (fun q h => by cases h) dX4_isWithin_170
-- X4_least
abbrev rm_X4_least : Room := { frames := 3, cells := 0, slots := 0, locals := 74 }
theorem f_X4_least_0 : (Cond.fieldLink RX4 95 "PlaneFacesModel" "rounds" "I") ∈ wsX4_least := by decide +kernel
theorem f_X4_least_1 : ∀ w ∈ wsX40, w ∈ wsX4_least := by decide +kernel
theorem f_X4_least_2 : (Cond.fieldLink RX4 32 "PlaneFacesModel" "areas" "[J") ∈ wsX4_least := by decide +kernel
theorem f_X4_least_3 : (Cond.fieldLink RX4 23 "PlaneFacesModel" "pieceOf" "[I") ∈ wsX4_least := by decide +kernel
theorem f_X4_least_4 : (Cond.fieldLink RX4 29 "PlaneFacesModel" "firsts" "[I") ∈ wsX4_least := by decide +kernel
set_option maxRecDepth 100000 in
set_option maxHeartbeats 4000000 in
theorem l_X4_least_6 {p : Program} {l : Launch} {e : Env} {s : State} {m : MethodId} {args : Array Value} {below : List Frame} {meth : Method} {c : Code} {Q : State → Prop} {dC : Nat → ClassId} {dI : Nat → Nat → Nat} {cI cJ cZ : ClassId} {ad : Nat → Nat} {mre : Int32} {mth : Nat → Int32} {mxs : Nat → Int32} {mys : Nat → Int32} {mcu : Int32} {mnx : Nat → Int32} {mpo : Nat → Int32} {mpn : Int32} {mrn : Int32} {mrd : Nat → Int32} {mfi : Nat → Int32} {mar : Nat → Int64} {mfn : Int32} {mfa : Nat → Int32} {mnu : Nat → Int32} {mst : Nat → Int32} {v1 : Int32} {v2 : Int32} {v3 : Int32} {K104 : Int32 → Prop} (C : CallFix p m c cX4_least 7 s args wsX4_least RX4) (hK : va_K (dC, dI) vwCl (tyL cI cJ cZ) s) {H : Heap} (hP : va_P (dC, dI) vwCl (wMod ad cI cJ cZ mre mth mxs mys mcu mnx mpo mpn mrn mrd mfi mar mfn mfa mnu mst) H) (hk104 : ∀ (w4 : Int32) (ls : Array Slot), lv_has ls 7 [(0, .ref (ad 0)), (4, .int w4)] → K104 w4 → W p l e rm_X4_least s m args below meth c H [] 0 0 Q (F0 m 104 ls [])) : ∀ (n : Nat) (v4 : Int32) (v5 : Int32) (ls : Array Slot), lv_has ls 7 [(0, .ref (ad 0)), (1, .int v1), (2, .int v2), (3, .int v3), (4, .int v4), (5, .int v5)] → lp_X4_least_6 mth mxs mys mpo mrn mrd mfi mar v1 v2 v3 K104 n v4 v5 → W p l e rm_X4_least s m args below meth c H [] 0 0 Q (F0 m 6 ls []) := by
  obtain ⟨hx, hb, hml, hown, hts⟩ := id C
  intro n
  induction n with
  | zero =>
    intro v4 v5 ls hl hw
    rw [lp_X4_least_6.eq_1] at hw
    exact hw.elim
  | succ n ih =>
    intro v4 v5 ls hl hw
    rw [lp_X4_least_6.eq_2] at hw
    refine lv_iload hx hb dX4_least_6 (lv_at hl 5 rfl) ?_
    refine lv_aload_n hx hb dX4_least_8 rfl (lv_at hl 0 rfl) ?_
    refine va_get (D := (dC, dI)) (ci := 4) (v := .int mrn) (C := RX4) (T := TX4) (N := 16) hx hb hts f_X4_least_1 hown hK hP 0 rfl rfl 8 (by decide) (hts _ f_X4_least_0) (fun _ h9 => h9) rfl dX4_least_9 ?_
    refine lv_icmp_ge (tgt := 104) hx hb dX4_least_12 (by decide) (fun hc => ?_) (fun hc => ?_)
    · have hw := hw.1 (hc)
      exact hk104 v4 ls (lv_sub hl [0, 4] rfl) hw
    · have hw := hw.2 hc
      refine lv_aload_n hx hb dX4_least_15 rfl (lv_at hl 0 rfl) ?_
      refine va_get (D := (dC, dI)) (ci := 4) (v := .ref (ad 8)) (C := RX4) (T := TX4) (N := 16) hx hb hts f_X4_least_1 hown hK hP 0 rfl rfl 11 (by decide) (hts _ f_X4_least_2) (fun _ h9 => h9) rfl dX4_least_16 ?_
      refine lv_iload hx hb dX4_least_19 (lv_at hl 5 rfl) ?_
      have hi := hw.1
      have hw := hw.2
      refine va_lald hx hb hK hP 8 1 rfl rfl hi dX4_least_21 ?_
      refine lv_lconst (v := 0) hx hb dX4_least_22 (by decide) ?_
      refine W.lcmp hx hb dX4_least_23 ?_
      refine jn1_use (J := fun (k1 : Int32) => ∀ ls : Array Slot, lv_has ls 7 [(0, .ref (ad 0)), (1, .int v1), (2, .int v2), (3, .int v3), (4, .int v4), (5, .int v5)] → W p l e rm_X4_least s m args below meth c H [] 0 0 Q (F0 m 71 ls [.int k1])) hw (fun k1 hw ls hl => ?_) (fun hw hj0 => ?_)
      · refine lv_istore (lv' := [(6, .int k1), (0, .ref (ad 0)), (1, .int v1), (2, .int v2), (3, .int v3), (4, .int v4), (5, .int v5)]) hx hb dX4_least_71 hl (by decide) rfl (fun ls hl => ?_)
        refine lv_iload hx hb dX4_least_73 (lv_at hl 0 rfl) ?_
        refine jn1_use (J := fun (k4 : Int32) => ∀ ls : Array Slot, lv_has ls 7 [(0, .ref (ad 0)), (1, .int v1), (2, .int v2), (3, .int v3), (5, .int v5)] → W p l e rm_X4_least s m args below meth c H [] 0 0 Q (F0 m 96 ls [.int k4])) hw (fun k4 hw ls hl => ?_) (fun hw hj0 => ?_)
        · refine lv_istore (lv' := [(4, .int k4), (0, .ref (ad 0)), (1, .int v1), (2, .int v2), (3, .int v3), (5, .int v5)]) hx hb dX4_least_96 hl (by decide) rfl (fun ls hl => ?_)
          refine lv_iinc (v := (v5 + (1 : Int32))) (lv' := [(5, .int (v5 + (1 : Int32))), (4, .int k4), (0, .ref (ad 0)), (1, .int v1), (2, .int v2), (3, .int v3)]) hx hb dX4_least_98 hl (k := 5) rfl rfl (by decide) rfl (fun ls hl => ?_)
          refine lv_goto (tgt := 6) hx hb dX4_least_101 (by decide) ?_
          exact ih k4 (v5 + (1 : Int32)) ls (lv_sub hl [2, 3, 4, 5, 1, 0] rfl) hw
        · have hj6 := hj0
          refine jn0_use (J := ∀ ls : Array Slot, lv_has ls 7 [(0, .ref (ad 0)), (1, .int v1), (2, .int v2), (3, .int v3), (4, .int v4), (5, .int v5)] → W p l e rm_X4_least s m args below meth c H [] 0 0 Q (F0 m 94 ls [])) hw (fun hw ls hl => ?_) (fun hw hj0 => ?_)
          · refine lv_iload hx hb dX4_least_94 (lv_at hl 4 rfl) ?_
            exact hj6 v4 hw ls (lv_sub hl [0, 1, 2, 3, 5] rfl)
          · have hj8 := hj0
            refine lv_if_eq (tgt := 94) hx hb dX4_least_75 (by decide) (fun hc => ?_) (fun hc => ?_)
            · have hw := hw.1 (hc)
              exact hj8 hw ls (lv_sub hl [1, 2, 3, 4, 5, 6] rfl)
            · have hw := hw.2 hc
              refine lv_aload_n hx hb dX4_least_78 rfl (lv_at hl 1 rfl) ?_
              refine lv_iload hx hb dX4_least_79 (lv_at hl 6 rfl) ?_
              refine lv_iload_n hx hb dX4_least_81 rfl (lv_at hl 2 rfl) ?_
              refine lv_iload_n hx hb dX4_least_82 rfl (lv_at hl 3 rfl) ?_
              refine vp_callSi (W.runV (As := [.int v5, .int v1, .int v2]) (rest := []) C (c_X4_isWithin l dC dI cI cJ cZ ad mre mth mxs mys mcu mnx mpo mpn mrn mrd mfi mar mfn mfa mnu mst v5 v1 v2 hw) (cwV 3 hts gX4_least_X4_isWithin rfl rfl rfl (by decide +kernel) ⟨Nat.le_of_ble_eq_true rfl, Nat.le_of_ble_eq_true rfl⟩) ⟨fb_ro, va_recv hK hP (ci := 4) (q0 := 0) rfl rfl, fun U hU hW => ⟨rfl, by rw [hU]; exact hP, va_K.moved hW.alike hK⟩⟩ rfl rfl hl.1 rfl (lv_room (Nat.le_of_ble_eq_true rfl)) dX4_least_83 ⟨Nat.zero_le _, Nat.zero_le _⟩) (fun r9 hw => ?_)
              refine lv_if_eq (tgt := 94) hx hb dX4_least_86 (by decide) (fun hc => ?_) (fun hc => ?_)
              · have hw := hw.1 (hc)
                exact hj8 hw ls (lv_sub hl [1, 2, 3, 4, 5, 6] rfl)
              · have hw := hw.2 hc
                refine lv_iload hx hb dX4_least_89 (lv_at hl 6 rfl) ?_
                refine lv_goto (tgt := 96) hx hb dX4_least_91 (by decide) ?_
                exact hj6 v5 hw ls (lv_sub hl [1, 2, 3, 4, 6] rfl)
      · have hj3 := hj0
        refine jn0_use (J := ∀ ls : Array Slot, lv_has ls 7 [(0, .ref (ad 0)), (1, .int v1), (2, .int v2), (3, .int v3), (4, .int v4), (5, .int v5)] → W p l e rm_X4_least s m args below meth c H [] 0 0 Q (F0 m 70 ls [])) hw (fun hw ls hl => ?_) (fun hw hj0 => ?_)
        · refine lv_iconst (v := 0) hx hb dX4_least_70 (by decide) ?_
          exact hj3 (0 : Int32) hw ls (lv_sub hl [0, 1, 2, 3, 4, 5] rfl)
        · have hj11 := hj0
          refine lv_if_le (tgt := 70) hx hb dX4_least_24 (by decide) (fun hc => ?_) (fun hc => ?_)
          · have hw := hw.1 ((lg_cmp_le _ _).mp hc)
            exact hj11 hw ls (lv_sub hl [0, 1, 2, 3, 4, 5] rfl)
          · have hw := hw.2 (fun h9 => hc ((lg_cmp_le _ _).mpr h9))
            refine lv_aload_n hx hb dX4_least_27 rfl (lv_at hl 0 rfl) ?_
            refine va_get (D := (dC, dI)) (ci := 4) (v := .ref (ad 5)) (C := RX4) (T := TX4) (N := 16) hx hb hts f_X4_least_1 hown hK hP 0 rfl rfl 6 (by decide) (hts _ f_X4_least_3) (fun _ h9 => h9) rfl dX4_least_28 ?_
            refine lv_aload_n hx hb dX4_least_31 rfl (lv_at hl 0 rfl) ?_
            refine va_get (D := (dC, dI)) (ci := 4) (v := .ref (ad 7)) (C := RX4) (T := TX4) (N := 16) hx hb hts f_X4_least_1 hown hK hP 0 rfl rfl 10 (by decide) (hts _ f_X4_least_4) (fun _ h9 => h9) rfl dX4_least_32 ?_
            refine lv_iload hx hb dX4_least_35 (lv_at hl 5 rfl) ?_
            have hi := hw.1
            have hw := hw.2
            refine va_iald hx hb hK hP 7 0 rfl rfl hi dX4_least_37 ?_
            have hi := hw.1
            have hw := hw.2
            refine va_iald hx hb hK hP 5 0 rfl rfl hi dX4_least_38 ?_
            refine lv_iload_n hx hb dX4_least_39 rfl (lv_at hl 3 rfl) ?_
            refine lv_icmp_eq (tgt := 70) hx hb dX4_least_40 (by decide) (fun hc => ?_) (fun hc => ?_)
            · have hw := hw.1 (hc)
              exact hj11 hw ls (lv_sub hl [0, 1, 2, 3, 4, 5] rfl)
            · have hw := hw.2 hc
              refine lv_iload hx hb dX4_least_43 (lv_at hl 4 rfl) ?_
              refine jn0_use (J := ∀ ls : Array Slot, lv_has ls 7 [(0, .ref (ad 0)), (1, .int v1), (2, .int v2), (3, .int v3), (4, .int v4), (5, .int v5)] → W p l e rm_X4_least s m args below meth c H [] 0 0 Q (F0 m 66 ls [])) hw (fun hw ls hl => ?_) (fun hw hj0 => ?_)
              · refine lv_iconst (v := 1) hx hb dX4_least_66 (by decide) ?_
                refine lv_goto (tgt := 71) hx hb dX4_least_67 (by decide) ?_
                exact hj3 (1 : Int32) hw ls (lv_sub hl [0, 1, 2, 3, 4, 5] rfl)
              · have hj13 := hj0
                refine lv_if_lt (tgt := 66) hx hb dX4_least_45 (by decide) (fun hc => ?_) (fun hc => ?_)
                · have hw := hw.1 (hc)
                  exact hj13 hw ls (lv_sub hl [0, 1, 2, 3, 4, 5] rfl)
                · have hw := hw.2 hc
                  refine lv_aload_n hx hb dX4_least_48 rfl (lv_at hl 0 rfl) ?_
                  refine va_get (D := (dC, dI)) (ci := 4) (v := .ref (ad 8)) (C := RX4) (T := TX4) (N := 16) hx hb hts f_X4_least_1 hown hK hP 0 rfl rfl 11 (by decide) (hts _ f_X4_least_2) (fun _ h9 => h9) rfl dX4_least_49 ?_
                  refine lv_iload hx hb dX4_least_52 (lv_at hl 5 rfl) ?_
                  have hi := hw.1
                  have hw := hw.2
                  refine va_lald hx hb hK hP 8 1 rfl rfl hi dX4_least_54 ?_
                  refine lv_aload_n hx hb dX4_least_55 rfl (lv_at hl 0 rfl) ?_
                  refine va_get (D := (dC, dI)) (ci := 4) (v := .ref (ad 8)) (C := RX4) (T := TX4) (N := 16) hx hb hts f_X4_least_1 hown hK hP 0 rfl rfl 11 (by decide) (hts _ f_X4_least_2) (fun _ h9 => h9) rfl dX4_least_56 ?_
                  refine lv_iload hx hb dX4_least_59 (lv_at hl 4 rfl) ?_
                  have hi := hw.1
                  have hw := hw.2
                  refine va_lald hx hb hK hP 8 1 rfl rfl hi dX4_least_61 ?_
                  refine W.lcmp hx hb dX4_least_62 ?_
                  refine lv_if_ge (tgt := 70) hx hb dX4_least_63 (by decide) (fun hc => ?_) (fun hc => ?_)
                  · have hw := hw.1 ((lg_cmp_ge _ _).mp hc)
                    exact hj11 hw ls (lv_sub hl [0, 1, 2, 3, 4, 5] rfl)
                  · have hw := hw.2 (fun h9 => hc ((lg_cmp_ge _ _).mpr h9))
                    exact hj13 hw ls (lv_sub hl [0, 1, 2, 3, 4, 5] rfl)
set_option maxRecDepth 100000 in
set_option maxHeartbeats 4000000 in
theorem c_X4_least (l : Launch) (dC : Nat → ClassId) (dI : Nat → Nat → Nat) (cI cJ cZ : ClassId) (ad : Nat → Nat) (mre : Int32) (mth : Nat → Int32) (mxs : Nat → Int32) (mys : Nat → Int32) (mcu : Int32) (mnx : Nat → Int32) (mpo : Nat → Int32) (mpn : Int32) (mrn : Int32) (mrd : Nat → Int32) (mfi : Nat → Int32) (mar : Nat → Int64) (mfn : Int32) (mfa : Nat → Int32) (mnu : Nat → Int32) (mst : Nat → Int32) (v1 : Int32) (v2 : Int32) (v3 : Int32) {post : Int32 → Prop} (hw : wp_X4_least mth mxs mys mpo mrn mrd mfi mar v1 v2 v3 post) : Met l yX4_least wsX4_least rm_X4_least (va_Pc [.ref (ad 0), .int v1, .int v2, .int v3] (fun U => va_P (dC, dI) vwCl (wMod ad cI cJ cZ mre mth mxs mys mcu mnx mpo mpn mrn mrd mfi mar mfn mfa mnu mst) U.heap ∧ va_K (dC, dI) vwCl (tyL cI cJ cZ) U)) (vp_Si post) 0 0 (fun _ => False) := by
  unfold wp_X4_least at hw
  refine Met.ofW (cc := cX4_least) (maxL := 7) (ret := (some .int)) (by decide) rfl ?_
  intro p e s m args below meth c s₁ B hml hv
  obtain ⟨hav, hP, hK⟩ := hv
  have hx := B.exec
  have hb := B.bytes
  have hr := B.returns
  have hts := atoms_spec (ws := wsX4_least) B.pre
  have hown : s.vm.findClass RX4 = some m.cls := findClass_of_methodNamed B.named
  have hlocks := B.notSynchronized
  have C : CallFix p m c cX4_least 7 s args wsX4_least RX4 := ⟨hx, hb, hml, hown, hts⟩
  obtain ⟨ls, hE, hl⟩ := mx_entry (m := m) [.ref (ad 0), .int v1, .int v2, .int v3] (n := 7) (Nat.le_of_ble_eq_true rfl)
  have hl : lv_has ls 7 [(0, .ref (ad 0)), (1, .int v1), (2, .int v2), (3, .int v3)] := hl
  rw [show entryFrame m args 7 = F0 m 0 ls [] by rw [hav]; exact hE]
  obtain ⟨Q, hQ⟩ : ∃ Q, MQ below (vp_Si post) args s 0 0 (fun _ => False) = Q := ⟨_, rfl⟩
  rw [hQ]
  obtain ⟨H, hH⟩ : ∃ H, s.heap = H := ⟨_, rfl⟩
  rw [hH]
  rw [hH] at hP
  show W p l e rm_X4_least s m args below meth c H [] 0 0 Q (F0 m 0 ls [])
  refine lv_iconst (v := -1) hx hb dX4_least_0 (by decide) ?_
  refine lv_istore (lv' := [(4, .int (-1 : Int32)), (0, .ref (ad 0)), (1, .int v1), (2, .int v2), (3, .int v3)]) hx hb dX4_least_1 hl (by decide) rfl (fun ls hl => ?_)
  refine lv_iconst (v := 0) hx hb dX4_least_3 (by decide) ?_
  refine lv_istore (lv' := [(5, .int (0 : Int32)), (4, .int (-1 : Int32)), (0, .ref (ad 0)), (1, .int v1), (2, .int v2), (3, .int v3)]) hx hb dX4_least_4 hl (by decide) rfl (fun ls hl => ?_)
  obtain ⟨n15, hw⟩ := hw
  refine l_X4_least_6 C hK hP (fun w14 ls hl hw => ?_) n15 (-1 : Int32) (0 : Int32) ls (lv_sub hl [2, 3, 4, 5, 1, 0] rfl) hw
  refine lv_iload hx hb dX4_least_104 (lv_at hl 1 rfl) ?_
  rw [← hQ]
  exact W.iret (v := w14) hx hb hr (fun t ht hW => ⟨_, rfl, hw, ht.trans hH.symm⟩) (fun q h => by cases h) dX4_least_106
-- X4_number
abbrev rm_X4_number : Room := { frames := 4, cells := 0, slots := 0, locals := 100 }
theorem f_X4_number_0 : (Cond.fieldLink RX4 118 "PlaneFacesModel" "faces" "I") ∈ wsX4_number := by decide +kernel
theorem f_X4_number_1 : ∀ w ∈ wsX40, w ∈ wsX4_number := by decide +kernel
theorem f_X4_number_2 : (Cond.fieldLink RX4 95 "PlaneFacesModel" "rounds" "I") ∈ wsX4_number := by decide +kernel
theorem f_X4_number_3 : (Cond.fieldLink RX4 39 "PlaneFacesModel" "numbers" "[I") ∈ wsX4_number := by decide +kernel
theorem f_X4_number_4 : (Cond.fieldLink RX4 29 "PlaneFacesModel" "firsts" "[I") ∈ wsX4_number := by decide +kernel
theorem f_X4_number_5 : (Cond.fieldLink RX4 32 "PlaneFacesModel" "areas" "[J") ∈ wsX4_number := by decide +kernel
theorem f_X4_number_6 : (Cond.fieldLink RX4 36 "PlaneFacesModel" "faceOf" "[I") ∈ wsX4_number := by decide +kernel
theorem f_X4_number_7 : (Cond.fieldLink RX4 13 "PlaneFacesModel" "xs" "[I") ∈ wsX4_number := by decide +kernel
theorem f_X4_number_8 : (Cond.fieldLink RX4 17 "PlaneFacesModel" "ys" "[I") ∈ wsX4_number := by decide +kernel
theorem f_X4_number_9 : (Cond.fieldLink RX4 23 "PlaneFacesModel" "pieceOf" "[I") ∈ wsX4_number := by decide +kernel
set_option maxRecDepth 100000 in
set_option maxHeartbeats 4000000 in
theorem l_X4_number_7 {p : Program} {l : Launch} {e : Env} {s : State} {m : MethodId} {args : Array Value} {below : List Frame} {meth : Method} {c : Code} {Q : State → Prop} {dC : Nat → ClassId} {dI : Nat → Nat → Nat} {cI cJ cZ : ClassId} {ad : Nat → Nat} {mre : Int32} {mth : Nat → Int32} {mxs : Nat → Int32} {mys : Nat → Int32} {mcu : Int32} {mnx : Nat → Int32} {mpo : Nat → Int32} {mpn : Int32} {mrn : Int32} {mrd : Nat → Int32} {mfi : Nat → Int32} {mar : Nat → Int64} {mfn : Int32} {mfa : Nat → Int32} {mst : Nat → Int32}  {K28 : (Nat → Int32) → Prop} (C : CallFix p m c cX4_number 4 s args wsX4_number RX4) (hK : va_K (dC, dI) vwCl (tyL cI cJ cZ) s) {A : Nat → Prop} (hA : ∀ q : Nat, s.heap.size ≤ q → A q) (hk28 : ∀ (mnu_w : Nat → Int32) (ls : Array Slot) (H : Heap) (locs : List Loc), lv_has ls 4 [(0, .ref (ad 0))] → va_P (dC, dI) vwCl (wMod ad cI cJ cZ mre mth mxs mys mcu mnx mpo mpn mrn mrd mfi mar mfn mfa mnu_w mst) H → va_D A (wMod ad cI cJ cZ mre mth mxs mys mcu mnx mpo mpn mrn mrd mfi mar mfn mfa mnu_w mst) → va_S A s.heap H locs → K28 mnu_w → W p l e rm_X4_number s m args below meth c H locs 0 0 Q (F0 m 28 ls [])) : ∀ (n : Nat) (mnu : Nat → Int32) (v1 : Int32) (ls : Array Slot) (H : Heap) (locs : List Loc), lv_has ls 4 [(0, .ref (ad 0)), (1, .int v1)] → va_P (dC, dI) vwCl (wMod ad cI cJ cZ mre mth mxs mys mcu mnx mpo mpn mrn mrd mfi mar mfn mfa mnu mst) H → va_D A (wMod ad cI cJ cZ mre mth mxs mys mcu mnx mpo mpn mrn mrd mfi mar mfn mfa mnu mst) → va_S A s.heap H locs → lp_X4_number_7 mth mxs mys mpo mrn mrd mfi mar mfn mfa K28 n mnu v1 → W p l e rm_X4_number s m args below meth c H locs 0 0 Q (F0 m 7 ls []) := by
  obtain ⟨hx, hb, hml, hown, hts⟩ := id C
  intro n
  induction n with
  | zero =>
    intro mnu v1 ls H locs hl hP hD hS hw
    rw [lp_X4_number_7.eq_1] at hw
    exact hw.elim
  | succ n ih =>
    intro mnu v1 ls H locs hl hP hD hS hw
    rw [lp_X4_number_7.eq_2] at hw
    refine lv_iload_n hx hb dX4_number_7 rfl (lv_at hl 1 rfl) ?_
    refine lv_aload_n hx hb dX4_number_8 rfl (lv_at hl 0 rfl) ?_
    refine va_get (D := (dC, dI)) (ci := 4) (v := .int mrn) (C := RX4) (T := TX4) (N := 16) hx hb hts f_X4_number_1 hown hK hP 0 rfl rfl 8 (by decide) (hts _ f_X4_number_2) (fun _ h9 => h9) rfl dX4_number_9 ?_
    refine lv_icmp_gt (tgt := 28) hx hb dX4_number_12 (by decide) (fun hc => ?_) (fun hc => ?_)
    · have hw := hw.1 (hc)
      exact hk28 mnu ls _ _ (lv_sub hl [0] rfl) hP hD hS hw
    · have hw := hw.2 hc
      refine lv_aload_n hx hb dX4_number_15 rfl (lv_at hl 0 rfl) ?_
      refine va_get (D := (dC, dI)) (ci := 4) (v := .ref (ad 10)) (C := RX4) (T := TX4) (N := 16) hx hb hts f_X4_number_1 hown hK hP 0 rfl rfl 14 (by decide) (hts _ f_X4_number_3) (fun _ h9 => h9) rfl dX4_number_16 ?_
      refine lv_iload_n hx hb dX4_number_19 rfl (lv_at hl 1 rfl) ?_
      refine lv_iconst (v := -1) hx hb dX4_number_20 (by decide) ?_
      have hi := hw.1
      have hw := hw.2 _ rfl
      refine va_iast hx hb hK hP hD hS 10 0 rfl rfl hi dX4_number_21 (fun H locs hP hD hS => ?_)
      generalize hmnu_1 : (upd mnu v1.toNatClampNeg (-1 : Int32)) = mnu_1 at hw hP hD
      have hP : va_P (dC, dI) vwCl (wMod ad cI cJ cZ mre mth mxs mys mcu mnx mpo mpn mrn mrd mfi mar mfn mfa mnu_1 mst) H := hP
      have hD : va_D A (wMod ad cI cJ cZ mre mth mxs mys mcu mnx mpo mpn mrn mrd mfi mar mfn mfa mnu_1 mst) := hD
      refine lv_iinc (v := (v1 + (1 : Int32))) (lv' := [(1, .int (v1 + (1 : Int32))), (0, .ref (ad 0))]) hx hb dX4_number_22 hl (k := 1) rfl rfl (by decide) rfl (fun ls hl => ?_)
      refine lv_goto (tgt := 7) hx hb dX4_number_25 (by decide) ?_
      exact ih mnu_1 (v1 + (1 : Int32)) ls _ _ (lv_sub hl [1, 0] rfl) hP hD hS hw
set_option maxRecDepth 100000 in
set_option maxHeartbeats 4000000 in
theorem l_X4_number_30 {p : Program} {l : Launch} {e : Env} {s : State} {m : MethodId} {args : Array Value} {below : List Frame} {meth : Method} {c : Code} {Q : State → Prop} {dC : Nat → ClassId} {dI : Nat → Nat → Nat} {cI cJ cZ : ClassId} {ad : Nat → Nat} {mre : Int32} {mth : Nat → Int32} {mxs : Nat → Int32} {mys : Nat → Int32} {mcu : Int32} {mnx : Nat → Int32} {mpo : Nat → Int32} {mpn : Int32} {mrn : Int32} {mrd : Nat → Int32} {mfi : Nat → Int32} {mar : Nat → Int64} {mst : Nat → Int32}  {K144 : Int32 → (Nat → Int32) → (Nat → Int32) → Prop} (C : CallFix p m c cX4_number 4 s args wsX4_number RX4) (hK : va_K (dC, dI) vwCl (tyL cI cJ cZ) s) {A : Nat → Prop} (hA : ∀ q : Nat, s.heap.size ≤ q → A q) (hk144 : ∀ (mfn_w : Int32) (mfa_w : Nat → Int32) (mnu_w : Nat → Int32) (ls : Array Slot) (H : Heap) (locs : List Loc), lv_has ls 4 [(0, .ref (ad 0))] → va_P (dC, dI) vwCl (wMod ad cI cJ cZ mre mth mxs mys mcu mnx mpo mpn mrn mrd mfi mar mfn_w mfa_w mnu_w mst) H → va_D A (wMod ad cI cJ cZ mre mth mxs mys mcu mnx mpo mpn mrn mrd mfi mar mfn_w mfa_w mnu_w mst) → va_S A s.heap H locs → K144 mfn_w mfa_w mnu_w → W p l e rm_X4_number s m args below meth c H locs 0 0 Q (F0 m 144 ls [])) : ∀ (n : Nat) (mfn : Int32) (mfa : Nat → Int32) (mnu : Nat → Int32) (v1 : Int32) (ls : Array Slot) (H : Heap) (locs : List Loc), lv_has ls 4 [(0, .ref (ad 0)), (1, .int v1)] → va_P (dC, dI) vwCl (wMod ad cI cJ cZ mre mth mxs mys mcu mnx mpo mpn mrn mrd mfi mar mfn mfa mnu mst) H → va_D A (wMod ad cI cJ cZ mre mth mxs mys mcu mnx mpo mpn mrn mrd mfi mar mfn mfa mnu mst) → va_S A s.heap H locs → lp_X4_number_30 mth mxs mys mpo mrn mrd mfi mar K144 n mfn mfa mnu v1 → W p l e rm_X4_number s m args below meth c H locs 0 0 Q (F0 m 30 ls []) := by
  obtain ⟨hx, hb, hml, hown, hts⟩ := id C
  intro n
  induction n with
  | zero =>
    intro mfn mfa mnu v1 ls H locs hl hP hD hS hw
    rw [lp_X4_number_30.eq_1] at hw
    exact hw.elim
  | succ n ih =>
    intro mfn mfa mnu v1 ls H locs hl hP hD hS hw
    rw [lp_X4_number_30.eq_2] at hw
    refine lv_iload_n hx hb dX4_number_30 rfl (lv_at hl 1 rfl) ?_
    refine lv_aload_n hx hb dX4_number_31 rfl (lv_at hl 0 rfl) ?_
    refine va_get (D := (dC, dI)) (ci := 4) (v := .int mrn) (C := RX4) (T := TX4) (N := 16) hx hb hts f_X4_number_1 hown hK hP 0 rfl rfl 8 (by decide) (hts _ f_X4_number_2) (fun _ h9 => h9) rfl dX4_number_32 ?_
    refine lv_icmp_ge (tgt := 144) hx hb dX4_number_35 (by decide) (fun hc => ?_) (fun hc => ?_)
    · have hw := hw.1 (hc)
      exact hk144 mfn mfa mnu ls _ _ (lv_sub hl [0] rfl) hP hD hS hw
    · have hw := hw.2 hc
      refine lv_aload_n hx hb dX4_number_38 rfl (lv_at hl 0 rfl) ?_
      refine va_get (D := (dC, dI)) (ci := 4) (v := .ref (ad 7)) (C := RX4) (T := TX4) (N := 16) hx hb hts f_X4_number_1 hown hK hP 0 rfl rfl 10 (by decide) (hts _ f_X4_number_4) (fun _ h9 => h9) rfl dX4_number_39 ?_
      refine lv_iload_n hx hb dX4_number_42 rfl (lv_at hl 1 rfl) ?_
      have hi := hw.1
      have hw := hw.2
      refine va_iald hx hb hK hP 7 0 rfl rfl hi dX4_number_43 ?_
      refine lv_topi (fun a3 ea3 => ?_)
      have hw := hw a3 ea3
      refine lv_istore_n (lv' := [(2, .int a3), (0, .ref (ad 0)), (1, .int v1)]) hx hb dX4_number_44 rfl hl (by decide) rfl (fun ls hl => ?_)
      refine lv_aload_n hx hb dX4_number_45 rfl (lv_at hl 1 rfl) ?_
      refine va_get (D := (dC, dI)) (ci := 4) (v := .ref (ad 8)) (C := RX4) (T := TX4) (N := 16) hx hb hts f_X4_number_1 hown hK hP 0 rfl rfl 11 (by decide) (hts _ f_X4_number_5) (fun _ h9 => h9) rfl dX4_number_46 ?_
      refine lv_iload_n hx hb dX4_number_49 rfl (lv_at hl 2 rfl) ?_
      have hi := hw.1
      have hw := hw.2
      refine va_lald hx hb hK hP 8 1 rfl rfl hi dX4_number_50 ?_
      refine lv_lconst (v := 0) hx hb dX4_number_51 (by decide) ?_
      refine W.lcmp hx hb dX4_number_52 ?_
      refine jn1_use (J := fun (k4 : Int32) => ∀ (ls : Array Slot) (H : Heap) (locs : List Loc), lv_has ls 4 [(0, .ref (ad 0)), (1, .int v1)] → va_P (dC, dI) vwCl (wMod ad cI cJ cZ mre mth mxs mys mcu mnx mpo mpn mrn mrd mfi mar mfn mfa mnu mst) H → va_D A (wMod ad cI cJ cZ mre mth mxs mys mcu mnx mpo mpn mrn mrd mfi mar mfn mfa mnu mst) → va_S A s.heap H locs → W p l e rm_X4_number s m args below meth c H locs 0 0 Q (F0 m 82 ls [.int k4])) hw (fun k4 hw ls H locs hl hP hD hS => ?_) (fun hw hj0 => ?_)
      · refine lv_istore_n (lv' := [(3, .int k4), (0, .ref (ad 0)), (1, .int v1)]) hx hb dX4_number_82 rfl hl (by decide) rfl (fun ls hl => ?_)
        refine lv_iload_n hx hb dX4_number_83 rfl (lv_at hl 0 rfl) ?_
        refine jn3_use (J := fun (mfn_7 : Int32) (mfa_8 : Nat → Int32) (mnu_9 : Nat → Int32) => ∀ (ls : Array Slot) (H : Heap) (locs : List Loc), lv_has ls 4 [(0, .ref (ad 0)), (1, .int v1)] → va_P (dC, dI) vwCl (wMod ad cI cJ cZ mre mth mxs mys mcu mnx mpo mpn mrn mrd mfi mar mfn_7 mfa_8 mnu_9 mst) H → va_D A (wMod ad cI cJ cZ mre mth mxs mys mcu mnx mpo mpn mrn mrd mfi mar mfn_7 mfa_8 mnu_9 mst) → va_S A s.heap H locs → W p l e rm_X4_number s m args below meth c H locs 0 0 Q (F0 m 138 ls [])) hw (fun mfn_7 mfa_8 mnu_9 hw ls H locs hl hP hD hS => ?_) (fun hw hj0 => ?_)
        · refine lv_iinc (v := (v1 + (1 : Int32))) (lv' := [(1, .int (v1 + (1 : Int32))), (0, .ref (ad 0))]) hx hb dX4_number_138 hl (k := 1) rfl rfl (by decide) rfl (fun ls hl => ?_)
          refine lv_goto (tgt := 30) hx hb dX4_number_141 (by decide) ?_
          exact ih mfn_7 mfa_8 mnu_9 (v1 + (1 : Int32)) ls _ _ (lv_sub hl [1, 0] rfl) hP hD hS hw
        · have hj11 := hj0
          refine lv_if_ge (tgt := 97) hx hb dX4_number_84 (by decide) (fun hc => ?_) (fun hc => ?_)
          · have hw := hw.1 (hc)
            refine lv_aload_n hx hb dX4_number_97 rfl (lv_at hl 1 rfl) ?_
            refine va_get (D := (dC, dI)) (ci := 4) (v := .ref (ad 10)) (C := RX4) (T := TX4) (N := 16) hx hb hts f_X4_number_1 hown hK hP 0 rfl rfl 14 (by decide) (hts _ f_X4_number_3) (fun _ h9 => h9) rfl dX4_number_98 ?_
            refine lv_iload_n hx hb dX4_number_101 rfl (lv_at hl 0 rfl) ?_
            have hi := hw.1
            have hw := hw.2
            refine va_iald hx hb hK hP 10 0 rfl rfl hi dX4_number_102 ?_
            refine jn2_use (J := fun (mfn_12 : Int32) (mnu_13 : Nat → Int32) => ∀ (ls : Array Slot) (H : Heap) (locs : List Loc), lv_has ls 4 [(0, .ref (ad 0)), (1, .int v1), (3, .int k4)] → va_P (dC, dI) vwCl (wMod ad cI cJ cZ mre mth mxs mys mcu mnx mpo mpn mrn mrd mfi mar mfn_12 mfa mnu_13 mst) H → va_D A (wMod ad cI cJ cZ mre mth mxs mys mcu mnx mpo mpn mrn mrd mfi mar mfn_12 mfa mnu_13 mst) → va_S A s.heap H locs → W p l e rm_X4_number s m args below meth c H locs 0 0 Q (F0 m 126 ls [])) hw (fun mfn_12 mnu_13 hw ls H locs hl hP hD hS => ?_) (fun hw hj0 => ?_)
            · refine lv_aload_n hx hb dX4_number_126 rfl (lv_at hl 0 rfl) ?_
              refine va_get (D := (dC, dI)) (ci := 4) (v := .ref (ad 9)) (C := RX4) (T := TX4) (N := 16) hx hb hts f_X4_number_1 hown hK hP 0 rfl rfl 13 (by decide) (hts _ f_X4_number_6) (fun _ h9 => h9) rfl dX4_number_127 ?_
              refine lv_iload_n hx hb dX4_number_130 rfl (lv_at hl 1 rfl) ?_
              refine lv_aload_n hx hb dX4_number_131 rfl (lv_at hl 0 rfl) ?_
              refine va_get (D := (dC, dI)) (ci := 4) (v := .ref (ad 10)) (C := RX4) (T := TX4) (N := 16) hx hb hts f_X4_number_1 hown hK hP 0 rfl rfl 14 (by decide) (hts _ f_X4_number_3) (fun _ h9 => h9) rfl dX4_number_132 ?_
              refine lv_iload_n hx hb dX4_number_135 rfl (lv_at hl 2 rfl) ?_
              have hi := hw.1
              have hw := hw.2
              refine va_iald hx hb hK hP 10 0 rfl rfl hi dX4_number_136 ?_
              have hi := hw.1
              have hw := hw.2 _ rfl
              refine va_iast hx hb hK hP hD hS 9 0 rfl rfl hi dX4_number_137 (fun H locs hP hD hS => ?_)
              generalize hmfa_16 : (upd mfa v1.toNatClampNeg (mnu_13 k4.toNatClampNeg)) = mfa_16 at hw hP hD
              have hP : va_P (dC, dI) vwCl (wMod ad cI cJ cZ mre mth mxs mys mcu mnx mpo mpn mrn mrd mfi mar mfn_12 mfa_16 mnu_13 mst) H := hP
              have hD : va_D A (wMod ad cI cJ cZ mre mth mxs mys mcu mnx mpo mpn mrn mrd mfi mar mfn_12 mfa_16 mnu_13 mst) := hD
              exact hj11 mfn_12 mfa_16 mnu_13 hw ls _ _ (lv_sub hl [0, 1] rfl) hP hD hS
            · have hj15 := hj0
              refine lv_if_ge (tgt := 126) hx hb dX4_number_103 (by decide) (fun hc => ?_) (fun hc => ?_)
              · have hw := hw.1 (hc)
                exact hj15 mfn mnu hw ls _ _ (lv_sub hl [1, 2, 0] rfl) hP hD hS
              · have hw := hw.2 hc
                refine lv_aload_n hx hb dX4_number_106 rfl (lv_at hl 1 rfl) ?_
                refine va_get (D := (dC, dI)) (ci := 4) (v := .ref (ad 10)) (C := RX4) (T := TX4) (N := 16) hx hb hts f_X4_number_1 hown hK hP 0 rfl rfl 14 (by decide) (hts _ f_X4_number_3) (fun _ h9 => h9) rfl dX4_number_107 ?_
                refine lv_iload_n hx hb dX4_number_110 rfl (lv_at hl 0 rfl) ?_
                refine lv_aload_n hx hb dX4_number_111 rfl (lv_at hl 1 rfl) ?_
                refine va_get (D := (dC, dI)) (ci := 4) (v := .int mfn) (C := RX4) (T := TX4) (N := 16) hx hb hts f_X4_number_1 hown hK hP 0 rfl rfl 12 (by decide) (hts _ f_X4_number_0) (fun _ h9 => h9) rfl dX4_number_112 ?_
                have hi := hw.1
                have hw := hw.2 _ rfl
                refine va_iast hx hb hK hP hD hS 10 0 rfl rfl hi dX4_number_115 (fun H locs hP hD hS => ?_)
                generalize hmnu_17 : (upd mnu k4.toNatClampNeg mfn) = mnu_17 at hw hP hD
                have hP : va_P (dC, dI) vwCl (wMod ad cI cJ cZ mre mth mxs mys mcu mnx mpo mpn mrn mrd mfi mar mfn mfa mnu_17 mst) H := hP
                have hD : va_D A (wMod ad cI cJ cZ mre mth mxs mys mcu mnx mpo mpn mrn mrd mfi mar mfn mfa mnu_17 mst) := hD
                refine lv_aload_n hx hb dX4_number_116 rfl (lv_at hl 1 rfl) ?_
                refine lv_dup hx hb dX4_number_117 rfl ?_
                refine va_get (D := (dC, dI)) (ci := 4) (v := .int mfn) (C := RX4) (T := TX4) (N := 16) hx hb hts f_X4_number_1 hown hK hP 0 rfl rfl 12 (by decide) (hts _ f_X4_number_0) (fun _ h9 => h9) rfl dX4_number_118 ?_
                refine lv_iconst (v := 1) hx hb dX4_number_121 (by decide) ?_
                refine lv_iadd hx hb dX4_number_122 ?_
                refine va_put (D := (dC, dI)) (ci := 4) (v := .int (mfn + (1 : Int32))) (ty := .int) (C := RX4) (T := TX4) (N := 16) hx hb hts f_X4_number_1 tyX4 tyX4_ok nmX4 hown hK hP hD hS 0 rfl rfl 12 (by decide) (hts _ f_X4_number_0) (fun _ h9 => h9) rfl (by decide +kernel) rfl rfl (Nat.le_of_ble_eq_true rfl) dX4_number_123 (fun H locs hP hD hS => ?_)
                have hP : va_P (dC, dI) vwCl (wMod ad cI cJ cZ mre mth mxs mys mcu mnx mpo mpn mrn mrd mfi mar (mfn + (1 : Int32)) mfa mnu_17 mst) H := hP
                have hD : va_D A (wMod ad cI cJ cZ mre mth mxs mys mcu mnx mpo mpn mrn mrd mfi mar (mfn + (1 : Int32)) mfa mnu_17 mst) := hD
                exact hj15 (mfn + (1 : Int32)) mnu_17 hw ls _ _ (lv_sub hl [1, 2, 0] rfl) hP hD hS
          · have hw := hw.2 hc
            refine lv_aload_n hx hb dX4_number_87 rfl (lv_at hl 1 rfl) ?_
            refine va_get (D := (dC, dI)) (ci := 4) (v := .ref (ad 9)) (C := RX4) (T := TX4) (N := 16) hx hb hts f_X4_number_1 hown hK hP 0 rfl rfl 13 (by decide) (hts _ f_X4_number_6) (fun _ h9 => h9) rfl dX4_number_88 ?_
            refine lv_iload_n hx hb dX4_number_91 rfl (lv_at hl 2 rfl) ?_
            refine lv_iconst (v := 0) hx hb dX4_number_92 (by decide) ?_
            have hi := hw.1
            have hw := hw.2 _ rfl
            refine va_iast hx hb hK hP hD hS 9 0 rfl rfl hi dX4_number_93 (fun H locs hP hD hS => ?_)
            generalize hmfa_18 : (upd mfa v1.toNatClampNeg (0 : Int32)) = mfa_18 at hw hP hD
            have hP : va_P (dC, dI) vwCl (wMod ad cI cJ cZ mre mth mxs mys mcu mnx mpo mpn mrn mrd mfi mar mfn mfa_18 mnu mst) H := hP
            have hD : va_D A (wMod ad cI cJ cZ mre mth mxs mys mcu mnx mpo mpn mrn mrd mfi mar mfn mfa_18 mnu mst) := hD
            refine lv_goto (tgt := 138) hx hb dX4_number_94 (by decide) ?_
            exact hj11 mfn mfa_18 mnu hw ls _ _ (lv_sub hl [1, 2] rfl) hP hD hS
      · have hj6 := hj0
        refine lv_if_le (tgt := 60) hx hb dX4_number_53 (by decide) (fun hc => ?_) (fun hc => ?_)
        · have hw := hw.1 ((lg_cmp_le _ _).mp hc)
          refine lv_aload_n hx hb dX4_number_60 rfl (lv_at hl 1 rfl) ?_
          refine lv_aload_n hx hb dX4_number_61 rfl (lv_at hl 1 rfl) ?_
          refine va_get (D := (dC, dI)) (ci := 4) (v := .ref (ad 2)) (C := RX4) (T := TX4) (N := 16) hx hb hts f_X4_number_1 hown hK hP 0 rfl rfl 2 (by decide) (hts _ f_X4_number_7) (fun _ h9 => h9) rfl dX4_number_62 ?_
          refine lv_iload_n hx hb dX4_number_65 rfl (lv_at hl 0 rfl) ?_
          have hi := hw.1
          have hw := hw.2
          refine va_iald hx hb hK hP 2 0 rfl rfl hi dX4_number_66 ?_
          refine lv_aload_n hx hb dX4_number_67 rfl (lv_at hl 1 rfl) ?_
          refine va_get (D := (dC, dI)) (ci := 4) (v := .ref (ad 3)) (C := RX4) (T := TX4) (N := 16) hx hb hts f_X4_number_1 hown hK hP 0 rfl rfl 3 (by decide) (hts _ f_X4_number_8) (fun _ h9 => h9) rfl dX4_number_68 ?_
          refine lv_iload_n hx hb dX4_number_71 rfl (lv_at hl 0 rfl) ?_
          have hi := hw.1
          have hw := hw.2
          refine va_iald hx hb hK hP 3 0 rfl rfl hi dX4_number_72 ?_
          refine lv_aload_n hx hb dX4_number_73 rfl (lv_at hl 1 rfl) ?_
          refine va_get (D := (dC, dI)) (ci := 4) (v := .ref (ad 5)) (C := RX4) (T := TX4) (N := 16) hx hb hts f_X4_number_1 hown hK hP 0 rfl rfl 6 (by decide) (hts _ f_X4_number_9) (fun _ h9 => h9) rfl dX4_number_74 ?_
          refine lv_iload_n hx hb dX4_number_77 rfl (lv_at hl 0 rfl) ?_
          have hi := hw.1
          have hw := hw.2
          refine va_iald hx hb hK hP 5 0 rfl rfl hi dX4_number_78 ?_
          refine vp_callSi (W.runV (As := [.int (mxs a3.toNatClampNeg), .int (mys a3.toNatClampNeg), .int (mpo a3.toNatClampNeg)]) (rest := []) C (c_X4_least l dC dI cI cJ cZ ad mre mth mxs mys mcu mnx mpo mpn mrn mrd mfi mar mfn mfa mnu mst (mxs a3.toNatClampNeg) (mys a3.toNatClampNeg) (mpo a3.toNatClampNeg) hw) (cwV 3 hts gX4_number_X4_least rfl rfl rfl (by decide +kernel) ⟨Nat.le_of_ble_eq_true rfl, Nat.le_of_ble_eq_true rfl⟩) ⟨fb_ro, va_recv hK hP (ci := 4) (q0 := 0) rfl rfl, fun U hU hW => ⟨rfl, by rw [hU]; exact hP, va_K.moved hW.alike hK⟩⟩ rfl rfl hl.1 rfl (lv_room (Nat.le_of_ble_eq_true rfl)) dX4_number_79 ⟨Nat.zero_le _, Nat.zero_le _⟩) (fun r19 hw => ?_)
          exact hj6 r19 hw ls _ _ (lv_sub hl [1, 2] rfl) hP hD hS
        · have hw := hw.2 (fun h9 => hc ((lg_cmp_le _ _).mpr h9))
          refine lv_iload_n hx hb dX4_number_56 rfl (lv_at hl 2 rfl) ?_
          refine lv_goto (tgt := 82) hx hb dX4_number_57 (by decide) ?_
          exact hj6 v1 hw ls _ _ (lv_sub hl [1, 2] rfl) hP hD hS
set_option maxRecDepth 100000 in
set_option maxHeartbeats 4000000 in
theorem c_X4_number (l : Launch) (dC : Nat → ClassId) (dI : Nat → Nat → Nat) (cI cJ cZ : ClassId) (ad : Nat → Nat) (sz : Nat) (mre : Int32) (mth : Nat → Int32) (mxs : Nat → Int32) (mys : Nat → Int32) (mcu : Int32) (mnx : Nat → Int32) (mpo : Nat → Int32) (mpn : Int32) (mrn : Int32) (mrd : Nat → Int32) (mfi : Nat → Int32) (mar : Nat → Int64) (mfn : Int32) (mfa : Nat → Int32) (mnu : Nat → Int32) (mst : Nat → Int32)  {post : Int32 → (Nat → Int32) → (Nat → Int32) → Prop} (hw : wp_X4_number mth mxs mys mpo mrn mrd mfi mar mfn mfa mnu post) : Met l yX4_number wsX4_number rm_X4_number (va_Pc [.ref (ad 0)] (fun U => U.heap.size = sz ∧ va_P (dC, dI) vwCl (wMod ad cI cJ cZ mre mth mxs mys mcu mnx mpo mpn mrn mrd mfi mar mfn mfa mnu mst) U.heap ∧ va_K (dC, dI) vwCl (tyL cI cJ cZ) U ∧ va_D (fun _ => True) (wMod ad cI cJ cZ mre mth mxs mys mcu mnx mpo mpn mrn mrd mfi mar mfn mfa mnu mst))) (va_Qv (fun uu : Int32 × (Nat → Int32) × (Nat → Int32) => post uu.1 uu.2.1 uu.2.2) (fun (uu : Int32 × (Nat → Int32) × (Nat → Int32)) (t : State) => va_P (dC, dI) vwCl (wMod ad cI cJ cZ mre mth mxs mys mcu mnx mpo mpn mrn mrd mfi mar uu.1 uu.2.1 uu.2.2 mst) t.heap ∧ va_D (va_A (wMod ad cI cJ cZ mre mth mxs mys mcu mnx mpo mpn mrn mrd mfi mar mfn mfa mnu mst) sz) (wMod ad cI cJ cZ mre mth mxs mys mcu mnx mpo mpn mrn mrd mfi mar uu.1 uu.2.1 uu.2.2 mst)) (va_A (wMod ad cI cJ cZ mre mth mxs mys mcu mnx mpo mpn mrn mrd mfi mar mfn mfa mnu mst) sz)) 0 0 (va_A (wMod ad cI cJ cZ mre mth mxs mys mcu mnx mpo mpn mrn mrd mfi mar mfn mfa mnu mst) sz) := by
  unfold wp_X4_number at hw
  refine Met.ofW (cc := cX4_number) (maxL := 4) (ret := none) (by decide) rfl ?_
  intro p e s m args below meth c s₁ B hml hv
  obtain ⟨hav, hsz, hP, hK, hD0⟩ := hv
  have hx := B.exec
  have hb := B.bytes
  have hr := B.returns
  have hts := atoms_spec (ws := wsX4_number) B.pre
  have hown : s.vm.findClass RX4 = some m.cls := findClass_of_methodNamed B.named
  have hlocks := B.notSynchronized
  have C : CallFix p m c cX4_number 4 s args wsX4_number RX4 := ⟨hx, hb, hml, hown, hts⟩
  obtain ⟨ls, hE, hl⟩ := mx_entry (m := m) [.ref (ad 0)] (n := 4) (Nat.le_of_ble_eq_true rfl)
  have hl : lv_has ls 4 [(0, .ref (ad 0))] := hl
  rw [show entryFrame m args 4 = F0 m 0 ls [] by rw [hav]; exact hE]
  subst hsz
  have hD := hD0.self (sz := s.heap.size)
  generalize hAe : va_A (wMod ad cI cJ cZ mre mth mxs mys mcu mnx mpo mpn mrn mrd mfi mar mfn mfa mnu mst) s.heap.size = A at hD ⊢
  have hA : ∀ q : Nat, s.heap.size ≤ q → A q := fun q h => by rw [← hAe]; exact Or.inr h
  have hS : va_S A s.heap s.heap [] := va_S.rf
  obtain ⟨Q, hQ⟩ : ∃ Q, MQ below (va_Qv (fun uu : Int32 × (Nat → Int32) × (Nat → Int32) => post uu.1 uu.2.1 uu.2.2) (fun (uu : Int32 × (Nat → Int32) × (Nat → Int32)) (t : State) => va_P (dC, dI) vwCl (wMod ad cI cJ cZ mre mth mxs mys mcu mnx mpo mpn mrn mrd mfi mar uu.1 uu.2.1 uu.2.2 mst) t.heap ∧ va_D A (wMod ad cI cJ cZ mre mth mxs mys mcu mnx mpo mpn mrn mrd mfi mar uu.1 uu.2.1 uu.2.2 mst)) A) args s 0 0 A = Q := ⟨_, rfl⟩
  rw [hQ]
  obtain ⟨H, hH⟩ : ∃ H, s.heap = H := ⟨_, rfl⟩
  have hS : va_S A s.heap H [] := by rw [← hH]; exact hS
  rw [hH] at hP
  show W p l e rm_X4_number s m args below meth c s.heap [] 0 0 Q (F0 m 0 ls [])
  suffices hg : W p l e rm_X4_number s m args below meth c H [] 0 0 Q (F0 m 0 ls []) by rw [hH]; exact hg
  clear hH
  generalize hlo : ([] : List Loc) = locs at hS ⊢
  refine lv_aload_n hx hb dX4_number_0 rfl (lv_at hl 0 rfl) ?_
  refine lv_iconst (v := 1) hx hb dX4_number_1 (by decide) ?_
  refine va_put (D := (dC, dI)) (ci := 4) (v := .int (1 : Int32)) (ty := .int) (C := RX4) (T := TX4) (N := 16) hx hb hts f_X4_number_1 tyX4 tyX4_ok nmX4 hown hK hP hD hS 0 rfl rfl 12 (by decide) (hts _ f_X4_number_0) (fun _ h9 => h9) rfl (by decide +kernel) rfl rfl (Nat.le_of_ble_eq_true rfl) dX4_number_2 (fun H locs hP hD hS => ?_)
  have hP : va_P (dC, dI) vwCl (wMod ad cI cJ cZ mre mth mxs mys mcu mnx mpo mpn mrn mrd mfi mar (1 : Int32) mfa mnu mst) H := hP
  have hD : va_D A (wMod ad cI cJ cZ mre mth mxs mys mcu mnx mpo mpn mrn mrd mfi mar (1 : Int32) mfa mnu mst) := hD
  refine lv_iconst (v := 0) hx hb dX4_number_5 (by decide) ?_
  refine lv_istore_n (lv' := [(1, .int (0 : Int32)), (0, .ref (ad 0))]) hx hb dX4_number_6 rfl hl (by decide) rfl (fun ls hl => ?_)
  obtain ⟨n24, hw⟩ := hw
  refine l_X4_number_7 C hK hA (fun mnu_2 ls H locs hl hP hD hS hw => ?_) n24 mnu (0 : Int32) ls _ _ (lv_sub hl [1, 0] rfl) hP hD hS hw
  refine lv_iconst (v := 0) hx hb dX4_number_28 (by decide) ?_
  refine lv_istore_n (lv' := [(1, .int (0 : Int32)), (0, .ref (ad 0))]) hx hb dX4_number_29 rfl hl (by decide) rfl (fun ls hl => ?_)
  obtain ⟨n23, hw⟩ := hw
  refine l_X4_number_30 C hK hA (fun mfn_20 mfa_21 mnu_22 ls H locs hl hP hD hS hw => ?_) n23 (1 : Int32) mfa mnu_2 (0 : Int32) ls _ _ (lv_sub hl [1, 0] rfl) hP hD hS hw
  rw [← hQ]
  exact W.vret hx hb hr (fun t ht hW => ⟨⟨(mfn_20, mfa_21, mnu_22), rfl, hw, by rw [ht]; exact hP, hD⟩, hS.F ht⟩) hS.2.2 dX4_number_144
-- X4_make
abbrev rm_X4_make : Room := { frames := 5, cells := 0, slots := 0, locals := 123 }
theorem f_X4_make_0 : (Cond.fieldLink RX4 76 "PlaneFacesModel" "isCurrent" "Z") ∈ wsX4_make := by decide +kernel
theorem f_X4_make_1 : ∀ w ∈ wsX40, w ∈ wsX4_make := by decide +kernel
theorem f_X4_make_2 : (Cond.fieldLink RX4 101 "PlaneFacesModel" "pieces" "I") ∈ wsX4_make := by decide +kernel
theorem f_X4_make_3 : (Cond.fieldLink RX4 95 "PlaneFacesModel" "rounds" "I") ∈ wsX4_make := by decide +kernel
theorem f_X4_make_4 : (Cond.fieldLink RX4 23 "PlaneFacesModel" "pieceOf" "[I") ∈ wsX4_make := by decide +kernel
theorem f_X4_make_5 : (Cond.fieldLink RX4 26 "PlaneFacesModel" "roundOf" "[I") ∈ wsX4_make := by decide +kernel
theorem f_X4_make_6 : (Cond.fieldLink RX4 7 "PlaneFacesModel" "isThere" "[Z") ∈ wsX4_make := by decide +kernel
theorem f_X4_make_7 : (Cond.fieldLink RX4 20 "PlaneFacesModel" "nexts" "[I") ∈ wsX4_make := by decide +kernel
set_option maxRecDepth 100000 in
set_option maxHeartbeats 4000000 in
theorem l_X4_make_25 {p : Program} {l : Launch} {e : Env} {s : State} {m : MethodId} {args : Array Value} {below : List Frame} {meth : Method} {c : Code} {Q : State → Prop} {dC : Nat → ClassId} {dI : Nat → Nat → Nat} {cI cJ cZ : ClassId} {ad : Nat → Nat} {mre : Int32} {mth : Nat → Int32} {mxs : Nat → Int32} {mys : Nat → Int32} {mcu : Int32} {mnx : Nat → Int32} {mpn : Int32} {mrn : Int32} {mfi : Nat → Int32} {mar : Nat → Int64} {mfn : Int32} {mfa : Nat → Int32} {mnu : Nat → Int32} {mst : Nat → Int32}  {K51 : (Nat → Int32) → (Nat → Int32) → Prop} (C : CallFix p m c cX4_make 2 s args wsX4_make RX4) (hK : va_K (dC, dI) vwCl (tyL cI cJ cZ) s) {A : Nat → Prop} (hA : ∀ q : Nat, s.heap.size ≤ q → A q) (hk51 : ∀ (mpo_w : Nat → Int32) (mrd_w : Nat → Int32) (ls : Array Slot) (H : Heap) (locs : List Loc), lv_has ls 2 [(0, .ref (ad 0))] → va_P (dC, dI) vwCl (wMod ad cI cJ cZ mre mth mxs mys mcu mnx mpo_w mpn mrn mrd_w mfi mar mfn mfa mnu mst) H → va_D A (wMod ad cI cJ cZ mre mth mxs mys mcu mnx mpo_w mpn mrn mrd_w mfi mar mfn mfa mnu mst) → va_S A s.heap H locs → K51 mpo_w mrd_w → W p l e rm_X4_make s m args below meth c H locs 0 0 Q (F0 m 51 ls [])) : ∀ (n : Nat) (mpo : Nat → Int32) (mrd : Nat → Int32) (v1 : Int32) (ls : Array Slot) (H : Heap) (locs : List Loc), lv_has ls 2 [(0, .ref (ad 0)), (1, .int v1)] → va_P (dC, dI) vwCl (wMod ad cI cJ cZ mre mth mxs mys mcu mnx mpo mpn mrn mrd mfi mar mfn mfa mnu mst) H → va_D A (wMod ad cI cJ cZ mre mth mxs mys mcu mnx mpo mpn mrn mrd mfi mar mfn mfa mnu mst) → va_S A s.heap H locs → lp_X4_make_25 mth mxs mys mcu mnx mpn mrn mfi mar mfn mfa mnu K51 n mpo mrd v1 → W p l e rm_X4_make s m args below meth c H locs 0 0 Q (F0 m 25 ls []) := by
  obtain ⟨hx, hb, hml, hown, hts⟩ := id C
  intro n
  induction n with
  | zero =>
    intro mpo mrd v1 ls H locs hl hP hD hS hw
    rw [lp_X4_make_25.eq_1] at hw
    exact hw.elim
  | succ n ih =>
    intro mpo mrd v1 ls H locs hl hP hD hS hw
    rw [lp_X4_make_25.eq_2] at hw
    refine lv_iload_n hx hb dX4_make_25 rfl (lv_at hl 1 rfl) ?_
    refine lv_bipush (v := 120) hx hb dX4_make_26 (by decide) ?_
    refine lv_icmp_ge (tgt := 51) hx hb dX4_make_28 (by decide) (fun hc => ?_) (fun hc => ?_)
    · have hw := hw.1 (hc)
      exact hk51 mpo mrd ls _ _ (lv_sub hl [0] rfl) hP hD hS hw
    · have hw := hw.2 hc
      refine lv_aload_n hx hb dX4_make_31 rfl (lv_at hl 0 rfl) ?_
      refine va_get (D := (dC, dI)) (ci := 4) (v := .ref (ad 5)) (C := RX4) (T := TX4) (N := 16) hx hb hts f_X4_make_1 hown hK hP 0 rfl rfl 6 (by decide) (hts _ f_X4_make_4) (fun _ h9 => h9) rfl dX4_make_32 ?_
      refine lv_iload_n hx hb dX4_make_35 rfl (lv_at hl 1 rfl) ?_
      refine lv_iconst (v := -1) hx hb dX4_make_36 (by decide) ?_
      have hi := hw.1
      have hw := hw.2 _ rfl
      refine va_iast hx hb hK hP hD hS 5 0 rfl rfl hi dX4_make_37 (fun H locs hP hD hS => ?_)
      generalize hmpo_1 : (upd mpo v1.toNatClampNeg (-1 : Int32)) = mpo_1 at hw hP hD
      have hP : va_P (dC, dI) vwCl (wMod ad cI cJ cZ mre mth mxs mys mcu mnx mpo_1 mpn mrn mrd mfi mar mfn mfa mnu mst) H := hP
      have hD : va_D A (wMod ad cI cJ cZ mre mth mxs mys mcu mnx mpo_1 mpn mrn mrd mfi mar mfn mfa mnu mst) := hD
      refine lv_aload_n hx hb dX4_make_38 rfl (lv_at hl 0 rfl) ?_
      refine va_get (D := (dC, dI)) (ci := 4) (v := .ref (ad 6)) (C := RX4) (T := TX4) (N := 16) hx hb hts f_X4_make_1 hown hK hP 0 rfl rfl 9 (by decide) (hts _ f_X4_make_5) (fun _ h9 => h9) rfl dX4_make_39 ?_
      refine lv_iload_n hx hb dX4_make_42 rfl (lv_at hl 1 rfl) ?_
      refine lv_iconst (v := -1) hx hb dX4_make_43 (by decide) ?_
      have hi := hw.1
      have hw := hw.2 _ rfl
      refine va_iast hx hb hK hP hD hS 6 0 rfl rfl hi dX4_make_44 (fun H locs hP hD hS => ?_)
      generalize hmrd_2 : (upd mrd v1.toNatClampNeg (-1 : Int32)) = mrd_2 at hw hP hD
      have hP : va_P (dC, dI) vwCl (wMod ad cI cJ cZ mre mth mxs mys mcu mnx mpo_1 mpn mrn mrd_2 mfi mar mfn mfa mnu mst) H := hP
      have hD : va_D A (wMod ad cI cJ cZ mre mth mxs mys mcu mnx mpo_1 mpn mrn mrd_2 mfi mar mfn mfa mnu mst) := hD
      refine lv_iinc (v := (v1 + (1 : Int32))) (lv' := [(1, .int (v1 + (1 : Int32))), (0, .ref (ad 0))]) hx hb dX4_make_45 hl (k := 1) rfl rfl (by decide) rfl (fun ls hl => ?_)
      refine lv_goto (tgt := 25) hx hb dX4_make_48 (by decide) ?_
      exact ih mpo_1 mrd_2 (v1 + (1 : Int32)) ls _ _ (lv_sub hl [1, 0] rfl) hP hD hS hw
set_option maxRecDepth 100000 in
set_option maxHeartbeats 4000000 in
theorem l_X4_make_53 {p : Program} {l : Launch} {e : Env} {s : State} {m : MethodId} {args : Array Value} {below : List Frame} {meth : Method} {c : Code} {Q : State → Prop} {dC : Nat → ClassId} {dI : Nat → Nat → Nat} {cI cJ cZ : ClassId} {ad : Nat → Nat} {mre : Int32} {mth : Nat → Int32} {mxs : Nat → Int32} {mys : Nat → Int32} {mcu : Int32} {mrn : Int32} {mrd : Nat → Int32} {mfi : Nat → Int32} {mar : Nat → Int64} {mfn : Int32} {mfa : Nat → Int32} {mnu : Nat → Int32} {mst : Nat → Int32}  {K115 : (Nat → Int32) → (Nat → Int32) → Int32 → Prop} (C : CallFix p m c cX4_make 2 s args wsX4_make RX4) (hK : va_K (dC, dI) vwCl (tyL cI cJ cZ) s) {A : Nat → Prop} (hA : ∀ q : Nat, s.heap.size ≤ q → A q) (hk115 : ∀ (mnx_w : Nat → Int32) (mpo_w : Nat → Int32) (mpn_w : Int32) (ls : Array Slot) (H : Heap) (locs : List Loc), lv_has ls 2 [(0, .ref (ad 0))] → va_P (dC, dI) vwCl (wMod ad cI cJ cZ mre mth mxs mys mcu mnx_w mpo_w mpn_w mrn mrd mfi mar mfn mfa mnu mst) H → va_D A (wMod ad cI cJ cZ mre mth mxs mys mcu mnx_w mpo_w mpn_w mrn mrd mfi mar mfn mfa mnu mst) → va_S A s.heap H locs → K115 mnx_w mpo_w mpn_w → W p l e rm_X4_make s m args below meth c H locs 0 0 Q (F0 m 115 ls [])) : ∀ (n : Nat) (mnx : Nat → Int32) (mpo : Nat → Int32) (mpn : Int32) (v1 : Int32) (ls : Array Slot) (H : Heap) (locs : List Loc), lv_has ls 2 [(0, .ref (ad 0)), (1, .int v1)] → va_P (dC, dI) vwCl (wMod ad cI cJ cZ mre mth mxs mys mcu mnx mpo mpn mrn mrd mfi mar mfn mfa mnu mst) H → va_D A (wMod ad cI cJ cZ mre mth mxs mys mcu mnx mpo mpn mrn mrd mfi mar mfn mfa mnu mst) → va_S A s.heap H locs → lp_X4_make_53 mth mxs mys mcu mrn mrd mfi mar mfn mfa mnu K115 n mnx mpo mpn v1 → W p l e rm_X4_make s m args below meth c H locs 0 0 Q (F0 m 53 ls []) := by
  obtain ⟨hx, hb, hml, hown, hts⟩ := id C
  intro n
  induction n with
  | zero =>
    intro mnx mpo mpn v1 ls H locs hl hP hD hS hw
    rw [lp_X4_make_53.eq_1] at hw
    exact hw.elim
  | succ n ih =>
    intro mnx mpo mpn v1 ls H locs hl hP hD hS hw
    rw [lp_X4_make_53.eq_2] at hw
    refine lv_iload_n hx hb dX4_make_53 rfl (lv_at hl 1 rfl) ?_
    refine lv_bipush (v := 120) hx hb dX4_make_54 (by decide) ?_
    refine lv_icmp_ge (tgt := 115) hx hb dX4_make_56 (by decide) (fun hc => ?_) (fun hc => ?_)
    · have hw := hw.1 (hc)
      exact hk115 mnx mpo mpn ls _ _ (lv_sub hl [0] rfl) hP hD hS hw
    · have hw := hw.2 hc
      refine lv_aload_n hx hb dX4_make_59 rfl (lv_at hl 0 rfl) ?_
      refine va_get (D := (dC, dI)) (ci := 4) (v := .ref (ad 1)) (C := RX4) (T := TX4) (N := 16) hx hb hts f_X4_make_1 hown hK hP 0 rfl rfl 1 (by decide) (hts _ f_X4_make_6) (fun _ h9 => h9) rfl dX4_make_60 ?_
      refine lv_iload_n hx hb dX4_make_63 rfl (lv_at hl 1 rfl) ?_
      refine lv_iconst (v := 2) hx hb dX4_make_64 (by decide) ?_
      refine lv_idiv hx hb dX4_make_65 (by decide) ?_
      have hi := hw.1
      have hw := hw.2
      refine va_zald hx hb hK hP 1 2 rfl rfl hi dX4_make_66 ?_
      refine jn3_use (J := fun (mnx_5 : Nat → Int32) (mpo_6 : Nat → Int32) (mpn_7 : Int32) => ∀ (ls : Array Slot) (H : Heap) (locs : List Loc), lv_has ls 2 [(0, .ref (ad 0)), (1, .int v1)] → va_P (dC, dI) vwCl (wMod ad cI cJ cZ mre mth mxs mys mcu mnx_5 mpo_6 mpn_7 mrn mrd mfi mar mfn mfa mnu mst) H → va_D A (wMod ad cI cJ cZ mre mth mxs mys mcu mnx_5 mpo_6 mpn_7 mrn mrd mfi mar mfn mfa mnu mst) → va_S A s.heap H locs → W p l e rm_X4_make s m args below meth c H locs 0 0 Q (F0 m 109 ls [])) hw (fun mnx_5 mpo_6 mpn_7 hw ls H locs hl hP hD hS => ?_) (fun hw hj0 => ?_)
      · refine lv_iinc (v := (v1 + (1 : Int32))) (lv' := [(1, .int (v1 + (1 : Int32))), (0, .ref (ad 0))]) hx hb dX4_make_109 hl (k := 1) rfl rfl (by decide) rfl (fun ls hl => ?_)
        refine lv_goto (tgt := 53) hx hb dX4_make_112 (by decide) ?_
        exact ih mnx_5 mpo_6 mpn_7 (v1 + (1 : Int32)) ls _ _ (lv_sub hl [1, 0] rfl) hP hD hS hw
      · have hj9 := hj0
        refine lv_if_eq (tgt := 109) hx hb dX4_make_67 (by decide) (fun hc => ?_) (fun hc => ?_)
        · have hw := hw.1 (hc)
          exact hj9 mnx mpo mpn hw ls _ _ (lv_sub hl [0, 1] rfl) hP hD hS
        · have hw := hw.2 hc
          refine lv_aload_n hx hb dX4_make_70 rfl (lv_at hl 0 rfl) ?_
          refine va_get (D := (dC, dI)) (ci := 4) (v := .ref (ad 4)) (C := RX4) (T := TX4) (N := 16) hx hb hts f_X4_make_1 hown hK hP 0 rfl rfl 5 (by decide) (hts _ f_X4_make_7) (fun _ h9 => h9) rfl dX4_make_71 ?_
          refine lv_iload_n hx hb dX4_make_74 rfl (lv_at hl 1 rfl) ?_
          refine lv_aload_n hx hb dX4_make_75 rfl (lv_at hl 0 rfl) ?_
          refine lv_iload_n hx hb dX4_make_76 rfl (lv_at hl 1 rfl) ?_
          refine vp_callSi (W.runV (As := [.int v1]) (rest := [.int v1, .ref (ad 4)]) C (c_X4_nextOf l dC dI cI cJ cZ ad mre mth mxs mys mcu mnx mpo mpn mrn mrd mfi mar mfn mfa mnu mst v1 hw) (cwV 1 hts gX4_make_X4_nextOf rfl rfl rfl (by decide +kernel) ⟨Nat.le_of_ble_eq_true rfl, Nat.le_of_ble_eq_true rfl⟩) ⟨fb_ro, va_recv hK hP (ci := 4) (q0 := 0) rfl rfl, fun U hU hW => ⟨rfl, by rw [hU]; exact hP, va_K.moved hW.alike hK⟩⟩ rfl rfl hl.1 rfl (lv_room (Nat.le_of_ble_eq_true rfl)) dX4_make_77 ⟨Nat.zero_le _, Nat.zero_le _⟩) (fun r10 hw => ?_)
          have hi := hw.1
          have hw := hw.2 _ rfl
          refine va_iast hx hb hK hP hD hS 4 0 rfl rfl hi dX4_make_80 (fun H locs hP hD hS => ?_)
          generalize hmnx_11 : (upd mnx v1.toNatClampNeg r10) = mnx_11 at hw hP hD
          have hP : va_P (dC, dI) vwCl (wMod ad cI cJ cZ mre mth mxs mys mcu mnx_11 mpo mpn mrn mrd mfi mar mfn mfa mnu mst) H := hP
          have hD : va_D A (wMod ad cI cJ cZ mre mth mxs mys mcu mnx_11 mpo mpn mrn mrd mfi mar mfn mfa mnu mst) := hD
          refine lv_aload_n hx hb dX4_make_81 rfl (lv_at hl 0 rfl) ?_
          refine va_get (D := (dC, dI)) (ci := 4) (v := .ref (ad 5)) (C := RX4) (T := TX4) (N := 16) hx hb hts f_X4_make_1 hown hK hP 0 rfl rfl 6 (by decide) (hts _ f_X4_make_4) (fun _ h9 => h9) rfl dX4_make_82 ?_
          refine lv_iload_n hx hb dX4_make_85 rfl (lv_at hl 1 rfl) ?_
          have hi := hw.1
          have hw := hw.2
          refine va_iald hx hb hK hP 5 0 rfl rfl hi dX4_make_86 ?_
          refine lv_if_ge (tgt := 109) hx hb dX4_make_87 (by decide) (fun hc => ?_) (fun hc => ?_)
          · have hw := hw.1 (hc)
            exact hj9 mnx_11 mpo mpn hw ls _ _ (lv_sub hl [0, 1] rfl) hP hD hS
          · have hw := hw.2 hc
            refine lv_aload_n hx hb dX4_make_90 rfl (lv_at hl 0 rfl) ?_
            refine lv_iload_n hx hb dX4_make_91 rfl (lv_at hl 1 rfl) ?_
            refine lv_aload_n hx hb dX4_make_92 rfl (lv_at hl 0 rfl) ?_
            refine va_get (D := (dC, dI)) (ci := 4) (v := .int mpn) (C := RX4) (T := TX4) (N := 16) hx hb hts f_X4_make_1 hown hK hP 0 rfl rfl 7 (by decide) (hts _ f_X4_make_2) (fun _ h9 => h9) rfl dX4_make_93 ?_
            have hPc := hP.sub (ws' := (wMod ad cI cJ cZ mre mth mxs mys mcu mnx_11 mpo mpn mrn mrd mfi mar mfn mfa mnu mst)) [0, 1, 2, 3, 4, 5, 6, 7, 8, 9, 10, 11] rfl
            have hDc := hD.sub (ws' := (wMod ad cI cJ cZ mre mth mxs mys mcu mnx_11 mpo mpn mrn mrd mfi mar mfn mfa mnu mst)) [0, 1, 2, 3, 4, 5, 6, 7, 8, 9, 10, 11] (by decide) rfl
            have hFc := va_free (wc := (wMod ad cI cJ cZ mre mth mxs mys mcu mnx_11 mpo mpn mrn mrd mfi mar mfn mfa mnu mst)) hD hS hA [0, 1, 2, 3, 4, 5, 6, 7, 8, 9, 10, 11] rfl
            refine va_callv (va_runV (As := [.int v1, .int mpn]) (rest := []) C (c_X4_spreadPiece l dC dI cI cJ cZ ad _ mre mth mxs mys mcu mnx_11 mpo mpn mrn mrd mfi mar mfn mfa mnu mst v1 mpn hw) (cwV 2 hts gX4_make_X4_spreadPiece rfl rfl rfl (by decide +kernel) ⟨Nat.le_of_ble_eq_true rfl, Nat.le_of_ble_eq_true rfl⟩) ⟨fb_rw, va_recv hK hPc (ci := 4) (q0 := 0) rfl rfl, fun U hU hW => ⟨rfl, by rw [hU], by rw [hU]; exact hPc, va_K.moved hW.alike hK, hDc.weaken (fun _ _ _ _ => trivial)⟩⟩ rfl rfl hl.1 rfl (lv_room (Nat.le_of_ble_eq_true rfl)) dX4_make_96 ⟨Nat.zero_le _, Nat.zero_le _⟩) hS (fun q _ h => hFc q h) hFc (fun uu t H1 locs ht hvm hw hB hz1 hk1 hS => ?_)
            obtain ⟨mpo_12, rfl⟩ : ∃ z, z = uu := ⟨_, rfl⟩
            obtain ⟨hP1, hD1⟩ := hB
            rw [ht] at hP1
            try dsimp only at hw hP1 hD1
            obtain ⟨hP, hD⟩ := va_join (wr := []) (w1 := (wMod ad cI cJ cZ mre mth mxs mys mcu mnx_11 mpo_12 mpn mrn mrd mfi mar mfn mfa mnu mst)) hP hD [0, 1, 2, 3, 4, 5, 6, 7, 8, 9, 10, 11] [] rfl rfl (by decide) (by decide) hk1 hFc hP1 hD1
            generalize H1 = H at hP hS ⊢
            have hP : va_P (dC, dI) vwCl (wMod ad cI cJ cZ mre mth mxs mys mcu mnx_11 mpo_12 mpn mrn mrd mfi mar mfn mfa mnu mst) H := hP
            have hD : va_D A (wMod ad cI cJ cZ mre mth mxs mys mcu mnx_11 mpo_12 mpn mrn mrd mfi mar mfn mfa mnu mst) := hD
            refine lv_aload_n hx hb dX4_make_99 rfl (lv_at hl 0 rfl) ?_
            refine lv_dup hx hb dX4_make_100 rfl ?_
            refine va_get (D := (dC, dI)) (ci := 4) (v := .int mpn) (C := RX4) (T := TX4) (N := 16) hx hb hts f_X4_make_1 hown hK hP 0 rfl rfl 7 (by decide) (hts _ f_X4_make_2) (fun _ h9 => h9) rfl dX4_make_101 ?_
            refine lv_iconst (v := 1) hx hb dX4_make_104 (by decide) ?_
            refine lv_iadd hx hb dX4_make_105 ?_
            refine va_put (D := (dC, dI)) (ci := 4) (v := .int (mpn + (1 : Int32))) (ty := .int) (C := RX4) (T := TX4) (N := 16) hx hb hts f_X4_make_1 tyX4 tyX4_ok nmX4 hown hK hP hD hS 0 rfl rfl 7 (by decide) (hts _ f_X4_make_2) (fun _ h9 => h9) rfl (by decide +kernel) rfl rfl (Nat.le_of_ble_eq_true rfl) dX4_make_106 (fun H locs hP hD hS => ?_)
            have hP : va_P (dC, dI) vwCl (wMod ad cI cJ cZ mre mth mxs mys mcu mnx_11 mpo_12 (mpn + (1 : Int32)) mrn mrd mfi mar mfn mfa mnu mst) H := hP
            have hD : va_D A (wMod ad cI cJ cZ mre mth mxs mys mcu mnx_11 mpo_12 (mpn + (1 : Int32)) mrn mrd mfi mar mfn mfa mnu mst) := hD
            exact hj9 mnx_11 mpo_12 (mpn + (1 : Int32)) hw ls _ _ (lv_sub hl [0, 1] rfl) hP hD hS
set_option maxRecDepth 100000 in
set_option maxHeartbeats 4000000 in
theorem l_X4_make_117 {p : Program} {l : Launch} {e : Env} {s : State} {m : MethodId} {args : Array Value} {below : List Frame} {meth : Method} {c : Code} {Q : State → Prop} {dC : Nat → ClassId} {dI : Nat → Nat → Nat} {cI cJ cZ : ClassId} {ad : Nat → Nat} {mre : Int32} {mth : Nat → Int32} {mxs : Nat → Int32} {mys : Nat → Int32} {mcu : Int32} {mnx : Nat → Int32} {mpo : Nat → Int32} {mpn : Int32} {mfn : Int32} {mfa : Nat → Int32} {mnu : Nat → Int32} {mst : Nat → Int32}  {K154 : Int32 → (Nat → Int32) → (Nat → Int32) → (Nat → Int64) → Prop} (C : CallFix p m c cX4_make 2 s args wsX4_make RX4) (hK : va_K (dC, dI) vwCl (tyL cI cJ cZ) s) {A : Nat → Prop} (hA : ∀ q : Nat, s.heap.size ≤ q → A q) (hk154 : ∀ (mrn_w : Int32) (mrd_w : Nat → Int32) (mfi_w : Nat → Int32) (mar_w : Nat → Int64) (ls : Array Slot) (H : Heap) (locs : List Loc), lv_has ls 2 [(0, .ref (ad 0))] → va_P (dC, dI) vwCl (wMod ad cI cJ cZ mre mth mxs mys mcu mnx mpo mpn mrn_w mrd_w mfi_w mar_w mfn mfa mnu mst) H → va_D A (wMod ad cI cJ cZ mre mth mxs mys mcu mnx mpo mpn mrn_w mrd_w mfi_w mar_w mfn mfa mnu mst) → va_S A s.heap H locs → K154 mrn_w mrd_w mfi_w mar_w → W p l e rm_X4_make s m args below meth c H locs 0 0 Q (F0 m 154 ls [])) : ∀ (n : Nat) (mrn : Int32) (mrd : Nat → Int32) (mfi : Nat → Int32) (mar : Nat → Int64) (v1 : Int32) (ls : Array Slot) (H : Heap) (locs : List Loc), lv_has ls 2 [(0, .ref (ad 0)), (1, .int v1)] → va_P (dC, dI) vwCl (wMod ad cI cJ cZ mre mth mxs mys mcu mnx mpo mpn mrn mrd mfi mar mfn mfa mnu mst) H → va_D A (wMod ad cI cJ cZ mre mth mxs mys mcu mnx mpo mpn mrn mrd mfi mar mfn mfa mnu mst) → va_S A s.heap H locs → lp_X4_make_117 mth mxs mys mcu mnx mpo mpn mfn mfa mnu K154 n mrn mrd mfi mar v1 → W p l e rm_X4_make s m args below meth c H locs 0 0 Q (F0 m 117 ls []) := by
  obtain ⟨hx, hb, hml, hown, hts⟩ := id C
  intro n
  induction n with
  | zero =>
    intro mrn mrd mfi mar v1 ls H locs hl hP hD hS hw
    rw [lp_X4_make_117.eq_1] at hw
    exact hw.elim
  | succ n ih =>
    intro mrn mrd mfi mar v1 ls H locs hl hP hD hS hw
    rw [lp_X4_make_117.eq_2] at hw
    refine lv_iload_n hx hb dX4_make_117 rfl (lv_at hl 1 rfl) ?_
    refine lv_bipush (v := 120) hx hb dX4_make_118 (by decide) ?_
    refine lv_icmp_ge (tgt := 154) hx hb dX4_make_120 (by decide) (fun hc => ?_) (fun hc => ?_)
    · have hw := hw.1 (hc)
      exact hk154 mrn mrd mfi mar ls _ _ (lv_sub hl [0] rfl) hP hD hS hw
    · have hw := hw.2 hc
      refine lv_aload_n hx hb dX4_make_123 rfl (lv_at hl 0 rfl) ?_
      refine va_get (D := (dC, dI)) (ci := 4) (v := .ref (ad 1)) (C := RX4) (T := TX4) (N := 16) hx hb hts f_X4_make_1 hown hK hP 0 rfl rfl 1 (by decide) (hts _ f_X4_make_6) (fun _ h9 => h9) rfl dX4_make_124 ?_
      refine lv_iload_n hx hb dX4_make_127 rfl (lv_at hl 1 rfl) ?_
      refine lv_iconst (v := 2) hx hb dX4_make_128 (by decide) ?_
      refine lv_idiv hx hb dX4_make_129 (by decide) ?_
      have hi := hw.1
      have hw := hw.2
      refine va_zald hx hb hK hP 1 2 rfl rfl hi dX4_make_130 ?_
      refine jn4_use (J := fun (mrn_16 : Int32) (mrd_17 : Nat → Int32) (mfi_18 : Nat → Int32) (mar_19 : Nat → Int64) => ∀ (ls : Array Slot) (H : Heap) (locs : List Loc), lv_has ls 2 [(0, .ref (ad 0)), (1, .int v1)] → va_P (dC, dI) vwCl (wMod ad cI cJ cZ mre mth mxs mys mcu mnx mpo mpn mrn_16 mrd_17 mfi_18 mar_19 mfn mfa mnu mst) H → va_D A (wMod ad cI cJ cZ mre mth mxs mys mcu mnx mpo mpn mrn_16 mrd_17 mfi_18 mar_19 mfn mfa mnu mst) → va_S A s.heap H locs → W p l e rm_X4_make s m args below meth c H locs 0 0 Q (F0 m 148 ls [])) hw (fun mrn_16 mrd_17 mfi_18 mar_19 hw ls H locs hl hP hD hS => ?_) (fun hw hj0 => ?_)
      · refine lv_iinc (v := (v1 + (1 : Int32))) (lv' := [(1, .int (v1 + (1 : Int32))), (0, .ref (ad 0))]) hx hb dX4_make_148 hl (k := 1) rfl rfl (by decide) rfl (fun ls hl => ?_)
        refine lv_goto (tgt := 117) hx hb dX4_make_151 (by decide) ?_
        exact ih mrn_16 mrd_17 mfi_18 mar_19 (v1 + (1 : Int32)) ls _ _ (lv_sub hl [1, 0] rfl) hP hD hS hw
      · have hj21 := hj0
        refine lv_if_eq (tgt := 148) hx hb dX4_make_131 (by decide) (fun hc => ?_) (fun hc => ?_)
        · have hw := hw.1 (hc)
          exact hj21 mrn mrd mfi mar hw ls _ _ (lv_sub hl [0, 1] rfl) hP hD hS
        · have hw := hw.2 hc
          refine lv_aload_n hx hb dX4_make_134 rfl (lv_at hl 0 rfl) ?_
          refine va_get (D := (dC, dI)) (ci := 4) (v := .ref (ad 6)) (C := RX4) (T := TX4) (N := 16) hx hb hts f_X4_make_1 hown hK hP 0 rfl rfl 9 (by decide) (hts _ f_X4_make_5) (fun _ h9 => h9) rfl dX4_make_135 ?_
          refine lv_iload_n hx hb dX4_make_138 rfl (lv_at hl 1 rfl) ?_
          have hi := hw.1
          have hw := hw.2
          refine va_iald hx hb hK hP 6 0 rfl rfl hi dX4_make_139 ?_
          refine lv_if_ge (tgt := 148) hx hb dX4_make_140 (by decide) (fun hc => ?_) (fun hc => ?_)
          · have hw := hw.1 (hc)
            exact hj21 mrn mrd mfi mar hw ls _ _ (lv_sub hl [0, 1] rfl) hP hD hS
          · have hw := hw.2 hc
            refine lv_aload_n hx hb dX4_make_143 rfl (lv_at hl 0 rfl) ?_
            refine lv_iload_n hx hb dX4_make_144 rfl (lv_at hl 1 rfl) ?_
            have hPc := hP.sub (ws' := (wMod ad cI cJ cZ mre mth mxs mys mcu mnx mpo mpn mrn mrd mfi mar mfn mfa mnu mst)) [0, 1, 2, 3, 4, 5, 6, 7, 8, 9, 10, 11] rfl
            have hDc := hD.sub (ws' := (wMod ad cI cJ cZ mre mth mxs mys mcu mnx mpo mpn mrn mrd mfi mar mfn mfa mnu mst)) [0, 1, 2, 3, 4, 5, 6, 7, 8, 9, 10, 11] (by decide) rfl
            have hFc := va_free (wc := (wMod ad cI cJ cZ mre mth mxs mys mcu mnx mpo mpn mrn mrd mfi mar mfn mfa mnu mst)) hD hS hA [0, 1, 2, 3, 4, 5, 6, 7, 8, 9, 10, 11] rfl
            refine va_callv (va_runV (As := [.int v1]) (rest := []) C (c_X4_makeRound l dC dI cI cJ cZ ad _ mre mth mxs mys mcu mnx mpo mpn mrn mrd mfi mar mfn mfa mnu mst v1 hw) (cwV 1 hts gX4_make_X4_makeRound rfl rfl rfl (by decide +kernel) ⟨Nat.le_of_ble_eq_true rfl, Nat.le_of_ble_eq_true rfl⟩) ⟨fb_rw, va_recv hK hPc (ci := 4) (q0 := 0) rfl rfl, fun U hU hW => ⟨rfl, by rw [hU], by rw [hU]; exact hPc, va_K.moved hW.alike hK, hDc.weaken (fun _ _ _ _ => trivial)⟩⟩ rfl rfl hl.1 rfl (lv_room (Nat.le_of_ble_eq_true rfl)) dX4_make_145 ⟨Nat.zero_le _, Nat.zero_le _⟩) hS (fun q _ h => hFc q h) hFc (fun uu t H1 locs ht hvm hw hB hz1 hk1 hS => ?_)
            obtain ⟨mrn_22, mrd_23, mfi_24, mar_25⟩ := uu
            obtain ⟨hP1, hD1⟩ := hB
            rw [ht] at hP1
            try dsimp only at hw hP1 hD1
            obtain ⟨hP, hD⟩ := va_join (wr := []) (w1 := (wMod ad cI cJ cZ mre mth mxs mys mcu mnx mpo mpn mrn_22 mrd_23 mfi_24 mar_25 mfn mfa mnu mst)) hP hD [0, 1, 2, 3, 4, 5, 6, 7, 8, 9, 10, 11] [] rfl rfl (by decide) (by decide) hk1 hFc hP1 hD1
            generalize H1 = H at hP hS ⊢
            have hP : va_P (dC, dI) vwCl (wMod ad cI cJ cZ mre mth mxs mys mcu mnx mpo mpn mrn_22 mrd_23 mfi_24 mar_25 mfn mfa mnu mst) H := hP
            have hD : va_D A (wMod ad cI cJ cZ mre mth mxs mys mcu mnx mpo mpn mrn_22 mrd_23 mfi_24 mar_25 mfn mfa mnu mst) := hD
            exact hj21 mrn_22 mrd_23 mfi_24 mar_25 hw ls _ _ (lv_sub hl [0, 1] rfl) hP hD hS
set_option maxRecDepth 100000 in
set_option maxHeartbeats 4000000 in
theorem c_X4_make (l : Launch) (dC : Nat → ClassId) (dI : Nat → Nat → Nat) (cI cJ cZ : ClassId) (ad : Nat → Nat) (sz : Nat) (mre : Int32) (mth : Nat → Int32) (mxs : Nat → Int32) (mys : Nat → Int32) (mcu : Int32) (mnx : Nat → Int32) (mpo : Nat → Int32) (mpn : Int32) (mrn : Int32) (mrd : Nat → Int32) (mfi : Nat → Int32) (mar : Nat → Int64) (mfn : Int32) (mfa : Nat → Int32) (mnu : Nat → Int32) (mst : Nat → Int32)  {post : Int32 → (Nat → Int32) → (Nat → Int32) → Int32 → Int32 → (Nat → Int32) → (Nat → Int32) → (Nat → Int64) → Int32 → (Nat → Int32) → (Nat → Int32) → Prop} (hw : wp_X4_make mth mxs mys mcu mnx mpo mpn mrn mrd mfi mar mfn mfa mnu post) : Met l yX4_make wsX4_make rm_X4_make (va_Pc [.ref (ad 0)] (fun U => U.heap.size = sz ∧ va_P (dC, dI) vwCl (wMod ad cI cJ cZ mre mth mxs mys mcu mnx mpo mpn mrn mrd mfi mar mfn mfa mnu mst) U.heap ∧ va_K (dC, dI) vwCl (tyL cI cJ cZ) U ∧ va_D (fun _ => True) (wMod ad cI cJ cZ mre mth mxs mys mcu mnx mpo mpn mrn mrd mfi mar mfn mfa mnu mst))) (va_Qv (fun uu : Int32 × (Nat → Int32) × (Nat → Int32) × Int32 × Int32 × (Nat → Int32) × (Nat → Int32) × (Nat → Int64) × Int32 × (Nat → Int32) × (Nat → Int32) => post uu.1 uu.2.1 uu.2.2.1 uu.2.2.2.1 uu.2.2.2.2.1 uu.2.2.2.2.2.1 uu.2.2.2.2.2.2.1 uu.2.2.2.2.2.2.2.1 uu.2.2.2.2.2.2.2.2.1 uu.2.2.2.2.2.2.2.2.2.1 uu.2.2.2.2.2.2.2.2.2.2) (fun (uu : Int32 × (Nat → Int32) × (Nat → Int32) × Int32 × Int32 × (Nat → Int32) × (Nat → Int32) × (Nat → Int64) × Int32 × (Nat → Int32) × (Nat → Int32)) (t : State) => va_P (dC, dI) vwCl (wMod ad cI cJ cZ mre mth mxs mys uu.1 uu.2.1 uu.2.2.1 uu.2.2.2.1 uu.2.2.2.2.1 uu.2.2.2.2.2.1 uu.2.2.2.2.2.2.1 uu.2.2.2.2.2.2.2.1 uu.2.2.2.2.2.2.2.2.1 uu.2.2.2.2.2.2.2.2.2.1 uu.2.2.2.2.2.2.2.2.2.2 mst) t.heap ∧ va_D (va_A (wMod ad cI cJ cZ mre mth mxs mys mcu mnx mpo mpn mrn mrd mfi mar mfn mfa mnu mst) sz) (wMod ad cI cJ cZ mre mth mxs mys uu.1 uu.2.1 uu.2.2.1 uu.2.2.2.1 uu.2.2.2.2.1 uu.2.2.2.2.2.1 uu.2.2.2.2.2.2.1 uu.2.2.2.2.2.2.2.1 uu.2.2.2.2.2.2.2.2.1 uu.2.2.2.2.2.2.2.2.2.1 uu.2.2.2.2.2.2.2.2.2.2 mst)) (va_A (wMod ad cI cJ cZ mre mth mxs mys mcu mnx mpo mpn mrn mrd mfi mar mfn mfa mnu mst) sz)) 0 0 (va_A (wMod ad cI cJ cZ mre mth mxs mys mcu mnx mpo mpn mrn mrd mfi mar mfn mfa mnu mst) sz) := by
  unfold wp_X4_make at hw
  refine Met.ofW (cc := cX4_make) (maxL := 2) (ret := none) (by decide) rfl ?_
  intro p e s m args below meth c s₁ B hml hv
  obtain ⟨hav, hsz, hP, hK, hD0⟩ := hv
  have hx := B.exec
  have hb := B.bytes
  have hr := B.returns
  have hts := atoms_spec (ws := wsX4_make) B.pre
  have hown : s.vm.findClass RX4 = some m.cls := findClass_of_methodNamed B.named
  have hlocks := B.notSynchronized
  have C : CallFix p m c cX4_make 2 s args wsX4_make RX4 := ⟨hx, hb, hml, hown, hts⟩
  obtain ⟨ls, hE, hl⟩ := mx_entry (m := m) [.ref (ad 0)] (n := 2) (Nat.le_of_ble_eq_true rfl)
  have hl : lv_has ls 2 [(0, .ref (ad 0))] := hl
  rw [show entryFrame m args 2 = F0 m 0 ls [] by rw [hav]; exact hE]
  subst hsz
  have hD := hD0.self (sz := s.heap.size)
  generalize hAe : va_A (wMod ad cI cJ cZ mre mth mxs mys mcu mnx mpo mpn mrn mrd mfi mar mfn mfa mnu mst) s.heap.size = A at hD ⊢
  have hA : ∀ q : Nat, s.heap.size ≤ q → A q := fun q h => by rw [← hAe]; exact Or.inr h
  have hS : va_S A s.heap s.heap [] := va_S.rf
  obtain ⟨Q, hQ⟩ : ∃ Q, MQ below (va_Qv (fun uu : Int32 × (Nat → Int32) × (Nat → Int32) × Int32 × Int32 × (Nat → Int32) × (Nat → Int32) × (Nat → Int64) × Int32 × (Nat → Int32) × (Nat → Int32) => post uu.1 uu.2.1 uu.2.2.1 uu.2.2.2.1 uu.2.2.2.2.1 uu.2.2.2.2.2.1 uu.2.2.2.2.2.2.1 uu.2.2.2.2.2.2.2.1 uu.2.2.2.2.2.2.2.2.1 uu.2.2.2.2.2.2.2.2.2.1 uu.2.2.2.2.2.2.2.2.2.2) (fun (uu : Int32 × (Nat → Int32) × (Nat → Int32) × Int32 × Int32 × (Nat → Int32) × (Nat → Int32) × (Nat → Int64) × Int32 × (Nat → Int32) × (Nat → Int32)) (t : State) => va_P (dC, dI) vwCl (wMod ad cI cJ cZ mre mth mxs mys uu.1 uu.2.1 uu.2.2.1 uu.2.2.2.1 uu.2.2.2.2.1 uu.2.2.2.2.2.1 uu.2.2.2.2.2.2.1 uu.2.2.2.2.2.2.2.1 uu.2.2.2.2.2.2.2.2.1 uu.2.2.2.2.2.2.2.2.2.1 uu.2.2.2.2.2.2.2.2.2.2 mst) t.heap ∧ va_D A (wMod ad cI cJ cZ mre mth mxs mys uu.1 uu.2.1 uu.2.2.1 uu.2.2.2.1 uu.2.2.2.2.1 uu.2.2.2.2.2.1 uu.2.2.2.2.2.2.1 uu.2.2.2.2.2.2.2.1 uu.2.2.2.2.2.2.2.2.1 uu.2.2.2.2.2.2.2.2.2.1 uu.2.2.2.2.2.2.2.2.2.2 mst)) A) args s 0 0 A = Q := ⟨_, rfl⟩
  rw [hQ]
  obtain ⟨H, hH⟩ : ∃ H, s.heap = H := ⟨_, rfl⟩
  have hS : va_S A s.heap H [] := by rw [← hH]; exact hS
  rw [hH] at hP
  show W p l e rm_X4_make s m args below meth c s.heap [] 0 0 Q (F0 m 0 ls [])
  suffices hg : W p l e rm_X4_make s m args below meth c H [] 0 0 Q (F0 m 0 ls []) by rw [hH]; exact hg
  clear hH
  generalize hlo : ([] : List Loc) = locs at hS ⊢
  refine lv_aload_n hx hb dX4_make_0 rfl (lv_at hl 0 rfl) ?_
  refine va_get (D := (dC, dI)) (ci := 4) (v := .int mcu) (C := RX4) (T := TX4) (N := 16) hx hb hts f_X4_make_1 hown hK hP 0 rfl rfl 4 (by decide) (hts _ f_X4_make_0) (fun _ h9 => h9) rfl dX4_make_1 ?_
  refine lv_if_eq (tgt := 8) hx hb dX4_make_4 (by decide) (fun hc => ?_) (fun hc => ?_)
  · have hw := hw.1 (hc)
    refine lv_aload_n hx hb dX4_make_8 rfl (lv_at hl 0 rfl) ?_
    refine lv_iconst (v := 1) hx hb dX4_make_9 (by decide) ?_
    refine va_put (D := (dC, dI)) (ci := 4) (v := .int (1 : Int32)) (ty := .boolean) (C := RX4) (T := TX4) (N := 16) hx hb hts f_X4_make_1 tyX4 tyX4_ok nmX4 hown hK hP hD hS 0 rfl rfl 4 (by decide) (hts _ f_X4_make_0) (fun _ h9 => h9) rfl (by decide +kernel) (by decide) rfl (Nat.le_of_ble_eq_true rfl) dX4_make_10 (fun H locs hP hD hS => ?_)
    have hP : va_P (dC, dI) vwCl (wMod ad cI cJ cZ mre mth mxs mys (1 : Int32) mnx mpo mpn mrn mrd mfi mar mfn mfa mnu mst) H := hP
    have hD : va_D A (wMod ad cI cJ cZ mre mth mxs mys (1 : Int32) mnx mpo mpn mrn mrd mfi mar mfn mfa mnu mst) := hD
    refine lv_aload_n hx hb dX4_make_13 rfl (lv_at hl 0 rfl) ?_
    refine lv_iconst (v := 0) hx hb dX4_make_14 (by decide) ?_
    refine va_put (D := (dC, dI)) (ci := 4) (v := .int (0 : Int32)) (ty := .int) (C := RX4) (T := TX4) (N := 16) hx hb hts f_X4_make_1 tyX4 tyX4_ok nmX4 hown hK hP hD hS 0 rfl rfl 7 (by decide) (hts _ f_X4_make_2) (fun _ h9 => h9) rfl (by decide +kernel) rfl rfl (Nat.le_of_ble_eq_true rfl) dX4_make_15 (fun H locs hP hD hS => ?_)
    have hP : va_P (dC, dI) vwCl (wMod ad cI cJ cZ mre mth mxs mys (1 : Int32) mnx mpo (0 : Int32) mrn mrd mfi mar mfn mfa mnu mst) H := hP
    have hD : va_D A (wMod ad cI cJ cZ mre mth mxs mys (1 : Int32) mnx mpo (0 : Int32) mrn mrd mfi mar mfn mfa mnu mst) := hD
    refine lv_aload_n hx hb dX4_make_18 rfl (lv_at hl 0 rfl) ?_
    refine lv_iconst (v := 0) hx hb dX4_make_19 (by decide) ?_
    refine va_put (D := (dC, dI)) (ci := 4) (v := .int (0 : Int32)) (ty := .int) (C := RX4) (T := TX4) (N := 16) hx hb hts f_X4_make_1 tyX4 tyX4_ok nmX4 hown hK hP hD hS 0 rfl rfl 8 (by decide) (hts _ f_X4_make_3) (fun _ h9 => h9) rfl (by decide +kernel) rfl rfl (Nat.le_of_ble_eq_true rfl) dX4_make_20 (fun H locs hP hD hS => ?_)
    have hP : va_P (dC, dI) vwCl (wMod ad cI cJ cZ mre mth mxs mys (1 : Int32) mnx mpo (0 : Int32) (0 : Int32) mrd mfi mar mfn mfa mnu mst) H := hP
    have hD : va_D A (wMod ad cI cJ cZ mre mth mxs mys (1 : Int32) mnx mpo (0 : Int32) (0 : Int32) mrd mfi mar mfn mfa mnu mst) := hD
    refine lv_iconst (v := 0) hx hb dX4_make_23 (by decide) ?_
    refine lv_istore_n (lv' := [(1, .int (0 : Int32)), (0, .ref (ad 0))]) hx hb dX4_make_24 rfl hl (by decide) rfl (fun ls hl => ?_)
    obtain ⟨n35, hw⟩ := hw
    refine l_X4_make_25 C hK hA (fun mpo_3 mrd_4 ls H locs hl hP hD hS hw => ?_) n35 mpo mrd (0 : Int32) ls _ _ (lv_sub hl [1, 0] rfl) hP hD hS hw
    refine lv_iconst (v := 0) hx hb dX4_make_51 (by decide) ?_
    refine lv_istore_n (lv' := [(1, .int (0 : Int32)), (0, .ref (ad 0))]) hx hb dX4_make_52 rfl hl (by decide) rfl (fun ls hl => ?_)
    obtain ⟨n34, hw⟩ := hw
    refine l_X4_make_53 C hK hA (fun mnx_13 mpo_14 mpn_15 ls H locs hl hP hD hS hw => ?_) n34 mnx mpo_3 (0 : Int32) (0 : Int32) ls _ _ (lv_sub hl [1, 0] rfl) hP hD hS hw
    refine lv_iconst (v := 0) hx hb dX4_make_115 (by decide) ?_
    refine lv_istore_n (lv' := [(1, .int (0 : Int32)), (0, .ref (ad 0))]) hx hb dX4_make_116 rfl hl (by decide) rfl (fun ls hl => ?_)
    obtain ⟨n33, hw⟩ := hw
    refine l_X4_make_117 C hK hA (fun mrn_26 mrd_27 mfi_28 mar_29 ls H locs hl hP hD hS hw => ?_) n33 (0 : Int32) mrd_4 mfi mar (0 : Int32) ls _ _ (lv_sub hl [1, 0] rfl) hP hD hS hw
    refine lv_aload_n hx hb dX4_make_154 rfl (lv_at hl 0 rfl) ?_
    have hPc := hP.sub (ws' := (wMod ad cI cJ cZ mre mth mxs mys (1 : Int32) mnx_13 mpo_14 mpn_15 mrn_26 mrd_27 mfi_28 mar_29 mfn mfa mnu mst)) [0, 1, 2, 3, 4, 5, 6, 7, 8, 9, 10, 11] rfl
    have hDc := hD.sub (ws' := (wMod ad cI cJ cZ mre mth mxs mys (1 : Int32) mnx_13 mpo_14 mpn_15 mrn_26 mrd_27 mfi_28 mar_29 mfn mfa mnu mst)) [0, 1, 2, 3, 4, 5, 6, 7, 8, 9, 10, 11] (by decide) rfl
    have hFc := va_free (wc := (wMod ad cI cJ cZ mre mth mxs mys (1 : Int32) mnx_13 mpo_14 mpn_15 mrn_26 mrd_27 mfi_28 mar_29 mfn mfa mnu mst)) hD hS hA [0, 1, 2, 3, 4, 5, 6, 7, 8, 9, 10, 11] rfl
    refine va_callv (va_runV (As := []) (rest := []) C (c_X4_number l dC dI cI cJ cZ ad _ mre mth mxs mys (1 : Int32) mnx_13 mpo_14 mpn_15 mrn_26 mrd_27 mfi_28 mar_29 mfn mfa mnu mst  hw) (cwV 0 hts gX4_make_X4_number rfl rfl rfl (by decide +kernel) ⟨Nat.le_of_ble_eq_true rfl, Nat.le_of_ble_eq_true rfl⟩) ⟨fb_rw, va_recv hK hPc (ci := 4) (q0 := 0) rfl rfl, fun U hU hW => ⟨rfl, by rw [hU], by rw [hU]; exact hPc, va_K.moved hW.alike hK, hDc.weaken (fun _ _ _ _ => trivial)⟩⟩ rfl rfl hl.1 rfl (lv_room (Nat.le_of_ble_eq_true rfl)) dX4_make_155 ⟨Nat.zero_le _, Nat.zero_le _⟩) hS (fun q _ h => hFc q h) hFc (fun uu t H1 locs ht hvm hw hB hz1 hk1 hS => ?_)
    obtain ⟨mfn_30, mfa_31, mnu_32⟩ := uu
    obtain ⟨hP1, hD1⟩ := hB
    rw [ht] at hP1
    try dsimp only at hw hP1 hD1
    obtain ⟨hP, hD⟩ := va_join (wr := []) (w1 := (wMod ad cI cJ cZ mre mth mxs mys (1 : Int32) mnx_13 mpo_14 mpn_15 mrn_26 mrd_27 mfi_28 mar_29 mfn_30 mfa_31 mnu_32 mst)) hP hD [0, 1, 2, 3, 4, 5, 6, 7, 8, 9, 10, 11] [] rfl rfl (by decide) (by decide) hk1 hFc hP1 hD1
    generalize H1 = H at hP hS ⊢
    have hP : va_P (dC, dI) vwCl (wMod ad cI cJ cZ mre mth mxs mys (1 : Int32) mnx_13 mpo_14 mpn_15 mrn_26 mrd_27 mfi_28 mar_29 mfn_30 mfa_31 mnu_32 mst) H := hP
    have hD : va_D A (wMod ad cI cJ cZ mre mth mxs mys (1 : Int32) mnx_13 mpo_14 mpn_15 mrn_26 mrd_27 mfi_28 mar_29 mfn_30 mfa_31 mnu_32 mst) := hD
    rw [← hQ]
    exact W.vret hx hb hr (fun t ht hW => ⟨⟨((1 : Int32), mnx_13, mpo_14, mpn_15, mrn_26, mrd_27, mfi_28, mar_29, mfn_30, mfa_31, mnu_32), rfl, hw, by rw [ht]; exact hP, hD⟩, hS.F ht⟩) hS.2.2 dX4_make_158
  · have hw := hw.2 hc
    rw [← hQ]
    exact W.vret hx hb hr (fun t ht hW => ⟨⟨(mcu, mnx, mpo, mpn, mrn, mrd, mfi, mar, mfn, mfa, mnu), rfl, hw, by rw [ht]; exact hP, hD⟩, hS.F ht⟩) hS.2.2 dX4_make_7
