-- X4_thrown
abbrev rm_X4_thrown : Room := { frames := 0, cells := 0, slots := 0, locals := 0 }
theorem f_X4_thrown_0 : (Cond.fieldLink RX4 45 "PlaneFacesModel" "refusal" "I") ∈ wsX4_thrown := by decide +kernel
theorem f_X4_thrown_1 : ∀ w ∈ wsX40, w ∈ wsX4_thrown := by decide +kernel
set_option maxRecDepth 100000 in
set_option maxHeartbeats 4000000 in
theorem c_X4_thrown (l : Launch) (dC : Nat → ClassId) (dI : Nat → Nat → Nat) (cI cJ cZ : ClassId) (ad : Nat → Nat) (mre : Int32) (mth : Nat → Int32) (mxs : Nat → Int32) (mys : Nat → Int32) (mcu : Int32) (mnx : Nat → Int32) (mpo : Nat → Int32) (mpn : Int32) (mrn : Int32) (mrd : Nat → Int32) (mfi : Nat → Int32) (mar : Nat → Int64) (mfn : Int32) (mfa : Nat → Int32) (mnu : Nat → Int32) (mst : Nat → Int32)  {post : Int32 → Prop} (hw : wp_X4_thrown mre post) : Met l yX4_thrown wsX4_thrown rm_X4_thrown (va_Pc [.ref (ad 0)] (fun U => va_P (dC, dI) vwCl (wMod ad cI cJ cZ mre mth mxs mys mcu mnx mpo mpn mrn mrd mfi mar mfn mfa mnu mst) U.heap ∧ va_K (dC, dI) vwCl (tyL cI cJ cZ) U)) (vp_Si post) 0 0 (fun _ => False) := by
  unfold wp_X4_thrown at hw
  refine Met.ofW (cc := cX4_thrown) (maxL := 1) (ret := (some .int)) (by decide) rfl ?_
  intro p e s m args below meth c s₁ B hml hv
  obtain ⟨hav, hP, hK⟩ := hv
  have hx := B.exec
  have hb := B.bytes
  have hr := B.returns
  have hts := atoms_spec (ws := wsX4_thrown) B.pre
  have hown : s.vm.findClass RX4 = some m.cls := findClass_of_methodNamed B.named
  have hlocks := B.notSynchronized
  have C : CallFix p m c cX4_thrown 1 s args wsX4_thrown RX4 := ⟨hx, hb, hml, hown, hts⟩
  obtain ⟨ls, hE, hl⟩ := mx_entry (m := m) [.ref (ad 0)] (n := 1) (Nat.le_of_ble_eq_true rfl)
  have hl : lv_has ls 1 [(0, .ref (ad 0))] := hl
  rw [show entryFrame m args 1 = F0 m 0 ls [] by rw [hav]; exact hE]
  obtain ⟨Q, hQ⟩ : ∃ Q, MQ below (vp_Si post) args s 0 0 (fun _ => False) = Q := ⟨_, rfl⟩
  rw [hQ]
  obtain ⟨H, hH⟩ : ∃ H, s.heap = H := ⟨_, rfl⟩
  rw [hH]
  rw [hH] at hP
  show W p l e rm_X4_thrown s m args below meth c H [] 0 0 Q (F0 m 0 ls [])
  refine lv_aload_n hx hb dX4_thrown_0 rfl (lv_at hl 0 rfl) ?_
  refine va_get (D := (dC, dI)) (ci := 4) (v := .int mre) (C := RX4) (T := TX4) (N := 16) hx hb hts f_X4_thrown_1 hown hK hP 0 rfl rfl 0 (by decide) (hts _ f_X4_thrown_0) (fun _ h9 => h9) rfl dX4_thrown_1 ?_
  rw [← hQ]
  exact W.iret (v := mre) hx hb hr (fun t ht hW => ⟨_, rfl, hw, ht.trans hH.symm⟩) (fun q h => by cases h) dX4_thrown_4
-- X4_refused
abbrev rm_X4_refused : Room := { frames := 0, cells := 0, slots := 0, locals := 0 }
theorem f_X4_refused_0 : (Cond.fieldLink RX4 45 "PlaneFacesModel" "refusal" "I") ∈ wsX4_refused := by decide +kernel
theorem f_X4_refused_1 : ∀ w ∈ wsX40, w ∈ wsX4_refused := by decide +kernel
set_option maxRecDepth 100000 in
set_option maxHeartbeats 4000000 in
theorem c_X4_refused (l : Launch) (dC : Nat → ClassId) (dI : Nat → Nat → Nat) (cI cJ cZ : ClassId) (ad : Nat → Nat) (sz : Nat) (mre : Int32) (mth : Nat → Int32) (mxs : Nat → Int32) (mys : Nat → Int32) (mcu : Int32) (mnx : Nat → Int32) (mpo : Nat → Int32) (mpn : Int32) (mrn : Int32) (mrd : Nat → Int32) (mfi : Nat → Int32) (mar : Nat → Int64) (mfn : Int32) (mfa : Nat → Int32) (mnu : Nat → Int32) (mst : Nat → Int32) (v1 : Int32) {post : Int32 → Int32 → Prop} (hw : wp_X4_refused mre v1 post) : Met l yX4_refused wsX4_refused rm_X4_refused (va_Pc [.ref (ad 0), .int v1] (fun U => U.heap.size = sz ∧ va_P (dC, dI) vwCl (wMod ad cI cJ cZ mre mth mxs mys mcu mnx mpo mpn mrn mrd mfi mar mfn mfa mnu mst) U.heap ∧ va_K (dC, dI) vwCl (tyL cI cJ cZ) U ∧ va_D (fun _ => True) (wMod ad cI cJ cZ mre mth mxs mys mcu mnx mpo mpn mrn mrd mfi mar mfn mfa mnu mst))) (va_Qi (fun (r : Int32) (uu : Int32) => post r uu) (fun (uu : Int32) (t : State) => va_P (dC, dI) vwCl (wMod ad cI cJ cZ uu mth mxs mys mcu mnx mpo mpn mrn mrd mfi mar mfn mfa mnu mst) t.heap ∧ va_D (va_A (wMod ad cI cJ cZ mre mth mxs mys mcu mnx mpo mpn mrn mrd mfi mar mfn mfa mnu mst) sz) (wMod ad cI cJ cZ uu mth mxs mys mcu mnx mpo mpn mrn mrd mfi mar mfn mfa mnu mst)) (va_A (wMod ad cI cJ cZ mre mth mxs mys mcu mnx mpo mpn mrn mrd mfi mar mfn mfa mnu mst) sz)) 0 0 (va_A (wMod ad cI cJ cZ mre mth mxs mys mcu mnx mpo mpn mrn mrd mfi mar mfn mfa mnu mst) sz) := by
  unfold wp_X4_refused at hw
  refine Met.ofW (cc := cX4_refused) (maxL := 2) (ret := (some .boolean)) (by decide) rfl ?_
  intro p e s m args below meth c s₁ B hml hv
  obtain ⟨hav, hsz, hP, hK, hD0⟩ := hv
  have hx := B.exec
  have hb := B.bytes
  have hr := B.returns
  have hts := atoms_spec (ws := wsX4_refused) B.pre
  have hown : s.vm.findClass RX4 = some m.cls := findClass_of_methodNamed B.named
  have hlocks := B.notSynchronized
  have C : CallFix p m c cX4_refused 2 s args wsX4_refused RX4 := ⟨hx, hb, hml, hown, hts⟩
  obtain ⟨ls, hE, hl⟩ := mx_entry (m := m) [.ref (ad 0), .int v1] (n := 2) (Nat.le_of_ble_eq_true rfl)
  have hl : lv_has ls 2 [(0, .ref (ad 0)), (1, .int v1)] := hl
  rw [show entryFrame m args 2 = F0 m 0 ls [] by rw [hav]; exact hE]
  subst hsz
  have hD := hD0.self (sz := s.heap.size)
  generalize hAe : va_A (wMod ad cI cJ cZ mre mth mxs mys mcu mnx mpo mpn mrn mrd mfi mar mfn mfa mnu mst) s.heap.size = A at hD ⊢
  have hA : ∀ q : Nat, s.heap.size ≤ q → A q := fun q h => by rw [← hAe]; exact Or.inr h
  have hS : va_S A s.heap s.heap [] := va_S.rf
  obtain ⟨Q, hQ⟩ : ∃ Q, MQ below (va_Qi (fun (r : Int32) (uu : Int32) => post r uu) (fun (uu : Int32) (t : State) => va_P (dC, dI) vwCl (wMod ad cI cJ cZ uu mth mxs mys mcu mnx mpo mpn mrn mrd mfi mar mfn mfa mnu mst) t.heap ∧ va_D A (wMod ad cI cJ cZ uu mth mxs mys mcu mnx mpo mpn mrn mrd mfi mar mfn mfa mnu mst)) A) args s 0 0 A = Q := ⟨_, rfl⟩
  rw [hQ]
  obtain ⟨H, hH⟩ : ∃ H, s.heap = H := ⟨_, rfl⟩
  have hS : va_S A s.heap H [] := by rw [← hH]; exact hS
  rw [hH] at hP
  show W p l e rm_X4_refused s m args below meth c s.heap [] 0 0 Q (F0 m 0 ls [])
  suffices hg : W p l e rm_X4_refused s m args below meth c H [] 0 0 Q (F0 m 0 ls []) by rw [hH]; exact hg
  clear hH
  generalize hlo : ([] : List Loc) = locs at hS ⊢
  refine lv_aload_n hx hb dX4_refused_0 rfl (lv_at hl 0 rfl) ?_
  refine lv_iload_n hx hb dX4_refused_1 rfl (lv_at hl 1 rfl) ?_
  refine va_put (D := (dC, dI)) (ci := 4) (v := .int v1) (ty := .int) (C := RX4) (T := TX4) (N := 16) hx hb hts f_X4_refused_1 tyX4 tyX4_ok nmX4 hown hK hP hD hS 0 rfl rfl 0 (by decide) (hts _ f_X4_refused_0) (fun _ h9 => h9) rfl (by decide +kernel) rfl rfl (Nat.le_of_ble_eq_true rfl) dX4_refused_2 (fun H locs hP hD hS => ?_)
  have hP : va_P (dC, dI) vwCl (wMod ad cI cJ cZ v1 mth mxs mys mcu mnx mpo mpn mrn mrd mfi mar mfn mfa mnu mst) H := hP
  have hD : va_D A (wMod ad cI cJ cZ v1 mth mxs mys mcu mnx mpo mpn mrn mrd mfi mar mfn mfa mnu mst) := hD
  refine lv_iload_n hx hb dX4_refused_5 rfl (lv_at hl 1 rfl) ?_
  refine jn1_use (J := fun (k1 : Int32) => ∀ (ls : Array Slot) (H : Heap) (locs : List Loc), lv_has ls 2 [(0, .ref (ad 0))] → va_P (dC, dI) vwCl (wMod ad cI cJ cZ v1 mth mxs mys mcu mnx mpo mpn mrn mrd mfi mar mfn mfa mnu mst) H → va_D A (wMod ad cI cJ cZ v1 mth mxs mys mcu mnx mpo mpn mrn mrd mfi mar mfn mfa mnu mst) → va_S A s.heap H locs → W p l e rm_X4_refused s m args below meth c H locs 0 0 Q (F0 m 14 ls [.int k1])) hw (fun k1 hw ls H locs hl hP hD hS => ?_) (fun hw hj0 => ?_)
  · rw [← hQ]
    exact W.zret (v := k1) (ty := .boolean) hx hb hr (bz_n hw.1) (fun t ht hW => ⟨⟨_, v1, rfl, hw.2, by rw [ht]; exact hP, hD⟩, hS.F ht⟩) hS.2.2 dX4_refused_14
  · have hj3 := hj0
    refine lv_if_le (tgt := 13) hx hb dX4_refused_6 (by decide) (fun hc => ?_) (fun hc => ?_)
    · have hw := hw.1 (hc)
      refine lv_iconst (v := 0) hx hb dX4_refused_13 (by decide) ?_
      exact hj3 (0 : Int32) hw ls _ _ (lv_sub hl [0] rfl) hP hD hS
    · have hw := hw.2 hc
      refine lv_iconst (v := 1) hx hb dX4_refused_9 (by decide) ?_
      refine lv_goto (tgt := 14) hx hb dX4_refused_10 (by decide) ?_
      exact hj3 (1 : Int32) hw ls _ _ (lv_sub hl [0] rfl) hP hD hS
-- X4_isIn
abbrev rm_X4_isIn : Room := { frames := 0, cells := 0, slots := 0, locals := 0 }
set_option maxRecDepth 100000 in
set_option maxHeartbeats 4000000 in
theorem c_X4_isIn (l : Launch)  (v0 : Int32) {post : Int32 → Prop} (hw : wp_X4_isIn v0 post) : Met l yX4_isIn wsX4_isIn rm_X4_isIn (va_Pc [.int v0] (fun _ => True)) (vp_Si post) 0 0 (fun _ => False) := by
  unfold wp_X4_isIn at hw
  refine Met.ofW (cc := cX4_isIn) (maxL := 1) (ret := (some .boolean)) (by decide) rfl ?_
  intro p e s m args below meth c s₁ B hml hv
  obtain ⟨hav, -⟩ := hv
  have hx := B.exec
  have hb := B.bytes
  have hr := B.returns
  have hts := atoms_spec (ws := wsX4_isIn) B.pre
  have hown : s.vm.findClass RX4 = some m.cls := findClass_of_methodNamed B.named
  have hlocks := B.notSynchronized
  have C : CallFix p m c cX4_isIn 1 s args wsX4_isIn RX4 := ⟨hx, hb, hml, hown, hts⟩
  obtain ⟨ls, hE, hl⟩ := mx_entry (m := m) [.int v0] (n := 1) (Nat.le_of_ble_eq_true rfl)
  have hl : lv_has ls 1 [(0, .int v0)] := hl
  rw [show entryFrame m args 1 = F0 m 0 ls [] by rw [hav]; exact hE]
  obtain ⟨Q, hQ⟩ : ∃ Q, MQ below (vp_Si post) args s 0 0 (fun _ => False) = Q := ⟨_, rfl⟩
  rw [hQ]
  obtain ⟨H, hH⟩ : ∃ H, s.heap = H := ⟨_, rfl⟩
  rw [hH]
  show W p l e rm_X4_isIn s m args below meth c H [] 0 0 Q (F0 m 0 ls [])
  refine lv_iload_n hx hb dX4_isIn_0 rfl (lv_at hl 0 rfl) ?_
  refine lv_sipush (v := -16000) hx hb dX4_isIn_1 (by decide) ?_
  refine jn1_use (J := fun (k1 : Int32) => ∀ ls : Array Slot, lv_has ls 1 [] → W p l e rm_X4_isIn s m args below meth c H [] 0 0 Q (F0 m 19 ls [.int k1])) hw (fun k1 hw ls hl => ?_) (fun hw hj0 => ?_)
  · rw [← hQ]
    exact W.zret (v := k1) (ty := .boolean) hx hb hr (bz_n hw.1) (fun t ht hW => ⟨_, rfl, hw.2, ht.trans hH.symm⟩) (fun q h => by cases h) dX4_isIn_19
  · have hj3 := hj0
    refine jn0_use (J := ∀ ls : Array Slot, lv_has ls 1 [] → W p l e rm_X4_isIn s m args below meth c H [] 0 0 Q (F0 m 18 ls [])) hw (fun hw ls hl => ?_) (fun hw hj0 => ?_)
    · refine lv_iconst (v := 0) hx hb dX4_isIn_18 (by decide) ?_
      exact hj3 (0 : Int32) hw ls (lv_sub hl [] rfl)
    · have hj5 := hj0
      refine lv_icmp_lt (tgt := 18) hx hb dX4_isIn_4 (by decide) (fun hc => ?_) (fun hc => ?_)
      · have hw := hw.1 (hc)
        exact hj5 hw ls (lv_sub hl [] rfl)
      · have hw := hw.2 hc
        refine lv_iload_n hx hb dX4_isIn_7 rfl (lv_at hl 0 rfl) ?_
        refine lv_sipush (v := 16000) hx hb dX4_isIn_8 (by decide) ?_
        refine lv_icmp_gt (tgt := 18) hx hb dX4_isIn_11 (by decide) (fun hc => ?_) (fun hc => ?_)
        · have hw := hw.1 (hc)
          exact hj5 hw ls (lv_sub hl [] rfl)
        · have hw := hw.2 hc
          refine lv_iconst (v := 1) hx hb dX4_isIn_14 (by decide) ?_
          refine lv_goto (tgt := 19) hx hb dX4_isIn_15 (by decide) ?_
          exact hj3 (1 : Int32) hw ls (lv_sub hl [] rfl)
-- X4_sign
abbrev rm_X4_sign : Room := { frames := 0, cells := 0, slots := 0, locals := 0 }
set_option maxRecDepth 100000 in
set_option maxHeartbeats 4000000 in
theorem c_X4_sign (l : Launch)  (v0 : Int64) {post : Int32 → Prop} (hw : wp_X4_sign v0 post) : Met l yX4_sign wsX4_sign rm_X4_sign (va_Pc [.long v0] (fun _ => True)) (vp_Si post) 0 0 (fun _ => False) := by
  unfold wp_X4_sign at hw
  refine Met.ofW (cc := cX4_sign) (maxL := 2) (ret := (some .int)) (by decide) rfl ?_
  intro p e s m args below meth c s₁ B hml hv
  obtain ⟨hav, -⟩ := hv
  have hx := B.exec
  have hb := B.bytes
  have hr := B.returns
  have hts := atoms_spec (ws := wsX4_sign) B.pre
  have hown : s.vm.findClass RX4 = some m.cls := findClass_of_methodNamed B.named
  have hlocks := B.notSynchronized
  have C : CallFix p m c cX4_sign 2 s args wsX4_sign RX4 := ⟨hx, hb, hml, hown, hts⟩
  obtain ⟨ls, hE, hl⟩ := mx_entry (m := m) [.long v0] (n := 2) (Nat.le_of_ble_eq_true rfl)
  have hl : lv_has ls 2 [(0, .long v0)] := hl
  rw [show entryFrame m args 2 = F0 m 0 ls [] by rw [hav]; exact hE]
  obtain ⟨Q, hQ⟩ : ∃ Q, MQ below (vp_Si post) args s 0 0 (fun _ => False) = Q := ⟨_, rfl⟩
  rw [hQ]
  obtain ⟨H, hH⟩ : ∃ H, s.heap = H := ⟨_, rfl⟩
  rw [hH]
  show W p l e rm_X4_sign s m args below meth c H [] 0 0 Q (F0 m 0 ls [])
  refine lv_lload_n hx hb dX4_sign_0 rfl (lv_at hl 0 rfl) ?_
  refine lv_lconst (v := 0) hx hb dX4_sign_1 (by decide) ?_
  refine W.lcmp hx hb dX4_sign_2 ?_
  refine jn1_use (J := fun (k1 : Int32) => ∀ ls : Array Slot, lv_has ls 2 [] → W p l e rm_X4_sign s m args below meth c H [] 0 0 Q (F0 m 21 ls [.int k1])) hw (fun k1 hw ls hl => ?_) (fun hw hj0 => ?_)
  · rw [← hQ]
    exact W.iret (v := k1) hx hb hr (fun t ht hW => ⟨_, rfl, hw, ht.trans hH.symm⟩) (fun q h => by cases h) dX4_sign_21
  · have hj3 := hj0
    refine lv_if_le (tgt := 10) hx hb dX4_sign_3 (by decide) (fun hc => ?_) (fun hc => ?_)
    · have hw := hw.1 ((lg_cmp_le _ _).mp hc)
      refine lv_lload_n hx hb dX4_sign_10 rfl (lv_at hl 0 rfl) ?_
      refine lv_lconst (v := 0) hx hb dX4_sign_11 (by decide) ?_
      refine W.lcmp hx hb dX4_sign_12 ?_
      refine lv_if_ge (tgt := 20) hx hb dX4_sign_13 (by decide) (fun hc => ?_) (fun hc => ?_)
      · have hw := hw.1 ((lg_cmp_ge _ _).mp hc)
        refine lv_iconst (v := 0) hx hb dX4_sign_20 (by decide) ?_
        exact hj3 (0 : Int32) hw ls (lv_sub hl [] rfl)
      · have hw := hw.2 (fun h9 => hc ((lg_cmp_ge _ _).mpr h9))
        refine lv_iconst (v := -1) hx hb dX4_sign_16 (by decide) ?_
        refine lv_goto (tgt := 21) hx hb dX4_sign_17 (by decide) ?_
        exact hj3 (-1 : Int32) hw ls (lv_sub hl [] rfl)
    · have hw := hw.2 (fun h9 => hc ((lg_cmp_le _ _).mpr h9))
      refine lv_iconst (v := 1) hx hb dX4_sign_6 (by decide) ?_
      refine lv_goto (tgt := 21) hx hb dX4_sign_7 (by decide) ?_
      exact hj3 (1 : Int32) hw ls (lv_sub hl [] rfl)
-- X4_side
abbrev rm_X4_side : Room := { frames := 1, cells := 0, slots := 0, locals := 21 }
set_option maxRecDepth 100000 in
set_option maxHeartbeats 4000000 in
theorem c_X4_side (l : Launch)  (v0 : Int32) (v1 : Int32) (v2 : Int32) (v3 : Int32) (v4 : Int32) (v5 : Int32) {post : Int32 → Prop} (hw : wp_X4_side v0 v1 v2 v3 v4 v5 post) : Met l yX4_side wsX4_side rm_X4_side (va_Pc [.int v0, .int v1, .int v2, .int v3, .int v4, .int v5] (fun _ => True)) (vp_Si post) 0 0 (fun _ => False) := by
  unfold wp_X4_side at hw
  refine Met.ofW (cc := cX4_side) (maxL := 6) (ret := (some .int)) (by decide) rfl ?_
  intro p e s m args below meth c s₁ B hml hv
  obtain ⟨hav, -⟩ := hv
  have hx := B.exec
  have hb := B.bytes
  have hr := B.returns
  have hts := atoms_spec (ws := wsX4_side) B.pre
  have hown : s.vm.findClass RX4 = some m.cls := findClass_of_methodNamed B.named
  have hlocks := B.notSynchronized
  have C : CallFix p m c cX4_side 6 s args wsX4_side RX4 := ⟨hx, hb, hml, hown, hts⟩
  obtain ⟨ls, hE, hl⟩ := mx_entry (m := m) [.int v0, .int v1, .int v2, .int v3, .int v4, .int v5] (n := 6) (Nat.le_of_ble_eq_true rfl)
  have hl : lv_has ls 6 [(0, .int v0), (1, .int v1), (2, .int v2), (3, .int v3), (4, .int v4), (5, .int v5)] := hl
  rw [show entryFrame m args 6 = F0 m 0 ls [] by rw [hav]; exact hE]
  obtain ⟨Q, hQ⟩ : ∃ Q, MQ below (vp_Si post) args s 0 0 (fun _ => False) = Q := ⟨_, rfl⟩
  rw [hQ]
  obtain ⟨H, hH⟩ : ∃ H, s.heap = H := ⟨_, rfl⟩
  rw [hH]
  show W p l e rm_X4_side s m args below meth c H [] 0 0 Q (F0 m 0 ls [])
  refine lv_iload_n hx hb dX4_side_0 rfl (lv_at hl 2 rfl) ?_
  refine lv_iload_n hx hb dX4_side_1 rfl (lv_at hl 0 rfl) ?_
  refine lv_isub hx hb dX4_side_2 ?_
  refine lv_i2l hx hb dX4_side_3 rfl ?_
  refine lv_iload hx hb dX4_side_4 (lv_at hl 5 rfl) ?_
  refine lv_iload_n hx hb dX4_side_6 rfl (lv_at hl 1 rfl) ?_
  refine lv_isub hx hb dX4_side_7 ?_
  refine lv_i2l hx hb dX4_side_8 rfl ?_
  refine lv_lmul hx hb dX4_side_9 ?_
  refine lv_iload_n hx hb dX4_side_10 rfl (lv_at hl 3 rfl) ?_
  refine lv_iload_n hx hb dX4_side_11 rfl (lv_at hl 1 rfl) ?_
  refine lv_isub hx hb dX4_side_12 ?_
  refine lv_i2l hx hb dX4_side_13 rfl ?_
  refine lv_iload hx hb dX4_side_14 (lv_at hl 4 rfl) ?_
  refine lv_iload_n hx hb dX4_side_16 rfl (lv_at hl 0 rfl) ?_
  refine lv_isub hx hb dX4_side_17 ?_
  refine lv_i2l hx hb dX4_side_18 rfl ?_
  refine lv_lmul hx hb dX4_side_19 ?_
  refine lv_lsub hx hb dX4_side_20 ?_
  refine vp_callSi (W.runS (As := [.long (((v2 - v0).toInt64 * (v5 - v1).toInt64) - ((v3 - v1).toInt64 * (v4 - v0).toInt64))]) (rest := []) C (c_X4_sign l (((v2 - v0).toInt64 * (v5 - v1).toInt64) - ((v3 - v1).toInt64 * (v4 - v0).toInt64)) hw) (va_cwS 1 hts gX4_side_X4_sign rfl rfl rfl (by decide +kernel) ⟨Nat.le_of_ble_eq_true rfl, Nat.le_of_ble_eq_true rfl⟩) ⟨fb_st, fun U hU hW => ⟨rfl, trivial⟩⟩ rfl rfl hl.1 rfl (lv_room (Nat.le_of_ble_eq_true rfl)) dX4_side_21 ⟨Nat.zero_le _, Nat.zero_le _⟩) (fun r1 hw => ?_)
  rw [← hQ]
  exact W.iret (v := r1) hx hb hr (fun t ht hW => ⟨_, rfl, hw, ht.trans hH.symm⟩) (fun q h => by cases h) dX4_side_24
-- X4_isOn
abbrev rm_X4_isOn : Room := { frames := 2, cells := 0, slots := 0, locals := 46 }
set_option maxRecDepth 100000 in
set_option maxHeartbeats 4000000 in
theorem c_X4_isOn (l : Launch)  (v0 : Int32) (v1 : Int32) (v2 : Int32) (v3 : Int32) (v4 : Int32) (v5 : Int32) {post : Int32 → Prop} (hw : wp_X4_isOn v0 v1 v2 v3 v4 v5 post) : Met l yX4_isOn wsX4_isOn rm_X4_isOn (va_Pc [.int v0, .int v1, .int v2, .int v3, .int v4, .int v5] (fun _ => True)) (vp_Si post) 0 0 (fun _ => False) := by
  unfold wp_X4_isOn at hw
  refine Met.ofW (cc := cX4_isOn) (maxL := 9) (ret := (some .boolean)) (by decide) rfl ?_
  intro p e s m args below meth c s₁ B hml hv
  obtain ⟨hav, -⟩ := hv
  have hx := B.exec
  have hb := B.bytes
  have hr := B.returns
  have hts := atoms_spec (ws := wsX4_isOn) B.pre
  have hown : s.vm.findClass RX4 = some m.cls := findClass_of_methodNamed B.named
  have hlocks := B.notSynchronized
  have C : CallFix p m c cX4_isOn 9 s args wsX4_isOn RX4 := ⟨hx, hb, hml, hown, hts⟩
  obtain ⟨ls, hE, hl⟩ := mx_entry (m := m) [.int v0, .int v1, .int v2, .int v3, .int v4, .int v5] (n := 9) (Nat.le_of_ble_eq_true rfl)
  have hl : lv_has ls 9 [(0, .int v0), (1, .int v1), (2, .int v2), (3, .int v3), (4, .int v4), (5, .int v5)] := hl
  rw [show entryFrame m args 9 = F0 m 0 ls [] by rw [hav]; exact hE]
  obtain ⟨Q, hQ⟩ : ∃ Q, MQ below (vp_Si post) args s 0 0 (fun _ => False) = Q := ⟨_, rfl⟩
  rw [hQ]
  obtain ⟨H, hH⟩ : ∃ H, s.heap = H := ⟨_, rfl⟩
  rw [hH]
  show W p l e rm_X4_isOn s m args below meth c H [] 0 0 Q (F0 m 0 ls [])
  refine lv_iload_n hx hb dX4_isOn_0 rfl (lv_at hl 0 rfl) ?_
  refine lv_iload_n hx hb dX4_isOn_1 rfl (lv_at hl 1 rfl) ?_
  refine lv_iload_n hx hb dX4_isOn_2 rfl (lv_at hl 2 rfl) ?_
  refine lv_iload_n hx hb dX4_isOn_3 rfl (lv_at hl 3 rfl) ?_
  refine lv_iload hx hb dX4_isOn_4 (lv_at hl 4 rfl) ?_
  refine lv_iload hx hb dX4_isOn_6 (lv_at hl 5 rfl) ?_
  refine vp_callSi (W.runS (As := [.int v0, .int v1, .int v2, .int v3, .int v4, .int v5]) (rest := []) C (c_X4_side l v0 v1 v2 v3 v4 v5 hw) (va_cwS 6 hts gX4_isOn_X4_side rfl rfl rfl (by decide +kernel) ⟨Nat.le_of_ble_eq_true rfl, Nat.le_of_ble_eq_true rfl⟩) ⟨fb_st, fun U hU hW => ⟨rfl, trivial⟩⟩ rfl rfl hl.1 rfl (lv_room (Nat.le_of_ble_eq_true rfl)) dX4_isOn_8 ⟨Nat.zero_le _, Nat.zero_le _⟩) (fun r1 hw => ?_)
  refine jn1_use (J := fun (k2 : Int32) => ∀ ls : Array Slot, lv_has ls 9 [(0, .int v0), (1, .int v1), (2, .int v2), (3, .int v3), (4, .int v4), (5, .int v5)] → W p l e rm_X4_isOn s m args below meth c H [] 0 0 Q (F0 m 19 ls [.int k2])) hw (fun k2 hw ls hl => ?_) (fun hw hj0 => ?_)
  · refine lv_istore (lv' := [(6, .int k2), (0, .int v0), (1, .int v1), (2, .int v2), (3, .int v3), (4, .int v4), (5, .int v5)]) hx hb dX4_isOn_19 hl (by decide) rfl (fun ls hl => ?_)
    refine lv_iload_n hx hb dX4_isOn_21 rfl (lv_at hl 1 rfl) ?_
    refine lv_iload_n hx hb dX4_isOn_22 rfl (lv_at hl 3 rfl) ?_
    refine jn1_use (J := fun (k5 : Int32) => ∀ ls : Array Slot, lv_has ls 9 [(1, .int v1), (3, .int v3), (5, .int v5), (6, .int k2)] → W p l e rm_X4_isOn s m args below meth c H [] 0 0 Q (F0 m 63 ls [.int k5])) hw (fun k5 hw ls hl => ?_) (fun hw hj0 => ?_)
    · refine lv_istore (lv' := [(7, .int k5), (1, .int v1), (3, .int v3), (5, .int v5), (6, .int k2)]) hx hb dX4_isOn_63 hl (by decide) rfl (fun ls hl => ?_)
      refine lv_iload_n hx hb dX4_isOn_65 rfl (lv_at hl 1 rfl) ?_
      refine lv_iload_n hx hb dX4_isOn_66 rfl (lv_at hl 2 rfl) ?_
      refine jn1_use (J := fun (k8 : Int32) => ∀ ls : Array Slot, lv_has ls 9 [(6, .int k2), (7, .int k5)] → W p l e rm_X4_isOn s m args below meth c H [] 0 0 Q (F0 m 107 ls [.int k8])) hw (fun k8 hw ls hl => ?_) (fun hw hj0 => ?_)
      · refine lv_istore (lv' := [(8, .int k8), (6, .int k2), (7, .int k5)]) hx hb dX4_isOn_107 hl (by decide) rfl (fun ls hl => ?_)
        refine lv_iload hx hb dX4_isOn_109 (lv_at hl 1 rfl) ?_
        refine jn1_use (J := fun (k11 : Int32) => ∀ ls : Array Slot, lv_has ls 9 [] → W p l e rm_X4_isOn s m args below meth c H [] 0 0 Q (F0 m 129 ls [.int k11])) hw (fun k11 hw ls hl => ?_) (fun hw hj0 => ?_)
        · rw [← hQ]
          exact W.zret (v := k11) (ty := .boolean) hx hb hr (bz_n hw.1) (fun t ht hW => ⟨_, rfl, hw.2, ht.trans hH.symm⟩) (fun q h => by cases h) dX4_isOn_129
        · have hj13 := hj0
          refine jn0_use (J := ∀ ls : Array Slot, lv_has ls 9 [] → W p l e rm_X4_isOn s m args below meth c H [] 0 0 Q (F0 m 128 ls [])) hw (fun hw ls hl => ?_) (fun hw hj0 => ?_)
          · refine lv_iconst (v := 0) hx hb dX4_isOn_128 (by decide) ?_
            exact hj13 (0 : Int32) hw ls (lv_sub hl [] rfl)
          · have hj15 := hj0
            refine lv_if_eq (tgt := 128) hx hb dX4_isOn_111 (by decide) (fun hc => ?_) (fun hc => ?_)
            · have hw := hw.1 (hc)
              exact hj15 hw ls (lv_sub hl [] rfl)
            · have hw := hw.2 hc
              refine lv_iload hx hb dX4_isOn_114 (lv_at hl 2 rfl) ?_
              refine lv_if_eq (tgt := 128) hx hb dX4_isOn_116 (by decide) (fun hc => ?_) (fun hc => ?_)
              · have hw := hw.1 (hc)
                exact hj15 hw ls (lv_sub hl [] rfl)
              · have hw := hw.2 hc
                refine lv_iload hx hb dX4_isOn_119 (lv_at hl 0 rfl) ?_
                refine lv_if_eq (tgt := 128) hx hb dX4_isOn_121 (by decide) (fun hc => ?_) (fun hc => ?_)
                · have hw := hw.1 (hc)
                  exact hj15 hw ls (lv_sub hl [] rfl)
                · have hw := hw.2 hc
                  refine lv_iconst (v := 1) hx hb dX4_isOn_124 (by decide) ?_
                  refine lv_goto (tgt := 129) hx hb dX4_isOn_125 (by decide) ?_
                  exact hj13 (1 : Int32) hw ls (lv_sub hl [] rfl)
      · have hj10 := hj0
        refine lv_icmp_ge (tgt := 90) hx hb dX4_isOn_67 (by decide) (fun hc => ?_) (fun hc => ?_)
        · have hw := hw.1 (hc)
          refine lv_iload hx hb dX4_isOn_90 (lv_at hl 3 rfl) ?_
          refine lv_iload_n hx hb dX4_isOn_92 rfl (lv_at hl 2 rfl) ?_
          refine jn0_use (J := ∀ ls : Array Slot, lv_has ls 9 [(6, .int k2), (7, .int k5)] → W p l e rm_X4_isOn s m args below meth c H [] 0 0 Q (F0 m 106 ls [])) hw (fun hw ls hl => ?_) (fun hw hj0 => ?_)
          · refine lv_iconst (v := 0) hx hb dX4_isOn_106 (by decide) ?_
            exact hj10 (0 : Int32) hw ls (lv_sub hl [0, 1] rfl)
          · have hj17 := hj0
            refine lv_icmp_lt (tgt := 106) hx hb dX4_isOn_93 (by decide) (fun hc => ?_) (fun hc => ?_)
            · have hw := hw.1 (hc)
              exact hj17 hw ls (lv_sub hl [4, 0] rfl)
            · have hw := hw.2 hc
              refine lv_iload hx hb dX4_isOn_96 (lv_at hl 3 rfl) ?_
              refine lv_iload_n hx hb dX4_isOn_98 rfl (lv_at hl 1 rfl) ?_
              refine lv_icmp_gt (tgt := 106) hx hb dX4_isOn_99 (by decide) (fun hc => ?_) (fun hc => ?_)
              · have hw := hw.1 (hc)
                exact hj17 hw ls (lv_sub hl [4, 0] rfl)
              · have hw := hw.2 hc
                refine lv_iconst (v := 1) hx hb dX4_isOn_102 (by decide) ?_
                refine lv_goto (tgt := 107) hx hb dX4_isOn_103 (by decide) ?_
                exact hj10 (1 : Int32) hw ls (lv_sub hl [4, 0] rfl)
        · have hw := hw.2 hc
          refine lv_iload hx hb dX4_isOn_70 (lv_at hl 3 rfl) ?_
          refine lv_iload_n hx hb dX4_isOn_72 rfl (lv_at hl 1 rfl) ?_
          refine jn0_use (J := ∀ ls : Array Slot, lv_has ls 9 [(6, .int k2), (7, .int k5)] → W p l e rm_X4_isOn s m args below meth c H [] 0 0 Q (F0 m 86 ls [])) hw (fun hw ls hl => ?_) (fun hw hj0 => ?_)
          · refine lv_iconst (v := 0) hx hb dX4_isOn_86 (by decide) ?_
            refine lv_goto (tgt := 107) hx hb dX4_isOn_87 (by decide) ?_
            exact hj10 (0 : Int32) hw ls (lv_sub hl [0, 1] rfl)
          · have hj19 := hj0
            refine lv_icmp_lt (tgt := 86) hx hb dX4_isOn_73 (by decide) (fun hc => ?_) (fun hc => ?_)
            · have hw := hw.1 (hc)
              exact hj19 hw ls (lv_sub hl [4, 0] rfl)
            · have hw := hw.2 hc
              refine lv_iload hx hb dX4_isOn_76 (lv_at hl 3 rfl) ?_
              refine lv_iload_n hx hb dX4_isOn_78 rfl (lv_at hl 2 rfl) ?_
              refine lv_icmp_gt (tgt := 86) hx hb dX4_isOn_79 (by decide) (fun hc => ?_) (fun hc => ?_)
              · have hw := hw.1 (hc)
                exact hj19 hw ls (lv_sub hl [4, 0] rfl)
              · have hw := hw.2 hc
                refine lv_iconst (v := 1) hx hb dX4_isOn_82 (by decide) ?_
                refine lv_goto (tgt := 107) hx hb dX4_isOn_83 (by decide) ?_
                exact hj10 (1 : Int32) hw ls (lv_sub hl [4, 0] rfl)
    · have hj7 := hj0
      refine lv_icmp_ge (tgt := 46) hx hb dX4_isOn_23 (by decide) (fun hc => ?_) (fun hc => ?_)
      · have hw := hw.1 (hc)
        refine lv_iload hx hb dX4_isOn_46 (lv_at hl 5 rfl) ?_
        refine lv_iload_n hx hb dX4_isOn_48 rfl (lv_at hl 3 rfl) ?_
        refine jn0_use (J := ∀ ls : Array Slot, lv_has ls 9 [(1, .int v1), (3, .int v3), (5, .int v5), (6, .int k2)] → W p l e rm_X4_isOn s m args below meth c H [] 0 0 Q (F0 m 62 ls [])) hw (fun hw ls hl => ?_) (fun hw hj0 => ?_)
        · refine lv_iconst (v := 0) hx hb dX4_isOn_62 (by decide) ?_
          exact hj7 (0 : Int32) hw ls (lv_sub hl [0, 1, 2, 3] rfl)
        · have hj21 := hj0
          refine lv_icmp_lt (tgt := 62) hx hb dX4_isOn_49 (by decide) (fun hc => ?_) (fun hc => ?_)
          · have hw := hw.1 (hc)
            exact hj21 hw ls (lv_sub hl [2, 4, 6, 0] rfl)
          · have hw := hw.2 hc
            refine lv_iload hx hb dX4_isOn_52 (lv_at hl 5 rfl) ?_
            refine lv_iload_n hx hb dX4_isOn_54 rfl (lv_at hl 1 rfl) ?_
            refine lv_icmp_gt (tgt := 62) hx hb dX4_isOn_55 (by decide) (fun hc => ?_) (fun hc => ?_)
            · have hw := hw.1 (hc)
              exact hj21 hw ls (lv_sub hl [2, 4, 6, 0] rfl)
            · have hw := hw.2 hc
              refine lv_iconst (v := 1) hx hb dX4_isOn_58 (by decide) ?_
              refine lv_goto (tgt := 63) hx hb dX4_isOn_59 (by decide) ?_
              exact hj7 (1 : Int32) hw ls (lv_sub hl [2, 4, 6, 0] rfl)
      · have hw := hw.2 hc
        refine lv_iload hx hb dX4_isOn_26 (lv_at hl 5 rfl) ?_
        refine lv_iload_n hx hb dX4_isOn_28 rfl (lv_at hl 1 rfl) ?_
        refine jn0_use (J := ∀ ls : Array Slot, lv_has ls 9 [(1, .int v1), (3, .int v3), (5, .int v5), (6, .int k2)] → W p l e rm_X4_isOn s m args below meth c H [] 0 0 Q (F0 m 42 ls [])) hw (fun hw ls hl => ?_) (fun hw hj0 => ?_)
        · refine lv_iconst (v := 0) hx hb dX4_isOn_42 (by decide) ?_
          refine lv_goto (tgt := 63) hx hb dX4_isOn_43 (by decide) ?_
          exact hj7 (0 : Int32) hw ls (lv_sub hl [0, 1, 2, 3] rfl)
        · have hj23 := hj0
          refine lv_icmp_lt (tgt := 42) hx hb dX4_isOn_29 (by decide) (fun hc => ?_) (fun hc => ?_)
          · have hw := hw.1 (hc)
            exact hj23 hw ls (lv_sub hl [2, 4, 6, 0] rfl)
          · have hw := hw.2 hc
            refine lv_iload hx hb dX4_isOn_32 (lv_at hl 5 rfl) ?_
            refine lv_iload_n hx hb dX4_isOn_34 rfl (lv_at hl 3 rfl) ?_
            refine lv_icmp_gt (tgt := 42) hx hb dX4_isOn_35 (by decide) (fun hc => ?_) (fun hc => ?_)
            · have hw := hw.1 (hc)
              exact hj23 hw ls (lv_sub hl [2, 4, 6, 0] rfl)
            · have hw := hw.2 hc
              refine lv_iconst (v := 1) hx hb dX4_isOn_38 (by decide) ?_
              refine lv_goto (tgt := 63) hx hb dX4_isOn_39 (by decide) ?_
              exact hj7 (1 : Int32) hw ls (lv_sub hl [2, 4, 6, 0] rfl)
  · have hj4 := hj0
    refine lv_if_ne (tgt := 18) hx hb dX4_isOn_11 (by decide) (fun hc => ?_) (fun hc => ?_)
    · have hw := hw.2 hc
      refine lv_iconst (v := 0) hx hb dX4_isOn_18 (by decide) ?_
      exact hj4 (0 : Int32) hw ls (lv_sub hl [0, 1, 2, 3, 4, 5] rfl)
    · have hw := hw.1 (hc)
      refine lv_iconst (v := 1) hx hb dX4_isOn_14 (by decide) ?_
      refine lv_goto (tgt := 19) hx hb dX4_isOn_15 (by decide) ?_
      exact hj4 (1 : Int32) hw ls (lv_sub hl [0, 1, 2, 3, 4, 5] rfl)
-- X4_isEnd
abbrev rm_X4_isEnd : Room := { frames := 0, cells := 0, slots := 0, locals := 0 }
theorem f_X4_isEnd_0 : (Cond.fieldLink RX4 13 "PlaneFacesModel" "xs" "[I") ∈ wsX4_isEnd := by decide +kernel
theorem f_X4_isEnd_1 : ∀ w ∈ wsX40, w ∈ wsX4_isEnd := by decide +kernel
theorem f_X4_isEnd_2 : (Cond.fieldLink RX4 17 "PlaneFacesModel" "ys" "[I") ∈ wsX4_isEnd := by decide +kernel
set_option maxRecDepth 100000 in
set_option maxHeartbeats 4000000 in
theorem c_X4_isEnd (l : Launch) (dC : Nat → ClassId) (dI : Nat → Nat → Nat) (cI cJ cZ : ClassId) (ad : Nat → Nat) (mre : Int32) (mth : Nat → Int32) (mxs : Nat → Int32) (mys : Nat → Int32) (mcu : Int32) (mnx : Nat → Int32) (mpo : Nat → Int32) (mpn : Int32) (mrn : Int32) (mrd : Nat → Int32) (mfi : Nat → Int32) (mar : Nat → Int64) (mfn : Int32) (mfa : Nat → Int32) (mnu : Nat → Int32) (mst : Nat → Int32) (v1 : Int32) (v2 : Int32) (v3 : Int32) {post : Int32 → Prop} (hw : wp_X4_isEnd mxs mys v1 v2 v3 post) : Met l yX4_isEnd wsX4_isEnd rm_X4_isEnd (va_Pc [.ref (ad 0), .int v1, .int v2, .int v3] (fun U => va_P (dC, dI) vwCl (wMod ad cI cJ cZ mre mth mxs mys mcu mnx mpo mpn mrn mrd mfi mar mfn mfa mnu mst) U.heap ∧ va_K (dC, dI) vwCl (tyL cI cJ cZ) U)) (vp_Si post) 0 0 (fun _ => False) := by
  unfold wp_X4_isEnd at hw
  refine Met.ofW (cc := cX4_isEnd) (maxL := 4) (ret := (some .boolean)) (by decide) rfl ?_
  intro p e s m args below meth c s₁ B hml hv
  obtain ⟨hav, hP, hK⟩ := hv
  have hx := B.exec
  have hb := B.bytes
  have hr := B.returns
  have hts := atoms_spec (ws := wsX4_isEnd) B.pre
  have hown : s.vm.findClass RX4 = some m.cls := findClass_of_methodNamed B.named
  have hlocks := B.notSynchronized
  have C : CallFix p m c cX4_isEnd 4 s args wsX4_isEnd RX4 := ⟨hx, hb, hml, hown, hts⟩
  obtain ⟨ls, hE, hl⟩ := mx_entry (m := m) [.ref (ad 0), .int v1, .int v2, .int v3] (n := 4) (Nat.le_of_ble_eq_true rfl)
  have hl : lv_has ls 4 [(0, .ref (ad 0)), (1, .int v1), (2, .int v2), (3, .int v3)] := hl
  rw [show entryFrame m args 4 = F0 m 0 ls [] by rw [hav]; exact hE]
  obtain ⟨Q, hQ⟩ : ∃ Q, MQ below (vp_Si post) args s 0 0 (fun _ => False) = Q := ⟨_, rfl⟩
  rw [hQ]
  obtain ⟨H, hH⟩ : ∃ H, s.heap = H := ⟨_, rfl⟩
  rw [hH]
  rw [hH] at hP
  show W p l e rm_X4_isEnd s m args below meth c H [] 0 0 Q (F0 m 0 ls [])
  refine lv_aload_n hx hb dX4_isEnd_0 rfl (lv_at hl 0 rfl) ?_
  refine va_get (D := (dC, dI)) (ci := 4) (v := .ref (ad 2)) (C := RX4) (T := TX4) (N := 16) hx hb hts f_X4_isEnd_1 hown hK hP 0 rfl rfl 2 (by decide) (hts _ f_X4_isEnd_0) (fun _ h9 => h9) rfl dX4_isEnd_1 ?_
  refine lv_iconst (v := 2) hx hb dX4_isEnd_4 (by decide) ?_
  refine lv_iload_n hx hb dX4_isEnd_5 rfl (lv_at hl 1 rfl) ?_
  refine lv_imul hx hb dX4_isEnd_6 ?_
  have hi := hw.1
  have hw := hw.2
  refine va_iald hx hb hK hP 2 0 rfl rfl hi dX4_isEnd_7 ?_
  refine lv_iload_n hx hb dX4_isEnd_8 rfl (lv_at hl 2 rfl) ?_
  refine jn1_use (J := fun (k1 : Int32) => ∀ ls : Array Slot, lv_has ls 4 [(0, .ref (ad 0))] → W p l e rm_X4_isEnd s m args below meth c H [] 0 0 Q (F0 m 57 ls [.int k1])) hw (fun k1 hw ls hl => ?_) (fun hw hj0 => ?_)
  · rw [← hQ]
    exact W.zret (v := k1) (ty := .boolean) hx hb hr (bz_n hw.1) (fun t ht hW => ⟨_, rfl, hw.2, ht.trans hH.symm⟩) (fun q h => by cases h) dX4_isEnd_57
  · have hj3 := hj0
    refine jn0_use (J := ∀ ls : Array Slot, lv_has ls 4 [(0, .ref (ad 0))] → W p l e rm_X4_isEnd s m args below meth c H [] 0 0 Q (F0 m 52 ls [])) hw (fun hw ls hl => ?_) (fun hw hj0 => ?_)
    · refine lv_iconst (v := 1) hx hb dX4_isEnd_52 (by decide) ?_
      refine lv_goto (tgt := 57) hx hb dX4_isEnd_53 (by decide) ?_
      exact hj3 (1 : Int32) hw ls (lv_sub hl [0] rfl)
    · have hj5 := hj0
      refine jn0_use (J := ∀ ls : Array Slot, lv_has ls 4 [(0, .ref (ad 0)), (1, .int v1), (2, .int v2), (3, .int v3)] → W p l e rm_X4_isEnd s m args below meth c H [] 0 0 Q (F0 m 24 ls [])) hw (fun hw ls hl => ?_) (fun hw hj0 => ?_)
      · refine lv_aload_n hx hb dX4_isEnd_24 rfl (lv_at hl 0 rfl) ?_
        refine va_get (D := (dC, dI)) (ci := 4) (v := .ref (ad 2)) (C := RX4) (T := TX4) (N := 16) hx hb hts f_X4_isEnd_1 hown hK hP 0 rfl rfl 2 (by decide) (hts _ f_X4_isEnd_0) (fun _ h9 => h9) rfl dX4_isEnd_25 ?_
        refine lv_iconst (v := 2) hx hb dX4_isEnd_28 (by decide) ?_
        refine lv_iload_n hx hb dX4_isEnd_29 rfl (lv_at hl 1 rfl) ?_
        refine lv_imul hx hb dX4_isEnd_30 ?_
        refine lv_iconst (v := 1) hx hb dX4_isEnd_31 (by decide) ?_
        refine lv_iadd hx hb dX4_isEnd_32 ?_
        have hi := hw.1
        have hw := hw.2
        refine va_iald hx hb hK hP 2 0 rfl rfl hi dX4_isEnd_33 ?_
        refine lv_iload_n hx hb dX4_isEnd_34 rfl (lv_at hl 2 rfl) ?_
        refine jn0_use (J := ∀ ls : Array Slot, lv_has ls 4 [(0, .ref (ad 0))] → W p l e rm_X4_isEnd s m args below meth c H [] 0 0 Q (F0 m 56 ls [])) hw (fun hw ls hl => ?_) (fun hw hj0 => ?_)
        · refine lv_iconst (v := 0) hx hb dX4_isEnd_56 (by decide) ?_
          exact hj3 (0 : Int32) hw ls (lv_sub hl [0] rfl)
        · have hj9 := hj0
          refine lv_icmp_ne (tgt := 56) hx hb dX4_isEnd_35 (by decide) (fun hc => ?_) (fun hc => ?_)
          · have hw := hw.2 hc
            exact hj9 hw ls (lv_sub hl [0] rfl)
          · have hw := hw.1 (hc)
            refine lv_aload_n hx hb dX4_isEnd_38 rfl (lv_at hl 0 rfl) ?_
            refine va_get (D := (dC, dI)) (ci := 4) (v := .ref (ad 3)) (C := RX4) (T := TX4) (N := 16) hx hb hts f_X4_isEnd_1 hown hK hP 0 rfl rfl 3 (by decide) (hts _ f_X4_isEnd_2) (fun _ h9 => h9) rfl dX4_isEnd_39 ?_
            refine lv_iconst (v := 2) hx hb dX4_isEnd_42 (by decide) ?_
            refine lv_iload_n hx hb dX4_isEnd_43 rfl (lv_at hl 1 rfl) ?_
            refine lv_imul hx hb dX4_isEnd_44 ?_
            refine lv_iconst (v := 1) hx hb dX4_isEnd_45 (by decide) ?_
            refine lv_iadd hx hb dX4_isEnd_46 ?_
            have hi := hw.1
            have hw := hw.2
            refine va_iald hx hb hK hP 3 0 rfl rfl hi dX4_isEnd_47 ?_
            refine lv_iload_n hx hb dX4_isEnd_48 rfl (lv_at hl 3 rfl) ?_
            refine lv_icmp_ne (tgt := 56) hx hb dX4_isEnd_49 (by decide) (fun hc => ?_) (fun hc => ?_)
            · have hw := hw.2 hc
              exact hj9 hw ls (lv_sub hl [0] rfl)
            · have hw := hw.1 (hc)
              exact hj5 hw ls (lv_sub hl [0] rfl)
      · have hj7 := hj0
        refine lv_icmp_ne (tgt := 24) hx hb dX4_isEnd_9 (by decide) (fun hc => ?_) (fun hc => ?_)
        · have hw := hw.2 hc
          exact hj7 hw ls (lv_sub hl [0, 1, 2, 3] rfl)
        · have hw := hw.1 (hc)
          refine lv_aload_n hx hb dX4_isEnd_12 rfl (lv_at hl 0 rfl) ?_
          refine va_get (D := (dC, dI)) (ci := 4) (v := .ref (ad 3)) (C := RX4) (T := TX4) (N := 16) hx hb hts f_X4_isEnd_1 hown hK hP 0 rfl rfl 3 (by decide) (hts _ f_X4_isEnd_2) (fun _ h9 => h9) rfl dX4_isEnd_13 ?_
          refine lv_iconst (v := 2) hx hb dX4_isEnd_16 (by decide) ?_
          refine lv_iload_n hx hb dX4_isEnd_17 rfl (lv_at hl 1 rfl) ?_
          refine lv_imul hx hb dX4_isEnd_18 ?_
          have hi := hw.1
          have hw := hw.2
          refine va_iald hx hb hK hP 3 0 rfl rfl hi dX4_isEnd_19 ?_
          refine lv_iload_n hx hb dX4_isEnd_20 rfl (lv_at hl 3 rfl) ?_
          refine lv_icmp_eq (tgt := 52) hx hb dX4_isEnd_21 (by decide) (fun hc => ?_) (fun hc => ?_)
          · have hw := hw.1 (hc)
            exact hj5 hw ls (lv_sub hl [0] rfl)
          · have hw := hw.2 hc
            exact hj7 hw ls (lv_sub hl [0, 1, 2, 3] rfl)
-- X4_meets
abbrev rm_X4_meets : Room := { frames := 3, cells := 0, slots := 0, locals := 74 }
theorem f_X4_meets_0 : (Cond.fieldLink RX4 13 "PlaneFacesModel" "xs" "[I") ∈ wsX4_meets := by decide +kernel
theorem f_X4_meets_1 : ∀ w ∈ wsX40, w ∈ wsX4_meets := by decide +kernel
theorem f_X4_meets_2 : (Cond.fieldLink RX4 17 "PlaneFacesModel" "ys" "[I") ∈ wsX4_meets := by decide +kernel
set_option maxRecDepth 100000 in
set_option maxHeartbeats 4000000 in
theorem c_X4_meets (l : Launch) (dC : Nat → ClassId) (dI : Nat → Nat → Nat) (cI cJ cZ : ClassId) (ad : Nat → Nat) (mre : Int32) (mth : Nat → Int32) (mxs : Nat → Int32) (mys : Nat → Int32) (mcu : Int32) (mnx : Nat → Int32) (mpo : Nat → Int32) (mpn : Int32) (mrn : Int32) (mrd : Nat → Int32) (mfi : Nat → Int32) (mar : Nat → Int64) (mfn : Int32) (mfa : Nat → Int32) (mnu : Nat → Int32) (mst : Nat → Int32) (v1 : Int32) (v2 : Int32) (v3 : Int32) (v4 : Int32) (v5 : Int32) {post : Int32 → Prop} (hw : wp_X4_meets mxs mys v1 v2 v3 v4 v5 post) : Met l yX4_meets wsX4_meets rm_X4_meets (va_Pc [.ref (ad 0), .int v1, .int v2, .int v3, .int v4, .int v5] (fun U => va_P (dC, dI) vwCl (wMod ad cI cJ cZ mre mth mxs mys mcu mnx mpo mpn mrn mrd mfi mar mfn mfa mnu mst) U.heap ∧ va_K (dC, dI) vwCl (tyL cI cJ cZ) U)) (vp_Si post) 0 0 (fun _ => False) := by
  unfold wp_X4_meets at hw
  refine Met.ofW (cc := cX4_meets) (maxL := 10) (ret := (some .boolean)) (by decide) rfl ?_
  intro p e s m args below meth c s₁ B hml hv
  obtain ⟨hav, hP, hK⟩ := hv
  have hx := B.exec
  have hb := B.bytes
  have hr := B.returns
  have hts := atoms_spec (ws := wsX4_meets) B.pre
  have hown : s.vm.findClass RX4 = some m.cls := findClass_of_methodNamed B.named
  have hlocks := B.notSynchronized
  have C : CallFix p m c cX4_meets 10 s args wsX4_meets RX4 := ⟨hx, hb, hml, hown, hts⟩
  obtain ⟨ls, hE, hl⟩ := mx_entry (m := m) [.ref (ad 0), .int v1, .int v2, .int v3, .int v4, .int v5] (n := 10) (Nat.le_of_ble_eq_true rfl)
  have hl : lv_has ls 10 [(0, .ref (ad 0)), (1, .int v1), (2, .int v2), (3, .int v3), (4, .int v4), (5, .int v5)] := hl
  rw [show entryFrame m args 10 = F0 m 0 ls [] by rw [hav]; exact hE]
  obtain ⟨Q, hQ⟩ : ∃ Q, MQ below (vp_Si post) args s 0 0 (fun _ => False) = Q := ⟨_, rfl⟩
  rw [hQ]
  obtain ⟨H, hH⟩ : ∃ H, s.heap = H := ⟨_, rfl⟩
  rw [hH]
  rw [hH] at hP
  show W p l e rm_X4_meets s m args below meth c H [] 0 0 Q (F0 m 0 ls [])
  refine lv_aload_n hx hb dX4_meets_0 rfl (lv_at hl 0 rfl) ?_
  refine va_get (D := (dC, dI)) (ci := 4) (v := .ref (ad 2)) (C := RX4) (T := TX4) (N := 16) hx hb hts f_X4_meets_1 hown hK hP 0 rfl rfl 2 (by decide) (hts _ f_X4_meets_0) (fun _ h9 => h9) rfl dX4_meets_1 ?_
  refine lv_iconst (v := 2) hx hb dX4_meets_4 (by decide) ?_
  refine lv_iload_n hx hb dX4_meets_5 rfl (lv_at hl 1 rfl) ?_
  refine lv_imul hx hb dX4_meets_6 ?_
  have hi := hw.1
  have hw := hw.2
  refine va_iald hx hb hK hP 2 0 rfl rfl hi dX4_meets_7 ?_
  refine lv_topi (fun a1 ea1 => ?_)
  have hw := hw a1 ea1
  refine lv_istore (lv' := [(6, .int a1), (0, .ref (ad 0)), (1, .int v1), (2, .int v2), (3, .int v3), (4, .int v4), (5, .int v5)]) hx hb dX4_meets_8 hl (by decide) rfl (fun ls hl => ?_)
  refine lv_aload_n hx hb dX4_meets_10 rfl (lv_at hl 1 rfl) ?_
  refine va_get (D := (dC, dI)) (ci := 4) (v := .ref (ad 3)) (C := RX4) (T := TX4) (N := 16) hx hb hts f_X4_meets_1 hown hK hP 0 rfl rfl 3 (by decide) (hts _ f_X4_meets_2) (fun _ h9 => h9) rfl dX4_meets_11 ?_
  refine lv_iconst (v := 2) hx hb dX4_meets_14 (by decide) ?_
  refine lv_iload_n hx hb dX4_meets_15 rfl (lv_at hl 2 rfl) ?_
  refine lv_imul hx hb dX4_meets_16 ?_
  have hi := hw.1
  have hw := hw.2
  refine va_iald hx hb hK hP 3 0 rfl rfl hi dX4_meets_17 ?_
  refine lv_topi (fun a2 ea2 => ?_)
  have hw := hw a2 ea2
  refine lv_istore (lv' := [(7, .int a2), (6, .int a1), (0, .ref (ad 0)), (1, .int v1), (2, .int v2), (3, .int v3), (4, .int v4), (5, .int v5)]) hx hb dX4_meets_18 hl (by decide) rfl (fun ls hl => ?_)
  refine lv_aload_n hx hb dX4_meets_20 rfl (lv_at hl 2 rfl) ?_
  refine va_get (D := (dC, dI)) (ci := 4) (v := .ref (ad 2)) (C := RX4) (T := TX4) (N := 16) hx hb hts f_X4_meets_1 hown hK hP 0 rfl rfl 2 (by decide) (hts _ f_X4_meets_0) (fun _ h9 => h9) rfl dX4_meets_21 ?_
  refine lv_iconst (v := 2) hx hb dX4_meets_24 (by decide) ?_
  refine lv_iload_n hx hb dX4_meets_25 rfl (lv_at hl 3 rfl) ?_
  refine lv_imul hx hb dX4_meets_26 ?_
  refine lv_iconst (v := 1) hx hb dX4_meets_27 (by decide) ?_
  refine lv_iadd hx hb dX4_meets_28 ?_
  have hi := hw.1
  have hw := hw.2
  refine va_iald hx hb hK hP 2 0 rfl rfl hi dX4_meets_29 ?_
  refine lv_topi (fun a3 ea3 => ?_)
  have hw := hw a3 ea3
  refine lv_istore (lv' := [(8, .int a3), (7, .int a2), (6, .int a1), (0, .ref (ad 0)), (1, .int v1), (2, .int v2), (3, .int v3), (4, .int v4), (5, .int v5)]) hx hb dX4_meets_30 hl (by decide) rfl (fun ls hl => ?_)
  refine lv_aload_n hx hb dX4_meets_32 rfl (lv_at hl 3 rfl) ?_
  refine va_get (D := (dC, dI)) (ci := 4) (v := .ref (ad 3)) (C := RX4) (T := TX4) (N := 16) hx hb hts f_X4_meets_1 hown hK hP 0 rfl rfl 3 (by decide) (hts _ f_X4_meets_2) (fun _ h9 => h9) rfl dX4_meets_33 ?_
  refine lv_iconst (v := 2) hx hb dX4_meets_36 (by decide) ?_
  refine lv_iload_n hx hb dX4_meets_37 rfl (lv_at hl 4 rfl) ?_
  refine lv_imul hx hb dX4_meets_38 ?_
  refine lv_iconst (v := 1) hx hb dX4_meets_39 (by decide) ?_
  refine lv_iadd hx hb dX4_meets_40 ?_
  have hi := hw.1
  have hw := hw.2
  refine va_iald hx hb hK hP 3 0 rfl rfl hi dX4_meets_41 ?_
  refine lv_topi (fun a4 ea4 => ?_)
  have hw := hw a4 ea4
  refine lv_istore (lv' := [(9, .int a4), (8, .int a3), (7, .int a2), (6, .int a1), (0, .ref (ad 0)), (1, .int v1), (2, .int v2), (3, .int v3), (4, .int v4), (5, .int v5)]) hx hb dX4_meets_42 hl (by decide) rfl (fun ls hl => ?_)
  refine lv_aload_n hx hb dX4_meets_44 rfl (lv_at hl 4 rfl) ?_
  refine lv_iload_n hx hb dX4_meets_45 rfl (lv_at hl 5 rfl) ?_
  refine lv_iload_n hx hb dX4_meets_46 rfl (lv_at hl 6 rfl) ?_
  refine lv_iload_n hx hb dX4_meets_47 rfl (lv_at hl 7 rfl) ?_
  refine vp_callSi (W.runV (As := [.int v1, .int v2, .int v3]) (rest := []) C (c_X4_isEnd l dC dI cI cJ cZ ad mre mth mxs mys mcu mnx mpo mpn mrn mrd mfi mar mfn mfa mnu mst v1 v2 v3 hw) (cwV 3 hts gX4_meets_X4_isEnd rfl rfl rfl (by decide +kernel) ⟨Nat.le_of_ble_eq_true rfl, Nat.le_of_ble_eq_true rfl⟩) ⟨fb_ro, va_recv hK hP (ci := 4) (q0 := 0) rfl rfl, fun U hU hW => ⟨rfl, by rw [hU]; exact hP, va_K.moved hW.alike hK⟩⟩ rfl rfl hl.1 rfl (lv_room (Nat.le_of_ble_eq_true rfl)) dX4_meets_48 ⟨Nat.zero_le _, Nat.zero_le _⟩) (fun r5 hw => ?_)
  refine jn0_use (J := ∀ ls : Array Slot, lv_has ls 10 [(0, .ref (ad 0)), (1, .int v1), (2, .int v2), (3, .int v3), (4, .int v4), (5, .int v5), (6, .int a1), (7, .int a2), (8, .int a3), (9, .int a4)] → W p l e rm_X4_meets s m args below meth c H [] 0 0 Q (F0 m 68 ls [])) hw (fun hw ls hl => ?_) (fun hw hj0 => ?_)
  · refine lv_iload_n hx hb dX4_meets_68 rfl (lv_at hl 2 rfl) ?_
    refine lv_iload_n hx hb dX4_meets_69 rfl (lv_at hl 3 rfl) ?_
    refine lv_iload hx hb dX4_meets_70 (lv_at hl 4 rfl) ?_
    refine lv_iload hx hb dX4_meets_72 (lv_at hl 5 rfl) ?_
    refine lv_iload hx hb dX4_meets_74 (lv_at hl 6 rfl) ?_
    refine lv_iload hx hb dX4_meets_76 (lv_at hl 7 rfl) ?_
    refine vp_callSi (W.runS (As := [.int v2, .int v3, .int v4, .int v5, .int a1, .int a2]) (rest := []) C (c_X4_isOn l v2 v3 v4 v5 a1 a2 hw) (va_cwS 6 hts gX4_meets_X4_isOn rfl rfl rfl (by decide +kernel) ⟨Nat.le_of_ble_eq_true rfl, Nat.le_of_ble_eq_true rfl⟩) ⟨fb_st, fun U hU hW => ⟨rfl, trivial⟩⟩ rfl rfl hl.1 rfl (lv_room (Nat.le_of_ble_eq_true rfl)) dX4_meets_78 ⟨Nat.zero_le _, Nat.zero_le _⟩) (fun r8 hw => ?_)
    refine jn0_use (J := ∀ ls : Array Slot, lv_has ls 10 [(0, .ref (ad 0)), (1, .int v1), (2, .int v2), (3, .int v3), (4, .int v4), (5, .int v5), (6, .int a1), (7, .int a2), (8, .int a3), (9, .int a4)] → W p l e rm_X4_meets s m args below meth c H [] 0 0 Q (F0 m 112 ls [])) hw (fun hw ls hl => ?_) (fun hw hj0 => ?_)
    · refine lv_iload_n hx hb dX4_meets_112 rfl (lv_at hl 2 rfl) ?_
      refine lv_iload_n hx hb dX4_meets_113 rfl (lv_at hl 3 rfl) ?_
      refine lv_iload hx hb dX4_meets_114 (lv_at hl 4 rfl) ?_
      refine lv_iload hx hb dX4_meets_116 (lv_at hl 5 rfl) ?_
      refine lv_iload hx hb dX4_meets_118 (lv_at hl 8 rfl) ?_
      refine lv_iload hx hb dX4_meets_120 (lv_at hl 9 rfl) ?_
      refine vp_callSi (W.runS (As := [.int v2, .int v3, .int v4, .int v5, .int a3, .int a4]) (rest := []) C (c_X4_isOn l v2 v3 v4 v5 a3 a4 hw) (va_cwS 6 hts gX4_meets_X4_isOn rfl rfl rfl (by decide +kernel) ⟨Nat.le_of_ble_eq_true rfl, Nat.le_of_ble_eq_true rfl⟩) ⟨fb_st, fun U hU hW => ⟨rfl, trivial⟩⟩ rfl rfl hl.1 rfl (lv_room (Nat.le_of_ble_eq_true rfl)) dX4_meets_122 ⟨Nat.zero_le _, Nat.zero_le _⟩) (fun r11 hw => ?_)
      refine jn0_use (J := ∀ ls : Array Slot, lv_has ls 10 [(0, .ref (ad 0)), (1, .int v1), (2, .int v2), (3, .int v3), (4, .int v4), (5, .int v5), (6, .int a1), (7, .int a2), (8, .int a3), (9, .int a4)] → W p l e rm_X4_meets s m args below meth c H [] 0 0 Q (F0 m 156 ls [])) hw (fun hw ls hl => ?_) (fun hw hj0 => ?_)
      · refine lv_iload hx hb dX4_meets_156 (lv_at hl 6 rfl) ?_
        refine lv_iload hx hb dX4_meets_158 (lv_at hl 7 rfl) ?_
        refine lv_iload hx hb dX4_meets_160 (lv_at hl 8 rfl) ?_
        refine lv_iload hx hb dX4_meets_162 (lv_at hl 9 rfl) ?_
        refine lv_iload_n hx hb dX4_meets_164 rfl (lv_at hl 2 rfl) ?_
        refine lv_iload_n hx hb dX4_meets_165 rfl (lv_at hl 3 rfl) ?_
        refine vp_callSi (W.runS (As := [.int a1, .int a2, .int a3, .int a4, .int v2, .int v3]) (rest := []) C (c_X4_isOn l a1 a2 a3 a4 v2 v3 hw) (va_cwS 6 hts gX4_meets_X4_isOn rfl rfl rfl (by decide +kernel) ⟨Nat.le_of_ble_eq_true rfl, Nat.le_of_ble_eq_true rfl⟩) ⟨fb_st, fun U hU hW => ⟨rfl, trivial⟩⟩ rfl rfl hl.1 rfl (lv_room (Nat.le_of_ble_eq_true rfl)) dX4_meets_166 ⟨Nat.zero_le _, Nat.zero_le _⟩) (fun r14 hw => ?_)
        refine jn0_use (J := ∀ ls : Array Slot, lv_has ls 10 [(0, .ref (ad 0))] → W p l e rm_X4_meets s m args below meth c H [] 0 0 Q (F0 m 212 ls [])) hw (fun hw ls hl => ?_) (fun hw hj0 => ?_)
        · refine lv_iconst (v := 1) hx hb dX4_meets_212 (by decide) ?_
          rw [← hQ]
          exact W.zret (v := (1 : Int32)) (ty := .boolean) hx hb hr (bz_n hw.1) (fun t ht hW => ⟨_, rfl, hw.2, ht.trans hH.symm⟩) (fun q h => by cases h) dX4_meets_213
        · have hj16 := hj0
          refine jn0_use (J := ∀ ls : Array Slot, lv_has ls 10 [(0, .ref (ad 0)), (1, .int v1), (2, .int v2), (3, .int v3), (4, .int v4), (5, .int v5), (6, .int a1), (7, .int a2), (8, .int a3), (9, .int a4)] → W p l e rm_X4_meets s m args below meth c H [] 0 0 Q (F0 m 182 ls [])) hw (fun hw ls hl => ?_) (fun hw hj0 => ?_)
          · refine lv_iload hx hb dX4_meets_182 (lv_at hl 6 rfl) ?_
            refine lv_iload hx hb dX4_meets_184 (lv_at hl 7 rfl) ?_
            refine lv_iload hx hb dX4_meets_186 (lv_at hl 8 rfl) ?_
            refine lv_iload hx hb dX4_meets_188 (lv_at hl 9 rfl) ?_
            refine lv_iload hx hb dX4_meets_190 (lv_at hl 4 rfl) ?_
            refine lv_iload hx hb dX4_meets_192 (lv_at hl 5 rfl) ?_
            refine vp_callSi (W.runS (As := [.int a1, .int a2, .int a3, .int a4, .int v4, .int v5]) (rest := []) C (c_X4_isOn l a1 a2 a3 a4 v4 v5 hw) (va_cwS 6 hts gX4_meets_X4_isOn rfl rfl rfl (by decide +kernel) ⟨Nat.le_of_ble_eq_true rfl, Nat.le_of_ble_eq_true rfl⟩) ⟨fb_st, fun U hU hW => ⟨rfl, trivial⟩⟩ rfl rfl hl.1 rfl (lv_room (Nat.le_of_ble_eq_true rfl)) dX4_meets_194 ⟨Nat.zero_le _, Nat.zero_le _⟩) (fun r19 hw => ?_)
            refine jn0_use (J := ∀ ls : Array Slot, lv_has ls 10 [(0, .ref (ad 0)), (2, .int v2), (3, .int v3), (4, .int v4), (5, .int v5), (6, .int a1), (7, .int a2), (8, .int a3), (9, .int a4)] → W p l e rm_X4_meets s m args below meth c H [] 0 0 Q (F0 m 214 ls [])) hw (fun hw ls hl => ?_) (fun hw hj0 => ?_)
            · refine lv_iload_n hx hb dX4_meets_214 rfl (lv_at hl 1 rfl) ?_
              refine lv_iload_n hx hb dX4_meets_215 rfl (lv_at hl 2 rfl) ?_
              refine lv_iload hx hb dX4_meets_216 (lv_at hl 3 rfl) ?_
              refine lv_iload hx hb dX4_meets_218 (lv_at hl 4 rfl) ?_
              refine lv_iload hx hb dX4_meets_220 (lv_at hl 5 rfl) ?_
              refine lv_iload hx hb dX4_meets_222 (lv_at hl 6 rfl) ?_
              refine vp_callSi (W.runS (As := [.int v2, .int v3, .int v4, .int v5, .int a1, .int a2]) (rest := []) C (c_X4_side l v2 v3 v4 v5 a1 a2 hw) (va_cwS 6 hts gX4_meets_X4_side rfl rfl rfl (by decide +kernel) ⟨Nat.le_of_ble_eq_true rfl, Nat.le_of_ble_eq_true rfl⟩) ⟨fb_st, fun U hU hW => ⟨rfl, trivial⟩⟩ rfl rfl hl.1 rfl (lv_room (Nat.le_of_ble_eq_true rfl)) dX4_meets_224 ⟨Nat.zero_le _, Nat.zero_le _⟩) (fun r22 hw => ?_)
              refine lv_iload_n hx hb dX4_meets_227 rfl (lv_at hl 1 rfl) ?_
              refine lv_iload_n hx hb dX4_meets_228 rfl (lv_at hl 2 rfl) ?_
              refine lv_iload hx hb dX4_meets_229 (lv_at hl 3 rfl) ?_
              refine lv_iload hx hb dX4_meets_231 (lv_at hl 4 rfl) ?_
              refine lv_iload hx hb dX4_meets_233 (lv_at hl 7 rfl) ?_
              refine lv_iload hx hb dX4_meets_235 (lv_at hl 8 rfl) ?_
              refine vp_callSi (W.runS (As := [.int v2, .int v3, .int v4, .int v5, .int a3, .int a4]) (rest := [.int r22]) C (c_X4_side l v2 v3 v4 v5 a3 a4 hw) (va_cwS 6 hts gX4_meets_X4_side rfl rfl rfl (by decide +kernel) ⟨Nat.le_of_ble_eq_true rfl, Nat.le_of_ble_eq_true rfl⟩) ⟨fb_st, fun U hU hW => ⟨rfl, trivial⟩⟩ rfl rfl hl.1 rfl (lv_room (Nat.le_of_ble_eq_true rfl)) dX4_meets_237 ⟨Nat.zero_le _, Nat.zero_le _⟩) (fun r23 hw => ?_)
              refine lv_imul hx hb dX4_meets_240 ?_
              refine jn1_use (J := fun (k24 : Int32) => ∀ ls : Array Slot, lv_has ls 10 [(0, .ref (ad 0))] → W p l e rm_X4_meets s m args below meth c H [] 0 0 Q (F0 m 281 ls [.int k24])) hw (fun k24 hw ls hl => ?_) (fun hw hj0 => ?_)
              · rw [← hQ]
                exact W.zret (v := k24) (ty := .boolean) hx hb hr (bz_n hw.1) (fun t ht hW => ⟨_, rfl, hw.2, ht.trans hH.symm⟩) (fun q h => by cases h) dX4_meets_281
              · have hj26 := hj0
                refine jn0_use (J := ∀ ls : Array Slot, lv_has ls 10 [(0, .ref (ad 0))] → W p l e rm_X4_meets s m args below meth c H [] 0 0 Q (F0 m 280 ls [])) hw (fun hw ls hl => ?_) (fun hw hj0 => ?_)
                · refine lv_iconst (v := 0) hx hb dX4_meets_280 (by decide) ?_
                  exact hj26 (0 : Int32) hw ls (lv_sub hl [0] rfl)
                · have hj28 := hj0
                  refine lv_if_ge (tgt := 280) hx hb dX4_meets_241 (by decide) (fun hc => ?_) (fun hc => ?_)
                  · have hw := hw.1 (hc)
                    exact hj28 hw ls (lv_sub hl [0] rfl)
                  · have hw := hw.2 hc
                    refine lv_iload hx hb dX4_meets_244 (lv_at hl 5 rfl) ?_
                    refine lv_iload hx hb dX4_meets_246 (lv_at hl 6 rfl) ?_
                    refine lv_iload hx hb dX4_meets_248 (lv_at hl 7 rfl) ?_
                    refine lv_iload hx hb dX4_meets_250 (lv_at hl 8 rfl) ?_
                    refine lv_iload_n hx hb dX4_meets_252 rfl (lv_at hl 1 rfl) ?_
                    refine lv_iload_n hx hb dX4_meets_253 rfl (lv_at hl 2 rfl) ?_
                    refine vp_callSi (W.runS (As := [.int a1, .int a2, .int a3, .int a4, .int v2, .int v3]) (rest := []) C (c_X4_side l a1 a2 a3 a4 v2 v3 hw) (va_cwS 6 hts gX4_meets_X4_side rfl rfl rfl (by decide +kernel) ⟨Nat.le_of_ble_eq_true rfl, Nat.le_of_ble_eq_true rfl⟩) ⟨fb_st, fun U hU hW => ⟨rfl, trivial⟩⟩ rfl rfl hl.1 rfl (lv_room (Nat.le_of_ble_eq_true rfl)) dX4_meets_254 ⟨Nat.zero_le _, Nat.zero_le _⟩) (fun r29 hw => ?_)
                    refine lv_iload hx hb dX4_meets_257 (lv_at hl 5 rfl) ?_
                    refine lv_iload hx hb dX4_meets_259 (lv_at hl 6 rfl) ?_
                    refine lv_iload hx hb dX4_meets_261 (lv_at hl 7 rfl) ?_
                    refine lv_iload hx hb dX4_meets_263 (lv_at hl 8 rfl) ?_
                    refine lv_iload hx hb dX4_meets_265 (lv_at hl 3 rfl) ?_
                    refine lv_iload hx hb dX4_meets_267 (lv_at hl 4 rfl) ?_
                    refine vp_callSi (W.runS (As := [.int a1, .int a2, .int a3, .int a4, .int v4, .int v5]) (rest := [.int r29]) C (c_X4_side l a1 a2 a3 a4 v4 v5 hw) (va_cwS 6 hts gX4_meets_X4_side rfl rfl rfl (by decide +kernel) ⟨Nat.le_of_ble_eq_true rfl, Nat.le_of_ble_eq_true rfl⟩) ⟨fb_st, fun U hU hW => ⟨rfl, trivial⟩⟩ rfl rfl hl.1 rfl (lv_room (Nat.le_of_ble_eq_true rfl)) dX4_meets_269 ⟨Nat.zero_le _, Nat.zero_le _⟩) (fun r30 hw => ?_)
                    refine lv_imul hx hb dX4_meets_272 ?_
                    refine lv_if_ge (tgt := 280) hx hb dX4_meets_273 (by decide) (fun hc => ?_) (fun hc => ?_)
                    · have hw := hw.1 (hc)
                      exact hj28 hw ls (lv_sub hl [0] rfl)
                    · have hw := hw.2 hc
                      refine lv_iconst (v := 1) hx hb dX4_meets_276 (by decide) ?_
                      refine lv_goto (tgt := 281) hx hb dX4_meets_277 (by decide) ?_
                      exact hj26 (1 : Int32) hw ls (lv_sub hl [0] rfl)
            · have hj21 := hj0
              refine lv_if_eq (tgt := 214) hx hb dX4_meets_197 (by decide) (fun hc => ?_) (fun hc => ?_)
              · have hw := hw.1 (hc)
                exact hj21 hw ls (lv_sub hl [0, 2, 3, 4, 5, 6, 7, 8, 9] rfl)
              · have hw := hw.2 hc
                refine lv_aload_n hx hb dX4_meets_200 rfl (lv_at hl 0 rfl) ?_
                refine lv_iload_n hx hb dX4_meets_201 rfl (lv_at hl 1 rfl) ?_
                refine lv_iload hx hb dX4_meets_202 (lv_at hl 4 rfl) ?_
                refine lv_iload hx hb dX4_meets_204 (lv_at hl 5 rfl) ?_
                refine vp_callSi (W.runV (As := [.int v1, .int v4, .int v5]) (rest := []) C (c_X4_isEnd l dC dI cI cJ cZ ad mre mth mxs mys mcu mnx mpo mpn mrn mrd mfi mar mfn mfa mnu mst v1 v4 v5 hw) (cwV 3 hts gX4_meets_X4_isEnd rfl rfl rfl (by decide +kernel) ⟨Nat.le_of_ble_eq_true rfl, Nat.le_of_ble_eq_true rfl⟩) ⟨fb_ro, va_recv hK hP (ci := 4) (q0 := 0) rfl rfl, fun U hU hW => ⟨rfl, by rw [hU]; exact hP, va_K.moved hW.alike hK⟩⟩ rfl rfl hl.1 rfl (lv_room (Nat.le_of_ble_eq_true rfl)) dX4_meets_206 ⟨Nat.zero_le _, Nat.zero_le _⟩) (fun r31 hw => ?_)
                refine lv_if_ne (tgt := 214) hx hb dX4_meets_209 (by decide) (fun hc => ?_) (fun hc => ?_)
                · have hw := hw.2 hc
                  exact hj21 hw ls (lv_sub hl [0, 2, 3, 4, 5, 6, 7, 8, 9] rfl)
                · have hw := hw.1 (hc)
                  exact hj16 hw ls (lv_sub hl [0] rfl)
          · have hj18 := hj0
            refine lv_if_eq (tgt := 182) hx hb dX4_meets_169 (by decide) (fun hc => ?_) (fun hc => ?_)
            · have hw := hw.1 (hc)
              exact hj18 hw ls (lv_sub hl [0, 1, 2, 3, 4, 5, 6, 7, 8, 9] rfl)
            · have hw := hw.2 hc
              refine lv_aload_n hx hb dX4_meets_172 rfl (lv_at hl 0 rfl) ?_
              refine lv_iload_n hx hb dX4_meets_173 rfl (lv_at hl 1 rfl) ?_
              refine lv_iload_n hx hb dX4_meets_174 rfl (lv_at hl 2 rfl) ?_
              refine lv_iload_n hx hb dX4_meets_175 rfl (lv_at hl 3 rfl) ?_
              refine vp_callSi (W.runV (As := [.int v1, .int v2, .int v3]) (rest := []) C (c_X4_isEnd l dC dI cI cJ cZ ad mre mth mxs mys mcu mnx mpo mpn mrn mrd mfi mar mfn mfa mnu mst v1 v2 v3 hw) (cwV 3 hts gX4_meets_X4_isEnd rfl rfl rfl (by decide +kernel) ⟨Nat.le_of_ble_eq_true rfl, Nat.le_of_ble_eq_true rfl⟩) ⟨fb_ro, va_recv hK hP (ci := 4) (q0 := 0) rfl rfl, fun U hU hW => ⟨rfl, by rw [hU]; exact hP, va_K.moved hW.alike hK⟩⟩ rfl rfl hl.1 rfl (lv_room (Nat.le_of_ble_eq_true rfl)) dX4_meets_176 ⟨Nat.zero_le _, Nat.zero_le _⟩) (fun r32 hw => ?_)
              refine lv_if_eq (tgt := 212) hx hb dX4_meets_179 (by decide) (fun hc => ?_) (fun hc => ?_)
              · have hw := hw.1 (hc)
                exact hj16 hw ls (lv_sub hl [0] rfl)
              · have hw := hw.2 hc
                exact hj18 hw ls (lv_sub hl [0, 1, 2, 3, 4, 5, 6, 7, 8, 9] rfl)
      · have hj13 := hj0
        refine lv_if_eq (tgt := 156) hx hb dX4_meets_125 (by decide) (fun hc => ?_) (fun hc => ?_)
        · have hw := hw.1 (hc)
          exact hj13 hw ls (lv_sub hl [0, 1, 2, 3, 4, 5, 6, 7, 8, 9] rfl)
        · have hw := hw.2 hc
          refine lv_iload hx hb dX4_meets_128 (lv_at hl 8 rfl) ?_
          refine lv_iload_n hx hb dX4_meets_130 rfl (lv_at hl 2 rfl) ?_
          refine jn0_use (J := ∀ ls : Array Slot, lv_has ls 10 [(0, .ref (ad 0)), (1, .int v1), (2, .int v2), (3, .int v3), (4, .int v4), (5, .int v5), (6, .int a1), (7, .int a2), (8, .int a3), (9, .int a4)] → W p l e rm_X4_meets s m args below meth c H [] 0 0 Q (F0 m 140 ls [])) hw (fun hw ls hl => ?_) (fun hw hj0 => ?_)
          · refine lv_iload hx hb dX4_meets_140 (lv_at hl 8 rfl) ?_
            refine lv_iload hx hb dX4_meets_142 (lv_at hl 4 rfl) ?_
            refine jn0_use (J := ∀ ls : Array Slot, lv_has ls 10 [(0, .ref (ad 0))] → W p l e rm_X4_meets s m args below meth c H [] 0 0 Q (F0 m 154 ls [])) hw (fun hw ls hl => ?_) (fun hw hj0 => ?_)
            · refine lv_iconst (v := 1) hx hb dX4_meets_154 (by decide) ?_
              rw [← hQ]
              exact W.zret (v := (1 : Int32)) (ty := .boolean) hx hb hr (bz_n hw.1) (fun t ht hW => ⟨_, rfl, hw.2, ht.trans hH.symm⟩) (fun q h => by cases h) dX4_meets_155
            · have hj36 := hj0
              refine lv_icmp_ne (tgt := 154) hx hb dX4_meets_144 (by decide) (fun hc => ?_) (fun hc => ?_)
              · have hw := hw.2 hc
                exact hj36 hw ls (lv_sub hl [0] rfl)
              · have hw := hw.1 (hc)
                refine lv_iload hx hb dX4_meets_147 (lv_at hl 9 rfl) ?_
                refine lv_iload hx hb dX4_meets_149 (lv_at hl 5 rfl) ?_
                refine lv_icmp_eq (tgt := 156) hx hb dX4_meets_151 (by decide) (fun hc => ?_) (fun hc => ?_)
                · have hw := hw.1 (hc)
                  exact hj13 hw ls (lv_sub hl [0, 1, 2, 3, 4, 5, 6, 7, 8, 9] rfl)
                · have hw := hw.2 hc
                  exact hj36 hw ls (lv_sub hl [0] rfl)
          · have hj34 := hj0
            refine lv_icmp_ne (tgt := 140) hx hb dX4_meets_131 (by decide) (fun hc => ?_) (fun hc => ?_)
            · have hw := hw.2 hc
              exact hj34 hw ls (lv_sub hl [0, 1, 2, 3, 4, 5, 6, 7, 8, 9] rfl)
            · have hw := hw.1 (hc)
              refine lv_iload hx hb dX4_meets_134 (lv_at hl 9 rfl) ?_
              refine lv_iload_n hx hb dX4_meets_136 rfl (lv_at hl 3 rfl) ?_
              refine lv_icmp_eq (tgt := 156) hx hb dX4_meets_137 (by decide) (fun hc => ?_) (fun hc => ?_)
              · have hw := hw.1 (hc)
                exact hj13 hw ls (lv_sub hl [0, 1, 2, 3, 4, 5, 6, 7, 8, 9] rfl)
              · have hw := hw.2 hc
                exact hj34 hw ls (lv_sub hl [0, 1, 2, 3, 4, 5, 6, 7, 8, 9] rfl)
    · have hj10 := hj0
      refine lv_if_eq (tgt := 112) hx hb dX4_meets_81 (by decide) (fun hc => ?_) (fun hc => ?_)
      · have hw := hw.1 (hc)
        exact hj10 hw ls (lv_sub hl [0, 1, 2, 3, 4, 5, 6, 7, 8, 9] rfl)
      · have hw := hw.2 hc
        refine lv_iload hx hb dX4_meets_84 (lv_at hl 6 rfl) ?_
        refine lv_iload_n hx hb dX4_meets_86 rfl (lv_at hl 2 rfl) ?_
        refine jn0_use (J := ∀ ls : Array Slot, lv_has ls 10 [(0, .ref (ad 0)), (1, .int v1), (2, .int v2), (3, .int v3), (4, .int v4), (5, .int v5), (6, .int a1), (7, .int a2), (8, .int a3), (9, .int a4)] → W p l e rm_X4_meets s m args below meth c H [] 0 0 Q (F0 m 96 ls [])) hw (fun hw ls hl => ?_) (fun hw hj0 => ?_)
        · refine lv_iload hx hb dX4_meets_96 (lv_at hl 6 rfl) ?_
          refine lv_iload hx hb dX4_meets_98 (lv_at hl 4 rfl) ?_
          refine jn0_use (J := ∀ ls : Array Slot, lv_has ls 10 [(0, .ref (ad 0))] → W p l e rm_X4_meets s m args below meth c H [] 0 0 Q (F0 m 110 ls [])) hw (fun hw ls hl => ?_) (fun hw hj0 => ?_)
          · refine lv_iconst (v := 1) hx hb dX4_meets_110 (by decide) ?_
            rw [← hQ]
            exact W.zret (v := (1 : Int32)) (ty := .boolean) hx hb hr (bz_n hw.1) (fun t ht hW => ⟨_, rfl, hw.2, ht.trans hH.symm⟩) (fun q h => by cases h) dX4_meets_111
          · have hj40 := hj0
            refine lv_icmp_ne (tgt := 110) hx hb dX4_meets_100 (by decide) (fun hc => ?_) (fun hc => ?_)
            · have hw := hw.2 hc
              exact hj40 hw ls (lv_sub hl [0] rfl)
            · have hw := hw.1 (hc)
              refine lv_iload hx hb dX4_meets_103 (lv_at hl 7 rfl) ?_
              refine lv_iload hx hb dX4_meets_105 (lv_at hl 5 rfl) ?_
              refine lv_icmp_eq (tgt := 112) hx hb dX4_meets_107 (by decide) (fun hc => ?_) (fun hc => ?_)
              · have hw := hw.1 (hc)
                exact hj10 hw ls (lv_sub hl [0, 1, 2, 3, 4, 5, 6, 7, 8, 9] rfl)
              · have hw := hw.2 hc
                exact hj40 hw ls (lv_sub hl [0] rfl)
        · have hj38 := hj0
          refine lv_icmp_ne (tgt := 96) hx hb dX4_meets_87 (by decide) (fun hc => ?_) (fun hc => ?_)
          · have hw := hw.2 hc
            exact hj38 hw ls (lv_sub hl [0, 1, 2, 3, 4, 5, 6, 7, 8, 9] rfl)
          · have hw := hw.1 (hc)
            refine lv_iload hx hb dX4_meets_90 (lv_at hl 7 rfl) ?_
            refine lv_iload_n hx hb dX4_meets_92 rfl (lv_at hl 3 rfl) ?_
            refine lv_icmp_eq (tgt := 112) hx hb dX4_meets_93 (by decide) (fun hc => ?_) (fun hc => ?_)
            · have hw := hw.1 (hc)
              exact hj10 hw ls (lv_sub hl [0, 1, 2, 3, 4, 5, 6, 7, 8, 9] rfl)
            · have hw := hw.2 hc
              exact hj38 hw ls (lv_sub hl [0, 1, 2, 3, 4, 5, 6, 7, 8, 9] rfl)
  · have hj7 := hj0
    refine lv_if_eq (tgt := 68) hx hb dX4_meets_51 (by decide) (fun hc => ?_) (fun hc => ?_)
    · have hw := hw.1 (hc)
      exact hj7 hw ls (lv_sub hl [4, 5, 6, 7, 8, 9, 3, 2, 1, 0] rfl)
    · have hw := hw.2 hc
      refine lv_aload_n hx hb dX4_meets_54 rfl (lv_at hl 4 rfl) ?_
      refine lv_iload_n hx hb dX4_meets_55 rfl (lv_at hl 5 rfl) ?_
      refine lv_iload hx hb dX4_meets_56 (lv_at hl 8 rfl) ?_
      refine lv_iload hx hb dX4_meets_58 (lv_at hl 9 rfl) ?_
      refine vp_callSi (W.runV (As := [.int v1, .int v4, .int v5]) (rest := []) C (c_X4_isEnd l dC dI cI cJ cZ ad mre mth mxs mys mcu mnx mpo mpn mrn mrd mfi mar mfn mfa mnu mst v1 v4 v5 hw) (cwV 3 hts gX4_meets_X4_isEnd rfl rfl rfl (by decide +kernel) ⟨Nat.le_of_ble_eq_true rfl, Nat.le_of_ble_eq_true rfl⟩) ⟨fb_ro, va_recv hK hP (ci := 4) (q0 := 0) rfl rfl, fun U hU hW => ⟨rfl, by rw [hU]; exact hP, va_K.moved hW.alike hK⟩⟩ rfl rfl hl.1 rfl (lv_room (Nat.le_of_ble_eq_true rfl)) dX4_meets_60 ⟨Nat.zero_le _, Nat.zero_le _⟩) (fun r41 hw => ?_)
      refine lv_if_eq (tgt := 68) hx hb dX4_meets_63 (by decide) (fun hc => ?_) (fun hc => ?_)
      · have hw := hw.1 (hc)
        exact hj7 hw ls (lv_sub hl [4, 5, 6, 7, 8, 9, 3, 2, 1, 0] rfl)
      · have hw := hw.2 hc
        refine lv_iconst (v := 1) hx hb dX4_meets_66 (by decide) ?_
        rw [← hQ]
        exact W.zret (v := (1 : Int32)) (ty := .boolean) hx hb hr (bz_n hw.1) (fun t ht hW => ⟨_, rfl, hw.2, ht.trans hH.symm⟩) (fun q h => by cases h) dX4_meets_67
-- X4_add
abbrev rm_X4_add : Room := { frames := 4, cells := 0, slots := 0, locals := 103 }
theorem f_X4_add_0 : (Cond.fieldLink RX4 7 "PlaneFacesModel" "isThere" "[Z") ∈ wsX4_add := by decide +kernel
theorem f_X4_add_1 : ∀ w ∈ wsX40, w ∈ wsX4_add := by decide +kernel
theorem f_X4_add_2 : (Cond.fieldLink RX4 13 "PlaneFacesModel" "xs" "[I") ∈ wsX4_add := by decide +kernel
theorem f_X4_add_3 : (Cond.fieldLink RX4 17 "PlaneFacesModel" "ys" "[I") ∈ wsX4_add := by decide +kernel
theorem f_X4_add_4 : (Cond.fieldLink RX4 76 "PlaneFacesModel" "isCurrent" "Z") ∈ wsX4_add := by decide +kernel
set_option maxRecDepth 100000 in
set_option maxHeartbeats 4000000 in
theorem l_X4_add_54 {p : Program} {l : Launch} {e : Env} {s : State} {m : MethodId} {args : Array Value} {below : List Frame} {meth : Method} {c : Code} {Q : State → Prop} {dC : Nat → ClassId} {dI : Nat → Nat → Nat} {cI cJ cZ : ClassId} {ad : Nat → Nat} {mre : Int32} {mth : Nat → Int32} {mxs : Nat → Int32} {mys : Nat → Int32} {mcu : Int32} {mnx : Nat → Int32} {mpo : Nat → Int32} {mpn : Int32} {mrn : Int32} {mrd : Nat → Int32} {mfi : Nat → Int32} {mar : Nat → Int64} {mfn : Int32} {mfa : Nat → Int32} {mnu : Nat → Int32} {mst : Nat → Int32} {v1 : Int32} {v2 : Int32} {v3 : Int32} {v4 : Int32} {v5 : Int32} {K84 : Int32 → Prop} (C : CallFix p m c cX4_add 8 s args wsX4_add RX4) (hK : va_K (dC, dI) vwCl (tyL cI cJ cZ) s) {A : Nat → Prop} (hA : ∀ q : Nat, s.heap.size ≤ q → A q) (hk84 : ∀ (w6 : Int32) (ls : Array Slot) (H : Heap) (locs : List Loc), lv_has ls 8 [(0, .ref (ad 0)), (1, .int v1), (2, .int v2), (3, .int v3), (4, .int v4), (5, .int v5), (6, .int w6)] → va_P (dC, dI) vwCl (wMod ad cI cJ cZ mre mth mxs mys mcu mnx mpo mpn mrn mrd mfi mar mfn mfa mnu mst) H → va_D A (wMod ad cI cJ cZ mre mth mxs mys mcu mnx mpo mpn mrn mrd mfi mar mfn mfa mnu mst) → va_S A s.heap H locs → K84 w6 → W p l e rm_X4_add s m args below meth c H locs 0 0 Q (F0 m 84 ls [])) : ∀ (n : Nat) (v6 : Int32) (v7 : Int32) (ls : Array Slot) (H : Heap) (locs : List Loc), lv_has ls 8 [(0, .ref (ad 0)), (1, .int v1), (2, .int v2), (3, .int v3), (4, .int v4), (5, .int v5), (6, .int v6), (7, .int v7)] → va_P (dC, dI) vwCl (wMod ad cI cJ cZ mre mth mxs mys mcu mnx mpo mpn mrn mrd mfi mar mfn mfa mnu mst) H → va_D A (wMod ad cI cJ cZ mre mth mxs mys mcu mnx mpo mpn mrn mrd mfi mar mfn mfa mnu mst) → va_S A s.heap H locs → lp_X4_add_54 mre mth mxs mys mcu v1 v2 v3 v4 v5 K84 n v6 v7 → W p l e rm_X4_add s m args below meth c H locs 0 0 Q (F0 m 54 ls []) := by
  obtain ⟨hx, hb, hml, hown, hts⟩ := id C
  intro n
  induction n with
  | zero =>
    intro v6 v7 ls H locs hl hP hD hS hw
    rw [lp_X4_add_54.eq_1] at hw
    exact hw.elim
  | succ n ih =>
    intro v6 v7 ls H locs hl hP hD hS hw
    rw [lp_X4_add_54.eq_2] at hw
    refine lv_iload hx hb dX4_add_54 (lv_at hl 7 rfl) ?_
    refine lv_if_lt (tgt := 84) hx hb dX4_add_56 (by decide) (fun hc => ?_) (fun hc => ?_)
    · have hw := hw.1 (hc)
      exact hk84 v6 ls _ _ (lv_sub hl [0, 1, 2, 3, 4, 5, 6] rfl) hP hD hS hw
    · have hw := hw.2 hc
      refine lv_aload_n hx hb dX4_add_59 rfl (lv_at hl 0 rfl) ?_
      refine va_get (D := (dC, dI)) (ci := 4) (v := .ref (ad 1)) (C := RX4) (T := TX4) (N := 16) hx hb hts f_X4_add_1 hown hK hP 0 rfl rfl 1 (by decide) (hts _ f_X4_add_0) (fun _ h9 => h9) rfl dX4_add_60 ?_
      refine lv_iload hx hb dX4_add_63 (lv_at hl 7 rfl) ?_
      have hi := hw.1
      have hw := hw.2
      refine va_zald hx hb hK hP 1 2 rfl rfl hi dX4_add_65 ?_
      refine jn1_use (J := fun (k5 : Int32) => ∀ (ls : Array Slot) (H : Heap) (locs : List Loc), lv_has ls 8 [(0, .ref (ad 0)), (1, .int v1), (2, .int v2), (3, .int v3), (4, .int v4), (5, .int v5), (7, .int v7)] → va_P (dC, dI) vwCl (wMod ad cI cJ cZ mre mth mxs mys mcu mnx mpo mpn mrn mrd mfi mar mfn mfa mnu mst) H → va_D A (wMod ad cI cJ cZ mre mth mxs mys mcu mnx mpo mpn mrn mrd mfi mar mfn mfa mnu mst) → va_S A s.heap H locs → W p l e rm_X4_add s m args below meth c H locs 0 0 Q (F0 m 76 ls [.int k5])) hw (fun k5 hw ls H locs hl hP hD hS => ?_) (fun hw hj0 => ?_)
      · refine lv_istore (lv' := [(6, .int k5), (0, .ref (ad 0)), (1, .int v1), (2, .int v2), (3, .int v3), (4, .int v4), (5, .int v5), (7, .int v7)]) hx hb dX4_add_76 hl (by decide) rfl (fun ls hl => ?_)
        refine lv_iinc (v := (v7 + (-1 : Int32))) (lv' := [(7, .int (v7 + (-1 : Int32))), (6, .int k5), (0, .ref (ad 0)), (1, .int v1), (2, .int v2), (3, .int v3), (4, .int v4), (5, .int v5)]) hx hb dX4_add_78 hl (k := 7) rfl rfl (by decide) rfl (fun ls hl => ?_)
        refine lv_goto (tgt := 54) hx hb dX4_add_81 (by decide) ?_
        exact ih k5 (v7 + (-1 : Int32)) ls _ _ (lv_sub hl [2, 3, 4, 5, 6, 7, 1, 0] rfl) hP hD hS hw
      · have hj7 := hj0
        refine lv_if_eq (tgt := 74) hx hb dX4_add_66 (by decide) (fun hc => ?_) (fun hc => ?_)
        · have hw := hw.1 (hc)
          refine lv_iload hx hb dX4_add_74 (lv_at hl 7 rfl) ?_
          exact hj7 v7 hw ls _ _ (lv_sub hl [0, 1, 2, 3, 4, 5, 7] rfl) hP hD hS
        · have hw := hw.2 hc
          refine lv_iload hx hb dX4_add_69 (lv_at hl 6 rfl) ?_
          refine lv_goto (tgt := 76) hx hb dX4_add_71 (by decide) ?_
          exact hj7 v6 hw ls _ _ (lv_sub hl [0, 1, 2, 3, 4, 5, 7] rfl) hP hD hS
set_option maxRecDepth 100000 in
set_option maxHeartbeats 4000000 in
theorem l_X4_add_115 {p : Program} {l : Launch} {e : Env} {s : State} {m : MethodId} {args : Array Value} {below : List Frame} {meth : Method} {c : Code} {Q : State → Prop} {dC : Nat → ClassId} {dI : Nat → Nat → Nat} {cI cJ cZ : ClassId} {ad : Nat → Nat} {mre : Int32} {mth : Nat → Int32} {mxs : Nat → Int32} {mys : Nat → Int32} {mcu : Int32} {mnx : Nat → Int32} {mpo : Nat → Int32} {mpn : Int32} {mrn : Int32} {mrd : Nat → Int32} {mfi : Nat → Int32} {mar : Nat → Int64} {mfn : Int32} {mfa : Nat → Int32} {mnu : Nat → Int32} {mst : Nat → Int32} {v1 : Int32} {v2 : Int32} {v3 : Int32} {v4 : Int32} {v6 : Int32} {K146 : Prop} {K154 : Prop} (C : CallFix p m c cX4_add 8 s args wsX4_add RX4) (hK : va_K (dC, dI) vwCl (tyL cI cJ cZ) s) {A : Nat → Prop} (hA : ∀ q : Nat, s.heap.size ≤ q → A q) (hk146 : ∀  (ls : Array Slot) (H : Heap) (locs : List Loc), lv_has ls 8 [(0, .ref (ad 0))] → va_P (dC, dI) vwCl (wMod ad cI cJ cZ mre mth mxs mys mcu mnx mpo mpn mrn mrd mfi mar mfn mfa mnu mst) H → va_D A (wMod ad cI cJ cZ mre mth mxs mys mcu mnx mpo mpn mrn mrd mfi mar mfn mfa mnu mst) → va_S A s.heap H locs → K146 → W p l e rm_X4_add s m args below meth c H locs 0 0 Q (F0 m 146 ls [])) (hk154 : ∀  (ls : Array Slot) (H : Heap) (locs : List Loc), lv_has ls 8 [(0, .ref (ad 0)), (1, .int v1), (2, .int v2), (3, .int v3), (4, .int v4), (6, .int v6)] → va_P (dC, dI) vwCl (wMod ad cI cJ cZ mre mth mxs mys mcu mnx mpo mpn mrn mrd mfi mar mfn mfa mnu mst) H → va_D A (wMod ad cI cJ cZ mre mth mxs mys mcu mnx mpo mpn mrn mrd mfi mar mfn mfa mnu mst) → va_S A s.heap H locs → K154 → W p l e rm_X4_add s m args below meth c H locs 0 0 Q (F0 m 154 ls [])) : ∀ (n : Nat) (v7 : Int32) (ls : Array Slot) (H : Heap) (locs : List Loc), lv_has ls 8 [(0, .ref (ad 0)), (1, .int v1), (2, .int v2), (3, .int v3), (4, .int v4), (6, .int v6), (7, .int v7)] → va_P (dC, dI) vwCl (wMod ad cI cJ cZ mre mth mxs mys mcu mnx mpo mpn mrn mrd mfi mar mfn mfa mnu mst) H → va_D A (wMod ad cI cJ cZ mre mth mxs mys mcu mnx mpo mpn mrn mrd mfi mar mfn mfa mnu mst) → va_S A s.heap H locs → lp_X4_add_115 mre mth mxs mys mcu v1 v2 v3 v4 v6 K146 K154 n v7 → W p l e rm_X4_add s m args below meth c H locs 0 0 Q (F0 m 115 ls []) := by
  obtain ⟨hx, hb, hml, hown, hts⟩ := id C
  intro n
  induction n with
  | zero =>
    intro v7 ls H locs hl hP hD hS hw
    rw [lp_X4_add_115.eq_1] at hw
    exact hw.elim
  | succ n ih =>
    intro v7 ls H locs hl hP hD hS hw
    rw [lp_X4_add_115.eq_2] at hw
    refine lv_iload hx hb dX4_add_115 (lv_at hl 6 rfl) ?_
    refine lv_bipush (v := 60) hx hb dX4_add_117 (by decide) ?_
    refine lv_icmp_ge (tgt := 154) hx hb dX4_add_119 (by decide) (fun hc => ?_) (fun hc => ?_)
    · have hw := hw.1 (hc)
      exact hk154 ls _ _ (lv_sub hl [0, 1, 2, 3, 4, 5] rfl) hP hD hS hw
    · have hw := hw.2 hc
      refine lv_aload_n hx hb dX4_add_122 rfl (lv_at hl 0 rfl) ?_
      refine va_get (D := (dC, dI)) (ci := 4) (v := .ref (ad 1)) (C := RX4) (T := TX4) (N := 16) hx hb hts f_X4_add_1 hown hK hP 0 rfl rfl 1 (by decide) (hts _ f_X4_add_0) (fun _ h9 => h9) rfl dX4_add_123 ?_
      refine lv_iload hx hb dX4_add_126 (lv_at hl 6 rfl) ?_
      have hi := hw.1
      have hw := hw.2
      refine va_zald hx hb hK hP 1 2 rfl rfl hi dX4_add_128 ?_
      refine jn0_use (J := ∀ (ls : Array Slot) (H : Heap) (locs : List Loc), lv_has ls 8 [(0, .ref (ad 0)), (1, .int v1), (2, .int v2), (3, .int v3), (4, .int v4), (6, .int v6), (7, .int v7)] → va_P (dC, dI) vwCl (wMod ad cI cJ cZ mre mth mxs mys mcu mnx mpo mpn mrn mrd mfi mar mfn mfa mnu mst) H → va_D A (wMod ad cI cJ cZ mre mth mxs mys mcu mnx mpo mpn mrn mrd mfi mar mfn mfa mnu mst) → va_S A s.heap H locs → W p l e rm_X4_add s m args below meth c H locs 0 0 Q (F0 m 148 ls [])) hw (fun hw ls H locs hl hP hD hS => ?_) (fun hw hj0 => ?_)
      · refine lv_iinc (v := (v7 + (1 : Int32))) (lv' := [(7, .int (v7 + (1 : Int32))), (0, .ref (ad 0)), (1, .int v1), (2, .int v2), (3, .int v3), (4, .int v4), (6, .int v6)]) hx hb dX4_add_148 hl (k := 6) rfl rfl (by decide) rfl (fun ls hl => ?_)
        refine lv_goto (tgt := 115) hx hb dX4_add_151 (by decide) ?_
        exact ih (v7 + (1 : Int32)) ls _ _ (lv_sub hl [1, 2, 3, 4, 5, 6, 0] rfl) hP hD hS hw
      · have hj15 := hj0
        refine lv_if_eq (tgt := 148) hx hb dX4_add_129 (by decide) (fun hc => ?_) (fun hc => ?_)
        · have hw := hw.1 (hc)
          exact hj15 hw ls _ _ (lv_sub hl [0, 1, 2, 3, 4, 5, 6] rfl) hP hD hS
        · have hw := hw.2 hc
          refine lv_aload_n hx hb dX4_add_132 rfl (lv_at hl 0 rfl) ?_
          refine lv_iload hx hb dX4_add_133 (lv_at hl 6 rfl) ?_
          refine lv_iload_n hx hb dX4_add_135 rfl (lv_at hl 1 rfl) ?_
          refine lv_iload_n hx hb dX4_add_136 rfl (lv_at hl 2 rfl) ?_
          refine lv_iload_n hx hb dX4_add_137 rfl (lv_at hl 3 rfl) ?_
          refine lv_iload hx hb dX4_add_138 (lv_at hl 4 rfl) ?_
          refine vp_callSi (W.runV (As := [.int v7, .int v1, .int v2, .int v3, .int v4]) (rest := []) C (c_X4_meets l dC dI cI cJ cZ ad mre mth mxs mys mcu mnx mpo mpn mrn mrd mfi mar mfn mfa mnu mst v7 v1 v2 v3 v4 hw) (cwV 5 hts gX4_add_X4_meets rfl rfl rfl (by decide +kernel) ⟨Nat.le_of_ble_eq_true rfl, Nat.le_of_ble_eq_true rfl⟩) ⟨fb_ro, va_recv hK hP (ci := 4) (q0 := 0) rfl rfl, fun U hU hW => ⟨rfl, by rw [hU]; exact hP, va_K.moved hW.alike hK⟩⟩ rfl rfl hl.1 rfl (lv_room (Nat.le_of_ble_eq_true rfl)) dX4_add_140 ⟨Nat.zero_le _, Nat.zero_le _⟩) (fun r16 hw => ?_)
          refine lv_if_eq (tgt := 148) hx hb dX4_add_143 (by decide) (fun hc => ?_) (fun hc => ?_)
          · have hw := hw.1 (hc)
            exact hj15 hw ls _ _ (lv_sub hl [0, 1, 2, 3, 4, 5, 6] rfl) hP hD hS
          · have hw := hw.2 hc
            exact hk146 ls _ _ (lv_sub hl [0] rfl) hP hD hS hw
set_option maxRecDepth 100000 in
set_option maxHeartbeats 4000000 in
theorem c_X4_add (l : Launch) (dC : Nat → ClassId) (dI : Nat → Nat → Nat) (cI cJ cZ : ClassId) (ad : Nat → Nat) (sz : Nat) (mre : Int32) (mth : Nat → Int32) (mxs : Nat → Int32) (mys : Nat → Int32) (mcu : Int32) (mnx : Nat → Int32) (mpo : Nat → Int32) (mpn : Int32) (mrn : Int32) (mrd : Nat → Int32) (mfi : Nat → Int32) (mar : Nat → Int64) (mfn : Int32) (mfa : Nat → Int32) (mnu : Nat → Int32) (mst : Nat → Int32) (v1 : Int32) (v2 : Int32) (v3 : Int32) (v4 : Int32) {post : Int32 → Int32 → (Nat → Int32) → (Nat → Int32) → (Nat → Int32) → Int32 → Prop} (hw : wp_X4_add mre mth mxs mys mcu v1 v2 v3 v4 post) : Met l yX4_add wsX4_add rm_X4_add (va_Pc [.ref (ad 0), .int v1, .int v2, .int v3, .int v4] (fun U => U.heap.size = sz ∧ va_P (dC, dI) vwCl (wMod ad cI cJ cZ mre mth mxs mys mcu mnx mpo mpn mrn mrd mfi mar mfn mfa mnu mst) U.heap ∧ va_K (dC, dI) vwCl (tyL cI cJ cZ) U ∧ va_D (fun _ => True) (wMod ad cI cJ cZ mre mth mxs mys mcu mnx mpo mpn mrn mrd mfi mar mfn mfa mnu mst))) (va_Qi (fun (r : Int32) (uu : Int32 × (Nat → Int32) × (Nat → Int32) × (Nat → Int32) × Int32) => post r uu.1 uu.2.1 uu.2.2.1 uu.2.2.2.1 uu.2.2.2.2) (fun (uu : Int32 × (Nat → Int32) × (Nat → Int32) × (Nat → Int32) × Int32) (t : State) => va_P (dC, dI) vwCl (wMod ad cI cJ cZ uu.1 uu.2.1 uu.2.2.1 uu.2.2.2.1 uu.2.2.2.2 mnx mpo mpn mrn mrd mfi mar mfn mfa mnu mst) t.heap ∧ va_D (va_A (wMod ad cI cJ cZ mre mth mxs mys mcu mnx mpo mpn mrn mrd mfi mar mfn mfa mnu mst) sz) (wMod ad cI cJ cZ uu.1 uu.2.1 uu.2.2.1 uu.2.2.2.1 uu.2.2.2.2 mnx mpo mpn mrn mrd mfi mar mfn mfa mnu mst)) (va_A (wMod ad cI cJ cZ mre mth mxs mys mcu mnx mpo mpn mrn mrd mfi mar mfn mfa mnu mst) sz)) 0 0 (va_A (wMod ad cI cJ cZ mre mth mxs mys mcu mnx mpo mpn mrn mrd mfi mar mfn mfa mnu mst) sz) := by
  unfold wp_X4_add at hw
  refine Met.ofW (cc := cX4_add) (maxL := 8) (ret := (some .int)) (by decide) rfl ?_
  intro p e s m args below meth c s₁ B hml hv
  obtain ⟨hav, hsz, hP, hK, hD0⟩ := hv
  have hx := B.exec
  have hb := B.bytes
  have hr := B.returns
  have hts := atoms_spec (ws := wsX4_add) B.pre
  have hown : s.vm.findClass RX4 = some m.cls := findClass_of_methodNamed B.named
  have hlocks := B.notSynchronized
  have C : CallFix p m c cX4_add 8 s args wsX4_add RX4 := ⟨hx, hb, hml, hown, hts⟩
  obtain ⟨ls, hE, hl⟩ := mx_entry (m := m) [.ref (ad 0), .int v1, .int v2, .int v3, .int v4] (n := 8) (Nat.le_of_ble_eq_true rfl)
  have hl : lv_has ls 8 [(0, .ref (ad 0)), (1, .int v1), (2, .int v2), (3, .int v3), (4, .int v4)] := hl
  rw [show entryFrame m args 8 = F0 m 0 ls [] by rw [hav]; exact hE]
  subst hsz
  have hD := hD0.self (sz := s.heap.size)
  generalize hAe : va_A (wMod ad cI cJ cZ mre mth mxs mys mcu mnx mpo mpn mrn mrd mfi mar mfn mfa mnu mst) s.heap.size = A at hD ⊢
  have hA : ∀ q : Nat, s.heap.size ≤ q → A q := fun q h => by rw [← hAe]; exact Or.inr h
  have hS : va_S A s.heap s.heap [] := va_S.rf
  obtain ⟨Q, hQ⟩ : ∃ Q, MQ below (va_Qi (fun (r : Int32) (uu : Int32 × (Nat → Int32) × (Nat → Int32) × (Nat → Int32) × Int32) => post r uu.1 uu.2.1 uu.2.2.1 uu.2.2.2.1 uu.2.2.2.2) (fun (uu : Int32 × (Nat → Int32) × (Nat → Int32) × (Nat → Int32) × Int32) (t : State) => va_P (dC, dI) vwCl (wMod ad cI cJ cZ uu.1 uu.2.1 uu.2.2.1 uu.2.2.2.1 uu.2.2.2.2 mnx mpo mpn mrn mrd mfi mar mfn mfa mnu mst) t.heap ∧ va_D A (wMod ad cI cJ cZ uu.1 uu.2.1 uu.2.2.1 uu.2.2.2.1 uu.2.2.2.2 mnx mpo mpn mrn mrd mfi mar mfn mfa mnu mst)) A) args s 0 0 A = Q := ⟨_, rfl⟩
  rw [hQ]
  obtain ⟨H, hH⟩ : ∃ H, s.heap = H := ⟨_, rfl⟩
  have hS : va_S A s.heap H [] := by rw [← hH]; exact hS
  rw [hH] at hP
  show W p l e rm_X4_add s m args below meth c s.heap [] 0 0 Q (F0 m 0 ls [])
  suffices hg : W p l e rm_X4_add s m args below meth c H [] 0 0 Q (F0 m 0 ls []) by rw [hH]; exact hg
  clear hH
  generalize hlo : ([] : List Loc) = locs at hS ⊢
  refine lv_iload_n hx hb dX4_add_0 rfl (lv_at hl 1 rfl) ?_
  refine vp_callSi (W.runS (As := [.int v1]) (rest := []) C (c_X4_isIn l v1 hw) (va_cwS 1 hts gX4_add_X4_isIn rfl rfl rfl (by decide +kernel) ⟨Nat.le_of_ble_eq_true rfl, Nat.le_of_ble_eq_true rfl⟩) ⟨fb_st, fun U hU hW => ⟨rfl, trivial⟩⟩ rfl rfl hl.1 rfl (lv_room (Nat.le_of_ble_eq_true rfl)) dX4_add_1 ⟨Nat.zero_le _, Nat.zero_le _⟩) (fun r1 hw => ?_)
  refine jn1_use (J := fun (k2 : Int32) => ∀ (ls : Array Slot) (H : Heap) (locs : List Loc), lv_has ls 8 [(0, .ref (ad 0)), (1, .int v1), (2, .int v2), (3, .int v3), (4, .int v4)] → va_P (dC, dI) vwCl (wMod ad cI cJ cZ mre mth mxs mys mcu mnx mpo mpn mrn mrd mfi mar mfn mfa mnu mst) H → va_D A (wMod ad cI cJ cZ mre mth mxs mys mcu mnx mpo mpn mrn mrd mfi mar mfn mfa mnu mst) → va_S A s.heap H locs → W p l e rm_X4_add s m args below meth c H locs 0 0 Q (F0 m 45 ls [.int k2])) hw (fun k2 hw ls H locs hl hP hD hS => ?_) (fun hw hj0 => ?_)
  · refine lv_istore (lv' := [(5, .int k2), (0, .ref (ad 0)), (1, .int v1), (2, .int v2), (3, .int v3), (4, .int v4)]) hx hb dX4_add_45 hl (by decide) rfl (fun ls hl => ?_)
    refine lv_iconst (v := -1) hx hb dX4_add_47 (by decide) ?_
    refine lv_istore (lv' := [(6, .int (-1 : Int32)), (5, .int k2), (0, .ref (ad 0)), (1, .int v1), (2, .int v2), (3, .int v3), (4, .int v4)]) hx hb dX4_add_48 hl (by decide) rfl (fun ls hl => ?_)
    refine lv_bipush (v := 59) hx hb dX4_add_50 (by decide) ?_
    refine lv_istore (lv' := [(7, .int (59 : Int32)), (6, .int (-1 : Int32)), (5, .int k2), (0, .ref (ad 0)), (1, .int v1), (2, .int v2), (3, .int v3), (4, .int v4)]) hx hb dX4_add_52 hl (by decide) rfl (fun ls hl => ?_)
    obtain ⟨n23, hw⟩ := hw
    refine l_X4_add_54 C hK hA (fun w8 ls H locs hl hP hD hS hw => ?_) n23 (-1 : Int32) (59 : Int32) ls _ _ (lv_sub hl [3, 4, 5, 6, 7, 2, 1, 0] rfl) hP hD hS hw
    refine lv_aload_n hx hb dX4_add_84 rfl (lv_at hl 0 rfl) ?_
    refine lv_iload hx hb dX4_add_85 (lv_at hl 5 rfl) ?_
    refine jn1_use (J := fun (k9 : Int32) => ∀ (ls : Array Slot) (H : Heap) (locs : List Loc), lv_has ls 8 [(0, .ref (ad 0)), (1, .int v1), (2, .int v2), (3, .int v3), (4, .int v4), (6, .int w8)] → va_P (dC, dI) vwCl (wMod ad cI cJ cZ mre mth mxs mys mcu mnx mpo mpn mrn mrd mfi mar mfn mfa mnu mst) H → va_D A (wMod ad cI cJ cZ mre mth mxs mys mcu mnx mpo mpn mrn mrd mfi mar mfn mfa mnu mst) → va_S A s.heap H locs → W p l e rm_X4_add s m args below meth c H locs 0 0 Q (F0 m 104 ls [.int k9, .ref (ad 0)])) hw (fun k9 hw ls H locs hl hP hD hS => ?_) (fun hw hj0 => ?_)
    · have hPc := hP.sub (ws' := (wMod ad cI cJ cZ mre mth mxs mys mcu mnx mpo mpn mrn mrd mfi mar mfn mfa mnu mst)) [0, 1, 2, 3, 4, 5, 6, 7, 8, 9, 10, 11] rfl
      have hDc := hD.sub (ws' := (wMod ad cI cJ cZ mre mth mxs mys mcu mnx mpo mpn mrn mrd mfi mar mfn mfa mnu mst)) [0, 1, 2, 3, 4, 5, 6, 7, 8, 9, 10, 11] (by decide) rfl
      have hFc := va_free (wc := (wMod ad cI cJ cZ mre mth mxs mys mcu mnx mpo mpn mrn mrd mfi mar mfn mfa mnu mst)) hD hS hA [0, 1, 2, 3, 4, 5, 6, 7, 8, 9, 10, 11] rfl
      refine va_calli (va_runV (As := [.int k9]) (rest := []) C (c_X4_refused l dC dI cI cJ cZ ad _ mre mth mxs mys mcu mnx mpo mpn mrn mrd mfi mar mfn mfa mnu mst k9 hw) (cwV 1 hts gX4_add_X4_refused rfl rfl rfl (by decide +kernel) ⟨Nat.le_of_ble_eq_true rfl, Nat.le_of_ble_eq_true rfl⟩) ⟨fb_rw, va_recv hK hPc (ci := 4) (q0 := 0) rfl rfl, fun U hU hW => ⟨rfl, by rw [hU], by rw [hU]; exact hPc, va_K.moved hW.alike hK, hDc.weaken (fun _ _ _ _ => trivial)⟩⟩ rfl rfl hl.1 rfl (lv_room (Nat.le_of_ble_eq_true rfl)) dX4_add_104 ⟨Nat.zero_le _, Nat.zero_le _⟩) hS (fun q _ h => hFc q h) hFc (fun r12 uu t H1 locs ht hvm hw hB hz1 hk1 hS => ?_)
      obtain ⟨mre_13, rfl⟩ : ∃ z, z = uu := ⟨_, rfl⟩
      obtain ⟨hP1, hD1⟩ := hB
      rw [ht] at hP1
      try dsimp only at hw hP1 hD1
      obtain ⟨hP, hD⟩ := va_join (wr := []) (w1 := (wMod ad cI cJ cZ mre_13 mth mxs mys mcu mnx mpo mpn mrn mrd mfi mar mfn mfa mnu mst)) hP hD [0, 1, 2, 3, 4, 5, 6, 7, 8, 9, 10, 11] [] rfl rfl (by decide) (by decide) hk1 hFc hP1 hD1
      generalize H1 = H at hP hS ⊢
      have hP : va_P (dC, dI) vwCl (wMod ad cI cJ cZ mre_13 mth mxs mys mcu mnx mpo mpn mrn mrd mfi mar mfn mfa mnu mst) H := hP
      have hD : va_D A (wMod ad cI cJ cZ mre_13 mth mxs mys mcu mnx mpo mpn mrn mrd mfi mar mfn mfa mnu mst) := hD
      refine lv_if_eq (tgt := 112) hx hb dX4_add_107 (by decide) (fun hc => ?_) (fun hc => ?_)
      · have hw := hw.1 (hc)
        refine lv_iconst (v := 0) hx hb dX4_add_112 (by decide) ?_
        refine lv_istore (lv' := [(7, .int (0 : Int32)), (0, .ref (ad 0)), (1, .int v1), (2, .int v2), (3, .int v3), (4, .int v4), (6, .int w8)]) hx hb dX4_add_113 hl (by decide) rfl (fun ls hl => ?_)
        obtain ⟨n22, hw⟩ := hw
        refine l_X4_add_115 C hK hA (fun ls H locs hl hP hD hS hw => ?_) (fun ls H locs hl hP hD hS hw => ?_) n22 (0 : Int32) ls _ _ (lv_sub hl [1, 2, 3, 4, 5, 6, 0] rfl) hP hD hS hw
        · refine lv_iconst (v := -1) hx hb dX4_add_146 (by decide) ?_
          rw [← hQ]
          exact W.iret (v := (-1 : Int32)) hx hb hr (fun t ht hW => ⟨⟨_, (mre_13, mth, mxs, mys, mcu), rfl, hw, by rw [ht]; exact hP, hD⟩, hS.F ht⟩) hS.2.2 dX4_add_147
        · refine lv_aload_n hx hb dX4_add_154 rfl (lv_at hl 0 rfl) ?_
          refine va_get (D := (dC, dI)) (ci := 4) (v := .ref (ad 1)) (C := RX4) (T := TX4) (N := 16) hx hb hts f_X4_add_1 hown hK hP 0 rfl rfl 1 (by decide) (hts _ f_X4_add_0) (fun _ h9 => h9) rfl dX4_add_155 ?_
          refine lv_iload hx hb dX4_add_158 (lv_at hl 5 rfl) ?_
          refine lv_iconst (v := 1) hx hb dX4_add_160 (by decide) ?_
          have hi := hw.1
          have hw := hw.2 _ rfl
          refine va_zast hx hb hK hP hD hS 1 2 rfl rfl hi dX4_add_161 (fun H locs hP hD hS => ?_)
          generalize hmth_17 : (upd mth w8.toNatClampNeg (vp_nar .boolean (1 : Int32))) = mth_17 at hw hP hD
          have hP : va_P (dC, dI) vwCl (wMod ad cI cJ cZ mre_13 mth_17 mxs mys mcu mnx mpo mpn mrn mrd mfi mar mfn mfa mnu mst) H := hP
          have hD : va_D A (wMod ad cI cJ cZ mre_13 mth_17 mxs mys mcu mnx mpo mpn mrn mrd mfi mar mfn mfa mnu mst) := hD
          refine lv_aload_n hx hb dX4_add_162 rfl (lv_at hl 0 rfl) ?_
          refine va_get (D := (dC, dI)) (ci := 4) (v := .ref (ad 2)) (C := RX4) (T := TX4) (N := 16) hx hb hts f_X4_add_1 hown hK hP 0 rfl rfl 2 (by decide) (hts _ f_X4_add_2) (fun _ h9 => h9) rfl dX4_add_163 ?_
          refine lv_iconst (v := 2) hx hb dX4_add_166 (by decide) ?_
          refine lv_iload hx hb dX4_add_167 (lv_at hl 5 rfl) ?_
          refine lv_imul hx hb dX4_add_169 ?_
          refine lv_iload_n hx hb dX4_add_170 rfl (lv_at hl 1 rfl) ?_
          have hi := hw.1
          have hw := hw.2 _ rfl
          refine va_iast hx hb hK hP hD hS 2 0 rfl rfl hi dX4_add_171 (fun H locs hP hD hS => ?_)
          generalize hmxs_18 : (upd mxs ((2 : Int32) * w8).toNatClampNeg v1) = mxs_18 at hw hP hD
          have hP : va_P (dC, dI) vwCl (wMod ad cI cJ cZ mre_13 mth_17 mxs_18 mys mcu mnx mpo mpn mrn mrd mfi mar mfn mfa mnu mst) H := hP
          have hD : va_D A (wMod ad cI cJ cZ mre_13 mth_17 mxs_18 mys mcu mnx mpo mpn mrn mrd mfi mar mfn mfa mnu mst) := hD
          refine lv_aload_n hx hb dX4_add_172 rfl (lv_at hl 0 rfl) ?_
          refine va_get (D := (dC, dI)) (ci := 4) (v := .ref (ad 3)) (C := RX4) (T := TX4) (N := 16) hx hb hts f_X4_add_1 hown hK hP 0 rfl rfl 3 (by decide) (hts _ f_X4_add_3) (fun _ h9 => h9) rfl dX4_add_173 ?_
          refine lv_iconst (v := 2) hx hb dX4_add_176 (by decide) ?_
          refine lv_iload hx hb dX4_add_177 (lv_at hl 5 rfl) ?_
          refine lv_imul hx hb dX4_add_179 ?_
          refine lv_iload_n hx hb dX4_add_180 rfl (lv_at hl 2 rfl) ?_
          have hi := hw.1
          have hw := hw.2 _ rfl
          refine va_iast hx hb hK hP hD hS 3 0 rfl rfl hi dX4_add_181 (fun H locs hP hD hS => ?_)
          generalize hmys_19 : (upd mys ((2 : Int32) * w8).toNatClampNeg v2) = mys_19 at hw hP hD
          have hP : va_P (dC, dI) vwCl (wMod ad cI cJ cZ mre_13 mth_17 mxs_18 mys_19 mcu mnx mpo mpn mrn mrd mfi mar mfn mfa mnu mst) H := hP
          have hD : va_D A (wMod ad cI cJ cZ mre_13 mth_17 mxs_18 mys_19 mcu mnx mpo mpn mrn mrd mfi mar mfn mfa mnu mst) := hD
          refine lv_aload_n hx hb dX4_add_182 rfl (lv_at hl 0 rfl) ?_
          refine va_get (D := (dC, dI)) (ci := 4) (v := .ref (ad 2)) (C := RX4) (T := TX4) (N := 16) hx hb hts f_X4_add_1 hown hK hP 0 rfl rfl 2 (by decide) (hts _ f_X4_add_2) (fun _ h9 => h9) rfl dX4_add_183 ?_
          refine lv_iconst (v := 2) hx hb dX4_add_186 (by decide) ?_
          refine lv_iload hx hb dX4_add_187 (lv_at hl 5 rfl) ?_
          refine lv_imul hx hb dX4_add_189 ?_
          refine lv_iconst (v := 1) hx hb dX4_add_190 (by decide) ?_
          refine lv_iadd hx hb dX4_add_191 ?_
          refine lv_iload_n hx hb dX4_add_192 rfl (lv_at hl 3 rfl) ?_
          have hi := hw.1
          have hw := hw.2 _ rfl
          refine va_iast hx hb hK hP hD hS 2 0 rfl rfl hi dX4_add_193 (fun H locs hP hD hS => ?_)
          generalize hmxs_20 : (upd mxs_18 (((2 : Int32) * w8) + (1 : Int32)).toNatClampNeg v3) = mxs_20 at hw hP hD
          have hP : va_P (dC, dI) vwCl (wMod ad cI cJ cZ mre_13 mth_17 mxs_20 mys_19 mcu mnx mpo mpn mrn mrd mfi mar mfn mfa mnu mst) H := hP
          have hD : va_D A (wMod ad cI cJ cZ mre_13 mth_17 mxs_20 mys_19 mcu mnx mpo mpn mrn mrd mfi mar mfn mfa mnu mst) := hD
          refine lv_aload_n hx hb dX4_add_194 rfl (lv_at hl 0 rfl) ?_
          refine va_get (D := (dC, dI)) (ci := 4) (v := .ref (ad 3)) (C := RX4) (T := TX4) (N := 16) hx hb hts f_X4_add_1 hown hK hP 0 rfl rfl 3 (by decide) (hts _ f_X4_add_3) (fun _ h9 => h9) rfl dX4_add_195 ?_
          refine lv_iconst (v := 2) hx hb dX4_add_198 (by decide) ?_
          refine lv_iload hx hb dX4_add_199 (lv_at hl 5 rfl) ?_
          refine lv_imul hx hb dX4_add_201 ?_
          refine lv_iconst (v := 1) hx hb dX4_add_202 (by decide) ?_
          refine lv_iadd hx hb dX4_add_203 ?_
          refine lv_iload hx hb dX4_add_204 (lv_at hl 4 rfl) ?_
          have hi := hw.1
          have hw := hw.2 _ rfl
          refine va_iast hx hb hK hP hD hS 3 0 rfl rfl hi dX4_add_206 (fun H locs hP hD hS => ?_)
          generalize hmys_21 : (upd mys_19 (((2 : Int32) * w8) + (1 : Int32)).toNatClampNeg v4) = mys_21 at hw hP hD
          have hP : va_P (dC, dI) vwCl (wMod ad cI cJ cZ mre_13 mth_17 mxs_20 mys_21 mcu mnx mpo mpn mrn mrd mfi mar mfn mfa mnu mst) H := hP
          have hD : va_D A (wMod ad cI cJ cZ mre_13 mth_17 mxs_20 mys_21 mcu mnx mpo mpn mrn mrd mfi mar mfn mfa mnu mst) := hD
          refine lv_aload_n hx hb dX4_add_207 rfl (lv_at hl 0 rfl) ?_
          refine lv_iconst (v := 0) hx hb dX4_add_208 (by decide) ?_
          refine va_put (D := (dC, dI)) (ci := 4) (v := .int (0 : Int32)) (ty := .boolean) (C := RX4) (T := TX4) (N := 16) hx hb hts f_X4_add_1 tyX4 tyX4_ok nmX4 hown hK hP hD hS 0 rfl rfl 4 (by decide) (hts _ f_X4_add_4) (fun _ h9 => h9) rfl (by decide +kernel) (by decide) rfl (Nat.le_of_ble_eq_true rfl) dX4_add_209 (fun H locs hP hD hS => ?_)
          have hP : va_P (dC, dI) vwCl (wMod ad cI cJ cZ mre_13 mth_17 mxs_20 mys_21 (0 : Int32) mnx mpo mpn mrn mrd mfi mar mfn mfa mnu mst) H := hP
          have hD : va_D A (wMod ad cI cJ cZ mre_13 mth_17 mxs_20 mys_21 (0 : Int32) mnx mpo mpn mrn mrd mfi mar mfn mfa mnu mst) := hD
          refine lv_iload hx hb dX4_add_212 (lv_at hl 5 rfl) ?_
          rw [← hQ]
          exact W.iret (v := w8) hx hb hr (fun t ht hW => ⟨⟨_, (mre_13, mth_17, mxs_20, mys_21, (0 : Int32)), rfl, hw, by rw [ht]; exact hP, hD⟩, hS.F ht⟩) hS.2.2 dX4_add_214
      · have hw := hw.2 hc
        refine lv_iconst (v := 0) hx hb dX4_add_110 (by decide) ?_
        rw [← hQ]
        exact W.iret (v := (0 : Int32)) hx hb hr (fun t ht hW => ⟨⟨_, (mre_13, mth, mxs, mys, mcu), rfl, hw, by rw [ht]; exact hP, hD⟩, hS.F ht⟩) hS.2.2 dX4_add_111
    · have hj11 := hj0
      refine lv_if_ne (tgt := 94) hx hb dX4_add_87 (by decide) (fun hc => ?_) (fun hc => ?_)
      · have hw := hw.2 hc
        refine lv_iload hx hb dX4_add_94 (lv_at hl 6 rfl) ?_
        refine lv_if_ge (tgt := 103) hx hb dX4_add_96 (by decide) (fun hc => ?_) (fun hc => ?_)
        · have hw := hw.1 (hc)
          refine lv_iconst (v := 0) hx hb dX4_add_103 (by decide) ?_
          exact hj11 (0 : Int32) hw ls _ _ (lv_sub hl [0, 1, 2, 3, 4, 6] rfl) hP hD hS
        · have hw := hw.2 hc
          refine lv_iconst (v := 2) hx hb dX4_add_99 (by decide) ?_
          refine lv_goto (tgt := 104) hx hb dX4_add_100 (by decide) ?_
          exact hj11 (2 : Int32) hw ls _ _ (lv_sub hl [0, 1, 2, 3, 4, 6] rfl) hP hD hS
      · have hw := hw.1 (hc)
        refine lv_iconst (v := 1) hx hb dX4_add_90 (by decide) ?_
        refine lv_goto (tgt := 104) hx hb dX4_add_91 (by decide) ?_
        exact hj11 (1 : Int32) hw ls _ _ (lv_sub hl [0, 1, 2, 3, 4, 6] rfl) hP hD hS
  · have hj4 := hj0
    refine jn0_use (J := ∀ (ls : Array Slot) (H : Heap) (locs : List Loc), lv_has ls 8 [(0, .ref (ad 0)), (1, .int v1), (2, .int v2), (3, .int v3), (4, .int v4)] → va_P (dC, dI) vwCl (wMod ad cI cJ cZ mre mth mxs mys mcu mnx mpo mpn mrn mrd mfi mar mfn mfa mnu mst) H → va_D A (wMod ad cI cJ cZ mre mth mxs mys mcu mnx mpo mpn mrn mrd mfi mar mfn mfa mnu mst) → va_S A s.heap H locs → W p l e rm_X4_add s m args below meth c H locs 0 0 Q (F0 m 44 ls [])) hw (fun hw ls H locs hl hP hD hS => ?_) (fun hw hj0 => ?_)
    · refine lv_iconst (v := 0) hx hb dX4_add_44 (by decide) ?_
      exact hj4 (0 : Int32) hw ls _ _ (lv_sub hl [0, 1, 2, 3, 4] rfl) hP hD hS
    · have hj25 := hj0
      refine lv_if_eq (tgt := 44) hx hb dX4_add_4 (by decide) (fun hc => ?_) (fun hc => ?_)
      · have hw := hw.1 (hc)
        exact hj25 hw ls _ _ (lv_sub hl [0, 1, 2, 3, 4] rfl) hP hD hS
      · have hw := hw.2 hc
        refine lv_iload_n hx hb dX4_add_7 rfl (lv_at hl 2 rfl) ?_
        refine vp_callSi (W.runS (As := [.int v2]) (rest := []) C (c_X4_isIn l v2 hw) (va_cwS 1 hts gX4_add_X4_isIn rfl rfl rfl (by decide +kernel) ⟨Nat.le_of_ble_eq_true rfl, Nat.le_of_ble_eq_true rfl⟩) ⟨fb_st, fun U hU hW => ⟨rfl, trivial⟩⟩ rfl rfl hl.1 rfl (lv_room (Nat.le_of_ble_eq_true rfl)) dX4_add_8 ⟨Nat.zero_le _, Nat.zero_le _⟩) (fun r26 hw => ?_)
        refine lv_if_eq (tgt := 44) hx hb dX4_add_11 (by decide) (fun hc => ?_) (fun hc => ?_)
        · have hw := hw.1 (hc)
          exact hj25 hw ls _ _ (lv_sub hl [0, 1, 2, 3, 4] rfl) hP hD hS
        · have hw := hw.2 hc
          refine lv_iload_n hx hb dX4_add_14 rfl (lv_at hl 3 rfl) ?_
          refine vp_callSi (W.runS (As := [.int v3]) (rest := []) C (c_X4_isIn l v3 hw) (va_cwS 1 hts gX4_add_X4_isIn rfl rfl rfl (by decide +kernel) ⟨Nat.le_of_ble_eq_true rfl, Nat.le_of_ble_eq_true rfl⟩) ⟨fb_st, fun U hU hW => ⟨rfl, trivial⟩⟩ rfl rfl hl.1 rfl (lv_room (Nat.le_of_ble_eq_true rfl)) dX4_add_15 ⟨Nat.zero_le _, Nat.zero_le _⟩) (fun r27 hw => ?_)
          refine lv_if_eq (tgt := 44) hx hb dX4_add_18 (by decide) (fun hc => ?_) (fun hc => ?_)
          · have hw := hw.1 (hc)
            exact hj25 hw ls _ _ (lv_sub hl [0, 1, 2, 3, 4] rfl) hP hD hS
          · have hw := hw.2 hc
            refine lv_iload hx hb dX4_add_21 (lv_at hl 4 rfl) ?_
            refine vp_callSi (W.runS (As := [.int v4]) (rest := []) C (c_X4_isIn l v4 hw) (va_cwS 1 hts gX4_add_X4_isIn rfl rfl rfl (by decide +kernel) ⟨Nat.le_of_ble_eq_true rfl, Nat.le_of_ble_eq_true rfl⟩) ⟨fb_st, fun U hU hW => ⟨rfl, trivial⟩⟩ rfl rfl hl.1 rfl (lv_room (Nat.le_of_ble_eq_true rfl)) dX4_add_23 ⟨Nat.zero_le _, Nat.zero_le _⟩) (fun r28 hw => ?_)
            refine lv_if_eq (tgt := 44) hx hb dX4_add_26 (by decide) (fun hc => ?_) (fun hc => ?_)
            · have hw := hw.1 (hc)
              exact hj25 hw ls _ _ (lv_sub hl [0, 1, 2, 3, 4] rfl) hP hD hS
            · have hw := hw.2 hc
              refine lv_iload_n hx hb dX4_add_29 rfl (lv_at hl 1 rfl) ?_
              refine lv_iload_n hx hb dX4_add_30 rfl (lv_at hl 3 rfl) ?_
              refine jn0_use (J := ∀ (ls : Array Slot) (H : Heap) (locs : List Loc), lv_has ls 8 [(0, .ref (ad 0)), (1, .int v1), (2, .int v2), (3, .int v3), (4, .int v4)] → va_P (dC, dI) vwCl (wMod ad cI cJ cZ mre mth mxs mys mcu mnx mpo mpn mrn mrd mfi mar mfn mfa mnu mst) H → va_D A (wMod ad cI cJ cZ mre mth mxs mys mcu mnx mpo mpn mrn mrd mfi mar mfn mfa mnu mst) → va_S A s.heap H locs → W p l e rm_X4_add s m args below meth c H locs 0 0 Q (F0 m 40 ls [])) hw (fun hw ls H locs hl hP hD hS => ?_) (fun hw hj0 => ?_)
              · refine lv_iconst (v := 1) hx hb dX4_add_40 (by decide) ?_
                refine lv_goto (tgt := 45) hx hb dX4_add_41 (by decide) ?_
                exact hj4 (1 : Int32) hw ls _ _ (lv_sub hl [0, 1, 2, 3, 4] rfl) hP hD hS
              · have hj30 := hj0
                refine lv_icmp_ne (tgt := 40) hx hb dX4_add_31 (by decide) (fun hc => ?_) (fun hc => ?_)
                · have hw := hw.2 hc
                  exact hj30 hw ls _ _ (lv_sub hl [0, 1, 2, 3, 4] rfl) hP hD hS
                · have hw := hw.1 (hc)
                  refine lv_iload_n hx hb dX4_add_34 rfl (lv_at hl 2 rfl) ?_
                  refine lv_iload hx hb dX4_add_35 (lv_at hl 4 rfl) ?_
                  refine lv_icmp_eq (tgt := 44) hx hb dX4_add_37 (by decide) (fun hc => ?_) (fun hc => ?_)
                  · have hw := hw.1 (hc)
                    exact hj25 hw ls _ _ (lv_sub hl [0, 1, 2, 3, 4] rfl) hP hD hS
                  · have hw := hw.2 hc
                    exact hj30 hw ls _ _ (lv_sub hl [0, 1, 2, 3, 4] rfl) hP hD hS
-- X4_remove
abbrev rm_X4_remove : Room := { frames := 0, cells := 0, slots := 0, locals := 0 }
theorem f_X4_remove_0 : (Cond.fieldLink RX4 45 "PlaneFacesModel" "refusal" "I") ∈ wsX4_remove := by decide +kernel
theorem f_X4_remove_1 : ∀ w ∈ wsX40, w ∈ wsX4_remove := by decide +kernel
theorem f_X4_remove_2 : (Cond.fieldLink RX4 7 "PlaneFacesModel" "isThere" "[Z") ∈ wsX4_remove := by decide +kernel
theorem f_X4_remove_3 : (Cond.fieldLink RX4 76 "PlaneFacesModel" "isCurrent" "Z") ∈ wsX4_remove := by decide +kernel
set_option maxRecDepth 100000 in
set_option maxHeartbeats 4000000 in
theorem c_X4_remove (l : Launch) (dC : Nat → ClassId) (dI : Nat → Nat → Nat) (cI cJ cZ : ClassId) (ad : Nat → Nat) (sz : Nat) (mre : Int32) (mth : Nat → Int32) (mxs : Nat → Int32) (mys : Nat → Int32) (mcu : Int32) (mnx : Nat → Int32) (mpo : Nat → Int32) (mpn : Int32) (mrn : Int32) (mrd : Nat → Int32) (mfi : Nat → Int32) (mar : Nat → Int64) (mfn : Int32) (mfa : Nat → Int32) (mnu : Nat → Int32) (mst : Nat → Int32) (v1 : Int32) {post : Int32 → Int32 → (Nat → Int32) → Int32 → Prop} (hw : wp_X4_remove mre mth mcu v1 post) : Met l yX4_remove wsX4_remove rm_X4_remove (va_Pc [.ref (ad 0), .int v1] (fun U => U.heap.size = sz ∧ va_P (dC, dI) vwCl (wMod ad cI cJ cZ mre mth mxs mys mcu mnx mpo mpn mrn mrd mfi mar mfn mfa mnu mst) U.heap ∧ va_K (dC, dI) vwCl (tyL cI cJ cZ) U ∧ va_D (fun _ => True) (wMod ad cI cJ cZ mre mth mxs mys mcu mnx mpo mpn mrn mrd mfi mar mfn mfa mnu mst))) (va_Qi (fun (r : Int32) (uu : Int32 × (Nat → Int32) × Int32) => post r uu.1 uu.2.1 uu.2.2) (fun (uu : Int32 × (Nat → Int32) × Int32) (t : State) => va_P (dC, dI) vwCl (wMod ad cI cJ cZ uu.1 uu.2.1 mxs mys uu.2.2 mnx mpo mpn mrn mrd mfi mar mfn mfa mnu mst) t.heap ∧ va_D (va_A (wMod ad cI cJ cZ mre mth mxs mys mcu mnx mpo mpn mrn mrd mfi mar mfn mfa mnu mst) sz) (wMod ad cI cJ cZ uu.1 uu.2.1 mxs mys uu.2.2 mnx mpo mpn mrn mrd mfi mar mfn mfa mnu mst)) (va_A (wMod ad cI cJ cZ mre mth mxs mys mcu mnx mpo mpn mrn mrd mfi mar mfn mfa mnu mst) sz)) 0 0 (va_A (wMod ad cI cJ cZ mre mth mxs mys mcu mnx mpo mpn mrn mrd mfi mar mfn mfa mnu mst) sz) := by
  unfold wp_X4_remove at hw
  refine Met.ofW (cc := cX4_remove) (maxL := 3) (ret := (some .boolean)) (by decide) rfl ?_
  intro p e s m args below meth c s₁ B hml hv
  obtain ⟨hav, hsz, hP, hK, hD0⟩ := hv
  have hx := B.exec
  have hb := B.bytes
  have hr := B.returns
  have hts := atoms_spec (ws := wsX4_remove) B.pre
  have hown : s.vm.findClass RX4 = some m.cls := findClass_of_methodNamed B.named
  have hlocks := B.notSynchronized
  have C : CallFix p m c cX4_remove 3 s args wsX4_remove RX4 := ⟨hx, hb, hml, hown, hts⟩
  obtain ⟨ls, hE, hl⟩ := mx_entry (m := m) [.ref (ad 0), .int v1] (n := 3) (Nat.le_of_ble_eq_true rfl)
  have hl : lv_has ls 3 [(0, .ref (ad 0)), (1, .int v1)] := hl
  rw [show entryFrame m args 3 = F0 m 0 ls [] by rw [hav]; exact hE]
  subst hsz
  have hD := hD0.self (sz := s.heap.size)
  generalize hAe : va_A (wMod ad cI cJ cZ mre mth mxs mys mcu mnx mpo mpn mrn mrd mfi mar mfn mfa mnu mst) s.heap.size = A at hD ⊢
  have hA : ∀ q : Nat, s.heap.size ≤ q → A q := fun q h => by rw [← hAe]; exact Or.inr h
  have hS : va_S A s.heap s.heap [] := va_S.rf
  obtain ⟨Q, hQ⟩ : ∃ Q, MQ below (va_Qi (fun (r : Int32) (uu : Int32 × (Nat → Int32) × Int32) => post r uu.1 uu.2.1 uu.2.2) (fun (uu : Int32 × (Nat → Int32) × Int32) (t : State) => va_P (dC, dI) vwCl (wMod ad cI cJ cZ uu.1 uu.2.1 mxs mys uu.2.2 mnx mpo mpn mrn mrd mfi mar mfn mfa mnu mst) t.heap ∧ va_D A (wMod ad cI cJ cZ uu.1 uu.2.1 mxs mys uu.2.2 mnx mpo mpn mrn mrd mfi mar mfn mfa mnu mst)) A) args s 0 0 A = Q := ⟨_, rfl⟩
  rw [hQ]
  obtain ⟨H, hH⟩ : ∃ H, s.heap = H := ⟨_, rfl⟩
  have hS : va_S A s.heap H [] := by rw [← hH]; exact hS
  rw [hH] at hP
  show W p l e rm_X4_remove s m args below meth c s.heap [] 0 0 Q (F0 m 0 ls [])
  suffices hg : W p l e rm_X4_remove s m args below meth c H [] 0 0 Q (F0 m 0 ls []) by rw [hH]; exact hg
  clear hH
  generalize hlo : ([] : List Loc) = locs at hS ⊢
  refine lv_aload_n hx hb dX4_remove_0 rfl (lv_at hl 0 rfl) ?_
  refine lv_iconst (v := 0) hx hb dX4_remove_1 (by decide) ?_
  refine va_put (D := (dC, dI)) (ci := 4) (v := .int (0 : Int32)) (ty := .int) (C := RX4) (T := TX4) (N := 16) hx hb hts f_X4_remove_1 tyX4 tyX4_ok nmX4 hown hK hP hD hS 0 rfl rfl 0 (by decide) (hts _ f_X4_remove_0) (fun _ h9 => h9) rfl (by decide +kernel) rfl rfl (Nat.le_of_ble_eq_true rfl) dX4_remove_2 (fun H locs hP hD hS => ?_)
  have hP : va_P (dC, dI) vwCl (wMod ad cI cJ cZ (0 : Int32) mth mxs mys mcu mnx mpo mpn mrn mrd mfi mar mfn mfa mnu mst) H := hP
  have hD : va_D A (wMod ad cI cJ cZ (0 : Int32) mth mxs mys mcu mnx mpo mpn mrn mrd mfi mar mfn mfa mnu mst) := hD
  refine lv_iload_n hx hb dX4_remove_5 rfl (lv_at hl 1 rfl) ?_
  refine jn1_use (J := fun (k1 : Int32) => ∀ (ls : Array Slot) (H : Heap) (locs : List Loc), lv_has ls 3 [(0, .ref (ad 0)), (1, .int v1)] → va_P (dC, dI) vwCl (wMod ad cI cJ cZ (0 : Int32) mth mxs mys mcu mnx mpo mpn mrn mrd mfi mar mfn mfa mnu mst) H → va_D A (wMod ad cI cJ cZ (0 : Int32) mth mxs mys mcu mnx mpo mpn mrn mrd mfi mar mfn mfa mnu mst) → va_S A s.heap H locs → W p l e rm_X4_remove s m args below meth c H locs 0 0 Q (F0 m 29 ls [.int k1])) hw (fun k1 hw ls H locs hl hP hD hS => ?_) (fun hw hj0 => ?_)
  · refine lv_istore_n (lv' := [(2, .int k1), (0, .ref (ad 0)), (1, .int v1)]) hx hb dX4_remove_29 rfl hl (by decide) rfl (fun ls hl => ?_)
    refine lv_iload_n hx hb dX4_remove_30 rfl (lv_at hl 0 rfl) ?_
    refine jn2_use (J := fun (mth_4 : Nat → Int32) (mcu_5 : Int32) => ∀ (ls : Array Slot) (H : Heap) (locs : List Loc), lv_has ls 3 [(0, .ref (ad 0)), (2, .int k1)] → va_P (dC, dI) vwCl (wMod ad cI cJ cZ (0 : Int32) mth_4 mxs mys mcu_5 mnx mpo mpn mrn mrd mfi mar mfn mfa mnu mst) H → va_D A (wMod ad cI cJ cZ (0 : Int32) mth_4 mxs mys mcu_5 mnx mpo mpn mrn mrd mfi mar mfn mfa mnu mst) → va_S A s.heap H locs → W p l e rm_X4_remove s m args below meth c H locs 0 0 Q (F0 m 46 ls [])) hw (fun mth_4 mcu_5 hw ls H locs hl hP hD hS => ?_) (fun hw hj0 => ?_)
    · refine lv_iload_n hx hb dX4_remove_46 rfl (lv_at hl 1 rfl) ?_
      rw [← hQ]
      exact W.zret (v := k1) (ty := .boolean) hx hb hr (bz_n hw.1) (fun t ht hW => ⟨⟨_, ((0 : Int32), mth_4, mcu_5), rfl, hw.2, by rw [ht]; exact hP, hD⟩, hS.F ht⟩) hS.2.2 dX4_remove_47
    · have hj7 := hj0
      refine lv_if_eq (tgt := 46) hx hb dX4_remove_31 (by decide) (fun hc => ?_) (fun hc => ?_)
      · have hw := hw.1 (hc)
        exact hj7 mth mcu hw ls _ _ (lv_sub hl [1, 0] rfl) hP hD hS
      · have hw := hw.2 hc
        refine lv_aload_n hx hb dX4_remove_34 rfl (lv_at hl 1 rfl) ?_
        refine va_get (D := (dC, dI)) (ci := 4) (v := .ref (ad 1)) (C := RX4) (T := TX4) (N := 16) hx hb hts f_X4_remove_1 hown hK hP 0 rfl rfl 1 (by decide) (hts _ f_X4_remove_2) (fun _ h9 => h9) rfl dX4_remove_35 ?_
        refine lv_iload_n hx hb dX4_remove_38 rfl (lv_at hl 2 rfl) ?_
        refine lv_iconst (v := 0) hx hb dX4_remove_39 (by decide) ?_
        have hi := hw.1
        have hw := hw.2 _ rfl
        refine va_zast hx hb hK hP hD hS 1 2 rfl rfl hi dX4_remove_40 (fun H locs hP hD hS => ?_)
        generalize hmth_8 : (upd mth v1.toNatClampNeg (vp_nar .boolean (0 : Int32))) = mth_8 at hw hP hD
        have hP : va_P (dC, dI) vwCl (wMod ad cI cJ cZ (0 : Int32) mth_8 mxs mys mcu mnx mpo mpn mrn mrd mfi mar mfn mfa mnu mst) H := hP
        have hD : va_D A (wMod ad cI cJ cZ (0 : Int32) mth_8 mxs mys mcu mnx mpo mpn mrn mrd mfi mar mfn mfa mnu mst) := hD
        refine lv_aload_n hx hb dX4_remove_41 rfl (lv_at hl 1 rfl) ?_
        refine lv_iconst (v := 0) hx hb dX4_remove_42 (by decide) ?_
        refine va_put (D := (dC, dI)) (ci := 4) (v := .int (0 : Int32)) (ty := .boolean) (C := RX4) (T := TX4) (N := 16) hx hb hts f_X4_remove_1 tyX4 tyX4_ok nmX4 hown hK hP hD hS 0 rfl rfl 4 (by decide) (hts _ f_X4_remove_3) (fun _ h9 => h9) rfl (by decide +kernel) (by decide) rfl (Nat.le_of_ble_eq_true rfl) dX4_remove_43 (fun H locs hP hD hS => ?_)
        have hP : va_P (dC, dI) vwCl (wMod ad cI cJ cZ (0 : Int32) mth_8 mxs mys (0 : Int32) mnx mpo mpn mrn mrd mfi mar mfn mfa mnu mst) H := hP
        have hD : va_D A (wMod ad cI cJ cZ (0 : Int32) mth_8 mxs mys (0 : Int32) mnx mpo mpn mrn mrd mfi mar mfn mfa mnu mst) := hD
        exact hj7 mth_8 (0 : Int32) hw ls _ _ (lv_sub hl [1, 0] rfl) hP hD hS
  · have hj3 := hj0
    refine jn0_use (J := ∀ (ls : Array Slot) (H : Heap) (locs : List Loc), lv_has ls 3 [(0, .ref (ad 0)), (1, .int v1)] → va_P (dC, dI) vwCl (wMod ad cI cJ cZ (0 : Int32) mth mxs mys mcu mnx mpo mpn mrn mrd mfi mar mfn mfa mnu mst) H → va_D A (wMod ad cI cJ cZ (0 : Int32) mth mxs mys mcu mnx mpo mpn mrn mrd mfi mar mfn mfa mnu mst) → va_S A s.heap H locs → W p l e rm_X4_remove s m args below meth c H locs 0 0 Q (F0 m 28 ls [])) hw (fun hw ls H locs hl hP hD hS => ?_) (fun hw hj0 => ?_)
    · refine lv_iconst (v := 0) hx hb dX4_remove_28 (by decide) ?_
      exact hj3 (0 : Int32) hw ls _ _ (lv_sub hl [0, 1] rfl) hP hD hS
    · have hj10 := hj0
      refine lv_if_lt (tgt := 28) hx hb dX4_remove_6 (by decide) (fun hc => ?_) (fun hc => ?_)
      · have hw := hw.1 (hc)
        exact hj10 hw ls _ _ (lv_sub hl [0, 1] rfl) hP hD hS
      · have hw := hw.2 hc
        refine lv_iload_n hx hb dX4_remove_9 rfl (lv_at hl 1 rfl) ?_
        refine lv_bipush (v := 60) hx hb dX4_remove_10 (by decide) ?_
        refine lv_icmp_ge (tgt := 28) hx hb dX4_remove_12 (by decide) (fun hc => ?_) (fun hc => ?_)
        · have hw := hw.1 (hc)
          exact hj10 hw ls _ _ (lv_sub hl [0, 1] rfl) hP hD hS
        · have hw := hw.2 hc
          refine lv_aload_n hx hb dX4_remove_15 rfl (lv_at hl 0 rfl) ?_
          refine va_get (D := (dC, dI)) (ci := 4) (v := .ref (ad 1)) (C := RX4) (T := TX4) (N := 16) hx hb hts f_X4_remove_1 hown hK hP 0 rfl rfl 1 (by decide) (hts _ f_X4_remove_2) (fun _ h9 => h9) rfl dX4_remove_16 ?_
          refine lv_iload_n hx hb dX4_remove_19 rfl (lv_at hl 1 rfl) ?_
          have hi := hw.1
          have hw := hw.2
          refine va_zald hx hb hK hP 1 2 rfl rfl hi dX4_remove_20 ?_
          refine lv_if_eq (tgt := 28) hx hb dX4_remove_21 (by decide) (fun hc => ?_) (fun hc => ?_)
          · have hw := hw.1 (hc)
            exact hj10 hw ls _ _ (lv_sub hl [0, 1] rfl) hP hD hS
          · have hw := hw.2 hc
            refine lv_iconst (v := 1) hx hb dX4_remove_24 (by decide) ?_
            refine lv_goto (tgt := 29) hx hb dX4_remove_25 (by decide) ?_
            exact hj3 (1 : Int32) hw ls _ _ (lv_sub hl [0, 1] rfl) hP hD hS
-- X4_clear
abbrev rm_X4_clear : Room := { frames := 0, cells := 0, slots := 0, locals := 0 }
theorem f_X4_clear_0 : (Cond.fieldLink RX4 45 "PlaneFacesModel" "refusal" "I") ∈ wsX4_clear := by decide +kernel
theorem f_X4_clear_1 : ∀ w ∈ wsX40, w ∈ wsX4_clear := by decide +kernel
theorem f_X4_clear_2 : (Cond.fieldLink RX4 7 "PlaneFacesModel" "isThere" "[Z") ∈ wsX4_clear := by decide +kernel
theorem f_X4_clear_3 : (Cond.fieldLink RX4 76 "PlaneFacesModel" "isCurrent" "Z") ∈ wsX4_clear := by decide +kernel
set_option maxRecDepth 100000 in
set_option maxHeartbeats 4000000 in
theorem l_X4_clear_9 {p : Program} {l : Launch} {e : Env} {s : State} {m : MethodId} {args : Array Value} {below : List Frame} {meth : Method} {c : Code} {Q : State → Prop} {dC : Nat → ClassId} {dI : Nat → Nat → Nat} {cI cJ cZ : ClassId} {ad : Nat → Nat} {mre : Int32} {mxs : Nat → Int32} {mys : Nat → Int32} {mcu : Int32} {mnx : Nat → Int32} {mpo : Nat → Int32} {mpn : Int32} {mrn : Int32} {mrd : Nat → Int32} {mfi : Nat → Int32} {mar : Nat → Int64} {mfn : Int32} {mfa : Nat → Int32} {mnu : Nat → Int32} {mst : Nat → Int32}  {K45 : Int32 → (Nat → Int32) → Prop} (C : CallFix p m c cX4_clear 3 s args wsX4_clear RX4) (hK : va_K (dC, dI) vwCl (tyL cI cJ cZ) s) {A : Nat → Prop} (hA : ∀ q : Nat, s.heap.size ≤ q → A q) (hk45 : ∀ (w1 : Int32) (mth_w : Nat → Int32) (ls : Array Slot) (H : Heap) (locs : List Loc), lv_has ls 3 [(0, .ref (ad 0)), (1, .int w1)] → va_P (dC, dI) vwCl (wMod ad cI cJ cZ mre mth_w mxs mys mcu mnx mpo mpn mrn mrd mfi mar mfn mfa mnu mst) H → va_D A (wMod ad cI cJ cZ mre mth_w mxs mys mcu mnx mpo mpn mrn mrd mfi mar mfn mfa mnu mst) → va_S A s.heap H locs → K45 w1 mth_w → W p l e rm_X4_clear s m args below meth c H locs 0 0 Q (F0 m 45 ls [])) : ∀ (n : Nat) (mth : Nat → Int32) (v1 : Int32) (v2 : Int32) (ls : Array Slot) (H : Heap) (locs : List Loc), lv_has ls 3 [(0, .ref (ad 0)), (1, .int v1), (2, .int v2)] → va_P (dC, dI) vwCl (wMod ad cI cJ cZ mre mth mxs mys mcu mnx mpo mpn mrn mrd mfi mar mfn mfa mnu mst) H → va_D A (wMod ad cI cJ cZ mre mth mxs mys mcu mnx mpo mpn mrn mrd mfi mar mfn mfa mnu mst) → va_S A s.heap H locs → lp_X4_clear_9 mre mcu K45 n mth v1 v2 → W p l e rm_X4_clear s m args below meth c H locs 0 0 Q (F0 m 9 ls []) := by
  obtain ⟨hx, hb, hml, hown, hts⟩ := id C
  intro n
  induction n with
  | zero =>
    intro mth v1 v2 ls H locs hl hP hD hS hw
    rw [lp_X4_clear_9.eq_1] at hw
    exact hw.elim
  | succ n ih =>
    intro mth v1 v2 ls H locs hl hP hD hS hw
    rw [lp_X4_clear_9.eq_2] at hw
    refine lv_iload_n hx hb dX4_clear_9 rfl (lv_at hl 2 rfl) ?_
    refine lv_bipush (v := 60) hx hb dX4_clear_10 (by decide) ?_
    refine lv_icmp_ge (tgt := 45) hx hb dX4_clear_12 (by decide) (fun hc => ?_) (fun hc => ?_)
    · have hw := hw.1 (hc)
      exact hk45 v1 mth ls _ _ (lv_sub hl [0, 1] rfl) hP hD hS hw
    · have hw := hw.2 hc
      refine lv_aload_n hx hb dX4_clear_15 rfl (lv_at hl 0 rfl) ?_
      refine va_get (D := (dC, dI)) (ci := 4) (v := .ref (ad 1)) (C := RX4) (T := TX4) (N := 16) hx hb hts f_X4_clear_1 hown hK hP 0 rfl rfl 1 (by decide) (hts _ f_X4_clear_2) (fun _ h9 => h9) rfl dX4_clear_16 ?_
      refine lv_iload_n hx hb dX4_clear_19 rfl (lv_at hl 2 rfl) ?_
      have hi := hw.1
      have hw := hw.2
      refine va_zald hx hb hK hP 1 2 rfl rfl hi dX4_clear_20 ?_
      refine jn1_use (J := fun (k1 : Int32) => ∀ (ls : Array Slot) (H : Heap) (locs : List Loc), lv_has ls 3 [(0, .ref (ad 0)), (2, .int v2)] → va_P (dC, dI) vwCl (wMod ad cI cJ cZ mre mth mxs mys mcu mnx mpo mpn mrn mrd mfi mar mfn mfa mnu mst) H → va_D A (wMod ad cI cJ cZ mre mth mxs mys mcu mnx mpo mpn mrn mrd mfi mar mfn mfa mnu mst) → va_S A s.heap H locs → W p l e rm_X4_clear s m args below meth c H locs 0 0 Q (F0 m 31 ls [.int k1])) hw (fun k1 hw ls H locs hl hP hD hS => ?_) (fun hw hj0 => ?_)
      · refine lv_istore_n (lv' := [(1, .int k1), (0, .ref (ad 0)), (2, .int v2)]) hx hb dX4_clear_31 rfl hl (by decide) rfl (fun ls hl => ?_)
        refine lv_aload_n hx hb dX4_clear_32 rfl (lv_at hl 1 rfl) ?_
        refine va_get (D := (dC, dI)) (ci := 4) (v := .ref (ad 1)) (C := RX4) (T := TX4) (N := 16) hx hb hts f_X4_clear_1 hown hK hP 0 rfl rfl 1 (by decide) (hts _ f_X4_clear_2) (fun _ h9 => h9) rfl dX4_clear_33 ?_
        refine lv_iload_n hx hb dX4_clear_36 rfl (lv_at hl 2 rfl) ?_
        refine lv_iconst (v := 0) hx hb dX4_clear_37 (by decide) ?_
        have hi := hw.1
        have hw := hw.2 _ rfl
        refine va_zast hx hb hK hP hD hS 1 2 rfl rfl hi dX4_clear_38 (fun H locs hP hD hS => ?_)
        generalize hmth_4 : (upd mth v2.toNatClampNeg (vp_nar .boolean (0 : Int32))) = mth_4 at hw hP hD
        have hP : va_P (dC, dI) vwCl (wMod ad cI cJ cZ mre mth_4 mxs mys mcu mnx mpo mpn mrn mrd mfi mar mfn mfa mnu mst) H := hP
        have hD : va_D A (wMod ad cI cJ cZ mre mth_4 mxs mys mcu mnx mpo mpn mrn mrd mfi mar mfn mfa mnu mst) := hD
        refine lv_iinc (v := (v2 + (1 : Int32))) (lv' := [(2, .int (v2 + (1 : Int32))), (1, .int k1), (0, .ref (ad 0))]) hx hb dX4_clear_39 hl (k := 2) rfl rfl (by decide) rfl (fun ls hl => ?_)
        refine lv_goto (tgt := 9) hx hb dX4_clear_42 (by decide) ?_
        exact ih mth_4 k1 (v2 + (1 : Int32)) ls _ _ (lv_sub hl [2, 1, 0] rfl) hP hD hS hw
      · have hj3 := hj0
        refine lv_if_eq (tgt := 30) hx hb dX4_clear_21 (by decide) (fun hc => ?_) (fun hc => ?_)
        · have hw := hw.1 (hc)
          refine lv_iload_n hx hb dX4_clear_30 rfl (lv_at hl 1 rfl) ?_
          exact hj3 v1 hw ls _ _ (lv_sub hl [0, 2] rfl) hP hD hS
        · have hw := hw.2 hc
          refine lv_iload_n hx hb dX4_clear_24 rfl (lv_at hl 1 rfl) ?_
          refine lv_iconst (v := 1) hx hb dX4_clear_25 (by decide) ?_
          refine lv_iadd hx hb dX4_clear_26 ?_
          refine lv_goto (tgt := 31) hx hb dX4_clear_27 (by decide) ?_
          exact hj3 (v1 + (1 : Int32)) hw ls _ _ (lv_sub hl [0, 2] rfl) hP hD hS
set_option maxRecDepth 100000 in
set_option maxHeartbeats 4000000 in
theorem c_X4_clear (l : Launch) (dC : Nat → ClassId) (dI : Nat → Nat → Nat) (cI cJ cZ : ClassId) (ad : Nat → Nat) (sz : Nat) (mre : Int32) (mth : Nat → Int32) (mxs : Nat → Int32) (mys : Nat → Int32) (mcu : Int32) (mnx : Nat → Int32) (mpo : Nat → Int32) (mpn : Int32) (mrn : Int32) (mrd : Nat → Int32) (mfi : Nat → Int32) (mar : Nat → Int64) (mfn : Int32) (mfa : Nat → Int32) (mnu : Nat → Int32) (mst : Nat → Int32)  {post : Int32 → Int32 → (Nat → Int32) → Int32 → Prop} (hw : wp_X4_clear mre mth mcu post) : Met l yX4_clear wsX4_clear rm_X4_clear (va_Pc [.ref (ad 0)] (fun U => U.heap.size = sz ∧ va_P (dC, dI) vwCl (wMod ad cI cJ cZ mre mth mxs mys mcu mnx mpo mpn mrn mrd mfi mar mfn mfa mnu mst) U.heap ∧ va_K (dC, dI) vwCl (tyL cI cJ cZ) U ∧ va_D (fun _ => True) (wMod ad cI cJ cZ mre mth mxs mys mcu mnx mpo mpn mrn mrd mfi mar mfn mfa mnu mst))) (va_Qi (fun (r : Int32) (uu : Int32 × (Nat → Int32) × Int32) => post r uu.1 uu.2.1 uu.2.2) (fun (uu : Int32 × (Nat → Int32) × Int32) (t : State) => va_P (dC, dI) vwCl (wMod ad cI cJ cZ uu.1 uu.2.1 mxs mys uu.2.2 mnx mpo mpn mrn mrd mfi mar mfn mfa mnu mst) t.heap ∧ va_D (va_A (wMod ad cI cJ cZ mre mth mxs mys mcu mnx mpo mpn mrn mrd mfi mar mfn mfa mnu mst) sz) (wMod ad cI cJ cZ uu.1 uu.2.1 mxs mys uu.2.2 mnx mpo mpn mrn mrd mfi mar mfn mfa mnu mst)) (va_A (wMod ad cI cJ cZ mre mth mxs mys mcu mnx mpo mpn mrn mrd mfi mar mfn mfa mnu mst) sz)) 0 0 (va_A (wMod ad cI cJ cZ mre mth mxs mys mcu mnx mpo mpn mrn mrd mfi mar mfn mfa mnu mst) sz) := by
  unfold wp_X4_clear at hw
  refine Met.ofW (cc := cX4_clear) (maxL := 3) (ret := (some .int)) (by decide) rfl ?_
  intro p e s m args below meth c s₁ B hml hv
  obtain ⟨hav, hsz, hP, hK, hD0⟩ := hv
  have hx := B.exec
  have hb := B.bytes
  have hr := B.returns
  have hts := atoms_spec (ws := wsX4_clear) B.pre
  have hown : s.vm.findClass RX4 = some m.cls := findClass_of_methodNamed B.named
  have hlocks := B.notSynchronized
  have C : CallFix p m c cX4_clear 3 s args wsX4_clear RX4 := ⟨hx, hb, hml, hown, hts⟩
  obtain ⟨ls, hE, hl⟩ := mx_entry (m := m) [.ref (ad 0)] (n := 3) (Nat.le_of_ble_eq_true rfl)
  have hl : lv_has ls 3 [(0, .ref (ad 0))] := hl
  rw [show entryFrame m args 3 = F0 m 0 ls [] by rw [hav]; exact hE]
  subst hsz
  have hD := hD0.self (sz := s.heap.size)
  generalize hAe : va_A (wMod ad cI cJ cZ mre mth mxs mys mcu mnx mpo mpn mrn mrd mfi mar mfn mfa mnu mst) s.heap.size = A at hD ⊢
  have hA : ∀ q : Nat, s.heap.size ≤ q → A q := fun q h => by rw [← hAe]; exact Or.inr h
  have hS : va_S A s.heap s.heap [] := va_S.rf
  obtain ⟨Q, hQ⟩ : ∃ Q, MQ below (va_Qi (fun (r : Int32) (uu : Int32 × (Nat → Int32) × Int32) => post r uu.1 uu.2.1 uu.2.2) (fun (uu : Int32 × (Nat → Int32) × Int32) (t : State) => va_P (dC, dI) vwCl (wMod ad cI cJ cZ uu.1 uu.2.1 mxs mys uu.2.2 mnx mpo mpn mrn mrd mfi mar mfn mfa mnu mst) t.heap ∧ va_D A (wMod ad cI cJ cZ uu.1 uu.2.1 mxs mys uu.2.2 mnx mpo mpn mrn mrd mfi mar mfn mfa mnu mst)) A) args s 0 0 A = Q := ⟨_, rfl⟩
  rw [hQ]
  obtain ⟨H, hH⟩ : ∃ H, s.heap = H := ⟨_, rfl⟩
  have hS : va_S A s.heap H [] := by rw [← hH]; exact hS
  rw [hH] at hP
  show W p l e rm_X4_clear s m args below meth c s.heap [] 0 0 Q (F0 m 0 ls [])
  suffices hg : W p l e rm_X4_clear s m args below meth c H [] 0 0 Q (F0 m 0 ls []) by rw [hH]; exact hg
  clear hH
  generalize hlo : ([] : List Loc) = locs at hS ⊢
  refine lv_aload_n hx hb dX4_clear_0 rfl (lv_at hl 0 rfl) ?_
  refine lv_iconst (v := 0) hx hb dX4_clear_1 (by decide) ?_
  refine va_put (D := (dC, dI)) (ci := 4) (v := .int (0 : Int32)) (ty := .int) (C := RX4) (T := TX4) (N := 16) hx hb hts f_X4_clear_1 tyX4 tyX4_ok nmX4 hown hK hP hD hS 0 rfl rfl 0 (by decide) (hts _ f_X4_clear_0) (fun _ h9 => h9) rfl (by decide +kernel) rfl rfl (Nat.le_of_ble_eq_true rfl) dX4_clear_2 (fun H locs hP hD hS => ?_)
  have hP : va_P (dC, dI) vwCl (wMod ad cI cJ cZ (0 : Int32) mth mxs mys mcu mnx mpo mpn mrn mrd mfi mar mfn mfa mnu mst) H := hP
  have hD : va_D A (wMod ad cI cJ cZ (0 : Int32) mth mxs mys mcu mnx mpo mpn mrn mrd mfi mar mfn mfa mnu mst) := hD
  refine lv_iconst (v := 0) hx hb dX4_clear_5 (by decide) ?_
  refine lv_istore_n (lv' := [(1, .int (0 : Int32)), (0, .ref (ad 0))]) hx hb dX4_clear_6 rfl hl (by decide) rfl (fun ls hl => ?_)
  refine lv_iconst (v := 0) hx hb dX4_clear_7 (by decide) ?_
  refine lv_istore_n (lv' := [(2, .int (0 : Int32)), (1, .int (0 : Int32)), (0, .ref (ad 0))]) hx hb dX4_clear_8 rfl hl (by decide) rfl (fun ls hl => ?_)
  obtain ⟨n7, hw⟩ := hw
  refine l_X4_clear_9 C hK hA (fun w5 mth_6 ls H locs hl hP hD hS hw => ?_) n7 mth (0 : Int32) (0 : Int32) ls _ _ (lv_sub hl [2, 1, 0] rfl) hP hD hS hw
  refine lv_aload_n hx hb dX4_clear_45 rfl (lv_at hl 0 rfl) ?_
  refine lv_iconst (v := 0) hx hb dX4_clear_46 (by decide) ?_
  refine va_put (D := (dC, dI)) (ci := 4) (v := .int (0 : Int32)) (ty := .boolean) (C := RX4) (T := TX4) (N := 16) hx hb hts f_X4_clear_1 tyX4 tyX4_ok nmX4 hown hK hP hD hS 0 rfl rfl 4 (by decide) (hts _ f_X4_clear_3) (fun _ h9 => h9) rfl (by decide +kernel) (by decide) rfl (Nat.le_of_ble_eq_true rfl) dX4_clear_47 (fun H locs hP hD hS => ?_)
  have hP : va_P (dC, dI) vwCl (wMod ad cI cJ cZ (0 : Int32) mth_6 mxs mys (0 : Int32) mnx mpo mpn mrn mrd mfi mar mfn mfa mnu mst) H := hP
  have hD : va_D A (wMod ad cI cJ cZ (0 : Int32) mth_6 mxs mys (0 : Int32) mnx mpo mpn mrn mrd mfi mar mfn mfa mnu mst) := hD
  refine lv_iload_n hx hb dX4_clear_50 rfl (lv_at hl 1 rfl) ?_
  rw [← hQ]
  exact W.iret (v := w5) hx hb hr (fun t ht hW => ⟨⟨_, ((0 : Int32), mth_6, (0 : Int32)), rfl, hw, by rw [ht]; exact hP, hD⟩, hS.F ht⟩) hS.2.2 dX4_clear_51
