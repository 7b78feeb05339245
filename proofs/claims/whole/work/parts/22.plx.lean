-- X3_requirePlace
abbrev rm_X3_requirePlace : Room := { frames := 0, cells := 0, slots := 0, locals := 0 }
set_option maxRecDepth 100000 in
set_option maxHeartbeats 4000000 in
theorem c_X3_requirePlace (l : Launch)  (v0 : Int32) (v1 : Int32) {post : Prop} (hw : wp_X3_requirePlace v0 v1 post) : Met l yX3_requirePlace wsX3_requirePlace rm_X3_requirePlace (va_Pc [.int v0, .int v1] (fun _ => True)) (va_Sv (fun _ => post)) 0 0 (fun _ => False) := by
  unfold wp_X3_requirePlace at hw
  refine Met.ofW (cc := cX3_requirePlace) (maxL := 2) (ret := none) (by decide) rfl ?_
  intro p e s m args below meth c s₁ B hml hv
  obtain ⟨hav, -⟩ := hv
  have hx := B.exec
  have hb := B.bytes
  have hr := B.returns
  have hts := atoms_spec (ws := wsX3_requirePlace) B.pre
  have hown : s.vm.findClass RX3 = some m.cls := findClass_of_methodNamed B.named
  have hlocks := B.notSynchronized
  have C : CallFix p m c cX3_requirePlace 2 s args wsX3_requirePlace RX3 := ⟨hx, hb, hml, hown, hts⟩
  obtain ⟨ls, hE, hl⟩ := mx_entry (m := m) [.int v0, .int v1] (n := 2) (Nat.le_of_ble_eq_true rfl)
  have hl : lv_has ls 2 [(0, .int v0), (1, .int v1)] := hl
  rw [show entryFrame m args 2 = F0 m 0 ls [] by rw [hav]; exact hE]
  obtain ⟨Q, hQ⟩ : ∃ Q, MQ below (va_Sv (fun _ => post)) args s 0 0 (fun _ => False) = Q := ⟨_, rfl⟩
  rw [hQ]
  obtain ⟨H, hH⟩ : ∃ H, s.heap = H := ⟨_, rfl⟩
  rw [hH]
  show W p l e rm_X3_requirePlace s m args below meth c H [] 0 0 Q (F0 m 0 ls [])
  refine lv_iload_n hx hb dX3_requirePlace_0 rfl (lv_at hl 0 rfl) ?_
  refine lv_sipush (v := -16000) hx hb dX3_requirePlace_1 (by decide) ?_
  refine jn0_use (J := ∀ ls : Array Slot, lv_has ls 2 [] → W p l e rm_X3_requirePlace s m args below meth c H [] 0 0 Q (F0 m 28 ls [])) hw (fun hw ls hl => ?_) (fun hw hj0 => ?_)
  · exact hw.elim
  · have hj2 := hj0
    refine lv_icmp_lt (tgt := 28) hx hb dX3_requirePlace_4 (by decide) (fun hc => ?_) (fun hc => ?_)
    · have hw := hw.1 (hc)
      exact hj2 hw ls (lv_sub hl [] rfl)
    · have hw := hw.2 hc
      refine lv_iload_n hx hb dX3_requirePlace_7 rfl (lv_at hl 0 rfl) ?_
      refine lv_sipush (v := 16000) hx hb dX3_requirePlace_8 (by decide) ?_
      refine lv_icmp_gt (tgt := 28) hx hb dX3_requirePlace_11 (by decide) (fun hc => ?_) (fun hc => ?_)
      · have hw := hw.1 (hc)
        exact hj2 hw ls (lv_sub hl [] rfl)
      · have hw := hw.2 hc
        refine lv_iload_n hx hb dX3_requirePlace_14 rfl (lv_at hl 1 rfl) ?_
        refine lv_sipush (v := -16000) hx hb dX3_requirePlace_15 (by decide) ?_
        refine lv_icmp_lt (tgt := 28) hx hb dX3_requirePlace_18 (by decide) (fun hc => ?_) (fun hc => ?_)
        · have hw := hw.1 (hc)
          exact hj2 hw ls (lv_sub hl [] rfl)
        · have hw := hw.2 hc
          refine lv_iload_n hx hb dX3_requirePlace_21 rfl (lv_at hl 1 rfl) ?_
          refine lv_sipush (v := 16000) hx hb dX3_requirePlace_22 (by decide) ?_
          refine lv_icmp_le (tgt := 38) hx hb dX3_requirePlace_25 (by decide) (fun hc => ?_) (fun hc => ?_)
          · have hw := hw.1 (hc)
            rw [← hQ]
            exact W.vret hx hb hr (fun t ht hW => ⟨rfl, hw, ht.trans hH.symm⟩) (fun q h => by cases h) dX3_requirePlace_38
          · have hw := hw.2 hc
            exact hj2 hw ls (lv_sub hl [] rfl)
-- X3_requirePlace throws
abbrev rmx_X3_requirePlace : Room := { frames := 6, cells := 1, slots := 6, locals := 92 }
theorem fx_X3_requirePlace_0 : ∀ w ∈ (vx_atS RX3 40 "java/lang/IllegalArgumentException" ["java/lang/RuntimeException", "java/lang/Exception"]).filter goodWord, w ∈ wsX3_requirePlace := by decide +kernel
theorem fx_X3_requirePlace_1 : ∀ w ∈ (vx_atS RX3 40 "java/lang/IllegalArgumentException" ["java/lang/RuntimeException", "java/lang/Exception"]).filter (fun w => !goodWord w), w ∈ [Cond.castable "java/lang/IllegalArgumentException" "java/lang/IllegalArgumentException", .declares (Bundle.initS "java/lang/RuntimeException"), .declares (Bundle.initS "java/lang/Exception"), .declares (Bundle.initS "java/lang/Throwable")] := by decide +kernel
theorem fx_X3_requirePlace_2 : ∀ w ∈ Cond.classLink RX3 36 "java/lang/IllegalArgumentException" :: Cond.initialized "java/lang/IllegalArgumentException" :: vx_atS RX3 40 "java/lang/IllegalArgumentException" ["java/lang/RuntimeException", "java/lang/Exception"], vx_ot w = true := by decide +kernel
theorem fx_X3_requirePlace_3 : (Cond.classLink RX3 36 "java/lang/IllegalArgumentException") ∈ wsX3_requirePlace := by decide +kernel
theorem fx_X3_requirePlace_4 : (Cond.initialized "java/lang/IllegalArgumentException") ∈ wsX3_requirePlace := by decide +kernel
set_option maxRecDepth 100000 in
set_option maxHeartbeats 4000000 in
theorem cx_X3_requirePlace (l : Launch) (hst : l.stackTraces = false) (dC : Nat → ClassId) (dI : Nat → Nat → Nat) (cI cJ cZ : ClassId) (ad : Nat → Nat) (sz : Nat)  (v0 : Int32) (v1 : Int32) {px : String → Prop} (hw : wpx_X3_requirePlace v0 v1 px) : vx_Met l yX3_requirePlace wsX3_requirePlace rmx_X3_requirePlace (va_Pc [.int v0, .int v1] (fun U => U.heap.size = sz ∧ va_P (dC, dI) vwCl (wEmp ad cI cJ cZ ) U.heap ∧ va_K (dC, dI) vwCl (tyL cI cJ cZ) U ∧ va_D (fun _ => True) (wEmp ad cI cJ cZ ) ∧ xe (va_A (wEmp ad cI cJ cZ ) sz) U U.heap)) (va_Qv (fun _ : Unit => False) (fun _ _ => True) (va_A (wEmp ad cI cJ cZ ) sz)) (vx_X (fun _ : Unit => True) (fun (E : String) (uu : Unit) (t : State) => px E  ∧ va_P (dC, dI) vwCl (wEmp ad cI cJ cZ ) t.heap ∧ va_D (va_A (wEmp ad cI cJ cZ ) sz) (wEmp ad cI cJ cZ )) (va_A (wEmp ad cI cJ cZ ) sz)) 1 6 (va_A (wEmp ad cI cJ cZ ) sz) := by
  unfold wpx_X3_requirePlace at hw
  refine vx_ofW (cc := cX3_requirePlace) (maxL := 2) (ret := none) (by decide) rfl ?_
  intro p e s m args below meth c s₁ B hml hnt hv
  obtain ⟨hav, hsz, hP, hK, hD0, hxe⟩ := hv
  have hx := B.exec
  have hb := B.bytes
  have hr := B.returns
  have hts := atoms_spec (ws := wsX3_requirePlace) B.pre
  have hown : s.vm.findClass RX3 = some m.cls := findClass_of_methodNamed B.named
  have hlocks := B.notSynchronized
  have C : CallFix p m c cX3_requirePlace 2 s args wsX3_requirePlace RX3 := ⟨hx, hb, hml, hown, hts⟩
  obtain ⟨ls, hE, hl⟩ := mx_entry (m := m) [.int v0, .int v1] (n := 2) (Nat.le_of_ble_eq_true rfl)
  have hl : lv_has ls 2 [(0, .int v0), (1, .int v1)] := hl
  rw [show entryFrame m args 2 = F0 m 0 ls [] by rw [hav]; exact hE]
  subst hsz
  have hD := hD0.self (sz := s.heap.size)
  generalize hAe : va_A (wEmp ad cI cJ cZ ) s.heap.size = A at hD hxe ⊢
  have hA : ∀ q : Nat, s.heap.size ≤ q → A q := fun q h => by rw [← hAe]; exact Or.inr h
  have hS : va_S A s.heap s.heap [] := va_S.rf
  obtain ⟨Q, hQ⟩ : ∃ Q, vx_MQ below (va_Qv (fun _ : Unit => False) (fun _ _ => True) A) (vx_X (fun _ : Unit => True) (fun (E : String) (uu : Unit) (t : State) => px E  ∧ va_P (dC, dI) vwCl (wEmp ad cI cJ cZ ) t.heap ∧ va_D A (wEmp ad cI cJ cZ )) A) args s 1 6 A = Q := ⟨_, rfl⟩
  rw [hQ]
  obtain ⟨H, hH⟩ : ∃ H, s.heap = H := ⟨_, rfl⟩
  have hS : va_S A s.heap H [] := by rw [← hH]; exact hS
  rw [hH] at hP
  show W p l e rmx_X3_requirePlace s m args below meth c s.heap [] 0 0 Q (F0 m 0 ls [])
  suffices hg : W p l e rmx_X3_requirePlace s m args below meth c H [] 0 0 Q (F0 m 0 ls []) by rw [hH]; exact hg
  clear hH
  generalize hlo : ([] : List Loc) = locs at hS ⊢
  refine lv_iload_n hx hb dX3_requirePlace_0 rfl (lv_at hl 0 rfl) ?_
  refine lv_sipush (v := -16000) hx hb dX3_requirePlace_1 (by decide) ?_
  refine jn0_use (J := ∀ (ls : Array Slot) (H : Heap) (locs : List Loc), lv_has ls 2 [] → va_P (dC, dI) vwCl (wEmp ad cI cJ cZ ) H → va_D A (wEmp ad cI cJ cZ ) → va_S A s.heap H locs → W p l e rmx_X3_requirePlace s m args below meth c H locs 0 0 Q (F0 m 28 ls [])) hw (fun hw ls H locs hl hP hD hS => ?_) (fun hw hj0 => ?_)
  · obtain ⟨sa, hsa⟩ := hxe.2.2.1.2.2.2.2.2
    rw [← hQ]
    exact vx_throwS (A := A) (own := RX3) (cls := "java/lang/IllegalArgumentException") (text := "a coordinate is out of bounds") (names := ["java/lang/RuntimeException", "java/lang/Exception"]) (sa := sa) hx hb hst hown (by decide +kernel) (by decide +kernel) (hts _ fx_X3_requirePlace_3) (hts _ fx_X3_requirePlace_4) hsa (vx_hat (fun w h9 => hts w (fx_X3_requirePlace_0 w h9)) fx_X3_requirePlace_1 (xw_I hxe.2.2.2)) fx_X3_requirePlace_2 hxe.1 hxe.2.1 hS (hl.1.trans hml.symm) dX3_requirePlace_28 dX3_requirePlace_31 dX3_requirePlace_32 dX3_requirePlace_34 dX3_requirePlace_37 (fun x9 h9 => (hnt x9 h9).elim) (Nat.le_of_ble_eq_true rfl) (Nat.le_of_ble_eq_true rfl) (Nat.le_of_ble_eq_true rfl) (Nat.le_of_ble_eq_true rfl) hlocks (fun t hvm hsz hk => ⟨(), trivial, ⟨hw, hP.kept (fun k q hq => hk q.1 (vx_lt hP hq)), hD⟩, ⟨Nat.le_trans hS.1 hsz, fun q h1 h2 => (hk q (Nat.lt_of_lt_of_le h1 hS.1)).trans (hS.2.1 q h1 h2)⟩⟩) hS.2.2 (Nat.le_of_ble_eq_true rfl) (Nat.le_of_ble_eq_true rfl)
  · have hj2 := hj0
    refine lv_icmp_lt (tgt := 28) hx hb dX3_requirePlace_4 (by decide) (fun hc => ?_) (fun hc => ?_)
    · have hw := hw.1 (hc)
      exact hj2 hw ls _ _ (lv_sub hl [] rfl) hP hD hS
    · have hw := hw.2 hc
      refine lv_iload_n hx hb dX3_requirePlace_7 rfl (lv_at hl 0 rfl) ?_
      refine lv_sipush (v := 16000) hx hb dX3_requirePlace_8 (by decide) ?_
      refine lv_icmp_gt (tgt := 28) hx hb dX3_requirePlace_11 (by decide) (fun hc => ?_) (fun hc => ?_)
      · have hw := hw.1 (hc)
        exact hj2 hw ls _ _ (lv_sub hl [] rfl) hP hD hS
      · have hw := hw.2 hc
        refine lv_iload_n hx hb dX3_requirePlace_14 rfl (lv_at hl 1 rfl) ?_
        refine lv_sipush (v := -16000) hx hb dX3_requirePlace_15 (by decide) ?_
        refine lv_icmp_lt (tgt := 28) hx hb dX3_requirePlace_18 (by decide) (fun hc => ?_) (fun hc => ?_)
        · have hw := hw.1 (hc)
          exact hj2 hw ls _ _ (lv_sub hl [] rfl) hP hD hS
        · have hw := hw.2 hc
          refine lv_iload_n hx hb dX3_requirePlace_21 rfl (lv_at hl 1 rfl) ?_
          refine lv_sipush (v := 16000) hx hb dX3_requirePlace_22 (by decide) ?_
          refine lv_icmp_le (tgt := 38) hx hb dX3_requirePlace_25 (by decide) (fun hc => ?_) (fun hc => ?_)
          · have hw := hw.1 (hc)
            exact hw.elim
          · have hw := hw.2 hc
            exact hj2 hw ls _ _ (lv_sub hl [] rfl) hP hD hS
-- X3_requireHalf
abbrev rm_X3_requireHalf : Room := { frames := 1, cells := 0, slots := 0, locals := 21 }
theorem f_X3_requireHalf_0 : (Cond.fieldLink RX3 27 "PlaneFaces" "segments" "LPlaneFaces$Segments;") ∈ wsX3_requireHalf := by decide +kernel
theorem f_X3_requireHalf_1 : ∀ w ∈ wsX30, w ∈ wsX3_requireHalf := by decide +kernel
set_option maxRecDepth 100000 in
set_option maxHeartbeats 4000000 in
theorem c_X3_requireHalf (l : Launch) (dC : Nat → ClassId) (dI : Nat → Nat → Nat) (cI cJ cZ : ClassId) (ad : Nat → Nat) (sl : Int32) (ho : Nat → Int32) (nu : Nat → Int32) (fa : Nat → Int32) (ou : Nat → Int32) (sp : Nat → Int32) (fn : Int32) (co : Nat → Int32) (fo : Nat → Int32) (ro : Nat → Int32) (po : Nat → Int32) (pn : Int32) (rd : Nat → Int32) (st : Nat → Int32) (tw : Nat → Int64) (od : Nat → Int32) (rn : Int32) (x : Nat → Int32) (y : Nat → Int32) (u : Nat → Int32) (sn : Int32) (v1 : Int32) {post : Prop} (hw : wp_X3_requireHalf u v1 post) : Met l yX3_requireHalf wsX3_requireHalf rm_X3_requireHalf (va_Pc [.ref (ad 0), .int v1] (fun U => va_P (dC, dI) vwCl (wPla ad cI cJ cZ sl ho nu fa ou sp fn co fo ro po pn rd st tw od rn x y u sn) U.heap ∧ va_K (dC, dI) vwCl (tyL cI cJ cZ) U)) (va_Sv (fun _ => post)) 0 0 (fun _ => False) := by
  unfold wp_X3_requireHalf at hw
  refine Met.ofW (cc := cX3_requireHalf) (maxL := 2) (ret := none) (by decide) rfl ?_
  intro p e s m args below meth c s₁ B hml hv
  obtain ⟨hav, hP, hK⟩ := hv
  have hx := B.exec
  have hb := B.bytes
  have hr := B.returns
  have hts := atoms_spec (ws := wsX3_requireHalf) B.pre
  have hown : s.vm.findClass RX3 = some m.cls := findClass_of_methodNamed B.named
  have hlocks := B.notSynchronized
  have C : CallFix p m c cX3_requireHalf 2 s args wsX3_requireHalf RX3 := ⟨hx, hb, hml, hown, hts⟩
  obtain ⟨ls, hE, hl⟩ := mx_entry (m := m) [.ref (ad 0), .int v1] (n := 2) (Nat.le_of_ble_eq_true rfl)
  have hl : lv_has ls 2 [(0, .ref (ad 0)), (1, .int v1)] := hl
  rw [show entryFrame m args 2 = F0 m 0 ls [] by rw [hav]; exact hE]
  obtain ⟨Q, hQ⟩ : ∃ Q, MQ below (va_Sv (fun _ => post)) args s 0 0 (fun _ => False) = Q := ⟨_, rfl⟩
  rw [hQ]
  obtain ⟨H, hH⟩ : ∃ H, s.heap = H := ⟨_, rfl⟩
  rw [hH]
  rw [hH] at hP
  show W p l e rm_X3_requireHalf s m args below meth c H [] 0 0 Q (F0 m 0 ls [])
  refine lv_aload_n hx hb dX3_requireHalf_0 rfl (lv_at hl 0 rfl) ?_
  refine va_get (D := (dC, dI)) (ci := 3) (v := .ref (ad 16)) (C := RX3) (T := TX3) (N := 4) hx hb hts f_X3_requireHalf_1 hown hK hP 0 rfl rfl 0 (by decide) (hts _ f_X3_requireHalf_0) (fun _ h9 => h9) rfl dX3_requireHalf_1 ?_
  refine lv_iload_n hx hb dX3_requireHalf_4 rfl (lv_at hl 1 rfl) ?_
  refine lv_iconst (v := 1) hx hb dX3_requireHalf_5 (by decide) ?_
  refine lv_ishr hx hb dX3_requireHalf_6 ?_
  have hPc := hP.sub (ws' := (wSeg ad cI cJ cZ x y u sn)) [16, 17, 18, 19] rfl
  refine vp_callSi (W.runV (As := [.int (v1 >>> ((1 : Int32) &&& 31))]) (rest := []) C (c_X2_has l dC dI cI cJ cZ ad x y u sn (v1 >>> ((1 : Int32) &&& 31)) hw) (cwV 1 hts gX3_requireHalf_X2_has rfl rfl rfl (by decide +kernel) ⟨Nat.le_of_ble_eq_true rfl, Nat.le_of_ble_eq_true rfl⟩) ⟨fb_ro, va_recv hK hPc (ci := 2) (q0 := 0) rfl rfl, fun U hU hW => ⟨rfl, by rw [hU]; exact hPc, va_K.moved hW.alike hK⟩⟩ rfl rfl hl.1 rfl (lv_room (Nat.le_of_ble_eq_true rfl)) dX3_requireHalf_7 ⟨Nat.zero_le _, Nat.zero_le _⟩) (fun r1 hw => ?_)
  refine lv_if_ne (tgt := 23) hx hb dX3_requireHalf_10 (by decide) (fun hc => ?_) (fun hc => ?_)
  · have hw := hw.2 hc
    rw [← hQ]
    exact W.vret hx hb hr (fun t ht hW => ⟨rfl, hw, ht.trans hH.symm⟩) (fun q h => by cases h) dX3_requireHalf_23
  · have hw := hw.1 (hc)
    exact hw.elim
-- X3_requireHalf throws
abbrev rmx_X3_requireHalf : Room := { frames := 6, cells := 1, slots := 6, locals := 92 }
theorem fx_X3_requireHalf_0 : (Cond.fieldLink RX3 27 "PlaneFaces" "segments" "LPlaneFaces$Segments;") ∈ wsX3_requireHalf := by decide +kernel
theorem fx_X3_requireHalf_1 : ∀ w ∈ wsX30, w ∈ wsX3_requireHalf := by decide +kernel
theorem fx_X3_requireHalf_2 : ∀ w ∈ (vx_atS RX3 116 "java/lang/IndexOutOfBoundsException" ["java/lang/RuntimeException", "java/lang/Exception"]).filter goodWord, w ∈ wsX3_requireHalf := by decide +kernel
theorem fx_X3_requireHalf_3 : ∀ w ∈ (vx_atS RX3 116 "java/lang/IndexOutOfBoundsException" ["java/lang/RuntimeException", "java/lang/Exception"]).filter (fun w => !goodWord w), w ∈ [Cond.castable "java/lang/IndexOutOfBoundsException" "java/lang/IndexOutOfBoundsException", .declares (Bundle.initS "java/lang/RuntimeException"), .declares (Bundle.initS "java/lang/Exception"), .declares (Bundle.initS "java/lang/Throwable")] := by decide +kernel
theorem fx_X3_requireHalf_4 : ∀ w ∈ Cond.classLink RX3 112 "java/lang/IndexOutOfBoundsException" :: Cond.initialized "java/lang/IndexOutOfBoundsException" :: vx_atS RX3 116 "java/lang/IndexOutOfBoundsException" ["java/lang/RuntimeException", "java/lang/Exception"], vx_ot w = true := by decide +kernel
theorem fx_X3_requireHalf_5 : (Cond.classLink RX3 112 "java/lang/IndexOutOfBoundsException") ∈ wsX3_requireHalf := by decide +kernel
theorem fx_X3_requireHalf_6 : (Cond.initialized "java/lang/IndexOutOfBoundsException") ∈ wsX3_requireHalf := by decide +kernel
set_option maxRecDepth 100000 in
set_option maxHeartbeats 4000000 in
theorem cx_X3_requireHalf (l : Launch) (hst : l.stackTraces = false) (dC : Nat → ClassId) (dI : Nat → Nat → Nat) (cI cJ cZ : ClassId) (ad : Nat → Nat) (sz : Nat) (sl : Int32) (ho : Nat → Int32) (nu : Nat → Int32) (fa : Nat → Int32) (ou : Nat → Int32) (sp : Nat → Int32) (fn : Int32) (co : Nat → Int32) (fo : Nat → Int32) (ro : Nat → Int32) (po : Nat → Int32) (pn : Int32) (rd : Nat → Int32) (st : Nat → Int32) (tw : Nat → Int64) (od : Nat → Int32) (rn : Int32) (x : Nat → Int32) (y : Nat → Int32) (u : Nat → Int32) (sn : Int32) (v1 : Int32) {px : String → Prop} (hw : wpx_X3_requireHalf u v1 px) : vx_Met l yX3_requireHalf wsX3_requireHalf rmx_X3_requireHalf (va_Pc [.ref (ad 0), .int v1] (fun U => U.heap.size = sz ∧ va_P (dC, dI) vwCl (wPla ad cI cJ cZ sl ho nu fa ou sp fn co fo ro po pn rd st tw od rn x y u sn) U.heap ∧ va_K (dC, dI) vwCl (tyL cI cJ cZ) U ∧ va_D (fun _ => True) (wPla ad cI cJ cZ sl ho nu fa ou sp fn co fo ro po pn rd st tw od rn x y u sn) ∧ xe (va_A (wPla ad cI cJ cZ sl ho nu fa ou sp fn co fo ro po pn rd st tw od rn x y u sn) sz) U U.heap)) (va_Qv (fun _ : Unit => False) (fun _ _ => True) (va_A (wPla ad cI cJ cZ sl ho nu fa ou sp fn co fo ro po pn rd st tw od rn x y u sn) sz)) (vx_X (fun _ : Unit => True) (fun (E : String) (uu : Unit) (t : State) => px E  ∧ va_P (dC, dI) vwCl (wPla ad cI cJ cZ sl ho nu fa ou sp fn co fo ro po pn rd st tw od rn x y u sn) t.heap ∧ va_D (va_A (wPla ad cI cJ cZ sl ho nu fa ou sp fn co fo ro po pn rd st tw od rn x y u sn) sz) (wPla ad cI cJ cZ sl ho nu fa ou sp fn co fo ro po pn rd st tw od rn x y u sn)) (va_A (wPla ad cI cJ cZ sl ho nu fa ou sp fn co fo ro po pn rd st tw od rn x y u sn) sz)) 1 6 (va_A (wPla ad cI cJ cZ sl ho nu fa ou sp fn co fo ro po pn rd st tw od rn x y u sn) sz) := by
  unfold wpx_X3_requireHalf at hw
  refine vx_ofW (cc := cX3_requireHalf) (maxL := 2) (ret := none) (by decide) rfl ?_
  intro p e s m args below meth c s₁ B hml hnt hv
  obtain ⟨hav, hsz, hP, hK, hD0, hxe⟩ := hv
  have hx := B.exec
  have hb := B.bytes
  have hr := B.returns
  have hts := atoms_spec (ws := wsX3_requireHalf) B.pre
  have hown : s.vm.findClass RX3 = some m.cls := findClass_of_methodNamed B.named
  have hlocks := B.notSynchronized
  have C : CallFix p m c cX3_requireHalf 2 s args wsX3_requireHalf RX3 := ⟨hx, hb, hml, hown, hts⟩
  obtain ⟨ls, hE, hl⟩ := mx_entry (m := m) [.ref (ad 0), .int v1] (n := 2) (Nat.le_of_ble_eq_true rfl)
  have hl : lv_has ls 2 [(0, .ref (ad 0)), (1, .int v1)] := hl
  rw [show entryFrame m args 2 = F0 m 0 ls [] by rw [hav]; exact hE]
  subst hsz
  have hD := hD0.self (sz := s.heap.size)
  generalize hAe : va_A (wPla ad cI cJ cZ sl ho nu fa ou sp fn co fo ro po pn rd st tw od rn x y u sn) s.heap.size = A at hD hxe ⊢
  have hA : ∀ q : Nat, s.heap.size ≤ q → A q := fun q h => by rw [← hAe]; exact Or.inr h
  have hS : va_S A s.heap s.heap [] := va_S.rf
  obtain ⟨Q, hQ⟩ : ∃ Q, vx_MQ below (va_Qv (fun _ : Unit => False) (fun _ _ => True) A) (vx_X (fun _ : Unit => True) (fun (E : String) (uu : Unit) (t : State) => px E  ∧ va_P (dC, dI) vwCl (wPla ad cI cJ cZ sl ho nu fa ou sp fn co fo ro po pn rd st tw od rn x y u sn) t.heap ∧ va_D A (wPla ad cI cJ cZ sl ho nu fa ou sp fn co fo ro po pn rd st tw od rn x y u sn)) A) args s 1 6 A = Q := ⟨_, rfl⟩
  rw [hQ]
  obtain ⟨H, hH⟩ : ∃ H, s.heap = H := ⟨_, rfl⟩
  have hS : va_S A s.heap H [] := by rw [← hH]; exact hS
  rw [hH] at hP
  show W p l e rmx_X3_requireHalf s m args below meth c s.heap [] 0 0 Q (F0 m 0 ls [])
  suffices hg : W p l e rmx_X3_requireHalf s m args below meth c H [] 0 0 Q (F0 m 0 ls []) by rw [hH]; exact hg
  clear hH
  generalize hlo : ([] : List Loc) = locs at hS ⊢
  refine lv_aload_n hx hb dX3_requireHalf_0 rfl (lv_at hl 0 rfl) ?_
  refine va_get (D := (dC, dI)) (ci := 3) (v := .ref (ad 16)) (C := RX3) (T := TX3) (N := 4) hx hb hts fx_X3_requireHalf_1 hown hK hP 0 rfl rfl 0 (by decide) (hts _ fx_X3_requireHalf_0) (fun _ h9 => h9) rfl dX3_requireHalf_1 ?_
  refine lv_iload_n hx hb dX3_requireHalf_4 rfl (lv_at hl 1 rfl) ?_
  refine lv_iconst (v := 1) hx hb dX3_requireHalf_5 (by decide) ?_
  refine lv_ishr hx hb dX3_requireHalf_6 ?_
  have hPc := hP.sub (ws' := (wSeg ad cI cJ cZ x y u sn)) [16, 17, 18, 19] rfl
  refine vp_callSi (W.runV (As := [.int (v1 >>> ((1 : Int32) &&& 31))]) (rest := []) C (c_X2_has l dC dI cI cJ cZ ad x y u sn (v1 >>> ((1 : Int32) &&& 31)) hw) (cwV 1 hts gX3_requireHalf_X2_has rfl rfl rfl (by decide +kernel) ⟨Nat.le_of_ble_eq_true rfl, Nat.le_of_ble_eq_true rfl⟩) ⟨fb_ro, va_recv hK hPc (ci := 2) (q0 := 0) rfl rfl, fun U hU hW => ⟨rfl, by rw [hU]; exact hPc, va_K.moved hW.alike hK⟩⟩ rfl rfl hl.1 rfl (lv_room (Nat.le_of_ble_eq_true rfl)) dX3_requireHalf_7 ⟨Nat.zero_le _, Nat.zero_le _⟩) (fun r1 hw => ?_)
  refine lv_if_ne (tgt := 23) hx hb dX3_requireHalf_10 (by decide) (fun hc => ?_) (fun hc => ?_)
  · have hw := hw.2 hc
    exact hw.elim
  · have hw := hw.1 (hc)
    obtain ⟨sa, hsa⟩ := hxe.2.2.1.2.2.2.1
    rw [← hQ]
    exact vx_throwS (A := A) (own := RX3) (cls := "java/lang/IndexOutOfBoundsException") (text := "no such half") (names := ["java/lang/RuntimeException", "java/lang/Exception"]) (sa := sa) hx hb hst hown (by decide +kernel) (by decide +kernel) (hts _ fx_X3_requireHalf_5) (hts _ fx_X3_requireHalf_6) hsa (vx_hat (fun w h9 => hts w (fx_X3_requireHalf_2 w h9)) fx_X3_requireHalf_3 (xw_O hxe.2.2.2)) fx_X3_requireHalf_4 hxe.1 hxe.2.1 hS (hl.1.trans hml.symm) dX3_requireHalf_13 dX3_requireHalf_16 dX3_requireHalf_17 dX3_requireHalf_19 dX3_requireHalf_22 (fun x9 h9 => (hnt x9 h9).elim) (Nat.le_of_ble_eq_true rfl) (Nat.le_of_ble_eq_true rfl) (Nat.le_of_ble_eq_true rfl) (Nat.le_of_ble_eq_true rfl) hlocks (fun t hvm hsz hk => ⟨(), trivial, ⟨hw, hP.kept (fun k q hq => hk q.1 (vx_lt hP hq)), hD⟩, ⟨Nat.le_trans hS.1 hsz, fun q h1 h2 => (hk q (Nat.lt_of_lt_of_le h1 hS.1)).trans (hS.2.1 q h1 h2)⟩⟩) hS.2.2 (Nat.le_of_ble_eq_true rfl) (Nat.le_of_ble_eq_true rfl)
-- X3_requireFace
abbrev rm_X3_requireFace : Room := { frames := 0, cells := 0, slots := 0, locals := 0 }
theorem f_X3_requireFace_0 : (Cond.fieldLink RX3 12 "PlaneFaces" "faces" "LPlaneFaces$Faces;") ∈ wsX3_requireFace := by decide +kernel
theorem f_X3_requireFace_1 : ∀ w ∈ wsX30, w ∈ wsX3_requireFace := by decide +kernel
theorem f_X3_requireFace_2 : (Cond.fieldLink RX3 85 "PlaneFaces$Faces" "size" "I") ∈ wsX3_requireFace := by decide +kernel
theorem f_X3_requireFace_3 : ∀ w ∈ wsX00, w ∈ wsX3_requireFace := by decide +kernel
set_option maxRecDepth 100000 in
set_option maxHeartbeats 4000000 in
theorem c_X3_requireFace (l : Launch) (dC : Nat → ClassId) (dI : Nat → Nat → Nat) (cI cJ cZ : ClassId) (ad : Nat → Nat) (sl : Int32) (ho : Nat → Int32) (nu : Nat → Int32) (fa : Nat → Int32) (ou : Nat → Int32) (sp : Nat → Int32) (fn : Int32) (co : Nat → Int32) (fo : Nat → Int32) (ro : Nat → Int32) (po : Nat → Int32) (pn : Int32) (rd : Nat → Int32) (st : Nat → Int32) (tw : Nat → Int64) (od : Nat → Int32) (rn : Int32) (x : Nat → Int32) (y : Nat → Int32) (u : Nat → Int32) (sn : Int32) (v1 : Int32) {post : Prop} (hw : wp_X3_requireFace fn v1 post) : Met l yX3_requireFace wsX3_requireFace rm_X3_requireFace (va_Pc [.ref (ad 0), .int v1] (fun U => va_P (dC, dI) vwCl (wPla ad cI cJ cZ sl ho nu fa ou sp fn co fo ro po pn rd st tw od rn x y u sn) U.heap ∧ va_K (dC, dI) vwCl (tyL cI cJ cZ) U)) (va_Sv (fun _ => post)) 0 0 (fun _ => False) := by
  unfold wp_X3_requireFace at hw
  refine Met.ofW (cc := cX3_requireFace) (maxL := 2) (ret := none) (by decide) rfl ?_
  intro p e s m args below meth c s₁ B hml hv
  obtain ⟨hav, hP, hK⟩ := hv
  have hx := B.exec
  have hb := B.bytes
  have hr := B.returns
  have hts := atoms_spec (ws := wsX3_requireFace) B.pre
  have hown : s.vm.findClass RX3 = some m.cls := findClass_of_methodNamed B.named
  have hlocks := B.notSynchronized
  have C : CallFix p m c cX3_requireFace 2 s args wsX3_requireFace RX3 := ⟨hx, hb, hml, hown, hts⟩
  obtain ⟨ls, hE, hl⟩ := mx_entry (m := m) [.ref (ad 0), .int v1] (n := 2) (Nat.le_of_ble_eq_true rfl)
  have hl : lv_has ls 2 [(0, .ref (ad 0)), (1, .int v1)] := hl
  rw [show entryFrame m args 2 = F0 m 0 ls [] by rw [hav]; exact hE]
  obtain ⟨Q, hQ⟩ : ∃ Q, MQ below (va_Sv (fun _ => post)) args s 0 0 (fun _ => False) = Q := ⟨_, rfl⟩
  rw [hQ]
  obtain ⟨H, hH⟩ : ∃ H, s.heap = H := ⟨_, rfl⟩
  rw [hH]
  rw [hH] at hP
  show W p l e rm_X3_requireFace s m args below meth c H [] 0 0 Q (F0 m 0 ls [])
  refine lv_iload_n hx hb dX3_requireFace_0 rfl (lv_at hl 1 rfl) ?_
  refine jn0_use (J := ∀ ls : Array Slot, lv_has ls 2 [(0, .ref (ad 0))] → W p l e rm_X3_requireFace s m args below meth c H [] 0 0 Q (F0 m 15 ls [])) hw (fun hw ls hl => ?_) (fun hw hj0 => ?_)
  · exact hw.elim
  · have hj2 := hj0
    refine lv_if_lt (tgt := 15) hx hb dX3_requireFace_1 (by decide) (fun hc => ?_) (fun hc => ?_)
    · have hw := hw.1 (hc)
      exact hj2 hw ls (lv_sub hl [0] rfl)
    · have hw := hw.2 hc
      refine lv_iload_n hx hb dX3_requireFace_4 rfl (lv_at hl 1 rfl) ?_
      refine lv_aload_n hx hb dX3_requireFace_5 rfl (lv_at hl 0 rfl) ?_
      refine va_get (D := (dC, dI)) (ci := 3) (v := .ref (ad 1)) (C := RX3) (T := TX3) (N := 4) hx hb hts f_X3_requireFace_1 hown hK hP 0 rfl rfl 2 (by decide) (hts _ f_X3_requireFace_0) (fun _ h9 => h9) rfl dX3_requireFace_6 ?_
      refine va_get (D := (dC, dI)) (ci := 0) (v := .int fn) (C := RX0) (T := TX0) (N := 8) hx hb hts f_X3_requireFace_3 hown hK hP 1 rfl rfl 7 (by decide) (hts _ f_X3_requireFace_2) (fun _ h9 => h9) rfl dX3_requireFace_9 ?_
      refine lv_icmp_lt (tgt := 25) hx hb dX3_requireFace_12 (by decide) (fun hc => ?_) (fun hc => ?_)
      · have hw := hw.1 (hc)
        rw [← hQ]
        exact W.vret hx hb hr (fun t ht hW => ⟨rfl, hw, ht.trans hH.symm⟩) (fun q h => by cases h) dX3_requireFace_25
      · have hw := hw.2 hc
        exact hj2 hw ls (lv_sub hl [0] rfl)
-- X3_requireFace throws
abbrev rmx_X3_requireFace : Room := { frames := 6, cells := 1, slots := 6, locals := 92 }
theorem fx_X3_requireFace_0 : ∀ w ∈ (vx_atS RX3 116 "java/lang/IndexOutOfBoundsException" ["java/lang/RuntimeException", "java/lang/Exception"]).filter goodWord, w ∈ wsX3_requireFace := by decide +kernel
theorem fx_X3_requireFace_1 : ∀ w ∈ (vx_atS RX3 116 "java/lang/IndexOutOfBoundsException" ["java/lang/RuntimeException", "java/lang/Exception"]).filter (fun w => !goodWord w), w ∈ [Cond.castable "java/lang/IndexOutOfBoundsException" "java/lang/IndexOutOfBoundsException", .declares (Bundle.initS "java/lang/RuntimeException"), .declares (Bundle.initS "java/lang/Exception"), .declares (Bundle.initS "java/lang/Throwable")] := by decide +kernel
theorem fx_X3_requireFace_2 : ∀ w ∈ Cond.classLink RX3 112 "java/lang/IndexOutOfBoundsException" :: Cond.initialized "java/lang/IndexOutOfBoundsException" :: vx_atS RX3 116 "java/lang/IndexOutOfBoundsException" ["java/lang/RuntimeException", "java/lang/Exception"], vx_ot w = true := by decide +kernel
theorem fx_X3_requireFace_3 : (Cond.classLink RX3 112 "java/lang/IndexOutOfBoundsException") ∈ wsX3_requireFace := by decide +kernel
theorem fx_X3_requireFace_4 : (Cond.initialized "java/lang/IndexOutOfBoundsException") ∈ wsX3_requireFace := by decide +kernel
theorem fx_X3_requireFace_5 : (Cond.fieldLink RX3 12 "PlaneFaces" "faces" "LPlaneFaces$Faces;") ∈ wsX3_requireFace := by decide +kernel
theorem fx_X3_requireFace_6 : ∀ w ∈ wsX30, w ∈ wsX3_requireFace := by decide +kernel
theorem fx_X3_requireFace_7 : (Cond.fieldLink RX3 85 "PlaneFaces$Faces" "size" "I") ∈ wsX3_requireFace := by decide +kernel
theorem fx_X3_requireFace_8 : ∀ w ∈ wsX00, w ∈ wsX3_requireFace := by decide +kernel
set_option maxRecDepth 100000 in
set_option maxHeartbeats 4000000 in
theorem cx_X3_requireFace (l : Launch) (hst : l.stackTraces = false) (dC : Nat → ClassId) (dI : Nat → Nat → Nat) (cI cJ cZ : ClassId) (ad : Nat → Nat) (sz : Nat) (sl : Int32) (ho : Nat → Int32) (nu : Nat → Int32) (fa : Nat → Int32) (ou : Nat → Int32) (sp : Nat → Int32) (fn : Int32) (co : Nat → Int32) (fo : Nat → Int32) (ro : Nat → Int32) (po : Nat → Int32) (pn : Int32) (rd : Nat → Int32) (st : Nat → Int32) (tw : Nat → Int64) (od : Nat → Int32) (rn : Int32) (x : Nat → Int32) (y : Nat → Int32) (u : Nat → Int32) (sn : Int32) (v1 : Int32) {px : String → Prop} (hw : wpx_X3_requireFace fn v1 px) : vx_Met l yX3_requireFace wsX3_requireFace rmx_X3_requireFace (va_Pc [.ref (ad 0), .int v1] (fun U => U.heap.size = sz ∧ va_P (dC, dI) vwCl (wPla ad cI cJ cZ sl ho nu fa ou sp fn co fo ro po pn rd st tw od rn x y u sn) U.heap ∧ va_K (dC, dI) vwCl (tyL cI cJ cZ) U ∧ va_D (fun _ => True) (wPla ad cI cJ cZ sl ho nu fa ou sp fn co fo ro po pn rd st tw od rn x y u sn) ∧ xe (va_A (wPla ad cI cJ cZ sl ho nu fa ou sp fn co fo ro po pn rd st tw od rn x y u sn) sz) U U.heap)) (va_Qv (fun _ : Unit => False) (fun _ _ => True) (va_A (wPla ad cI cJ cZ sl ho nu fa ou sp fn co fo ro po pn rd st tw od rn x y u sn) sz)) (vx_X (fun _ : Unit => True) (fun (E : String) (uu : Unit) (t : State) => px E  ∧ va_P (dC, dI) vwCl (wPla ad cI cJ cZ sl ho nu fa ou sp fn co fo ro po pn rd st tw od rn x y u sn) t.heap ∧ va_D (va_A (wPla ad cI cJ cZ sl ho nu fa ou sp fn co fo ro po pn rd st tw od rn x y u sn) sz) (wPla ad cI cJ cZ sl ho nu fa ou sp fn co fo ro po pn rd st tw od rn x y u sn)) (va_A (wPla ad cI cJ cZ sl ho nu fa ou sp fn co fo ro po pn rd st tw od rn x y u sn) sz)) 1 6 (va_A (wPla ad cI cJ cZ sl ho nu fa ou sp fn co fo ro po pn rd st tw od rn x y u sn) sz) := by
  unfold wpx_X3_requireFace at hw
  refine vx_ofW (cc := cX3_requireFace) (maxL := 2) (ret := none) (by decide) rfl ?_
  intro p e s m args below meth c s₁ B hml hnt hv
  obtain ⟨hav, hsz, hP, hK, hD0, hxe⟩ := hv
  have hx := B.exec
  have hb := B.bytes
  have hr := B.returns
  have hts := atoms_spec (ws := wsX3_requireFace) B.pre
  have hown : s.vm.findClass RX3 = some m.cls := findClass_of_methodNamed B.named
  have hlocks := B.notSynchronized
  have C : CallFix p m c cX3_requireFace 2 s args wsX3_requireFace RX3 := ⟨hx, hb, hml, hown, hts⟩
  obtain ⟨ls, hE, hl⟩ := mx_entry (m := m) [.ref (ad 0), .int v1] (n := 2) (Nat.le_of_ble_eq_true rfl)
  have hl : lv_has ls 2 [(0, .ref (ad 0)), (1, .int v1)] := hl
  rw [show entryFrame m args 2 = F0 m 0 ls [] by rw [hav]; exact hE]
  subst hsz
  have hD := hD0.self (sz := s.heap.size)
  generalize hAe : va_A (wPla ad cI cJ cZ sl ho nu fa ou sp fn co fo ro po pn rd st tw od rn x y u sn) s.heap.size = A at hD hxe ⊢
  have hA : ∀ q : Nat, s.heap.size ≤ q → A q := fun q h => by rw [← hAe]; exact Or.inr h
  have hS : va_S A s.heap s.heap [] := va_S.rf
  obtain ⟨Q, hQ⟩ : ∃ Q, vx_MQ below (va_Qv (fun _ : Unit => False) (fun _ _ => True) A) (vx_X (fun _ : Unit => True) (fun (E : String) (uu : Unit) (t : State) => px E  ∧ va_P (dC, dI) vwCl (wPla ad cI cJ cZ sl ho nu fa ou sp fn co fo ro po pn rd st tw od rn x y u sn) t.heap ∧ va_D A (wPla ad cI cJ cZ sl ho nu fa ou sp fn co fo ro po pn rd st tw od rn x y u sn)) A) args s 1 6 A = Q := ⟨_, rfl⟩
  rw [hQ]
  obtain ⟨H, hH⟩ : ∃ H, s.heap = H := ⟨_, rfl⟩
  have hS : va_S A s.heap H [] := by rw [← hH]; exact hS
  rw [hH] at hP
  show W p l e rmx_X3_requireFace s m args below meth c s.heap [] 0 0 Q (F0 m 0 ls [])
  suffices hg : W p l e rmx_X3_requireFace s m args below meth c H [] 0 0 Q (F0 m 0 ls []) by rw [hH]; exact hg
  clear hH
  generalize hlo : ([] : List Loc) = locs at hS ⊢
  refine lv_iload_n hx hb dX3_requireFace_0 rfl (lv_at hl 1 rfl) ?_
  refine jn0_use (J := ∀ (ls : Array Slot) (H : Heap) (locs : List Loc), lv_has ls 2 [(0, .ref (ad 0))] → va_P (dC, dI) vwCl (wPla ad cI cJ cZ sl ho nu fa ou sp fn co fo ro po pn rd st tw od rn x y u sn) H → va_D A (wPla ad cI cJ cZ sl ho nu fa ou sp fn co fo ro po pn rd st tw od rn x y u sn) → va_S A s.heap H locs → W p l e rmx_X3_requireFace s m args below meth c H locs 0 0 Q (F0 m 15 ls [])) hw (fun hw ls H locs hl hP hD hS => ?_) (fun hw hj0 => ?_)
  · obtain ⟨sa, hsa⟩ := hxe.2.2.1.2.2.2.2.1
    rw [← hQ]
    exact vx_throwS (A := A) (own := RX3) (cls := "java/lang/IndexOutOfBoundsException") (text := "no such face") (names := ["java/lang/RuntimeException", "java/lang/Exception"]) (sa := sa) hx hb hst hown (by decide +kernel) (by decide +kernel) (hts _ fx_X3_requireFace_3) (hts _ fx_X3_requireFace_4) hsa (vx_hat (fun w h9 => hts w (fx_X3_requireFace_0 w h9)) fx_X3_requireFace_1 (xw_O hxe.2.2.2)) fx_X3_requireFace_2 hxe.1 hxe.2.1 hS (hl.1.trans hml.symm) dX3_requireFace_15 dX3_requireFace_18 dX3_requireFace_19 dX3_requireFace_21 dX3_requireFace_24 (fun x9 h9 => (hnt x9 h9).elim) (Nat.le_of_ble_eq_true rfl) (Nat.le_of_ble_eq_true rfl) (Nat.le_of_ble_eq_true rfl) (Nat.le_of_ble_eq_true rfl) hlocks (fun t hvm hsz hk => ⟨(), trivial, ⟨hw, hP.kept (fun k q hq => hk q.1 (vx_lt hP hq)), hD⟩, ⟨Nat.le_trans hS.1 hsz, fun q h1 h2 => (hk q (Nat.lt_of_lt_of_le h1 hS.1)).trans (hS.2.1 q h1 h2)⟩⟩) hS.2.2 (Nat.le_of_ble_eq_true rfl) (Nat.le_of_ble_eq_true rfl)
  · have hj2 := hj0
    refine lv_if_lt (tgt := 15) hx hb dX3_requireFace_1 (by decide) (fun hc => ?_) (fun hc => ?_)
    · have hw := hw.1 (hc)
      exact hj2 hw ls _ _ (lv_sub hl [0] rfl) hP hD hS
    · have hw := hw.2 hc
      refine lv_iload_n hx hb dX3_requireFace_4 rfl (lv_at hl 1 rfl) ?_
      refine lv_aload_n hx hb dX3_requireFace_5 rfl (lv_at hl 0 rfl) ?_
      refine va_get (D := (dC, dI)) (ci := 3) (v := .ref (ad 1)) (C := RX3) (T := TX3) (N := 4) hx hb hts fx_X3_requireFace_6 hown hK hP 0 rfl rfl 2 (by decide) (hts _ fx_X3_requireFace_5) (fun _ h9 => h9) rfl dX3_requireFace_6 ?_
      refine va_get (D := (dC, dI)) (ci := 0) (v := .int fn) (C := RX0) (T := TX0) (N := 8) hx hb hts fx_X3_requireFace_8 hown hK hP 1 rfl rfl 7 (by decide) (hts _ fx_X3_requireFace_7) (fun _ h9 => h9) rfl dX3_requireFace_9 ?_
      refine lv_icmp_lt (tgt := 25) hx hb dX3_requireFace_12 (by decide) (fun hc => ?_) (fun hc => ?_)
      · have hw := hw.1 (hc)
        exact hw.elim
      · have hw := hw.2 hc
        exact hj2 hw ls _ _ (lv_sub hl [0] rfl) hP hD hS
-- X3_add
abbrev rm_X3_add : Room := { frames := 4, cells := 0, slots := 0, locals := 98 }
theorem f_X3_add_0 : (Cond.fieldLink RX3 27 "PlaneFaces" "segments" "LPlaneFaces$Segments;") ∈ wsX3_add := by decide +kernel
theorem f_X3_add_1 : ∀ w ∈ wsX30, w ∈ wsX3_add := by decide +kernel
theorem f_X3_add_2 : (Cond.fieldLink RX3 28 "PlaneFaces" "stale" "Z") ∈ wsX3_add := by decide +kernel
set_option maxRecDepth 100000 in
set_option maxHeartbeats 4000000 in
theorem c_X3_add (l : Launch) (dC : Nat → ClassId) (dI : Nat → Nat → Nat) (cI cJ cZ : ClassId) (ad : Nat → Nat) (sz : Nat) (sl : Int32) (ho : Nat → Int32) (nu : Nat → Int32) (fa : Nat → Int32) (ou : Nat → Int32) (sp : Nat → Int32) (fn : Int32) (co : Nat → Int32) (fo : Nat → Int32) (ro : Nat → Int32) (po : Nat → Int32) (pn : Int32) (rd : Nat → Int32) (st : Nat → Int32) (tw : Nat → Int64) (od : Nat → Int32) (rn : Int32) (x : Nat → Int32) (y : Nat → Int32) (u : Nat → Int32) (sn : Int32) (v1 : Int32) (v2 : Int32) (v3 : Int32) (v4 : Int32) {post : Int32 → Int32 → (Nat → Int32) → (Nat → Int32) → (Nat → Int32) → Int32 → Prop} (hw : wp_X3_add sl x y u sn v1 v2 v3 v4 post) : Met l yX3_add wsX3_add rm_X3_add (va_Pc [.ref (ad 0), .int v1, .int v2, .int v3, .int v4] (fun U => U.heap.size = sz ∧ va_P (dC, dI) vwCl (wPla ad cI cJ cZ sl ho nu fa ou sp fn co fo ro po pn rd st tw od rn x y u sn) U.heap ∧ va_K (dC, dI) vwCl (tyL cI cJ cZ) U ∧ va_D (fun _ => True) (wPla ad cI cJ cZ sl ho nu fa ou sp fn co fo ro po pn rd st tw od rn x y u sn))) (va_Qi (fun (r : Int32) (uu : Int32 × (Nat → Int32) × (Nat → Int32) × (Nat → Int32) × Int32) => post r uu.1 uu.2.1 uu.2.2.1 uu.2.2.2.1 uu.2.2.2.2) (fun (uu : Int32 × (Nat → Int32) × (Nat → Int32) × (Nat → Int32) × Int32) (t : State) => va_P (dC, dI) vwCl (wPla ad cI cJ cZ uu.1 ho nu fa ou sp fn co fo ro po pn rd st tw od rn uu.2.1 uu.2.2.1 uu.2.2.2.1 uu.2.2.2.2) t.heap ∧ va_D (va_A (wPla ad cI cJ cZ sl ho nu fa ou sp fn co fo ro po pn rd st tw od rn x y u sn) sz) (wPla ad cI cJ cZ uu.1 ho nu fa ou sp fn co fo ro po pn rd st tw od rn uu.2.1 uu.2.2.1 uu.2.2.2.1 uu.2.2.2.2)) (va_A (wPla ad cI cJ cZ sl ho nu fa ou sp fn co fo ro po pn rd st tw od rn x y u sn) sz)) 0 0 (va_A (wPla ad cI cJ cZ sl ho nu fa ou sp fn co fo ro po pn rd st tw od rn x y u sn) sz) := by
  unfold wp_X3_add at hw
  refine Met.ofW (cc := cX3_add) (maxL := 6) (ret := (some .int)) (by decide) rfl ?_
  intro p e s m args below meth c s₁ B hml hv
  obtain ⟨hav, hsz, hP, hK, hD0⟩ := hv
  have hx := B.exec
  have hb := B.bytes
  have hr := B.returns
  have hts := atoms_spec (ws := wsX3_add) B.pre
  have hown : s.vm.findClass RX3 = some m.cls := findClass_of_methodNamed B.named
  have hlocks := B.notSynchronized
  have C : CallFix p m c cX3_add 6 s args wsX3_add RX3 := ⟨hx, hb, hml, hown, hts⟩
  obtain ⟨ls, hE, hl⟩ := mx_entry (m := m) [.ref (ad 0), .int v1, .int v2, .int v3, .int v4] (n := 6) (Nat.le_of_ble_eq_true rfl)
  have hl : lv_has ls 6 [(0, .ref (ad 0)), (1, .int v1), (2, .int v2), (3, .int v3), (4, .int v4)] := hl
  rw [show entryFrame m args 6 = F0 m 0 ls [] by rw [hav]; exact hE]
  subst hsz
  have hD := hD0.self (sz := s.heap.size)
  generalize hAe : va_A (wPla ad cI cJ cZ sl ho nu fa ou sp fn co fo ro po pn rd st tw od rn x y u sn) s.heap.size = A at hD ⊢
  have hA : ∀ q : Nat, s.heap.size ≤ q → A q := fun q h => by rw [← hAe]; exact Or.inr h
  have hS : va_S A s.heap s.heap [] := va_S.rf
  obtain ⟨Q, hQ⟩ : ∃ Q, MQ below (va_Qi (fun (r : Int32) (uu : Int32 × (Nat → Int32) × (Nat → Int32) × (Nat → Int32) × Int32) => post r uu.1 uu.2.1 uu.2.2.1 uu.2.2.2.1 uu.2.2.2.2) (fun (uu : Int32 × (Nat → Int32) × (Nat → Int32) × (Nat → Int32) × Int32) (t : State) => va_P (dC, dI) vwCl (wPla ad cI cJ cZ uu.1 ho nu fa ou sp fn co fo ro po pn rd st tw od rn uu.2.1 uu.2.2.1 uu.2.2.2.1 uu.2.2.2.2) t.heap ∧ va_D A (wPla ad cI cJ cZ uu.1 ho nu fa ou sp fn co fo ro po pn rd st tw od rn uu.2.1 uu.2.2.1 uu.2.2.2.1 uu.2.2.2.2)) A) args s 0 0 A = Q := ⟨_, rfl⟩
  rw [hQ]
  obtain ⟨H, hH⟩ : ∃ H, s.heap = H := ⟨_, rfl⟩
  have hS : va_S A s.heap H [] := by rw [← hH]; exact hS
  rw [hH] at hP
  show W p l e rm_X3_add s m args below meth c s.heap [] 0 0 Q (F0 m 0 ls [])
  suffices hg : W p l e rm_X3_add s m args below meth c H [] 0 0 Q (F0 m 0 ls []) by rw [hH]; exact hg
  clear hH
  generalize hlo : ([] : List Loc) = locs at hS ⊢
  refine lv_iload_n hx hb dX3_add_0 rfl (lv_at hl 1 rfl) ?_
  refine lv_iload_n hx hb dX3_add_1 rfl (lv_at hl 2 rfl) ?_
  refine va_csv (W.runS (As := [.int v1, .int v2]) (rest := []) C (c_X3_requirePlace l v1 v2 hw) (va_cwS 2 hts gX3_add_X3_requirePlace rfl rfl rfl (by decide +kernel) ⟨Nat.le_of_ble_eq_true rfl, Nat.le_of_ble_eq_true rfl⟩) ⟨fb_st, fun U hU hW => ⟨rfl, trivial⟩⟩ rfl rfl hl.1 rfl (lv_room (Nat.le_of_ble_eq_true rfl)) dX3_add_2 ⟨Nat.zero_le _, Nat.zero_le _⟩) (fun hw => ?_)
  refine lv_iload_n hx hb dX3_add_5 rfl (lv_at hl 3 rfl) ?_
  refine lv_iload hx hb dX3_add_6 (lv_at hl 4 rfl) ?_
  refine va_csv (W.runS (As := [.int v3, .int v4]) (rest := []) C (c_X3_requirePlace l v3 v4 hw) (va_cwS 2 hts gX3_add_X3_requirePlace rfl rfl rfl (by decide +kernel) ⟨Nat.le_of_ble_eq_true rfl, Nat.le_of_ble_eq_true rfl⟩) ⟨fb_st, fun U hU hW => ⟨rfl, trivial⟩⟩ rfl rfl hl.1 rfl (lv_room (Nat.le_of_ble_eq_true rfl)) dX3_add_8 ⟨Nat.zero_le _, Nat.zero_le _⟩) (fun hw => ?_)
  refine lv_iload_n hx hb dX3_add_11 rfl (lv_at hl 1 rfl) ?_
  refine lv_iload_n hx hb dX3_add_12 rfl (lv_at hl 3 rfl) ?_
  refine jn0_use (J := ∀ (ls : Array Slot) (H : Heap) (locs : List Loc), lv_has ls 6 [(0, .ref (ad 0)), (1, .int v1), (2, .int v2), (3, .int v3), (4, .int v4)] → va_P (dC, dI) vwCl (wPla ad cI cJ cZ sl ho nu fa ou sp fn co fo ro po pn rd st tw od rn x y u sn) H → va_D A (wPla ad cI cJ cZ sl ho nu fa ou sp fn co fo ro po pn rd st tw od rn x y u sn) → va_S A s.heap H locs → W p l e rm_X3_add s m args below meth c H locs 0 0 Q (F0 m 32 ls [])) hw (fun hw ls H locs hl hP hD hS => ?_) (fun hw hj0 => ?_)
  · refine lv_aload_n hx hb dX3_add_32 rfl (lv_at hl 0 rfl) ?_
    refine va_get (D := (dC, dI)) (ci := 3) (v := .ref (ad 16)) (C := RX3) (T := TX3) (N := 4) hx hb hts f_X3_add_1 hown hK hP 0 rfl rfl 0 (by decide) (hts _ f_X3_add_0) (fun _ h9 => h9) rfl dX3_add_33 ?_
    have hPc := hP.sub (ws' := (wSeg ad cI cJ cZ x y u sn)) [16, 17, 18, 19] rfl
    refine vp_callSi (W.runV (As := []) (rest := []) C (c_X2_leastFree l dC dI cI cJ cZ ad x y u sn  hw) (cwV 0 hts gX3_add_X2_leastFree rfl rfl rfl (by decide +kernel) ⟨Nat.le_of_ble_eq_true rfl, Nat.le_of_ble_eq_true rfl⟩) ⟨fb_ro, va_recv hK hPc (ci := 2) (q0 := 0) rfl rfl, fun U hU hW => ⟨rfl, by rw [hU]; exact hPc, va_K.moved hW.alike hK⟩⟩ rfl rfl hl.1 rfl (lv_room (Nat.le_of_ble_eq_true rfl)) dX3_add_36 ⟨Nat.zero_le _, Nat.zero_le _⟩) (fun r3 hw => ?_)
    refine lv_istore (lv' := [(5, .int r3), (0, .ref (ad 0)), (1, .int v1), (2, .int v2), (3, .int v3), (4, .int v4)]) hx hb dX3_add_39 hl (by decide) rfl (fun ls hl => ?_)
    refine lv_iload hx hb dX3_add_41 (lv_at hl 0 rfl) ?_
    refine lv_iconst (v := -1) hx hb dX3_add_43 (by decide) ?_
    refine lv_icmp_ne (tgt := 57) hx hb dX3_add_44 (by decide) (fun hc => ?_) (fun hc => ?_)
    · have hw := hw.2 hc
      refine lv_aload_n hx hb dX3_add_57 rfl (lv_at hl 1 rfl) ?_
      refine va_get (D := (dC, dI)) (ci := 3) (v := .ref (ad 16)) (C := RX3) (T := TX3) (N := 4) hx hb hts f_X3_add_1 hown hK hP 0 rfl rfl 0 (by decide) (hts _ f_X3_add_0) (fun _ h9 => h9) rfl dX3_add_58 ?_
      refine lv_iload hx hb dX3_add_61 (lv_at hl 0 rfl) ?_
      refine lv_iload_n hx hb dX3_add_63 rfl (lv_at hl 2 rfl) ?_
      refine lv_iload_n hx hb dX3_add_64 rfl (lv_at hl 3 rfl) ?_
      refine lv_iload_n hx hb dX3_add_65 rfl (lv_at hl 4 rfl) ?_
      refine lv_iload hx hb dX3_add_66 (lv_at hl 5 rfl) ?_
      have hPc := hP.sub (ws' := (wSeg ad cI cJ cZ x y u sn)) [16, 17, 18, 19] rfl
      have hDc := hD.sub (ws' := (wSeg ad cI cJ cZ x y u sn)) [16, 17, 18, 19] (by decide) rfl
      have hFc := va_free (wc := (wSeg ad cI cJ cZ x y u sn)) hD hS hA [16, 17, 18, 19] rfl
      refine va_callv (va_runV (As := [.int r3, .int v1, .int v2, .int v3, .int v4]) (rest := []) C (c_X2_draw l dC dI cI cJ cZ ad _ x y u sn r3 v1 v2 v3 v4 hw) (cwV 5 hts gX3_add_X2_draw rfl rfl rfl (by decide +kernel) ⟨Nat.le_of_ble_eq_true rfl, Nat.le_of_ble_eq_true rfl⟩) ⟨fb_rw, va_recv hK hPc (ci := 2) (q0 := 0) rfl rfl, fun U hU hW => ⟨rfl, by rw [hU], by rw [hU]; exact hPc, va_K.moved hW.alike hK, hDc.weaken (fun _ _ _ _ => trivial)⟩⟩ rfl rfl hl.1 rfl (lv_room (Nat.le_of_ble_eq_true rfl)) dX3_add_68 ⟨Nat.zero_le _, Nat.zero_le _⟩) hS (fun q _ h => hFc q h) hFc (fun uu t H1 locs ht hvm hw hB hz1 hk1 hS => ?_)
      obtain ⟨x_4, y_5⟩ := uu
      obtain ⟨hP1, hD1⟩ := hB
      rw [ht] at hP1
      try dsimp only at hw hP1 hD1
      obtain ⟨hP, hD⟩ := va_join (wr := [(ad 0, .inr (3, [.ref (ad 16), .ref (ad 7), .ref (ad 1), .int sl])), (ad 1, .inr (0, [.ref (ad 7), .ref (ad 16), .ref (ad 2), .ref (ad 3), .ref (ad 4), .ref (ad 5), .ref (ad 6), .int fn])), (ad 2, .inl (cI, 120, .inl ho)), (ad 3, .inl (cI, 120, .inl nu)), (ad 4, .inl (cI, 120, .inl fa)), (ad 5, .inl (cI, 60, .inl ou)), (ad 6, .inl (cI, 121, .inl sp)), (ad 7, .inr (1, [.ref (ad 16), .ref (ad 8), .ref (ad 9), .ref (ad 10), .ref (ad 11), .int pn, .ref (ad 12), .ref (ad 13), .ref (ad 14), .ref (ad 15), .int rn])), (ad 8, .inl (cI, 120, .inl co)), (ad 9, .inl (cI, 120, .inl fo)), (ad 10, .inl (cI, 60, .inl ro)), (ad 11, .inl (cI, 60, .inl po)), (ad 12, .inl (cI, 120, .inl rd)), (ad 13, .inl (cI, 120, .inl st)), (ad 14, .inl (cJ, 120, .inr (.inl tw))), (ad 15, .inl (cI, 120, .inl od))]) (w1 := (wSeg ad cI cJ cZ x_4 y_5 u sn)) hP hD [16, 17, 18, 19] [0, 1, 2, 3, 4, 5, 6, 7, 8, 9, 10, 11, 12, 13, 14, 15] rfl rfl (by decide) (by decide) hk1 hFc hP1 hD1
      generalize H1 = H at hP hS ⊢
      have hP : va_P (dC, dI) vwCl (wPla ad cI cJ cZ sl ho nu fa ou sp fn co fo ro po pn rd st tw od rn x_4 y_5 u sn) H := hP
      have hD : va_D A (wPla ad cI cJ cZ sl ho nu fa ou sp fn co fo ro po pn rd st tw od rn x_4 y_5 u sn) := hD
      refine lv_aload_n hx hb dX3_add_71 rfl (lv_at hl 1 rfl) ?_
      refine va_get (D := (dC, dI)) (ci := 3) (v := .ref (ad 16)) (C := RX3) (T := TX3) (N := 4) hx hb hts f_X3_add_1 hown hK hP 0 rfl rfl 0 (by decide) (hts _ f_X3_add_0) (fun _ h9 => h9) rfl dX3_add_72 ?_
      refine lv_iload hx hb dX3_add_75 (lv_at hl 0 rfl) ?_
      have hPc := hP.sub (ws' := (wSeg ad cI cJ cZ x_4 y_5 u sn)) [16, 17, 18, 19] rfl
      refine vp_callSi (W.runV (As := [.int r3]) (rest := []) C (c_X2_clashes l dC dI cI cJ cZ ad x_4 y_5 u sn r3 hw) (cwV 1 hts gX3_add_X2_clashes rfl rfl rfl (by decide +kernel) ⟨Nat.le_of_ble_eq_true rfl, Nat.le_of_ble_eq_true rfl⟩) ⟨fb_ro, va_recv hK hPc (ci := 2) (q0 := 0) rfl rfl, fun U hU hW => ⟨rfl, by rw [hU]; exact hPc, va_K.moved hW.alike hK⟩⟩ rfl rfl hl.1 rfl (lv_room (Nat.le_of_ble_eq_true rfl)) dX3_add_77 ⟨Nat.zero_le _, Nat.zero_le _⟩) (fun r6 hw => ?_)
      refine lv_if_eq (tgt := 85) hx hb dX3_add_80 (by decide) (fun hc => ?_) (fun hc => ?_)
      · have hw := hw.1 (hc)
        refine lv_aload_n hx hb dX3_add_85 rfl (lv_at hl 1 rfl) ?_
        refine va_get (D := (dC, dI)) (ci := 3) (v := .ref (ad 16)) (C := RX3) (T := TX3) (N := 4) hx hb hts f_X3_add_1 hown hK hP 0 rfl rfl 0 (by decide) (hts _ f_X3_add_0) (fun _ h9 => h9) rfl dX3_add_86 ?_
        refine lv_iload hx hb dX3_add_89 (lv_at hl 0 rfl) ?_
        have hPc := hP.sub (ws' := (wSeg ad cI cJ cZ x_4 y_5 u sn)) [16, 17, 18, 19] rfl
        have hDc := hD.sub (ws' := (wSeg ad cI cJ cZ x_4 y_5 u sn)) [16, 17, 18, 19] (by decide) rfl
        have hFc := va_free (wc := (wSeg ad cI cJ cZ x_4 y_5 u sn)) hD hS hA [16, 17, 18, 19] rfl
        refine va_callv (va_runV (As := [.int r3]) (rest := []) C (c_X2_keep l dC dI cI cJ cZ ad _ x_4 y_5 u sn r3 hw) (cwV 1 hts gX3_add_X2_keep rfl rfl rfl (by decide +kernel) ⟨Nat.le_of_ble_eq_true rfl, Nat.le_of_ble_eq_true rfl⟩) ⟨fb_rw, va_recv hK hPc (ci := 2) (q0 := 0) rfl rfl, fun U hU hW => ⟨rfl, by rw [hU], by rw [hU]; exact hPc, va_K.moved hW.alike hK, hDc.weaken (fun _ _ _ _ => trivial)⟩⟩ rfl rfl hl.1 rfl (lv_room (Nat.le_of_ble_eq_true rfl)) dX3_add_91 ⟨Nat.zero_le _, Nat.zero_le _⟩) hS (fun q _ h => hFc q h) hFc (fun uu t H1 locs ht hvm hw hB hz1 hk1 hS => ?_)
        obtain ⟨u_7, sn_8⟩ := uu
        obtain ⟨hP1, hD1⟩ := hB
        rw [ht] at hP1
        try dsimp only at hw hP1 hD1
        obtain ⟨hP, hD⟩ := va_join (wr := [(ad 0, .inr (3, [.ref (ad 16), .ref (ad 7), .ref (ad 1), .int sl])), (ad 1, .inr (0, [.ref (ad 7), .ref (ad 16), .ref (ad 2), .ref (ad 3), .ref (ad 4), .ref (ad 5), .ref (ad 6), .int fn])), (ad 2, .inl (cI, 120, .inl ho)), (ad 3, .inl (cI, 120, .inl nu)), (ad 4, .inl (cI, 120, .inl fa)), (ad 5, .inl (cI, 60, .inl ou)), (ad 6, .inl (cI, 121, .inl sp)), (ad 7, .inr (1, [.ref (ad 16), .ref (ad 8), .ref (ad 9), .ref (ad 10), .ref (ad 11), .int pn, .ref (ad 12), .ref (ad 13), .ref (ad 14), .ref (ad 15), .int rn])), (ad 8, .inl (cI, 120, .inl co)), (ad 9, .inl (cI, 120, .inl fo)), (ad 10, .inl (cI, 60, .inl ro)), (ad 11, .inl (cI, 60, .inl po)), (ad 12, .inl (cI, 120, .inl rd)), (ad 13, .inl (cI, 120, .inl st)), (ad 14, .inl (cJ, 120, .inr (.inl tw))), (ad 15, .inl (cI, 120, .inl od))]) (w1 := (wSeg ad cI cJ cZ x_4 y_5 u_7 sn_8)) hP hD [16, 17, 18, 19] [0, 1, 2, 3, 4, 5, 6, 7, 8, 9, 10, 11, 12, 13, 14, 15] rfl rfl (by decide) (by decide) hk1 hFc hP1 hD1
        generalize H1 = H at hP hS ⊢
        have hP : va_P (dC, dI) vwCl (wPla ad cI cJ cZ sl ho nu fa ou sp fn co fo ro po pn rd st tw od rn x_4 y_5 u_7 sn_8) H := hP
        have hD : va_D A (wPla ad cI cJ cZ sl ho nu fa ou sp fn co fo ro po pn rd st tw od rn x_4 y_5 u_7 sn_8) := hD
        refine lv_aload_n hx hb dX3_add_94 rfl (lv_at hl 1 rfl) ?_
        refine lv_iconst (v := 1) hx hb dX3_add_95 (by decide) ?_
        refine va_put (D := (dC, dI)) (ci := 3) (v := .int (1 : Int32)) (ty := .boolean) (C := RX3) (T := TX3) (N := 4) hx hb hts f_X3_add_1 tyX3 tyX3_ok nmX3 hown hK hP hD hS 0 rfl rfl 3 (by decide) (hts _ f_X3_add_2) (fun _ h9 => h9) rfl (by decide +kernel) (by decide) rfl (Nat.le_of_ble_eq_true rfl) dX3_add_96 (fun H locs hP hD hS => ?_)
        have hP : va_P (dC, dI) vwCl (wPla ad cI cJ cZ (1 : Int32) ho nu fa ou sp fn co fo ro po pn rd st tw od rn x_4 y_5 u_7 sn_8) H := hP
        have hD : va_D A (wPla ad cI cJ cZ (1 : Int32) ho nu fa ou sp fn co fo ro po pn rd st tw od rn x_4 y_5 u_7 sn_8) := hD
        refine lv_iload hx hb dX3_add_99 (lv_at hl 0 rfl) ?_
        rw [← hQ]
        exact W.iret (v := r3) hx hb hr (fun t ht hW => ⟨⟨_, ((1 : Int32), x_4, y_5, u_7, sn_8), rfl, hw, by rw [ht]; exact hP, hD⟩, hS.F ht⟩) hS.2.2 dX3_add_101
      · have hw := hw.2 hc
        refine lv_iconst (v := -1) hx hb dX3_add_83 (by decide) ?_
        rw [← hQ]
        exact W.iret (v := (-1 : Int32)) hx hb hr (fun t ht hW => ⟨⟨_, (sl, x_4, y_5, u, sn), rfl, hw, by rw [ht]; exact hP, hD⟩, hS.F ht⟩) hS.2.2 dX3_add_84
    · have hw := hw.1 (hc)
      exact hw.elim
  · have hj2 := hj0
    refine lv_icmp_ne (tgt := 32) hx hb dX3_add_13 (by decide) (fun hc => ?_) (fun hc => ?_)
    · have hw := hw.2 hc
      exact hj2 hw ls _ _ (lv_sub hl [0, 1, 2, 3, 4] rfl) hP hD hS
    · have hw := hw.1 (hc)
      refine lv_iload_n hx hb dX3_add_16 rfl (lv_at hl 2 rfl) ?_
      refine lv_iload hx hb dX3_add_17 (lv_at hl 4 rfl) ?_
      refine lv_icmp_ne (tgt := 32) hx hb dX3_add_19 (by decide) (fun hc => ?_) (fun hc => ?_)
      · have hw := hw.2 hc
        exact hj2 hw ls _ _ (lv_sub hl [0, 1, 2, 3, 4] rfl) hP hD hS
      · have hw := hw.1 (hc)
        exact hw.elim
-- X3_add throws
abbrev rmx_X3_add : Room := { frames := 7, cells := 1, slots := 6, locals := 113 }
theorem fx_X3_add_0 : (Cond.fieldLink RX3 27 "PlaneFaces" "segments" "LPlaneFaces$Segments;") ∈ wsX3_add := by decide +kernel
theorem fx_X3_add_1 : ∀ w ∈ wsX30, w ∈ wsX3_add := by decide +kernel
theorem fx_X3_add_2 : (Cond.fieldLink RX3 28 "PlaneFaces" "stale" "Z") ∈ wsX3_add := by decide +kernel
theorem fx_X3_add_3 : ∀ w ∈ (vx_atS RX3 53 "java/lang/IllegalStateException" ["java/lang/RuntimeException", "java/lang/Exception"]).filter goodWord, w ∈ wsX3_add := by decide +kernel
theorem fx_X3_add_4 : ∀ w ∈ (vx_atS RX3 53 "java/lang/IllegalStateException" ["java/lang/RuntimeException", "java/lang/Exception"]).filter (fun w => !goodWord w), w ∈ [Cond.castable "java/lang/IllegalStateException" "java/lang/IllegalStateException", .declares (Bundle.initS "java/lang/RuntimeException"), .declares (Bundle.initS "java/lang/Exception"), .declares (Bundle.initS "java/lang/Throwable")] := by decide +kernel
theorem fx_X3_add_5 : ∀ w ∈ Cond.classLink RX3 49 "java/lang/IllegalStateException" :: Cond.initialized "java/lang/IllegalStateException" :: vx_atS RX3 53 "java/lang/IllegalStateException" ["java/lang/RuntimeException", "java/lang/Exception"], vx_ot w = true := by decide +kernel
theorem fx_X3_add_6 : (Cond.classLink RX3 49 "java/lang/IllegalStateException") ∈ wsX3_add := by decide +kernel
theorem fx_X3_add_7 : (Cond.initialized "java/lang/IllegalStateException") ∈ wsX3_add := by decide +kernel
theorem fx_X3_add_8 : ∀ w ∈ (vx_atS RX3 40 "java/lang/IllegalArgumentException" ["java/lang/RuntimeException", "java/lang/Exception"]).filter goodWord, w ∈ wsX3_add := by decide +kernel
theorem fx_X3_add_9 : ∀ w ∈ (vx_atS RX3 40 "java/lang/IllegalArgumentException" ["java/lang/RuntimeException", "java/lang/Exception"]).filter (fun w => !goodWord w), w ∈ [Cond.castable "java/lang/IllegalArgumentException" "java/lang/IllegalArgumentException", .declares (Bundle.initS "java/lang/RuntimeException"), .declares (Bundle.initS "java/lang/Exception"), .declares (Bundle.initS "java/lang/Throwable")] := by decide +kernel
theorem fx_X3_add_10 : ∀ w ∈ Cond.classLink RX3 36 "java/lang/IllegalArgumentException" :: Cond.initialized "java/lang/IllegalArgumentException" :: vx_atS RX3 40 "java/lang/IllegalArgumentException" ["java/lang/RuntimeException", "java/lang/Exception"], vx_ot w = true := by decide +kernel
theorem fx_X3_add_11 : (Cond.classLink RX3 36 "java/lang/IllegalArgumentException") ∈ wsX3_add := by decide +kernel
theorem fx_X3_add_12 : (Cond.initialized "java/lang/IllegalArgumentException") ∈ wsX3_add := by decide +kernel
set_option maxRecDepth 100000 in
set_option maxHeartbeats 4000000 in
theorem cx_X3_add (l : Launch) (hst : l.stackTraces = false) (dC : Nat → ClassId) (dI : Nat → Nat → Nat) (cI cJ cZ : ClassId) (ad : Nat → Nat) (sz : Nat) (sl : Int32) (ho : Nat → Int32) (nu : Nat → Int32) (fa : Nat → Int32) (ou : Nat → Int32) (sp : Nat → Int32) (fn : Int32) (co : Nat → Int32) (fo : Nat → Int32) (ro : Nat → Int32) (po : Nat → Int32) (pn : Int32) (rd : Nat → Int32) (st : Nat → Int32) (tw : Nat → Int64) (od : Nat → Int32) (rn : Int32) (x : Nat → Int32) (y : Nat → Int32) (u : Nat → Int32) (sn : Int32) (v1 : Int32) (v2 : Int32) (v3 : Int32) (v4 : Int32) {px : String → Int32 → (Nat → Int32) → (Nat → Int32) → (Nat → Int32) → Int32 → Prop} (hw : wpx_X3_add sl x y u sn v1 v2 v3 v4 px) : vx_Met l yX3_add wsX3_add rmx_X3_add (va_Pc [.ref (ad 0), .int v1, .int v2, .int v3, .int v4] (fun U => U.heap.size = sz ∧ va_P (dC, dI) vwCl (wPla ad cI cJ cZ sl ho nu fa ou sp fn co fo ro po pn rd st tw od rn x y u sn) U.heap ∧ va_K (dC, dI) vwCl (tyL cI cJ cZ) U ∧ va_D (fun _ => True) (wPla ad cI cJ cZ sl ho nu fa ou sp fn co fo ro po pn rd st tw od rn x y u sn) ∧ xe (va_A (wPla ad cI cJ cZ sl ho nu fa ou sp fn co fo ro po pn rd st tw od rn x y u sn) sz) U U.heap)) (va_Qi (fun (_ : Int32) (_ : Unit) => False) (fun _ _ => True) (va_A (wPla ad cI cJ cZ sl ho nu fa ou sp fn co fo ro po pn rd st tw od rn x y u sn) sz)) (vx_X (fun _ : Int32 × (Nat → Int32) × (Nat → Int32) × (Nat → Int32) × Int32 => True) (fun (E : String) (uu : Int32 × (Nat → Int32) × (Nat → Int32) × (Nat → Int32) × Int32) (t : State) => px E uu.1 uu.2.1 uu.2.2.1 uu.2.2.2.1 uu.2.2.2.2 ∧ va_P (dC, dI) vwCl (wPla ad cI cJ cZ uu.1 ho nu fa ou sp fn co fo ro po pn rd st tw od rn uu.2.1 uu.2.2.1 uu.2.2.2.1 uu.2.2.2.2) t.heap ∧ va_D (va_A (wPla ad cI cJ cZ sl ho nu fa ou sp fn co fo ro po pn rd st tw od rn x y u sn) sz) (wPla ad cI cJ cZ uu.1 ho nu fa ou sp fn co fo ro po pn rd st tw od rn uu.2.1 uu.2.2.1 uu.2.2.2.1 uu.2.2.2.2)) (va_A (wPla ad cI cJ cZ sl ho nu fa ou sp fn co fo ro po pn rd st tw od rn x y u sn) sz)) 1 6 (va_A (wPla ad cI cJ cZ sl ho nu fa ou sp fn co fo ro po pn rd st tw od rn x y u sn) sz) := by
  unfold wpx_X3_add at hw
  refine vx_ofW (cc := cX3_add) (maxL := 6) (ret := (some .int)) (by decide) rfl ?_
  intro p e s m args below meth c s₁ B hml hnt hv
  obtain ⟨hav, hsz, hP, hK, hD0, hxe⟩ := hv
  have hx := B.exec
  have hb := B.bytes
  have hr := B.returns
  have hts := atoms_spec (ws := wsX3_add) B.pre
  have hown : s.vm.findClass RX3 = some m.cls := findClass_of_methodNamed B.named
  have hlocks := B.notSynchronized
  have C : CallFix p m c cX3_add 6 s args wsX3_add RX3 := ⟨hx, hb, hml, hown, hts⟩
  obtain ⟨ls, hE, hl⟩ := mx_entry (m := m) [.ref (ad 0), .int v1, .int v2, .int v3, .int v4] (n := 6) (Nat.le_of_ble_eq_true rfl)
  have hl : lv_has ls 6 [(0, .ref (ad 0)), (1, .int v1), (2, .int v2), (3, .int v3), (4, .int v4)] := hl
  rw [show entryFrame m args 6 = F0 m 0 ls [] by rw [hav]; exact hE]
  subst hsz
  have hD := hD0.self (sz := s.heap.size)
  generalize hAe : va_A (wPla ad cI cJ cZ sl ho nu fa ou sp fn co fo ro po pn rd st tw od rn x y u sn) s.heap.size = A at hD hxe ⊢
  have hA : ∀ q : Nat, s.heap.size ≤ q → A q := fun q h => by rw [← hAe]; exact Or.inr h
  have hS : va_S A s.heap s.heap [] := va_S.rf
  obtain ⟨Q, hQ⟩ : ∃ Q, vx_MQ below (va_Qi (fun (_ : Int32) (_ : Unit) => False) (fun _ _ => True) A) (vx_X (fun _ : Int32 × (Nat → Int32) × (Nat → Int32) × (Nat → Int32) × Int32 => True) (fun (E : String) (uu : Int32 × (Nat → Int32) × (Nat → Int32) × (Nat → Int32) × Int32) (t : State) => px E uu.1 uu.2.1 uu.2.2.1 uu.2.2.2.1 uu.2.2.2.2 ∧ va_P (dC, dI) vwCl (wPla ad cI cJ cZ uu.1 ho nu fa ou sp fn co fo ro po pn rd st tw od rn uu.2.1 uu.2.2.1 uu.2.2.2.1 uu.2.2.2.2) t.heap ∧ va_D A (wPla ad cI cJ cZ uu.1 ho nu fa ou sp fn co fo ro po pn rd st tw od rn uu.2.1 uu.2.2.1 uu.2.2.2.1 uu.2.2.2.2)) A) args s 1 6 A = Q := ⟨_, rfl⟩
  rw [hQ]
  obtain ⟨H, hH⟩ : ∃ H, s.heap = H := ⟨_, rfl⟩
  have hS : va_S A s.heap H [] := by rw [← hH]; exact hS
  rw [hH] at hP
  show W p l e rmx_X3_add s m args below meth c s.heap [] 0 0 Q (F0 m 0 ls [])
  suffices hg : W p l e rmx_X3_add s m args below meth c H [] 0 0 Q (F0 m 0 ls []) by rw [hH]; exact hg
  clear hH
  generalize hlo : ([] : List Loc) = locs at hS ⊢
  refine lv_iload_n hx hb dX3_add_0 rfl (lv_at hl 1 rfl) ?_
  refine lv_iload_n hx hb dX3_add_1 rfl (lv_at hl 2 rfl) ?_
  rcases hw with hw | hw
  · have hPc := hP.sub (ws' := (wEmp ad cI cJ cZ )) [] rfl
    have hDc := hD.sub (ws' := (wEmp ad cI cJ cZ )) [] (by decide) rfl
    have hFc := va_free (wc := (wEmp ad cI cJ cZ )) hD hS hA [] rfl
    refine vx_callv (vx_runS (As := [.int v1, .int v2]) (rest := []) C (cx_X3_requirePlace l hst dC dI cI cJ cZ ad _  v1 v2 hw) (va_cwS 2 hts gX3_add_X3_requirePlace rfl rfl rfl (by decide +kernel) ⟨Nat.le_of_ble_eq_true rfl, Nat.le_of_ble_eq_true rfl⟩) ⟨fb_x, fun U hU hW => ⟨rfl, by rw [hU], by rw [hU]; exact hPc, va_K.moved hW.alike hK, hDc.weaken (fun _ _ _ _ => trivial), hxe.step hS hFc hU hW⟩⟩ rfl rfl hl.1 rfl (lv_room (Nat.le_of_ble_eq_true rfl)) dX3_add_2 ⟨Nat.le_of_ble_eq_true rfl, Nat.le_of_ble_eq_true rfl⟩) hS (fun q _ h => hFc q h) hFc (fun q _ h => hFc q h) (fun E9 ce q9 uu t H1 locs ht hvm hpx hB hz1 hk1 hS hce hcv hcl => ?_) (fun uu t H1 locs ht hvm hpost hB hz1 hk1 hS => hpost.elim)
    obtain ⟨hw, hP1, hD1⟩ := hB
    rw [ht] at hP1
    try dsimp only at hw hP1 hD1
    obtain ⟨hP, hD⟩ := va_join (wr := [(ad 0, .inr (3, [.ref (ad 16), .ref (ad 7), .ref (ad 1), .int sl])), (ad 1, .inr (0, [.ref (ad 7), .ref (ad 16), .ref (ad 2), .ref (ad 3), .ref (ad 4), .ref (ad 5), .ref (ad 6), .int fn])), (ad 2, .inl (cI, 120, .inl ho)), (ad 3, .inl (cI, 120, .inl nu)), (ad 4, .inl (cI, 120, .inl fa)), (ad 5, .inl (cI, 60, .inl ou)), (ad 6, .inl (cI, 121, .inl sp)), (ad 7, .inr (1, [.ref (ad 16), .ref (ad 8), .ref (ad 9), .ref (ad 10), .ref (ad 11), .int pn, .ref (ad 12), .ref (ad 13), .ref (ad 14), .ref (ad 15), .int rn])), (ad 8, .inl (cI, 120, .inl co)), (ad 9, .inl (cI, 120, .inl fo)), (ad 10, .inl (cI, 60, .inl ro)), (ad 11, .inl (cI, 60, .inl po)), (ad 12, .inl (cI, 120, .inl rd)), (ad 13, .inl (cI, 120, .inl st)), (ad 14, .inl (cJ, 120, .inr (.inl tw))), (ad 15, .inl (cI, 120, .inl od)), (ad 16, .inr (2, [.ref (ad 17), .ref (ad 18), .ref (ad 19), .int sn])), (ad 17, .inl (cI, 120, .inl x)), (ad 18, .inl (cI, 120, .inl y)), (ad 19, .inl (cZ, 60, .inl u))]) (w1 := (wEmp ad cI cJ cZ )) hP hD [] [0, 1, 2, 3, 4, 5, 6, 7, 8, 9, 10, 11, 12, 13, 14, 15, 16, 17, 18, 19] rfl rfl (by decide) (by decide) hk1 hFc hP1 hD1
    have hP : va_P (dC, dI) vwCl (wPla ad cI cJ cZ sl ho nu fa ou sp fn co fo ro po pn rd st tw od rn x y u sn) H1 := hP
    have hD : va_D A (wPla ad cI cJ cZ sl ho nu fa ou sp fn co fo ro po pn rd st tw od rn x y u sn) := hD
    rw [← hQ]
    exact vx_out (fun x9 h9 => (hnt x9 h9).elim) hlocks hce hcv hcl (fun t ht hvm => ⟨(sl, x, y, u, sn), trivial, ⟨hw, by rw [ht]; exact hP, hD⟩, hS.F ht⟩) hS.2.2 (Nat.le_of_ble_eq_true rfl) (Nat.le_of_ble_eq_true rfl)
  · refine va_csv (W.runS (As := [.int v1, .int v2]) (rest := []) C (c_X3_requirePlace l v1 v2 hw) (va_cwS 2 hts gX3_add_X3_requirePlace rfl rfl rfl (by decide +kernel) ⟨Nat.le_of_ble_eq_true rfl, Nat.le_of_ble_eq_true rfl⟩) ⟨fb_st, fun U hU hW => ⟨rfl, trivial⟩⟩ rfl rfl hl.1 rfl (lv_room (Nat.le_of_ble_eq_true rfl)) dX3_add_2 ⟨Nat.zero_le _, Nat.zero_le _⟩) (fun hw => ?_)
    refine lv_iload_n hx hb dX3_add_5 rfl (lv_at hl 3 rfl) ?_
    refine lv_iload hx hb dX3_add_6 (lv_at hl 4 rfl) ?_
    rcases hw with hw | hw
    · have hPc := hP.sub (ws' := (wEmp ad cI cJ cZ )) [] rfl
      have hDc := hD.sub (ws' := (wEmp ad cI cJ cZ )) [] (by decide) rfl
      have hFc := va_free (wc := (wEmp ad cI cJ cZ )) hD hS hA [] rfl
      refine vx_callv (vx_runS (As := [.int v3, .int v4]) (rest := []) C (cx_X3_requirePlace l hst dC dI cI cJ cZ ad _  v3 v4 hw) (va_cwS 2 hts gX3_add_X3_requirePlace rfl rfl rfl (by decide +kernel) ⟨Nat.le_of_ble_eq_true rfl, Nat.le_of_ble_eq_true rfl⟩) ⟨fb_x, fun U hU hW => ⟨rfl, by rw [hU], by rw [hU]; exact hPc, va_K.moved hW.alike hK, hDc.weaken (fun _ _ _ _ => trivial), hxe.step hS hFc hU hW⟩⟩ rfl rfl hl.1 rfl (lv_room (Nat.le_of_ble_eq_true rfl)) dX3_add_8 ⟨Nat.le_of_ble_eq_true rfl, Nat.le_of_ble_eq_true rfl⟩) hS (fun q _ h => hFc q h) hFc (fun q _ h => hFc q h) (fun E9 ce q9 uu t H1 locs ht hvm hpx hB hz1 hk1 hS hce hcv hcl => ?_) (fun uu t H1 locs ht hvm hpost hB hz1 hk1 hS => hpost.elim)
      obtain ⟨hw, hP1, hD1⟩ := hB
      rw [ht] at hP1
      try dsimp only at hw hP1 hD1
      obtain ⟨hP, hD⟩ := va_join (wr := [(ad 0, .inr (3, [.ref (ad 16), .ref (ad 7), .ref (ad 1), .int sl])), (ad 1, .inr (0, [.ref (ad 7), .ref (ad 16), .ref (ad 2), .ref (ad 3), .ref (ad 4), .ref (ad 5), .ref (ad 6), .int fn])), (ad 2, .inl (cI, 120, .inl ho)), (ad 3, .inl (cI, 120, .inl nu)), (ad 4, .inl (cI, 120, .inl fa)), (ad 5, .inl (cI, 60, .inl ou)), (ad 6, .inl (cI, 121, .inl sp)), (ad 7, .inr (1, [.ref (ad 16), .ref (ad 8), .ref (ad 9), .ref (ad 10), .ref (ad 11), .int pn, .ref (ad 12), .ref (ad 13), .ref (ad 14), .ref (ad 15), .int rn])), (ad 8, .inl (cI, 120, .inl co)), (ad 9, .inl (cI, 120, .inl fo)), (ad 10, .inl (cI, 60, .inl ro)), (ad 11, .inl (cI, 60, .inl po)), (ad 12, .inl (cI, 120, .inl rd)), (ad 13, .inl (cI, 120, .inl st)), (ad 14, .inl (cJ, 120, .inr (.inl tw))), (ad 15, .inl (cI, 120, .inl od)), (ad 16, .inr (2, [.ref (ad 17), .ref (ad 18), .ref (ad 19), .int sn])), (ad 17, .inl (cI, 120, .inl x)), (ad 18, .inl (cI, 120, .inl y)), (ad 19, .inl (cZ, 60, .inl u))]) (w1 := (wEmp ad cI cJ cZ )) hP hD [] [0, 1, 2, 3, 4, 5, 6, 7, 8, 9, 10, 11, 12, 13, 14, 15, 16, 17, 18, 19] rfl rfl (by decide) (by decide) hk1 hFc hP1 hD1
      have hP : va_P (dC, dI) vwCl (wPla ad cI cJ cZ sl ho nu fa ou sp fn co fo ro po pn rd st tw od rn x y u sn) H1 := hP
      have hD : va_D A (wPla ad cI cJ cZ sl ho nu fa ou sp fn co fo ro po pn rd st tw od rn x y u sn) := hD
      rw [← hQ]
      exact vx_out (fun x9 h9 => (hnt x9 h9).elim) hlocks hce hcv hcl (fun t ht hvm => ⟨(sl, x, y, u, sn), trivial, ⟨hw, by rw [ht]; exact hP, hD⟩, hS.F ht⟩) hS.2.2 (Nat.le_of_ble_eq_true rfl) (Nat.le_of_ble_eq_true rfl)
    · refine va_csv (W.runS (As := [.int v3, .int v4]) (rest := []) C (c_X3_requirePlace l v3 v4 hw) (va_cwS 2 hts gX3_add_X3_requirePlace rfl rfl rfl (by decide +kernel) ⟨Nat.le_of_ble_eq_true rfl, Nat.le_of_ble_eq_true rfl⟩) ⟨fb_st, fun U hU hW => ⟨rfl, trivial⟩⟩ rfl rfl hl.1 rfl (lv_room (Nat.le_of_ble_eq_true rfl)) dX3_add_8 ⟨Nat.zero_le _, Nat.zero_le _⟩) (fun hw => ?_)
      refine lv_iload_n hx hb dX3_add_11 rfl (lv_at hl 1 rfl) ?_
      refine lv_iload_n hx hb dX3_add_12 rfl (lv_at hl 3 rfl) ?_
      refine jn0_use (J := ∀ (ls : Array Slot) (H : Heap) (locs : List Loc), lv_has ls 6 [(0, .ref (ad 0)), (1, .int v1), (2, .int v2), (3, .int v3), (4, .int v4)] → va_P (dC, dI) vwCl (wPla ad cI cJ cZ sl ho nu fa ou sp fn co fo ro po pn rd st tw od rn x y u sn) H → va_D A (wPla ad cI cJ cZ sl ho nu fa ou sp fn co fo ro po pn rd st tw od rn x y u sn) → va_S A s.heap H locs → W p l e rmx_X3_add s m args below meth c H locs 0 0 Q (F0 m 32 ls [])) hw (fun hw ls H locs hl hP hD hS => ?_) (fun hw hj0 => ?_)
      · refine lv_aload_n hx hb dX3_add_32 rfl (lv_at hl 0 rfl) ?_
        refine va_get (D := (dC, dI)) (ci := 3) (v := .ref (ad 16)) (C := RX3) (T := TX3) (N := 4) hx hb hts fx_X3_add_1 hown hK hP 0 rfl rfl 0 (by decide) (hts _ fx_X3_add_0) (fun _ h9 => h9) rfl dX3_add_33 ?_
        have hPc := hP.sub (ws' := (wSeg ad cI cJ cZ x y u sn)) [16, 17, 18, 19] rfl
        refine vp_callSi (W.runV (As := []) (rest := []) C (c_X2_leastFree l dC dI cI cJ cZ ad x y u sn  hw) (cwV 0 hts gX3_add_X2_leastFree rfl rfl rfl (by decide +kernel) ⟨Nat.le_of_ble_eq_true rfl, Nat.le_of_ble_eq_true rfl⟩) ⟨fb_ro, va_recv hK hPc (ci := 2) (q0 := 0) rfl rfl, fun U hU hW => ⟨rfl, by rw [hU]; exact hPc, va_K.moved hW.alike hK⟩⟩ rfl rfl hl.1 rfl (lv_room (Nat.le_of_ble_eq_true rfl)) dX3_add_36 ⟨Nat.zero_le _, Nat.zero_le _⟩) (fun r3 hw => ?_)
        refine lv_istore (lv' := [(5, .int r3), (0, .ref (ad 0)), (1, .int v1), (2, .int v2), (3, .int v3), (4, .int v4)]) hx hb dX3_add_39 hl (by decide) rfl (fun ls hl => ?_)
        refine lv_iload hx hb dX3_add_41 (lv_at hl 0 rfl) ?_
        refine lv_iconst (v := -1) hx hb dX3_add_43 (by decide) ?_
        refine lv_icmp_ne (tgt := 57) hx hb dX3_add_44 (by decide) (fun hc => ?_) (fun hc => ?_)
        · have hw := hw.2 hc
          refine lv_aload_n hx hb dX3_add_57 rfl (lv_at hl 1 rfl) ?_
          refine va_get (D := (dC, dI)) (ci := 3) (v := .ref (ad 16)) (C := RX3) (T := TX3) (N := 4) hx hb hts fx_X3_add_1 hown hK hP 0 rfl rfl 0 (by decide) (hts _ fx_X3_add_0) (fun _ h9 => h9) rfl dX3_add_58 ?_
          refine lv_iload hx hb dX3_add_61 (lv_at hl 0 rfl) ?_
          refine lv_iload_n hx hb dX3_add_63 rfl (lv_at hl 2 rfl) ?_
          refine lv_iload_n hx hb dX3_add_64 rfl (lv_at hl 3 rfl) ?_
          refine lv_iload_n hx hb dX3_add_65 rfl (lv_at hl 4 rfl) ?_
          refine lv_iload hx hb dX3_add_66 (lv_at hl 5 rfl) ?_
          have hPc := hP.sub (ws' := (wSeg ad cI cJ cZ x y u sn)) [16, 17, 18, 19] rfl
          have hDc := hD.sub (ws' := (wSeg ad cI cJ cZ x y u sn)) [16, 17, 18, 19] (by decide) rfl
          have hFc := va_free (wc := (wSeg ad cI cJ cZ x y u sn)) hD hS hA [16, 17, 18, 19] rfl
          refine va_callv (va_runV (As := [.int r3, .int v1, .int v2, .int v3, .int v4]) (rest := []) C (c_X2_draw l dC dI cI cJ cZ ad _ x y u sn r3 v1 v2 v3 v4 hw) (cwV 5 hts gX3_add_X2_draw rfl rfl rfl (by decide +kernel) ⟨Nat.le_of_ble_eq_true rfl, Nat.le_of_ble_eq_true rfl⟩) ⟨fb_rw, va_recv hK hPc (ci := 2) (q0 := 0) rfl rfl, fun U hU hW => ⟨rfl, by rw [hU], by rw [hU]; exact hPc, va_K.moved hW.alike hK, hDc.weaken (fun _ _ _ _ => trivial)⟩⟩ rfl rfl hl.1 rfl (lv_room (Nat.le_of_ble_eq_true rfl)) dX3_add_68 ⟨Nat.zero_le _, Nat.zero_le _⟩) hS (fun q _ h => hFc q h) hFc (fun uu t H1 locs ht hvm hw hB hz1 hk1 hS => ?_)
          obtain ⟨x_4, y_5⟩ := uu
          obtain ⟨hP1, hD1⟩ := hB
          rw [ht] at hP1
          try dsimp only at hw hP1 hD1
          obtain ⟨hP, hD⟩ := va_join (wr := [(ad 0, .inr (3, [.ref (ad 16), .ref (ad 7), .ref (ad 1), .int sl])), (ad 1, .inr (0, [.ref (ad 7), .ref (ad 16), .ref (ad 2), .ref (ad 3), .ref (ad 4), .ref (ad 5), .ref (ad 6), .int fn])), (ad 2, .inl (cI, 120, .inl ho)), (ad 3, .inl (cI, 120, .inl nu)), (ad 4, .inl (cI, 120, .inl fa)), (ad 5, .inl (cI, 60, .inl ou)), (ad 6, .inl (cI, 121, .inl sp)), (ad 7, .inr (1, [.ref (ad 16), .ref (ad 8), .ref (ad 9), .ref (ad 10), .ref (ad 11), .int pn, .ref (ad 12), .ref (ad 13), .ref (ad 14), .ref (ad 15), .int rn])), (ad 8, .inl (cI, 120, .inl co)), (ad 9, .inl (cI, 120, .inl fo)), (ad 10, .inl (cI, 60, .inl ro)), (ad 11, .inl (cI, 60, .inl po)), (ad 12, .inl (cI, 120, .inl rd)), (ad 13, .inl (cI, 120, .inl st)), (ad 14, .inl (cJ, 120, .inr (.inl tw))), (ad 15, .inl (cI, 120, .inl od))]) (w1 := (wSeg ad cI cJ cZ x_4 y_5 u sn)) hP hD [16, 17, 18, 19] [0, 1, 2, 3, 4, 5, 6, 7, 8, 9, 10, 11, 12, 13, 14, 15] rfl rfl (by decide) (by decide) hk1 hFc hP1 hD1
          generalize H1 = H at hP hS ⊢
          have hP : va_P (dC, dI) vwCl (wPla ad cI cJ cZ sl ho nu fa ou sp fn co fo ro po pn rd st tw od rn x_4 y_5 u sn) H := hP
          have hD : va_D A (wPla ad cI cJ cZ sl ho nu fa ou sp fn co fo ro po pn rd st tw od rn x_4 y_5 u sn) := hD
          refine lv_aload_n hx hb dX3_add_71 rfl (lv_at hl 1 rfl) ?_
          refine va_get (D := (dC, dI)) (ci := 3) (v := .ref (ad 16)) (C := RX3) (T := TX3) (N := 4) hx hb hts fx_X3_add_1 hown hK hP 0 rfl rfl 0 (by decide) (hts _ fx_X3_add_0) (fun _ h9 => h9) rfl dX3_add_72 ?_
          refine lv_iload hx hb dX3_add_75 (lv_at hl 0 rfl) ?_
          have hPc := hP.sub (ws' := (wSeg ad cI cJ cZ x_4 y_5 u sn)) [16, 17, 18, 19] rfl
          refine vp_callSi (W.runV (As := [.int r3]) (rest := []) C (c_X2_clashes l dC dI cI cJ cZ ad x_4 y_5 u sn r3 hw) (cwV 1 hts gX3_add_X2_clashes rfl rfl rfl (by decide +kernel) ⟨Nat.le_of_ble_eq_true rfl, Nat.le_of_ble_eq_true rfl⟩) ⟨fb_ro, va_recv hK hPc (ci := 2) (q0 := 0) rfl rfl, fun U hU hW => ⟨rfl, by rw [hU]; exact hPc, va_K.moved hW.alike hK⟩⟩ rfl rfl hl.1 rfl (lv_room (Nat.le_of_ble_eq_true rfl)) dX3_add_77 ⟨Nat.zero_le _, Nat.zero_le _⟩) (fun r6 hw => ?_)
          refine lv_if_eq (tgt := 85) hx hb dX3_add_80 (by decide) (fun hc => ?_) (fun hc => ?_)
          · have hw := hw.1 (hc)
            refine lv_aload_n hx hb dX3_add_85 rfl (lv_at hl 1 rfl) ?_
            refine va_get (D := (dC, dI)) (ci := 3) (v := .ref (ad 16)) (C := RX3) (T := TX3) (N := 4) hx hb hts fx_X3_add_1 hown hK hP 0 rfl rfl 0 (by decide) (hts _ fx_X3_add_0) (fun _ h9 => h9) rfl dX3_add_86 ?_
            refine lv_iload hx hb dX3_add_89 (lv_at hl 0 rfl) ?_
            have hPc := hP.sub (ws' := (wSeg ad cI cJ cZ x_4 y_5 u sn)) [16, 17, 18, 19] rfl
            have hDc := hD.sub (ws' := (wSeg ad cI cJ cZ x_4 y_5 u sn)) [16, 17, 18, 19] (by decide) rfl
            have hFc := va_free (wc := (wSeg ad cI cJ cZ x_4 y_5 u sn)) hD hS hA [16, 17, 18, 19] rfl
            refine va_callv (va_runV (As := [.int r3]) (rest := []) C (c_X2_keep l dC dI cI cJ cZ ad _ x_4 y_5 u sn r3 hw) (cwV 1 hts gX3_add_X2_keep rfl rfl rfl (by decide +kernel) ⟨Nat.le_of_ble_eq_true rfl, Nat.le_of_ble_eq_true rfl⟩) ⟨fb_rw, va_recv hK hPc (ci := 2) (q0 := 0) rfl rfl, fun U hU hW => ⟨rfl, by rw [hU], by rw [hU]; exact hPc, va_K.moved hW.alike hK, hDc.weaken (fun _ _ _ _ => trivial)⟩⟩ rfl rfl hl.1 rfl (lv_room (Nat.le_of_ble_eq_true rfl)) dX3_add_91 ⟨Nat.zero_le _, Nat.zero_le _⟩) hS (fun q _ h => hFc q h) hFc (fun uu t H1 locs ht hvm hw hB hz1 hk1 hS => ?_)
            obtain ⟨u_7, sn_8⟩ := uu
            exact (show False from hw).elim
          · have hw := hw.2 hc
            refine lv_iconst (v := -1) hx hb dX3_add_83 (by decide) ?_
            exact hw.elim
        · have hw := hw.1 (hc)
          obtain ⟨sa, hsa⟩ := hxe.2.2.1.2.1
          rw [← hQ]
          exact vx_throwS (A := A) (own := RX3) (cls := "java/lang/IllegalStateException") (text := "there are 60 segments") (names := ["java/lang/RuntimeException", "java/lang/Exception"]) (sa := sa) hx hb hst hown (by decide +kernel) (by decide +kernel) (hts _ fx_X3_add_6) (hts _ fx_X3_add_7) hsa (vx_hat (fun w h9 => hts w (fx_X3_add_3 w h9)) fx_X3_add_4 (xw_S hxe.2.2.2)) fx_X3_add_5 hxe.1 hxe.2.1 hS (hl.1.trans hml.symm) dX3_add_47 dX3_add_50 dX3_add_51 dX3_add_53 dX3_add_56 (fun x9 h9 => (hnt x9 h9).elim) (Nat.le_of_ble_eq_true rfl) (Nat.le_of_ble_eq_true rfl) (Nat.le_of_ble_eq_true rfl) (Nat.le_of_ble_eq_true rfl) hlocks (fun t hvm hsz hk => ⟨(sl, x, y, u, sn), trivial, ⟨hw, hP.kept (fun k q hq => hk q.1 (vx_lt hP hq)), hD⟩, ⟨Nat.le_trans hS.1 hsz, fun q h1 h2 => (hk q (Nat.lt_of_lt_of_le h1 hS.1)).trans (hS.2.1 q h1 h2)⟩⟩) hS.2.2 (Nat.le_of_ble_eq_true rfl) (Nat.le_of_ble_eq_true rfl)
      · have hj2 := hj0
        refine lv_icmp_ne (tgt := 32) hx hb dX3_add_13 (by decide) (fun hc => ?_) (fun hc => ?_)
        · have hw := hw.2 hc
          exact hj2 hw ls _ _ (lv_sub hl [0, 1, 2, 3, 4] rfl) hP hD hS
        · have hw := hw.1 (hc)
          refine lv_iload_n hx hb dX3_add_16 rfl (lv_at hl 2 rfl) ?_
          refine lv_iload hx hb dX3_add_17 (lv_at hl 4 rfl) ?_
          refine lv_icmp_ne (tgt := 32) hx hb dX3_add_19 (by decide) (fun hc => ?_) (fun hc => ?_)
          · have hw := hw.2 hc
            exact hj2 hw ls _ _ (lv_sub hl [0, 1, 2, 3, 4] rfl) hP hD hS
          · have hw := hw.1 (hc)
            obtain ⟨sa, hsa⟩ := hxe.2.2.1.1
            rw [← hQ]
            exact vx_throwS (A := A) (own := RX3) (cls := "java/lang/IllegalArgumentException") (text := "the ends are the same") (names := ["java/lang/RuntimeException", "java/lang/Exception"]) (sa := sa) hx hb hst hown (by decide +kernel) (by decide +kernel) (hts _ fx_X3_add_11) (hts _ fx_X3_add_12) hsa (vx_hat (fun w h9 => hts w (fx_X3_add_8 w h9)) fx_X3_add_9 (xw_I hxe.2.2.2)) fx_X3_add_10 hxe.1 hxe.2.1 hS (hl.1.trans hml.symm) dX3_add_22 dX3_add_25 dX3_add_26 dX3_add_28 dX3_add_31 (fun x9 h9 => (hnt x9 h9).elim) (Nat.le_of_ble_eq_true rfl) (Nat.le_of_ble_eq_true rfl) (Nat.le_of_ble_eq_true rfl) (Nat.le_of_ble_eq_true rfl) hlocks (fun t hvm hsz hk => ⟨(sl, x, y, u, sn), trivial, ⟨hw, hP.kept (fun k q hq => hk q.1 (vx_lt hP hq)), hD⟩, ⟨Nat.le_trans hS.1 hsz, fun q h1 h2 => (hk q (Nat.lt_of_lt_of_le h1 hS.1)).trans (hS.2.1 q h1 h2)⟩⟩) hS.2.2 (Nat.le_of_ble_eq_true rfl) (Nat.le_of_ble_eq_true rfl)
-- X3_begins
abbrev rm_X3_begins : Room := { frames := 2, cells := 0, slots := 0, locals := 42 }
theorem f_X3_begins_0 : (Cond.fieldLink RX3 27 "PlaneFaces" "segments" "LPlaneFaces$Segments;") ∈ wsX3_begins := by decide +kernel
theorem f_X3_begins_1 : ∀ w ∈ wsX30, w ∈ wsX3_begins := by decide +kernel
theorem f_X3_begins_2 : (Cond.fieldLink RX3 100 "PlaneFaces$Segments" "x" "[I") ∈ wsX3_begins := by decide +kernel
theorem f_X3_begins_3 : ∀ w ∈ wsX20, w ∈ wsX3_begins := by decide +kernel
theorem f_X3_begins_4 : (Cond.fieldLink RX3 96 "PlaneFaces$Segments" "y" "[I") ∈ wsX3_begins := by decide +kernel
set_option maxRecDepth 100000 in
set_option maxHeartbeats 4000000 in
theorem c_X3_begins (l : Launch) (dC : Nat → ClassId) (dI : Nat → Nat → Nat) (cI cJ cZ : ClassId) (ad : Nat → Nat) (sl : Int32) (ho : Nat → Int32) (nu : Nat → Int32) (fa : Nat → Int32) (ou : Nat → Int32) (sp : Nat → Int32) (fn : Int32) (co : Nat → Int32) (fo : Nat → Int32) (ro : Nat → Int32) (po : Nat → Int32) (pn : Int32) (rd : Nat → Int32) (st : Nat → Int32) (tw : Nat → Int64) (od : Nat → Int32) (rn : Int32) (x : Nat → Int32) (y : Nat → Int32) (u : Nat → Int32) (sn : Int32) (v1 : Int32) (v2 : Int32) {post : Int32 → Prop} (hw : wp_X3_begins x y u v1 v2 post) : Met l yX3_begins wsX3_begins rm_X3_begins (va_Pc [.ref (ad 0), .int v1, .int v2] (fun U => va_P (dC, dI) vwCl (wPla ad cI cJ cZ sl ho nu fa ou sp fn co fo ro po pn rd st tw od rn x y u sn) U.heap ∧ va_K (dC, dI) vwCl (tyL cI cJ cZ) U)) (vp_Si post) 0 0 (fun _ => False) := by
  unfold wp_X3_begins at hw
  refine Met.ofW (cc := cX3_begins) (maxL := 3) (ret := (some .int)) (by decide) rfl ?_
  intro p e s m args below meth c s₁ B hml hv
  obtain ⟨hav, hP, hK⟩ := hv
  have hx := B.exec
  have hb := B.bytes
  have hr := B.returns
  have hts := atoms_spec (ws := wsX3_begins) B.pre
  have hown : s.vm.findClass RX3 = some m.cls := findClass_of_methodNamed B.named
  have hlocks := B.notSynchronized
  have C : CallFix p m c cX3_begins 3 s args wsX3_begins RX3 := ⟨hx, hb, hml, hown, hts⟩
  obtain ⟨ls, hE, hl⟩ := mx_entry (m := m) [.ref (ad 0), .int v1, .int v2] (n := 3) (Nat.le_of_ble_eq_true rfl)
  have hl : lv_has ls 3 [(0, .ref (ad 0)), (1, .int v1), (2, .int v2)] := hl
  rw [show entryFrame m args 3 = F0 m 0 ls [] by rw [hav]; exact hE]
  obtain ⟨Q, hQ⟩ : ∃ Q, MQ below (vp_Si post) args s 0 0 (fun _ => False) = Q := ⟨_, rfl⟩
  rw [hQ]
  obtain ⟨H, hH⟩ : ∃ H, s.heap = H := ⟨_, rfl⟩
  rw [hH]
  rw [hH] at hP
  show W p l e rm_X3_begins s m args below meth c H [] 0 0 Q (F0 m 0 ls [])
  refine lv_aload_n hx hb dX3_begins_0 rfl (lv_at hl 0 rfl) ?_
  refine lv_iload_n hx hb dX3_begins_1 rfl (lv_at hl 1 rfl) ?_
  refine va_csv (W.runV (As := [.int v1]) (rest := []) C (c_X3_requireHalf l dC dI cI cJ cZ ad sl ho nu fa ou sp fn co fo ro po pn rd st tw od rn x y u sn v1 hw) (cwV 1 hts gX3_begins_X3_requireHalf rfl rfl rfl (by decide +kernel) ⟨Nat.le_of_ble_eq_true rfl, Nat.le_of_ble_eq_true rfl⟩) ⟨fb_ro, va_recv hK hP (ci := 3) (q0 := 0) rfl rfl, fun U hU hW => ⟨rfl, by rw [hU]; exact hP, va_K.moved hW.alike hK⟩⟩ rfl rfl hl.1 rfl (lv_room (Nat.le_of_ble_eq_true rfl)) dX3_begins_2 ⟨Nat.zero_le _, Nat.zero_le _⟩) (fun hw => ?_)
  refine lv_iload_n hx hb dX3_begins_5 rfl (lv_at hl 2 rfl) ?_
  refine jn1_use (J := fun (k1 : Int32) => ∀ ls : Array Slot, lv_has ls 3 [(0, .ref (ad 0))] → W p l e rm_X3_begins s m args below meth c H [] 0 0 Q (F0 m 30 ls [.int k1])) hw (fun k1 hw ls hl => ?_) (fun hw hj0 => ?_)
  · rw [← hQ]
    exact W.iret (v := k1) hx hb hr (fun t ht hW => ⟨_, rfl, hw, ht.trans hH.symm⟩) (fun q h => by cases h) dX3_begins_30
  · have hj3 := hj0
    refine lv_if_eq (tgt := 21) hx hb dX3_begins_6 (by decide) (fun hc => ?_) (fun hc => ?_)
    · have hw := hw.1 (hc)
      refine lv_aload_n hx hb dX3_begins_21 rfl (lv_at hl 0 rfl) ?_
      refine va_get (D := (dC, dI)) (ci := 3) (v := .ref (ad 16)) (C := RX3) (T := TX3) (N := 4) hx hb hts f_X3_begins_1 hown hK hP 0 rfl rfl 0 (by decide) (hts _ f_X3_begins_0) (fun _ h9 => h9) rfl dX3_begins_22 ?_
      refine va_get (D := (dC, dI)) (ci := 2) (v := .ref (ad 17)) (C := RX2) (T := TX2) (N := 4) hx hb hts f_X3_begins_3 hown hK hP 16 rfl rfl 0 (by decide) (hts _ f_X3_begins_2) (fun _ h9 => h9) rfl dX3_begins_25 ?_
      refine lv_iload_n hx hb dX3_begins_28 rfl (lv_at hl 1 rfl) ?_
      have hi := hw.1
      have hw := hw.2
      refine va_iald hx hb hK hP 17 0 rfl rfl hi dX3_begins_29 ?_
      exact hj3 (x v1.toNatClampNeg) hw ls (lv_sub hl [0] rfl)
    · have hw := hw.2 hc
      refine lv_aload_n hx hb dX3_begins_9 rfl (lv_at hl 0 rfl) ?_
      refine va_get (D := (dC, dI)) (ci := 3) (v := .ref (ad 16)) (C := RX3) (T := TX3) (N := 4) hx hb hts f_X3_begins_1 hown hK hP 0 rfl rfl 0 (by decide) (hts _ f_X3_begins_0) (fun _ h9 => h9) rfl dX3_begins_10 ?_
      refine va_get (D := (dC, dI)) (ci := 2) (v := .ref (ad 18)) (C := RX2) (T := TX2) (N := 4) hx hb hts f_X3_begins_3 hown hK hP 16 rfl rfl 1 (by decide) (hts _ f_X3_begins_4) (fun _ h9 => h9) rfl dX3_begins_13 ?_
      refine lv_iload_n hx hb dX3_begins_16 rfl (lv_at hl 1 rfl) ?_
      have hi := hw.1
      have hw := hw.2
      refine va_iald hx hb hK hP 18 0 rfl rfl hi dX3_begins_17 ?_
      refine lv_goto (tgt := 30) hx hb dX3_begins_18 (by decide) ?_
      exact hj3 (y v1.toNatClampNeg) hw ls (lv_sub hl [0] rfl)
-- X3_begins throws
abbrev rmx_X3_begins : Room := { frames := 7, cells := 1, slots := 6, locals := 113 }
theorem fx_X3_begins_0 : (Cond.fieldLink RX3 27 "PlaneFaces" "segments" "LPlaneFaces$Segments;") ∈ wsX3_begins := by decide +kernel
theorem fx_X3_begins_1 : ∀ w ∈ wsX30, w ∈ wsX3_begins := by decide +kernel
theorem fx_X3_begins_2 : (Cond.fieldLink RX3 100 "PlaneFaces$Segments" "x" "[I") ∈ wsX3_begins := by decide +kernel
theorem fx_X3_begins_3 : ∀ w ∈ wsX20, w ∈ wsX3_begins := by decide +kernel
theorem fx_X3_begins_4 : (Cond.fieldLink RX3 96 "PlaneFaces$Segments" "y" "[I") ∈ wsX3_begins := by decide +kernel
set_option maxRecDepth 100000 in
set_option maxHeartbeats 4000000 in
theorem cx_X3_begins (l : Launch) (hst : l.stackTraces = false) (dC : Nat → ClassId) (dI : Nat → Nat → Nat) (cI cJ cZ : ClassId) (ad : Nat → Nat) (sz : Nat) (sl : Int32) (ho : Nat → Int32) (nu : Nat → Int32) (fa : Nat → Int32) (ou : Nat → Int32) (sp : Nat → Int32) (fn : Int32) (co : Nat → Int32) (fo : Nat → Int32) (ro : Nat → Int32) (po : Nat → Int32) (pn : Int32) (rd : Nat → Int32) (st : Nat → Int32) (tw : Nat → Int64) (od : Nat → Int32) (rn : Int32) (x : Nat → Int32) (y : Nat → Int32) (u : Nat → Int32) (sn : Int32) (v1 : Int32) (v2 : Int32) {px : String → Prop} (hw : wpx_X3_begins x y u v1 v2 px) : vx_Met l yX3_begins wsX3_begins rmx_X3_begins (va_Pc [.ref (ad 0), .int v1, .int v2] (fun U => U.heap.size = sz ∧ va_P (dC, dI) vwCl (wPla ad cI cJ cZ sl ho nu fa ou sp fn co fo ro po pn rd st tw od rn x y u sn) U.heap ∧ va_K (dC, dI) vwCl (tyL cI cJ cZ) U ∧ va_D (fun _ => True) (wPla ad cI cJ cZ sl ho nu fa ou sp fn co fo ro po pn rd st tw od rn x y u sn) ∧ xe (va_A (wPla ad cI cJ cZ sl ho nu fa ou sp fn co fo ro po pn rd st tw od rn x y u sn) sz) U U.heap)) (va_Qi (fun (_ : Int32) (_ : Unit) => False) (fun _ _ => True) (va_A (wPla ad cI cJ cZ sl ho nu fa ou sp fn co fo ro po pn rd st tw od rn x y u sn) sz)) (vx_X (fun _ : Unit => True) (fun (E : String) (uu : Unit) (t : State) => px E  ∧ va_P (dC, dI) vwCl (wPla ad cI cJ cZ sl ho nu fa ou sp fn co fo ro po pn rd st tw od rn x y u sn) t.heap ∧ va_D (va_A (wPla ad cI cJ cZ sl ho nu fa ou sp fn co fo ro po pn rd st tw od rn x y u sn) sz) (wPla ad cI cJ cZ sl ho nu fa ou sp fn co fo ro po pn rd st tw od rn x y u sn)) (va_A (wPla ad cI cJ cZ sl ho nu fa ou sp fn co fo ro po pn rd st tw od rn x y u sn) sz)) 1 6 (va_A (wPla ad cI cJ cZ sl ho nu fa ou sp fn co fo ro po pn rd st tw od rn x y u sn) sz) := by
  unfold wpx_X3_begins at hw
  refine vx_ofW (cc := cX3_begins) (maxL := 3) (ret := (some .int)) (by decide) rfl ?_
  intro p e s m args below meth c s₁ B hml hnt hv
  obtain ⟨hav, hsz, hP, hK, hD0, hxe⟩ := hv
  have hx := B.exec
  have hb := B.bytes
  have hr := B.returns
  have hts := atoms_spec (ws := wsX3_begins) B.pre
  have hown : s.vm.findClass RX3 = some m.cls := findClass_of_methodNamed B.named
  have hlocks := B.notSynchronized
  have C : CallFix p m c cX3_begins 3 s args wsX3_begins RX3 := ⟨hx, hb, hml, hown, hts⟩
  obtain ⟨ls, hE, hl⟩ := mx_entry (m := m) [.ref (ad 0), .int v1, .int v2] (n := 3) (Nat.le_of_ble_eq_true rfl)
  have hl : lv_has ls 3 [(0, .ref (ad 0)), (1, .int v1), (2, .int v2)] := hl
  rw [show entryFrame m args 3 = F0 m 0 ls [] by rw [hav]; exact hE]
  subst hsz
  have hD := hD0.self (sz := s.heap.size)
  generalize hAe : va_A (wPla ad cI cJ cZ sl ho nu fa ou sp fn co fo ro po pn rd st tw od rn x y u sn) s.heap.size = A at hD hxe ⊢
  have hA : ∀ q : Nat, s.heap.size ≤ q → A q := fun q h => by rw [← hAe]; exact Or.inr h
  have hS : va_S A s.heap s.heap [] := va_S.rf
  obtain ⟨Q, hQ⟩ : ∃ Q, vx_MQ below (va_Qi (fun (_ : Int32) (_ : Unit) => False) (fun _ _ => True) A) (vx_X (fun _ : Unit => True) (fun (E : String) (uu : Unit) (t : State) => px E  ∧ va_P (dC, dI) vwCl (wPla ad cI cJ cZ sl ho nu fa ou sp fn co fo ro po pn rd st tw od rn x y u sn) t.heap ∧ va_D A (wPla ad cI cJ cZ sl ho nu fa ou sp fn co fo ro po pn rd st tw od rn x y u sn)) A) args s 1 6 A = Q := ⟨_, rfl⟩
  rw [hQ]
  obtain ⟨H, hH⟩ : ∃ H, s.heap = H := ⟨_, rfl⟩
  have hS : va_S A s.heap H [] := by rw [← hH]; exact hS
  rw [hH] at hP
  show W p l e rmx_X3_begins s m args below meth c s.heap [] 0 0 Q (F0 m 0 ls [])
  suffices hg : W p l e rmx_X3_begins s m args below meth c H [] 0 0 Q (F0 m 0 ls []) by rw [hH]; exact hg
  clear hH
  generalize hlo : ([] : List Loc) = locs at hS ⊢
  refine lv_aload_n hx hb dX3_begins_0 rfl (lv_at hl 0 rfl) ?_
  refine lv_iload_n hx hb dX3_begins_1 rfl (lv_at hl 1 rfl) ?_
  rcases hw with hw | hw
  · have hPc := hP.sub (ws' := (wPla ad cI cJ cZ sl ho nu fa ou sp fn co fo ro po pn rd st tw od rn x y u sn)) [0, 1, 2, 3, 4, 5, 6, 7, 8, 9, 10, 11, 12, 13, 14, 15, 16, 17, 18, 19] rfl
    have hDc := hD.sub (ws' := (wPla ad cI cJ cZ sl ho nu fa ou sp fn co fo ro po pn rd st tw od rn x y u sn)) [0, 1, 2, 3, 4, 5, 6, 7, 8, 9, 10, 11, 12, 13, 14, 15, 16, 17, 18, 19] (by decide) rfl
    have hFc := va_free (wc := (wPla ad cI cJ cZ sl ho nu fa ou sp fn co fo ro po pn rd st tw od rn x y u sn)) hD hS hA [0, 1, 2, 3, 4, 5, 6, 7, 8, 9, 10, 11, 12, 13, 14, 15, 16, 17, 18, 19] rfl
    refine vx_callv (vx_runV (As := [.int v1]) (rest := []) C (cx_X3_requireHalf l hst dC dI cI cJ cZ ad _ sl ho nu fa ou sp fn co fo ro po pn rd st tw od rn x y u sn v1 hw) (cwV 1 hts gX3_begins_X3_requireHalf rfl rfl rfl (by decide +kernel) ⟨Nat.le_of_ble_eq_true rfl, Nat.le_of_ble_eq_true rfl⟩) ⟨fb_x, va_recv hK hPc (ci := 3) (q0 := 0) rfl rfl, fun U hU hW => ⟨rfl, by rw [hU], by rw [hU]; exact hPc, va_K.moved hW.alike hK, hDc.weaken (fun _ _ _ _ => trivial), hxe.step hS hFc hU hW⟩⟩ rfl rfl hl.1 rfl (lv_room (Nat.le_of_ble_eq_true rfl)) dX3_begins_2 ⟨Nat.le_of_ble_eq_true rfl, Nat.le_of_ble_eq_true rfl⟩) hS (fun q _ h => hFc q h) hFc (fun q _ h => hFc q h) (fun E9 ce q9 uu t H1 locs ht hvm hpx hB hz1 hk1 hS hce hcv hcl => ?_) (fun uu t H1 locs ht hvm hpost hB hz1 hk1 hS => hpost.elim)
    obtain ⟨hw, hP1, hD1⟩ := hB
    rw [ht] at hP1
    try dsimp only at hw hP1 hD1
    obtain ⟨hP, hD⟩ := va_join (wr := []) (w1 := (wPla ad cI cJ cZ sl ho nu fa ou sp fn co fo ro po pn rd st tw od rn x y u sn)) hP hD [0, 1, 2, 3, 4, 5, 6, 7, 8, 9, 10, 11, 12, 13, 14, 15, 16, 17, 18, 19] [] rfl rfl (by decide) (by decide) hk1 hFc hP1 hD1
    have hP : va_P (dC, dI) vwCl (wPla ad cI cJ cZ sl ho nu fa ou sp fn co fo ro po pn rd st tw od rn x y u sn) H1 := hP
    have hD : va_D A (wPla ad cI cJ cZ sl ho nu fa ou sp fn co fo ro po pn rd st tw od rn x y u sn) := hD
    rw [← hQ]
    exact vx_out (fun x9 h9 => (hnt x9 h9).elim) hlocks hce hcv hcl (fun t ht hvm => ⟨(), trivial, ⟨hw, by rw [ht]; exact hP, hD⟩, hS.F ht⟩) hS.2.2 (Nat.le_of_ble_eq_true rfl) (Nat.le_of_ble_eq_true rfl)
  · refine va_csv (W.runV (As := [.int v1]) (rest := []) C (c_X3_requireHalf l dC dI cI cJ cZ ad sl ho nu fa ou sp fn co fo ro po pn rd st tw od rn x y u sn v1 hw) (cwV 1 hts gX3_begins_X3_requireHalf rfl rfl rfl (by decide +kernel) ⟨Nat.le_of_ble_eq_true rfl, Nat.le_of_ble_eq_true rfl⟩) ⟨fb_ro, va_recv hK hP (ci := 3) (q0 := 0) rfl rfl, fun U hU hW => ⟨rfl, by rw [hU]; exact hP, va_K.moved hW.alike hK⟩⟩ rfl rfl hl.1 rfl (lv_room (Nat.le_of_ble_eq_true rfl)) dX3_begins_2 ⟨Nat.zero_le _, Nat.zero_le _⟩) (fun hw => ?_)
    refine lv_iload_n hx hb dX3_begins_5 rfl (lv_at hl 2 rfl) ?_
    refine jn1_use (J := fun (k1 : Int32) => ∀ (ls : Array Slot) (H : Heap) (locs : List Loc), lv_has ls 3 [(0, .ref (ad 0))] → va_P (dC, dI) vwCl (wPla ad cI cJ cZ sl ho nu fa ou sp fn co fo ro po pn rd st tw od rn x y u sn) H → va_D A (wPla ad cI cJ cZ sl ho nu fa ou sp fn co fo ro po pn rd st tw od rn x y u sn) → va_S A s.heap H locs → W p l e rmx_X3_begins s m args below meth c H locs 0 0 Q (F0 m 30 ls [.int k1])) hw (fun k1 hw ls H locs hl hP hD hS => ?_) (fun hw hj0 => ?_)
    · exact hw.elim
    · have hj3 := hj0
      refine lv_if_eq (tgt := 21) hx hb dX3_begins_6 (by decide) (fun hc => ?_) (fun hc => ?_)
      · have hw := hw.1 (hc)
        refine lv_aload_n hx hb dX3_begins_21 rfl (lv_at hl 0 rfl) ?_
        refine va_get (D := (dC, dI)) (ci := 3) (v := .ref (ad 16)) (C := RX3) (T := TX3) (N := 4) hx hb hts fx_X3_begins_1 hown hK hP 0 rfl rfl 0 (by decide) (hts _ fx_X3_begins_0) (fun _ h9 => h9) rfl dX3_begins_22 ?_
        refine va_get (D := (dC, dI)) (ci := 2) (v := .ref (ad 17)) (C := RX2) (T := TX2) (N := 4) hx hb hts fx_X3_begins_3 hown hK hP 16 rfl rfl 0 (by decide) (hts _ fx_X3_begins_2) (fun _ h9 => h9) rfl dX3_begins_25 ?_
        refine lv_iload_n hx hb dX3_begins_28 rfl (lv_at hl 1 rfl) ?_
        have hi := hw.1
        have hw := hw.2
        refine va_iald hx hb hK hP 17 0 rfl rfl hi dX3_begins_29 ?_
        exact hj3 (x v1.toNatClampNeg) hw ls _ _ (lv_sub hl [0] rfl) hP hD hS
      · have hw := hw.2 hc
        refine lv_aload_n hx hb dX3_begins_9 rfl (lv_at hl 0 rfl) ?_
        refine va_get (D := (dC, dI)) (ci := 3) (v := .ref (ad 16)) (C := RX3) (T := TX3) (N := 4) hx hb hts fx_X3_begins_1 hown hK hP 0 rfl rfl 0 (by decide) (hts _ fx_X3_begins_0) (fun _ h9 => h9) rfl dX3_begins_10 ?_
        refine va_get (D := (dC, dI)) (ci := 2) (v := .ref (ad 18)) (C := RX2) (T := TX2) (N := 4) hx hb hts fx_X3_begins_3 hown hK hP 16 rfl rfl 1 (by decide) (hts _ fx_X3_begins_4) (fun _ h9 => h9) rfl dX3_begins_13 ?_
        refine lv_iload_n hx hb dX3_begins_16 rfl (lv_at hl 1 rfl) ?_
        have hi := hw.1
        have hw := hw.2
        refine va_iald hx hb hK hP 18 0 rfl rfl hi dX3_begins_17 ?_
        refine lv_goto (tgt := 30) hx hb dX3_begins_18 (by decide) ?_
        exact hj3 (y v1.toNatClampNeg) hw ls _ _ (lv_sub hl [0] rfl) hP hD hS
-- X3_next
abbrev rm_X3_next : Room := { frames := 6, cells := 0, slots := 0, locals := 142 }
theorem f_X3_next_0 : (Cond.fieldLink RX3 20 "PlaneFaces" "rounds" "LPlaneFaces$Rounds;") ∈ wsX3_next := by decide +kernel
theorem f_X3_next_1 : ∀ w ∈ wsX30, w ∈ wsX3_next := by decide +kernel
theorem f_X3_next_2 : (Cond.fieldLink RX3 103 "PlaneFaces$Rounds" "following" "[I") ∈ wsX3_next := by decide +kernel
theorem f_X3_next_3 : ∀ w ∈ wsX10, w ∈ wsX3_next := by decide +kernel
set_option maxRecDepth 100000 in
set_option maxHeartbeats 4000000 in
theorem c_X3_next (l : Launch) (dC : Nat → ClassId) (dI : Nat → Nat → Nat) (cI cJ cZ : ClassId) (ad : Nat → Nat) (sz : Nat) (sl : Int32) (ho : Nat → Int32) (nu : Nat → Int32) (fa : Nat → Int32) (ou : Nat → Int32) (sp : Nat → Int32) (fn : Int32) (co : Nat → Int32) (fo : Nat → Int32) (ro : Nat → Int32) (po : Nat → Int32) (pn : Int32) (rd : Nat → Int32) (st : Nat → Int32) (tw : Nat → Int64) (od : Nat → Int32) (rn : Int32) (x : Nat → Int32) (y : Nat → Int32) (u : Nat → Int32) (sn : Int32) (v1 : Int32) {post : Int32 → Int32 → (Nat → Int32) → (Nat → Int32) → (Nat → Int32) → (Nat → Int32) → Int32 → (Nat → Int32) → (Nat → Int32) → (Nat → Int32) → (Nat → Int32) → Int32 → (Nat → Int32) → (Nat → Int32) → (Nat → Int64) → (Nat → Int32) → Int32 → Prop} (hw : wp_X3_next sl ho nu fa ou fn co fo ro po pn rd st tw od rn x y u v1 post) : Met l yX3_next wsX3_next rm_X3_next (va_Pc [.ref (ad 0), .int v1] (fun U => U.heap.size = sz ∧ va_P (dC, dI) vwCl (wPla ad cI cJ cZ sl ho nu fa ou sp fn co fo ro po pn rd st tw od rn x y u sn) U.heap ∧ va_K (dC, dI) vwCl (tyL cI cJ cZ) U ∧ va_D (fun _ => True) (wPla ad cI cJ cZ sl ho nu fa ou sp fn co fo ro po pn rd st tw od rn x y u sn))) (va_Qi (fun (r : Int32) (uu : Int32 × (Nat → Int32) × (Nat → Int32) × (Nat → Int32) × (Nat → Int32) × Int32 × (Nat → Int32) × (Nat → Int32) × (Nat → Int32) × (Nat → Int32) × Int32 × (Nat → Int32) × (Nat → Int32) × (Nat → Int64) × (Nat → Int32) × Int32) => post r uu.1 uu.2.1 uu.2.2.1 uu.2.2.2.1 uu.2.2.2.2.1 uu.2.2.2.2.2.1 uu.2.2.2.2.2.2.1 uu.2.2.2.2.2.2.2.1 uu.2.2.2.2.2.2.2.2.1 uu.2.2.2.2.2.2.2.2.2.1 uu.2.2.2.2.2.2.2.2.2.2.1 uu.2.2.2.2.2.2.2.2.2.2.2.1 uu.2.2.2.2.2.2.2.2.2.2.2.2.1 uu.2.2.2.2.2.2.2.2.2.2.2.2.2.1 uu.2.2.2.2.2.2.2.2.2.2.2.2.2.2.1 uu.2.2.2.2.2.2.2.2.2.2.2.2.2.2.2) (fun (uu : Int32 × (Nat → Int32) × (Nat → Int32) × (Nat → Int32) × (Nat → Int32) × Int32 × (Nat → Int32) × (Nat → Int32) × (Nat → Int32) × (Nat → Int32) × Int32 × (Nat → Int32) × (Nat → Int32) × (Nat → Int64) × (Nat → Int32) × Int32) (t : State) => va_P (dC, dI) vwCl (wPla ad cI cJ cZ uu.1 uu.2.1 uu.2.2.1 uu.2.2.2.1 uu.2.2.2.2.1 sp uu.2.2.2.2.2.1 uu.2.2.2.2.2.2.1 uu.2.2.2.2.2.2.2.1 uu.2.2.2.2.2.2.2.2.1 uu.2.2.2.2.2.2.2.2.2.1 uu.2.2.2.2.2.2.2.2.2.2.1 uu.2.2.2.2.2.2.2.2.2.2.2.1 uu.2.2.2.2.2.2.2.2.2.2.2.2.1 uu.2.2.2.2.2.2.2.2.2.2.2.2.2.1 uu.2.2.2.2.2.2.2.2.2.2.2.2.2.2.1 uu.2.2.2.2.2.2.2.2.2.2.2.2.2.2.2 x y u sn) t.heap ∧ va_D (va_A (wPla ad cI cJ cZ sl ho nu fa ou sp fn co fo ro po pn rd st tw od rn x y u sn) sz) (wPla ad cI cJ cZ uu.1 uu.2.1 uu.2.2.1 uu.2.2.2.1 uu.2.2.2.2.1 sp uu.2.2.2.2.2.1 uu.2.2.2.2.2.2.1 uu.2.2.2.2.2.2.2.1 uu.2.2.2.2.2.2.2.2.1 uu.2.2.2.2.2.2.2.2.2.1 uu.2.2.2.2.2.2.2.2.2.2.1 uu.2.2.2.2.2.2.2.2.2.2.2.1 uu.2.2.2.2.2.2.2.2.2.2.2.2.1 uu.2.2.2.2.2.2.2.2.2.2.2.2.2.1 uu.2.2.2.2.2.2.2.2.2.2.2.2.2.2.1 uu.2.2.2.2.2.2.2.2.2.2.2.2.2.2.2 x y u sn)) (va_A (wPla ad cI cJ cZ sl ho nu fa ou sp fn co fo ro po pn rd st tw od rn x y u sn) sz)) 0 0 (va_A (wPla ad cI cJ cZ sl ho nu fa ou sp fn co fo ro po pn rd st tw od rn x y u sn) sz) := by
  unfold wp_X3_next at hw
  refine Met.ofW (cc := cX3_next) (maxL := 2) (ret := (some .int)) (by decide) rfl ?_
  intro p e s m args below meth c s₁ B hml hv
  obtain ⟨hav, hsz, hP, hK, hD0⟩ := hv
  have hx := B.exec
  have hb := B.bytes
  have hr := B.returns
  have hts := atoms_spec (ws := wsX3_next) B.pre
  have hown : s.vm.findClass RX3 = some m.cls := findClass_of_methodNamed B.named
  have hlocks := B.notSynchronized
  have C : CallFix p m c cX3_next 2 s args wsX3_next RX3 := ⟨hx, hb, hml, hown, hts⟩
  obtain ⟨ls, hE, hl⟩ := mx_entry (m := m) [.ref (ad 0), .int v1] (n := 2) (Nat.le_of_ble_eq_true rfl)
  have hl : lv_has ls 2 [(0, .ref (ad 0)), (1, .int v1)] := hl
  rw [show entryFrame m args 2 = F0 m 0 ls [] by rw [hav]; exact hE]
  subst hsz
  have hD := hD0.self (sz := s.heap.size)
  generalize hAe : va_A (wPla ad cI cJ cZ sl ho nu fa ou sp fn co fo ro po pn rd st tw od rn x y u sn) s.heap.size = A at hD ⊢
  have hA : ∀ q : Nat, s.heap.size ≤ q → A q := fun q h => by rw [← hAe]; exact Or.inr h
  have hS : va_S A s.heap s.heap [] := va_S.rf
  obtain ⟨Q, hQ⟩ : ∃ Q, MQ below (va_Qi (fun (r : Int32) (uu : Int32 × (Nat → Int32) × (Nat → Int32) × (Nat → Int32) × (Nat → Int32) × Int32 × (Nat → Int32) × (Nat → Int32) × (Nat → Int32) × (Nat → Int32) × Int32 × (Nat → Int32) × (Nat → Int32) × (Nat → Int64) × (Nat → Int32) × Int32) => post r uu.1 uu.2.1 uu.2.2.1 uu.2.2.2.1 uu.2.2.2.2.1 uu.2.2.2.2.2.1 uu.2.2.2.2.2.2.1 uu.2.2.2.2.2.2.2.1 uu.2.2.2.2.2.2.2.2.1 uu.2.2.2.2.2.2.2.2.2.1 uu.2.2.2.2.2.2.2.2.2.2.1 uu.2.2.2.2.2.2.2.2.2.2.2.1 uu.2.2.2.2.2.2.2.2.2.2.2.2.1 uu.2.2.2.2.2.2.2.2.2.2.2.2.2.1 uu.2.2.2.2.2.2.2.2.2.2.2.2.2.2.1 uu.2.2.2.2.2.2.2.2.2.2.2.2.2.2.2) (fun (uu : Int32 × (Nat → Int32) × (Nat → Int32) × (Nat → Int32) × (Nat → Int32) × Int32 × (Nat → Int32) × (Nat → Int32) × (Nat → Int32) × (Nat → Int32) × Int32 × (Nat → Int32) × (Nat → Int32) × (Nat → Int64) × (Nat → Int32) × Int32) (t : State) => va_P (dC, dI) vwCl (wPla ad cI cJ cZ uu.1 uu.2.1 uu.2.2.1 uu.2.2.2.1 uu.2.2.2.2.1 sp uu.2.2.2.2.2.1 uu.2.2.2.2.2.2.1 uu.2.2.2.2.2.2.2.1 uu.2.2.2.2.2.2.2.2.1 uu.2.2.2.2.2.2.2.2.2.1 uu.2.2.2.2.2.2.2.2.2.2.1 uu.2.2.2.2.2.2.2.2.2.2.2.1 uu.2.2.2.2.2.2.2.2.2.2.2.2.1 uu.2.2.2.2.2.2.2.2.2.2.2.2.2.1 uu.2.2.2.2.2.2.2.2.2.2.2.2.2.2.1 uu.2.2.2.2.2.2.2.2.2.2.2.2.2.2.2 x y u sn) t.heap ∧ va_D A (wPla ad cI cJ cZ uu.1 uu.2.1 uu.2.2.1 uu.2.2.2.1 uu.2.2.2.2.1 sp uu.2.2.2.2.2.1 uu.2.2.2.2.2.2.1 uu.2.2.2.2.2.2.2.1 uu.2.2.2.2.2.2.2.2.1 uu.2.2.2.2.2.2.2.2.2.1 uu.2.2.2.2.2.2.2.2.2.2.1 uu.2.2.2.2.2.2.2.2.2.2.2.1 uu.2.2.2.2.2.2.2.2.2.2.2.2.1 uu.2.2.2.2.2.2.2.2.2.2.2.2.2.1 uu.2.2.2.2.2.2.2.2.2.2.2.2.2.2.1 uu.2.2.2.2.2.2.2.2.2.2.2.2.2.2.2 x y u sn)) A) args s 0 0 A = Q := ⟨_, rfl⟩
  rw [hQ]
  obtain ⟨H, hH⟩ : ∃ H, s.heap = H := ⟨_, rfl⟩
  have hS : va_S A s.heap H [] := by rw [← hH]; exact hS
  rw [hH] at hP
  show W p l e rm_X3_next s m args below meth c s.heap [] 0 0 Q (F0 m 0 ls [])
  suffices hg : W p l e rm_X3_next s m args below meth c H [] 0 0 Q (F0 m 0 ls []) by rw [hH]; exact hg
  clear hH
  generalize hlo : ([] : List Loc) = locs at hS ⊢
  refine lv_aload_n hx hb dX3_next_0 rfl (lv_at hl 0 rfl) ?_
  refine lv_iload_n hx hb dX3_next_1 rfl (lv_at hl 1 rfl) ?_
  refine va_csv (W.runV (As := [.int v1]) (rest := []) C (c_X3_requireHalf l dC dI cI cJ cZ ad sl ho nu fa ou sp fn co fo ro po pn rd st tw od rn x y u sn v1 hw) (cwV 1 hts gX3_next_X3_requireHalf rfl rfl rfl (by decide +kernel) ⟨Nat.le_of_ble_eq_true rfl, Nat.le_of_ble_eq_true rfl⟩) ⟨fb_ro, va_recv hK hP (ci := 3) (q0 := 0) rfl rfl, fun U hU hW => ⟨rfl, by rw [hU]; exact hP, va_K.moved hW.alike hK⟩⟩ rfl rfl hl.1 rfl (lv_room (Nat.le_of_ble_eq_true rfl)) dX3_next_2 ⟨Nat.zero_le _, Nat.zero_le _⟩) (fun hw => ?_)
  refine lv_aload_n hx hb dX3_next_5 rfl (lv_at hl 0 rfl) ?_
  have hPc := hP.sub (ws' := (wPla ad cI cJ cZ sl ho nu fa ou sp fn co fo ro po pn rd st tw od rn x y u sn)) [0, 1, 2, 3, 4, 5, 6, 7, 8, 9, 10, 11, 12, 13, 14, 15, 16, 17, 18, 19] rfl
  have hDc := hD.sub (ws' := (wPla ad cI cJ cZ sl ho nu fa ou sp fn co fo ro po pn rd st tw od rn x y u sn)) [0, 1, 2, 3, 4, 5, 6, 7, 8, 9, 10, 11, 12, 13, 14, 15, 16, 17, 18, 19] (by decide) rfl
  have hFc := va_free (wc := (wPla ad cI cJ cZ sl ho nu fa ou sp fn co fo ro po pn rd st tw od rn x y u sn)) hD hS hA [0, 1, 2, 3, 4, 5, 6, 7, 8, 9, 10, 11, 12, 13, 14, 15, 16, 17, 18, 19] rfl
  refine va_callv (va_runV (As := []) (rest := []) C (c_X3_refresh l dC dI cI cJ cZ ad _ sl ho nu fa ou sp fn co fo ro po pn rd st tw od rn x y u sn  hw) (cwV 0 hts gX3_next_X3_refresh rfl rfl rfl (by decide +kernel) ⟨Nat.le_of_ble_eq_true rfl, Nat.le_of_ble_eq_true rfl⟩) ⟨fb_rw, va_recv hK hPc (ci := 3) (q0 := 0) rfl rfl, fun U hU hW => ⟨rfl, by rw [hU], by rw [hU]; exact hPc, va_K.moved hW.alike hK, hDc.weaken (fun _ _ _ _ => trivial)⟩⟩ rfl rfl hl.1 rfl (lv_room (Nat.le_of_ble_eq_true rfl)) dX3_next_6 ⟨Nat.zero_le _, Nat.zero_le _⟩) hS (fun q _ h => hFc q h) hFc (fun uu t H1 locs ht hvm hw hB hz1 hk1 hS => ?_)
  obtain ⟨sl_1, ho_2, nu_3, fa_4, ou_5, fn_6, co_7, fo_8, ro_9, po_10, pn_11, rd_12, st_13, tw_14, od_15, rn_16⟩ := uu
  obtain ⟨hP1, hD1⟩ := hB
  rw [ht] at hP1
  try dsimp only at hw hP1 hD1
  obtain ⟨hP, hD⟩ := va_join (wr := []) (w1 := (wPla ad cI cJ cZ sl_1 ho_2 nu_3 fa_4 ou_5 sp fn_6 co_7 fo_8 ro_9 po_10 pn_11 rd_12 st_13 tw_14 od_15 rn_16 x y u sn)) hP hD [0, 1, 2, 3, 4, 5, 6, 7, 8, 9, 10, 11, 12, 13, 14, 15, 16, 17, 18, 19] [] rfl rfl (by decide) (by decide) hk1 hFc hP1 hD1
  generalize H1 = H at hP hS ⊢
  have hP : va_P (dC, dI) vwCl (wPla ad cI cJ cZ sl_1 ho_2 nu_3 fa_4 ou_5 sp fn_6 co_7 fo_8 ro_9 po_10 pn_11 rd_12 st_13 tw_14 od_15 rn_16 x y u sn) H := hP
  have hD : va_D A (wPla ad cI cJ cZ sl_1 ho_2 nu_3 fa_4 ou_5 sp fn_6 co_7 fo_8 ro_9 po_10 pn_11 rd_12 st_13 tw_14 od_15 rn_16 x y u sn) := hD
  refine lv_aload_n hx hb dX3_next_9 rfl (lv_at hl 0 rfl) ?_
  refine va_get (D := (dC, dI)) (ci := 3) (v := .ref (ad 7)) (C := RX3) (T := TX3) (N := 4) hx hb hts f_X3_next_1 hown hK hP 0 rfl rfl 1 (by decide) (hts _ f_X3_next_0) (fun _ h9 => h9) rfl dX3_next_10 ?_
  refine va_get (D := (dC, dI)) (ci := 1) (v := .ref (ad 9)) (C := RX1) (T := TX1) (N := 11) hx hb hts f_X3_next_3 hown hK hP 7 rfl rfl 2 (by decide) (hts _ f_X3_next_2) (fun _ h9 => h9) rfl dX3_next_13 ?_
  refine lv_iload_n hx hb dX3_next_16 rfl (lv_at hl 1 rfl) ?_
  have hi := hw.1
  have hw := hw.2
  refine va_iald hx hb hK hP 9 0 rfl rfl hi dX3_next_17 ?_
  rw [← hQ]
  exact W.iret (v := (fo_8 v1.toNatClampNeg)) hx hb hr (fun t ht hW => ⟨⟨_, (sl_1, ho_2, nu_3, fa_4, ou_5, fn_6, co_7, fo_8, ro_9, po_10, pn_11, rd_12, st_13, tw_14, od_15, rn_16), rfl, hw, by rw [ht]; exact hP, hD⟩, hS.F ht⟩) hS.2.2 dX3_next_18
-- X3_next throws
abbrev rmx_X3_next : Room := { frames := 7, cells := 1, slots := 6, locals := 142 }
theorem fx_X3_next_0 : (Cond.fieldLink RX3 20 "PlaneFaces" "rounds" "LPlaneFaces$Rounds;") ∈ wsX3_next := by decide +kernel
theorem fx_X3_next_1 : ∀ w ∈ wsX30, w ∈ wsX3_next := by decide +kernel
theorem fx_X3_next_2 : (Cond.fieldLink RX3 103 "PlaneFaces$Rounds" "following" "[I") ∈ wsX3_next := by decide +kernel
theorem fx_X3_next_3 : ∀ w ∈ wsX10, w ∈ wsX3_next := by decide +kernel
set_option maxRecDepth 100000 in
set_option maxHeartbeats 4000000 in
theorem cx_X3_next (l : Launch) (hst : l.stackTraces = false) (dC : Nat → ClassId) (dI : Nat → Nat → Nat) (cI cJ cZ : ClassId) (ad : Nat → Nat) (sz : Nat) (sl : Int32) (ho : Nat → Int32) (nu : Nat → Int32) (fa : Nat → Int32) (ou : Nat → Int32) (sp : Nat → Int32) (fn : Int32) (co : Nat → Int32) (fo : Nat → Int32) (ro : Nat → Int32) (po : Nat → Int32) (pn : Int32) (rd : Nat → Int32) (st : Nat → Int32) (tw : Nat → Int64) (od : Nat → Int32) (rn : Int32) (x : Nat → Int32) (y : Nat → Int32) (u : Nat → Int32) (sn : Int32) (v1 : Int32) {px : String → Int32 → (Nat → Int32) → (Nat → Int32) → (Nat → Int32) → (Nat → Int32) → Int32 → (Nat → Int32) → (Nat → Int32) → (Nat → Int32) → (Nat → Int32) → Int32 → (Nat → Int32) → (Nat → Int32) → (Nat → Int64) → (Nat → Int32) → Int32 → Prop} (hw : wpx_X3_next sl ho nu fa ou fn co fo ro po pn rd st tw od rn x y u v1 px) : vx_Met l yX3_next wsX3_next rmx_X3_next (va_Pc [.ref (ad 0), .int v1] (fun U => U.heap.size = sz ∧ va_P (dC, dI) vwCl (wPla ad cI cJ cZ sl ho nu fa ou sp fn co fo ro po pn rd st tw od rn x y u sn) U.heap ∧ va_K (dC, dI) vwCl (tyL cI cJ cZ) U ∧ va_D (fun _ => True) (wPla ad cI cJ cZ sl ho nu fa ou sp fn co fo ro po pn rd st tw od rn x y u sn) ∧ xe (va_A (wPla ad cI cJ cZ sl ho nu fa ou sp fn co fo ro po pn rd st tw od rn x y u sn) sz) U U.heap)) (va_Qi (fun (_ : Int32) (_ : Unit) => False) (fun _ _ => True) (va_A (wPla ad cI cJ cZ sl ho nu fa ou sp fn co fo ro po pn rd st tw od rn x y u sn) sz)) (vx_X (fun _ : Int32 × (Nat → Int32) × (Nat → Int32) × (Nat → Int32) × (Nat → Int32) × Int32 × (Nat → Int32) × (Nat → Int32) × (Nat → Int32) × (Nat → Int32) × Int32 × (Nat → Int32) × (Nat → Int32) × (Nat → Int64) × (Nat → Int32) × Int32 => True) (fun (E : String) (uu : Int32 × (Nat → Int32) × (Nat → Int32) × (Nat → Int32) × (Nat → Int32) × Int32 × (Nat → Int32) × (Nat → Int32) × (Nat → Int32) × (Nat → Int32) × Int32 × (Nat → Int32) × (Nat → Int32) × (Nat → Int64) × (Nat → Int32) × Int32) (t : State) => px E uu.1 uu.2.1 uu.2.2.1 uu.2.2.2.1 uu.2.2.2.2.1 uu.2.2.2.2.2.1 uu.2.2.2.2.2.2.1 uu.2.2.2.2.2.2.2.1 uu.2.2.2.2.2.2.2.2.1 uu.2.2.2.2.2.2.2.2.2.1 uu.2.2.2.2.2.2.2.2.2.2.1 uu.2.2.2.2.2.2.2.2.2.2.2.1 uu.2.2.2.2.2.2.2.2.2.2.2.2.1 uu.2.2.2.2.2.2.2.2.2.2.2.2.2.1 uu.2.2.2.2.2.2.2.2.2.2.2.2.2.2.1 uu.2.2.2.2.2.2.2.2.2.2.2.2.2.2.2 ∧ va_P (dC, dI) vwCl (wPla ad cI cJ cZ uu.1 uu.2.1 uu.2.2.1 uu.2.2.2.1 uu.2.2.2.2.1 sp uu.2.2.2.2.2.1 uu.2.2.2.2.2.2.1 uu.2.2.2.2.2.2.2.1 uu.2.2.2.2.2.2.2.2.1 uu.2.2.2.2.2.2.2.2.2.1 uu.2.2.2.2.2.2.2.2.2.2.1 uu.2.2.2.2.2.2.2.2.2.2.2.1 uu.2.2.2.2.2.2.2.2.2.2.2.2.1 uu.2.2.2.2.2.2.2.2.2.2.2.2.2.1 uu.2.2.2.2.2.2.2.2.2.2.2.2.2.2.1 uu.2.2.2.2.2.2.2.2.2.2.2.2.2.2.2 x y u sn) t.heap ∧ va_D (va_A (wPla ad cI cJ cZ sl ho nu fa ou sp fn co fo ro po pn rd st tw od rn x y u sn) sz) (wPla ad cI cJ cZ uu.1 uu.2.1 uu.2.2.1 uu.2.2.2.1 uu.2.2.2.2.1 sp uu.2.2.2.2.2.1 uu.2.2.2.2.2.2.1 uu.2.2.2.2.2.2.2.1 uu.2.2.2.2.2.2.2.2.1 uu.2.2.2.2.2.2.2.2.2.1 uu.2.2.2.2.2.2.2.2.2.2.1 uu.2.2.2.2.2.2.2.2.2.2.2.1 uu.2.2.2.2.2.2.2.2.2.2.2.2.1 uu.2.2.2.2.2.2.2.2.2.2.2.2.2.1 uu.2.2.2.2.2.2.2.2.2.2.2.2.2.2.1 uu.2.2.2.2.2.2.2.2.2.2.2.2.2.2.2 x y u sn)) (va_A (wPla ad cI cJ cZ sl ho nu fa ou sp fn co fo ro po pn rd st tw od rn x y u sn) sz)) 1 6 (va_A (wPla ad cI cJ cZ sl ho nu fa ou sp fn co fo ro po pn rd st tw od rn x y u sn) sz) := by
  unfold wpx_X3_next at hw
  refine vx_ofW (cc := cX3_next) (maxL := 2) (ret := (some .int)) (by decide) rfl ?_
  intro p e s m args below meth c s₁ B hml hnt hv
  obtain ⟨hav, hsz, hP, hK, hD0, hxe⟩ := hv
  have hx := B.exec
  have hb := B.bytes
  have hr := B.returns
  have hts := atoms_spec (ws := wsX3_next) B.pre
  have hown : s.vm.findClass RX3 = some m.cls := findClass_of_methodNamed B.named
  have hlocks := B.notSynchronized
  have C : CallFix p m c cX3_next 2 s args wsX3_next RX3 := ⟨hx, hb, hml, hown, hts⟩
  obtain ⟨ls, hE, hl⟩ := mx_entry (m := m) [.ref (ad 0), .int v1] (n := 2) (Nat.le_of_ble_eq_true rfl)
  have hl : lv_has ls 2 [(0, .ref (ad 0)), (1, .int v1)] := hl
  rw [show entryFrame m args 2 = F0 m 0 ls [] by rw [hav]; exact hE]
  subst hsz
  have hD := hD0.self (sz := s.heap.size)
  generalize hAe : va_A (wPla ad cI cJ cZ sl ho nu fa ou sp fn co fo ro po pn rd st tw od rn x y u sn) s.heap.size = A at hD hxe ⊢
  have hA : ∀ q : Nat, s.heap.size ≤ q → A q := fun q h => by rw [← hAe]; exact Or.inr h
  have hS : va_S A s.heap s.heap [] := va_S.rf
  obtain ⟨Q, hQ⟩ : ∃ Q, vx_MQ below (va_Qi (fun (_ : Int32) (_ : Unit) => False) (fun _ _ => True) A) (vx_X (fun _ : Int32 × (Nat → Int32) × (Nat → Int32) × (Nat → Int32) × (Nat → Int32) × Int32 × (Nat → Int32) × (Nat → Int32) × (Nat → Int32) × (Nat → Int32) × Int32 × (Nat → Int32) × (Nat → Int32) × (Nat → Int64) × (Nat → Int32) × Int32 => True) (fun (E : String) (uu : Int32 × (Nat → Int32) × (Nat → Int32) × (Nat → Int32) × (Nat → Int32) × Int32 × (Nat → Int32) × (Nat → Int32) × (Nat → Int32) × (Nat → Int32) × Int32 × (Nat → Int32) × (Nat → Int32) × (Nat → Int64) × (Nat → Int32) × Int32) (t : State) => px E uu.1 uu.2.1 uu.2.2.1 uu.2.2.2.1 uu.2.2.2.2.1 uu.2.2.2.2.2.1 uu.2.2.2.2.2.2.1 uu.2.2.2.2.2.2.2.1 uu.2.2.2.2.2.2.2.2.1 uu.2.2.2.2.2.2.2.2.2.1 uu.2.2.2.2.2.2.2.2.2.2.1 uu.2.2.2.2.2.2.2.2.2.2.2.1 uu.2.2.2.2.2.2.2.2.2.2.2.2.1 uu.2.2.2.2.2.2.2.2.2.2.2.2.2.1 uu.2.2.2.2.2.2.2.2.2.2.2.2.2.2.1 uu.2.2.2.2.2.2.2.2.2.2.2.2.2.2.2 ∧ va_P (dC, dI) vwCl (wPla ad cI cJ cZ uu.1 uu.2.1 uu.2.2.1 uu.2.2.2.1 uu.2.2.2.2.1 sp uu.2.2.2.2.2.1 uu.2.2.2.2.2.2.1 uu.2.2.2.2.2.2.2.1 uu.2.2.2.2.2.2.2.2.1 uu.2.2.2.2.2.2.2.2.2.1 uu.2.2.2.2.2.2.2.2.2.2.1 uu.2.2.2.2.2.2.2.2.2.2.2.1 uu.2.2.2.2.2.2.2.2.2.2.2.2.1 uu.2.2.2.2.2.2.2.2.2.2.2.2.2.1 uu.2.2.2.2.2.2.2.2.2.2.2.2.2.2.1 uu.2.2.2.2.2.2.2.2.2.2.2.2.2.2.2 x y u sn) t.heap ∧ va_D A (wPla ad cI cJ cZ uu.1 uu.2.1 uu.2.2.1 uu.2.2.2.1 uu.2.2.2.2.1 sp uu.2.2.2.2.2.1 uu.2.2.2.2.2.2.1 uu.2.2.2.2.2.2.2.1 uu.2.2.2.2.2.2.2.2.1 uu.2.2.2.2.2.2.2.2.2.1 uu.2.2.2.2.2.2.2.2.2.2.1 uu.2.2.2.2.2.2.2.2.2.2.2.1 uu.2.2.2.2.2.2.2.2.2.2.2.2.1 uu.2.2.2.2.2.2.2.2.2.2.2.2.2.1 uu.2.2.2.2.2.2.2.2.2.2.2.2.2.2.1 uu.2.2.2.2.2.2.2.2.2.2.2.2.2.2.2 x y u sn)) A) args s 1 6 A = Q := ⟨_, rfl⟩
  rw [hQ]
  obtain ⟨H, hH⟩ : ∃ H, s.heap = H := ⟨_, rfl⟩
  have hS : va_S A s.heap H [] := by rw [← hH]; exact hS
  rw [hH] at hP
  show W p l e rmx_X3_next s m args below meth c s.heap [] 0 0 Q (F0 m 0 ls [])
  suffices hg : W p l e rmx_X3_next s m args below meth c H [] 0 0 Q (F0 m 0 ls []) by rw [hH]; exact hg
  clear hH
  generalize hlo : ([] : List Loc) = locs at hS ⊢
  refine lv_aload_n hx hb dX3_next_0 rfl (lv_at hl 0 rfl) ?_
  refine lv_iload_n hx hb dX3_next_1 rfl (lv_at hl 1 rfl) ?_
  rcases hw with hw | hw
  · have hPc := hP.sub (ws' := (wPla ad cI cJ cZ sl ho nu fa ou sp fn co fo ro po pn rd st tw od rn x y u sn)) [0, 1, 2, 3, 4, 5, 6, 7, 8, 9, 10, 11, 12, 13, 14, 15, 16, 17, 18, 19] rfl
    have hDc := hD.sub (ws' := (wPla ad cI cJ cZ sl ho nu fa ou sp fn co fo ro po pn rd st tw od rn x y u sn)) [0, 1, 2, 3, 4, 5, 6, 7, 8, 9, 10, 11, 12, 13, 14, 15, 16, 17, 18, 19] (by decide) rfl
    have hFc := va_free (wc := (wPla ad cI cJ cZ sl ho nu fa ou sp fn co fo ro po pn rd st tw od rn x y u sn)) hD hS hA [0, 1, 2, 3, 4, 5, 6, 7, 8, 9, 10, 11, 12, 13, 14, 15, 16, 17, 18, 19] rfl
    refine vx_callv (vx_runV (As := [.int v1]) (rest := []) C (cx_X3_requireHalf l hst dC dI cI cJ cZ ad _ sl ho nu fa ou sp fn co fo ro po pn rd st tw od rn x y u sn v1 hw) (cwV 1 hts gX3_next_X3_requireHalf rfl rfl rfl (by decide +kernel) ⟨Nat.le_of_ble_eq_true rfl, Nat.le_of_ble_eq_true rfl⟩) ⟨fb_x, va_recv hK hPc (ci := 3) (q0 := 0) rfl rfl, fun U hU hW => ⟨rfl, by rw [hU], by rw [hU]; exact hPc, va_K.moved hW.alike hK, hDc.weaken (fun _ _ _ _ => trivial), hxe.step hS hFc hU hW⟩⟩ rfl rfl hl.1 rfl (lv_room (Nat.le_of_ble_eq_true rfl)) dX3_next_2 ⟨Nat.le_of_ble_eq_true rfl, Nat.le_of_ble_eq_true rfl⟩) hS (fun q _ h => hFc q h) hFc (fun q _ h => hFc q h) (fun E9 ce q9 uu t H1 locs ht hvm hpx hB hz1 hk1 hS hce hcv hcl => ?_) (fun uu t H1 locs ht hvm hpost hB hz1 hk1 hS => hpost.elim)
    obtain ⟨hw, hP1, hD1⟩ := hB
    rw [ht] at hP1
    try dsimp only at hw hP1 hD1
    obtain ⟨hP, hD⟩ := va_join (wr := []) (w1 := (wPla ad cI cJ cZ sl ho nu fa ou sp fn co fo ro po pn rd st tw od rn x y u sn)) hP hD [0, 1, 2, 3, 4, 5, 6, 7, 8, 9, 10, 11, 12, 13, 14, 15, 16, 17, 18, 19] [] rfl rfl (by decide) (by decide) hk1 hFc hP1 hD1
    have hP : va_P (dC, dI) vwCl (wPla ad cI cJ cZ sl ho nu fa ou sp fn co fo ro po pn rd st tw od rn x y u sn) H1 := hP
    have hD : va_D A (wPla ad cI cJ cZ sl ho nu fa ou sp fn co fo ro po pn rd st tw od rn x y u sn) := hD
    rw [← hQ]
    exact vx_out (fun x9 h9 => (hnt x9 h9).elim) hlocks hce hcv hcl (fun t ht hvm => ⟨(sl, ho, nu, fa, ou, fn, co, fo, ro, po, pn, rd, st, tw, od, rn), trivial, ⟨hw, by rw [ht]; exact hP, hD⟩, hS.F ht⟩) hS.2.2 (Nat.le_of_ble_eq_true rfl) (Nat.le_of_ble_eq_true rfl)
  · refine va_csv (W.runV (As := [.int v1]) (rest := []) C (c_X3_requireHalf l dC dI cI cJ cZ ad sl ho nu fa ou sp fn co fo ro po pn rd st tw od rn x y u sn v1 hw) (cwV 1 hts gX3_next_X3_requireHalf rfl rfl rfl (by decide +kernel) ⟨Nat.le_of_ble_eq_true rfl, Nat.le_of_ble_eq_true rfl⟩) ⟨fb_ro, va_recv hK hP (ci := 3) (q0 := 0) rfl rfl, fun U hU hW => ⟨rfl, by rw [hU]; exact hP, va_K.moved hW.alike hK⟩⟩ rfl rfl hl.1 rfl (lv_room (Nat.le_of_ble_eq_true rfl)) dX3_next_2 ⟨Nat.zero_le _, Nat.zero_le _⟩) (fun hw => ?_)
    refine lv_aload_n hx hb dX3_next_5 rfl (lv_at hl 0 rfl) ?_
    have hPc := hP.sub (ws' := (wPla ad cI cJ cZ sl ho nu fa ou sp fn co fo ro po pn rd st tw od rn x y u sn)) [0, 1, 2, 3, 4, 5, 6, 7, 8, 9, 10, 11, 12, 13, 14, 15, 16, 17, 18, 19] rfl
    have hDc := hD.sub (ws' := (wPla ad cI cJ cZ sl ho nu fa ou sp fn co fo ro po pn rd st tw od rn x y u sn)) [0, 1, 2, 3, 4, 5, 6, 7, 8, 9, 10, 11, 12, 13, 14, 15, 16, 17, 18, 19] (by decide) rfl
    have hFc := va_free (wc := (wPla ad cI cJ cZ sl ho nu fa ou sp fn co fo ro po pn rd st tw od rn x y u sn)) hD hS hA [0, 1, 2, 3, 4, 5, 6, 7, 8, 9, 10, 11, 12, 13, 14, 15, 16, 17, 18, 19] rfl
    refine va_callv (va_runV (As := []) (rest := []) C (c_X3_refresh l dC dI cI cJ cZ ad _ sl ho nu fa ou sp fn co fo ro po pn rd st tw od rn x y u sn  hw) (cwV 0 hts gX3_next_X3_refresh rfl rfl rfl (by decide +kernel) ⟨Nat.le_of_ble_eq_true rfl, Nat.le_of_ble_eq_true rfl⟩) ⟨fb_rw, va_recv hK hPc (ci := 3) (q0 := 0) rfl rfl, fun U hU hW => ⟨rfl, by rw [hU], by rw [hU]; exact hPc, va_K.moved hW.alike hK, hDc.weaken (fun _ _ _ _ => trivial)⟩⟩ rfl rfl hl.1 rfl (lv_room (Nat.le_of_ble_eq_true rfl)) dX3_next_6 ⟨Nat.zero_le _, Nat.zero_le _⟩) hS (fun q _ h => hFc q h) hFc (fun uu t H1 locs ht hvm hw hB hz1 hk1 hS => ?_)
    obtain ⟨sl_1, ho_2, nu_3, fa_4, ou_5, fn_6, co_7, fo_8, ro_9, po_10, pn_11, rd_12, st_13, tw_14, od_15, rn_16⟩ := uu
    obtain ⟨hP1, hD1⟩ := hB
    rw [ht] at hP1
    try dsimp only at hw hP1 hD1
    obtain ⟨hP, hD⟩ := va_join (wr := []) (w1 := (wPla ad cI cJ cZ sl_1 ho_2 nu_3 fa_4 ou_5 sp fn_6 co_7 fo_8 ro_9 po_10 pn_11 rd_12 st_13 tw_14 od_15 rn_16 x y u sn)) hP hD [0, 1, 2, 3, 4, 5, 6, 7, 8, 9, 10, 11, 12, 13, 14, 15, 16, 17, 18, 19] [] rfl rfl (by decide) (by decide) hk1 hFc hP1 hD1
    generalize H1 = H at hP hS ⊢
    have hP : va_P (dC, dI) vwCl (wPla ad cI cJ cZ sl_1 ho_2 nu_3 fa_4 ou_5 sp fn_6 co_7 fo_8 ro_9 po_10 pn_11 rd_12 st_13 tw_14 od_15 rn_16 x y u sn) H := hP
    have hD : va_D A (wPla ad cI cJ cZ sl_1 ho_2 nu_3 fa_4 ou_5 sp fn_6 co_7 fo_8 ro_9 po_10 pn_11 rd_12 st_13 tw_14 od_15 rn_16 x y u sn) := hD
    refine lv_aload_n hx hb dX3_next_9 rfl (lv_at hl 0 rfl) ?_
    refine va_get (D := (dC, dI)) (ci := 3) (v := .ref (ad 7)) (C := RX3) (T := TX3) (N := 4) hx hb hts fx_X3_next_1 hown hK hP 0 rfl rfl 1 (by decide) (hts _ fx_X3_next_0) (fun _ h9 => h9) rfl dX3_next_10 ?_
    refine va_get (D := (dC, dI)) (ci := 1) (v := .ref (ad 9)) (C := RX1) (T := TX1) (N := 11) hx hb hts fx_X3_next_3 hown hK hP 7 rfl rfl 2 (by decide) (hts _ fx_X3_next_2) (fun _ h9 => h9) rfl dX3_next_13 ?_
    refine lv_iload_n hx hb dX3_next_16 rfl (lv_at hl 1 rfl) ?_
    have hi := hw.1
    have hw := hw.2
    refine va_iald hx hb hK hP 9 0 rfl rfl hi dX3_next_17 ?_
    exact hw.elim
-- X3_face
abbrev rm_X3_face : Room := { frames := 6, cells := 0, slots := 0, locals := 142 }
theorem f_X3_face_0 : (Cond.fieldLink RX3 12 "PlaneFaces" "faces" "LPlaneFaces$Faces;") ∈ wsX3_face := by decide +kernel
theorem f_X3_face_1 : ∀ w ∈ wsX30, w ∈ wsX3_face := by decide +kernel
theorem f_X3_face_2 : (Cond.fieldLink RX3 106 "PlaneFaces$Faces" "faceOf" "[I") ∈ wsX3_face := by decide +kernel
theorem f_X3_face_3 : ∀ w ∈ wsX00, w ∈ wsX3_face := by decide +kernel
set_option maxRecDepth 100000 in
set_option maxHeartbeats 4000000 in
theorem c_X3_face (l : Launch) (dC : Nat → ClassId) (dI : Nat → Nat → Nat) (cI cJ cZ : ClassId) (ad : Nat → Nat) (sz : Nat) (sl : Int32) (ho : Nat → Int32) (nu : Nat → Int32) (fa : Nat → Int32) (ou : Nat → Int32) (sp : Nat → Int32) (fn : Int32) (co : Nat → Int32) (fo : Nat → Int32) (ro : Nat → Int32) (po : Nat → Int32) (pn : Int32) (rd : Nat → Int32) (st : Nat → Int32) (tw : Nat → Int64) (od : Nat → Int32) (rn : Int32) (x : Nat → Int32) (y : Nat → Int32) (u : Nat → Int32) (sn : Int32) (v1 : Int32) {post : Int32 → Int32 → (Nat → Int32) → (Nat → Int32) → (Nat → Int32) → (Nat → Int32) → Int32 → (Nat → Int32) → (Nat → Int32) → (Nat → Int32) → (Nat → Int32) → Int32 → (Nat → Int32) → (Nat → Int32) → (Nat → Int64) → (Nat → Int32) → Int32 → Prop} (hw : wp_X3_face sl ho nu fa ou fn co fo ro po pn rd st tw od rn x y u v1 post) : Met l yX3_face wsX3_face rm_X3_face (va_Pc [.ref (ad 0), .int v1] (fun U => U.heap.size = sz ∧ va_P (dC, dI) vwCl (wPla ad cI cJ cZ sl ho nu fa ou sp fn co fo ro po pn rd st tw od rn x y u sn) U.heap ∧ va_K (dC, dI) vwCl (tyL cI cJ cZ) U ∧ va_D (fun _ => True) (wPla ad cI cJ cZ sl ho nu fa ou sp fn co fo ro po pn rd st tw od rn x y u sn))) (va_Qi (fun (r : Int32) (uu : Int32 × (Nat → Int32) × (Nat → Int32) × (Nat → Int32) × (Nat → Int32) × Int32 × (Nat → Int32) × (Nat → Int32) × (Nat → Int32) × (Nat → Int32) × Int32 × (Nat → Int32) × (Nat → Int32) × (Nat → Int64) × (Nat → Int32) × Int32) => post r uu.1 uu.2.1 uu.2.2.1 uu.2.2.2.1 uu.2.2.2.2.1 uu.2.2.2.2.2.1 uu.2.2.2.2.2.2.1 uu.2.2.2.2.2.2.2.1 uu.2.2.2.2.2.2.2.2.1 uu.2.2.2.2.2.2.2.2.2.1 uu.2.2.2.2.2.2.2.2.2.2.1 uu.2.2.2.2.2.2.2.2.2.2.2.1 uu.2.2.2.2.2.2.2.2.2.2.2.2.1 uu.2.2.2.2.2.2.2.2.2.2.2.2.2.1 uu.2.2.2.2.2.2.2.2.2.2.2.2.2.2.1 uu.2.2.2.2.2.2.2.2.2.2.2.2.2.2.2) (fun (uu : Int32 × (Nat → Int32) × (Nat → Int32) × (Nat → Int32) × (Nat → Int32) × Int32 × (Nat → Int32) × (Nat → Int32) × (Nat → Int32) × (Nat → Int32) × Int32 × (Nat → Int32) × (Nat → Int32) × (Nat → Int64) × (Nat → Int32) × Int32) (t : State) => va_P (dC, dI) vwCl (wPla ad cI cJ cZ uu.1 uu.2.1 uu.2.2.1 uu.2.2.2.1 uu.2.2.2.2.1 sp uu.2.2.2.2.2.1 uu.2.2.2.2.2.2.1 uu.2.2.2.2.2.2.2.1 uu.2.2.2.2.2.2.2.2.1 uu.2.2.2.2.2.2.2.2.2.1 uu.2.2.2.2.2.2.2.2.2.2.1 uu.2.2.2.2.2.2.2.2.2.2.2.1 uu.2.2.2.2.2.2.2.2.2.2.2.2.1 uu.2.2.2.2.2.2.2.2.2.2.2.2.2.1 uu.2.2.2.2.2.2.2.2.2.2.2.2.2.2.1 uu.2.2.2.2.2.2.2.2.2.2.2.2.2.2.2 x y u sn) t.heap ∧ va_D (va_A (wPla ad cI cJ cZ sl ho nu fa ou sp fn co fo ro po pn rd st tw od rn x y u sn) sz) (wPla ad cI cJ cZ uu.1 uu.2.1 uu.2.2.1 uu.2.2.2.1 uu.2.2.2.2.1 sp uu.2.2.2.2.2.1 uu.2.2.2.2.2.2.1 uu.2.2.2.2.2.2.2.1 uu.2.2.2.2.2.2.2.2.1 uu.2.2.2.2.2.2.2.2.2.1 uu.2.2.2.2.2.2.2.2.2.2.1 uu.2.2.2.2.2.2.2.2.2.2.2.1 uu.2.2.2.2.2.2.2.2.2.2.2.2.1 uu.2.2.2.2.2.2.2.2.2.2.2.2.2.1 uu.2.2.2.2.2.2.2.2.2.2.2.2.2.2.1 uu.2.2.2.2.2.2.2.2.2.2.2.2.2.2.2 x y u sn)) (va_A (wPla ad cI cJ cZ sl ho nu fa ou sp fn co fo ro po pn rd st tw od rn x y u sn) sz)) 0 0 (va_A (wPla ad cI cJ cZ sl ho nu fa ou sp fn co fo ro po pn rd st tw od rn x y u sn) sz) := by
  unfold wp_X3_face at hw
  refine Met.ofW (cc := cX3_face) (maxL := 2) (ret := (some .int)) (by decide) rfl ?_
  intro p e s m args below meth c s₁ B hml hv
  obtain ⟨hav, hsz, hP, hK, hD0⟩ := hv
  have hx := B.exec
  have hb := B.bytes
  have hr := B.returns
  have hts := atoms_spec (ws := wsX3_face) B.pre
  have hown : s.vm.findClass RX3 = some m.cls := findClass_of_methodNamed B.named
  have hlocks := B.notSynchronized
  have C : CallFix p m c cX3_face 2 s args wsX3_face RX3 := ⟨hx, hb, hml, hown, hts⟩
  obtain ⟨ls, hE, hl⟩ := mx_entry (m := m) [.ref (ad 0), .int v1] (n := 2) (Nat.le_of_ble_eq_true rfl)
  have hl : lv_has ls 2 [(0, .ref (ad 0)), (1, .int v1)] := hl
  rw [show entryFrame m args 2 = F0 m 0 ls [] by rw [hav]; exact hE]
  subst hsz
  have hD := hD0.self (sz := s.heap.size)
  generalize hAe : va_A (wPla ad cI cJ cZ sl ho nu fa ou sp fn co fo ro po pn rd st tw od rn x y u sn) s.heap.size = A at hD ⊢
  have hA : ∀ q : Nat, s.heap.size ≤ q → A q := fun q h => by rw [← hAe]; exact Or.inr h
  have hS : va_S A s.heap s.heap [] := va_S.rf
  obtain ⟨Q, hQ⟩ : ∃ Q, MQ below (va_Qi (fun (r : Int32) (uu : Int32 × (Nat → Int32) × (Nat → Int32) × (Nat → Int32) × (Nat → Int32) × Int32 × (Nat → Int32) × (Nat → Int32) × (Nat → Int32) × (Nat → Int32) × Int32 × (Nat → Int32) × (Nat → Int32) × (Nat → Int64) × (Nat → Int32) × Int32) => post r uu.1 uu.2.1 uu.2.2.1 uu.2.2.2.1 uu.2.2.2.2.1 uu.2.2.2.2.2.1 uu.2.2.2.2.2.2.1 uu.2.2.2.2.2.2.2.1 uu.2.2.2.2.2.2.2.2.1 uu.2.2.2.2.2.2.2.2.2.1 uu.2.2.2.2.2.2.2.2.2.2.1 uu.2.2.2.2.2.2.2.2.2.2.2.1 uu.2.2.2.2.2.2.2.2.2.2.2.2.1 uu.2.2.2.2.2.2.2.2.2.2.2.2.2.1 uu.2.2.2.2.2.2.2.2.2.2.2.2.2.2.1 uu.2.2.2.2.2.2.2.2.2.2.2.2.2.2.2) (fun (uu : Int32 × (Nat → Int32) × (Nat → Int32) × (Nat → Int32) × (Nat → Int32) × Int32 × (Nat → Int32) × (Nat → Int32) × (Nat → Int32) × (Nat → Int32) × Int32 × (Nat → Int32) × (Nat → Int32) × (Nat → Int64) × (Nat → Int32) × Int32) (t : State) => va_P (dC, dI) vwCl (wPla ad cI cJ cZ uu.1 uu.2.1 uu.2.2.1 uu.2.2.2.1 uu.2.2.2.2.1 sp uu.2.2.2.2.2.1 uu.2.2.2.2.2.2.1 uu.2.2.2.2.2.2.2.1 uu.2.2.2.2.2.2.2.2.1 uu.2.2.2.2.2.2.2.2.2.1 uu.2.2.2.2.2.2.2.2.2.2.1 uu.2.2.2.2.2.2.2.2.2.2.2.1 uu.2.2.2.2.2.2.2.2.2.2.2.2.1 uu.2.2.2.2.2.2.2.2.2.2.2.2.2.1 uu.2.2.2.2.2.2.2.2.2.2.2.2.2.2.1 uu.2.2.2.2.2.2.2.2.2.2.2.2.2.2.2 x y u sn) t.heap ∧ va_D A (wPla ad cI cJ cZ uu.1 uu.2.1 uu.2.2.1 uu.2.2.2.1 uu.2.2.2.2.1 sp uu.2.2.2.2.2.1 uu.2.2.2.2.2.2.1 uu.2.2.2.2.2.2.2.1 uu.2.2.2.2.2.2.2.2.1 uu.2.2.2.2.2.2.2.2.2.1 uu.2.2.2.2.2.2.2.2.2.2.1 uu.2.2.2.2.2.2.2.2.2.2.2.1 uu.2.2.2.2.2.2.2.2.2.2.2.2.1 uu.2.2.2.2.2.2.2.2.2.2.2.2.2.1 uu.2.2.2.2.2.2.2.2.2.2.2.2.2.2.1 uu.2.2.2.2.2.2.2.2.2.2.2.2.2.2.2 x y u sn)) A) args s 0 0 A = Q := ⟨_, rfl⟩
  rw [hQ]
  obtain ⟨H, hH⟩ : ∃ H, s.heap = H := ⟨_, rfl⟩
  have hS : va_S A s.heap H [] := by rw [← hH]; exact hS
  rw [hH] at hP
  show W p l e rm_X3_face s m args below meth c s.heap [] 0 0 Q (F0 m 0 ls [])
  suffices hg : W p l e rm_X3_face s m args below meth c H [] 0 0 Q (F0 m 0 ls []) by rw [hH]; exact hg
  clear hH
  generalize hlo : ([] : List Loc) = locs at hS ⊢
  refine lv_aload_n hx hb dX3_face_0 rfl (lv_at hl 0 rfl) ?_
  refine lv_iload_n hx hb dX3_face_1 rfl (lv_at hl 1 rfl) ?_
  refine va_csv (W.runV (As := [.int v1]) (rest := []) C (c_X3_requireHalf l dC dI cI cJ cZ ad sl ho nu fa ou sp fn co fo ro po pn rd st tw od rn x y u sn v1 hw) (cwV 1 hts gX3_face_X3_requireHalf rfl rfl rfl (by decide +kernel) ⟨Nat.le_of_ble_eq_true rfl, Nat.le_of_ble_eq_true rfl⟩) ⟨fb_ro, va_recv hK hP (ci := 3) (q0 := 0) rfl rfl, fun U hU hW => ⟨rfl, by rw [hU]; exact hP, va_K.moved hW.alike hK⟩⟩ rfl rfl hl.1 rfl (lv_room (Nat.le_of_ble_eq_true rfl)) dX3_face_2 ⟨Nat.zero_le _, Nat.zero_le _⟩) (fun hw => ?_)
  refine lv_aload_n hx hb dX3_face_5 rfl (lv_at hl 0 rfl) ?_
  have hPc := hP.sub (ws' := (wPla ad cI cJ cZ sl ho nu fa ou sp fn co fo ro po pn rd st tw od rn x y u sn)) [0, 1, 2, 3, 4, 5, 6, 7, 8, 9, 10, 11, 12, 13, 14, 15, 16, 17, 18, 19] rfl
  have hDc := hD.sub (ws' := (wPla ad cI cJ cZ sl ho nu fa ou sp fn co fo ro po pn rd st tw od rn x y u sn)) [0, 1, 2, 3, 4, 5, 6, 7, 8, 9, 10, 11, 12, 13, 14, 15, 16, 17, 18, 19] (by decide) rfl
  have hFc := va_free (wc := (wPla ad cI cJ cZ sl ho nu fa ou sp fn co fo ro po pn rd st tw od rn x y u sn)) hD hS hA [0, 1, 2, 3, 4, 5, 6, 7, 8, 9, 10, 11, 12, 13, 14, 15, 16, 17, 18, 19] rfl
  refine va_callv (va_runV (As := []) (rest := []) C (c_X3_refresh l dC dI cI cJ cZ ad _ sl ho nu fa ou sp fn co fo ro po pn rd st tw od rn x y u sn  hw) (cwV 0 hts gX3_face_X3_refresh rfl rfl rfl (by decide +kernel) ⟨Nat.le_of_ble_eq_true rfl, Nat.le_of_ble_eq_true rfl⟩) ⟨fb_rw, va_recv hK hPc (ci := 3) (q0 := 0) rfl rfl, fun U hU hW => ⟨rfl, by rw [hU], by rw [hU]; exact hPc, va_K.moved hW.alike hK, hDc.weaken (fun _ _ _ _ => trivial)⟩⟩ rfl rfl hl.1 rfl (lv_room (Nat.le_of_ble_eq_true rfl)) dX3_face_6 ⟨Nat.zero_le _, Nat.zero_le _⟩) hS (fun q _ h => hFc q h) hFc (fun uu t H1 locs ht hvm hw hB hz1 hk1 hS => ?_)
  obtain ⟨sl_1, ho_2, nu_3, fa_4, ou_5, fn_6, co_7, fo_8, ro_9, po_10, pn_11, rd_12, st_13, tw_14, od_15, rn_16⟩ := uu
  obtain ⟨hP1, hD1⟩ := hB
  rw [ht] at hP1
  try dsimp only at hw hP1 hD1
  obtain ⟨hP, hD⟩ := va_join (wr := []) (w1 := (wPla ad cI cJ cZ sl_1 ho_2 nu_3 fa_4 ou_5 sp fn_6 co_7 fo_8 ro_9 po_10 pn_11 rd_12 st_13 tw_14 od_15 rn_16 x y u sn)) hP hD [0, 1, 2, 3, 4, 5, 6, 7, 8, 9, 10, 11, 12, 13, 14, 15, 16, 17, 18, 19] [] rfl rfl (by decide) (by decide) hk1 hFc hP1 hD1
  generalize H1 = H at hP hS ⊢
  have hP : va_P (dC, dI) vwCl (wPla ad cI cJ cZ sl_1 ho_2 nu_3 fa_4 ou_5 sp fn_6 co_7 fo_8 ro_9 po_10 pn_11 rd_12 st_13 tw_14 od_15 rn_16 x y u sn) H := hP
  have hD : va_D A (wPla ad cI cJ cZ sl_1 ho_2 nu_3 fa_4 ou_5 sp fn_6 co_7 fo_8 ro_9 po_10 pn_11 rd_12 st_13 tw_14 od_15 rn_16 x y u sn) := hD
  refine lv_aload_n hx hb dX3_face_9 rfl (lv_at hl 0 rfl) ?_
  refine va_get (D := (dC, dI)) (ci := 3) (v := .ref (ad 1)) (C := RX3) (T := TX3) (N := 4) hx hb hts f_X3_face_1 hown hK hP 0 rfl rfl 2 (by decide) (hts _ f_X3_face_0) (fun _ h9 => h9) rfl dX3_face_10 ?_
  refine va_get (D := (dC, dI)) (ci := 0) (v := .ref (ad 4)) (C := RX0) (T := TX0) (N := 8) hx hb hts f_X3_face_3 hown hK hP 1 rfl rfl 4 (by decide) (hts _ f_X3_face_2) (fun _ h9 => h9) rfl dX3_face_13 ?_
  refine lv_iload_n hx hb dX3_face_16 rfl (lv_at hl 1 rfl) ?_
  have hi := hw.1
  have hw := hw.2
  refine va_iald hx hb hK hP 4 0 rfl rfl hi dX3_face_17 ?_
  rw [← hQ]
  exact W.iret (v := (fa_4 v1.toNatClampNeg)) hx hb hr (fun t ht hW => ⟨⟨_, (sl_1, ho_2, nu_3, fa_4, ou_5, fn_6, co_7, fo_8, ro_9, po_10, pn_11, rd_12, st_13, tw_14, od_15, rn_16), rfl, hw, by rw [ht]; exact hP, hD⟩, hS.F ht⟩) hS.2.2 dX3_face_18
-- X3_face throws
abbrev rmx_X3_face : Room := { frames := 7, cells := 1, slots := 6, locals := 142 }
theorem fx_X3_face_0 : (Cond.fieldLink RX3 12 "PlaneFaces" "faces" "LPlaneFaces$Faces;") ∈ wsX3_face := by decide +kernel
theorem fx_X3_face_1 : ∀ w ∈ wsX30, w ∈ wsX3_face := by decide +kernel
theorem fx_X3_face_2 : (Cond.fieldLink RX3 106 "PlaneFaces$Faces" "faceOf" "[I") ∈ wsX3_face := by decide +kernel
theorem fx_X3_face_3 : ∀ w ∈ wsX00, w ∈ wsX3_face := by decide +kernel
set_option maxRecDepth 100000 in
set_option maxHeartbeats 4000000 in
theorem cx_X3_face (l : Launch) (hst : l.stackTraces = false) (dC : Nat → ClassId) (dI : Nat → Nat → Nat) (cI cJ cZ : ClassId) (ad : Nat → Nat) (sz : Nat) (sl : Int32) (ho : Nat → Int32) (nu : Nat → Int32) (fa : Nat → Int32) (ou : Nat → Int32) (sp : Nat → Int32) (fn : Int32) (co : Nat → Int32) (fo : Nat → Int32) (ro : Nat → Int32) (po : Nat → Int32) (pn : Int32) (rd : Nat → Int32) (st : Nat → Int32) (tw : Nat → Int64) (od : Nat → Int32) (rn : Int32) (x : Nat → Int32) (y : Nat → Int32) (u : Nat → Int32) (sn : Int32) (v1 : Int32) {px : String → Int32 → (Nat → Int32) → (Nat → Int32) → (Nat → Int32) → (Nat → Int32) → Int32 → (Nat → Int32) → (Nat → Int32) → (Nat → Int32) → (Nat → Int32) → Int32 → (Nat → Int32) → (Nat → Int32) → (Nat → Int64) → (Nat → Int32) → Int32 → Prop} (hw : wpx_X3_face sl ho nu fa ou fn co fo ro po pn rd st tw od rn x y u v1 px) : vx_Met l yX3_face wsX3_face rmx_X3_face (va_Pc [.ref (ad 0), .int v1] (fun U => U.heap.size = sz ∧ va_P (dC, dI) vwCl (wPla ad cI cJ cZ sl ho nu fa ou sp fn co fo ro po pn rd st tw od rn x y u sn) U.heap ∧ va_K (dC, dI) vwCl (tyL cI cJ cZ) U ∧ va_D (fun _ => True) (wPla ad cI cJ cZ sl ho nu fa ou sp fn co fo ro po pn rd st tw od rn x y u sn) ∧ xe (va_A (wPla ad cI cJ cZ sl ho nu fa ou sp fn co fo ro po pn rd st tw od rn x y u sn) sz) U U.heap)) (va_Qi (fun (_ : Int32) (_ : Unit) => False) (fun _ _ => True) (va_A (wPla ad cI cJ cZ sl ho nu fa ou sp fn co fo ro po pn rd st tw od rn x y u sn) sz)) (vx_X (fun _ : Int32 × (Nat → Int32) × (Nat → Int32) × (Nat → Int32) × (Nat → Int32) × Int32 × (Nat → Int32) × (Nat → Int32) × (Nat → Int32) × (Nat → Int32) × Int32 × (Nat → Int32) × (Nat → Int32) × (Nat → Int64) × (Nat → Int32) × Int32 => True) (fun (E : String) (uu : Int32 × (Nat → Int32) × (Nat → Int32) × (Nat → Int32) × (Nat → Int32) × Int32 × (Nat → Int32) × (Nat → Int32) × (Nat → Int32) × (Nat → Int32) × Int32 × (Nat → Int32) × (Nat → Int32) × (Nat → Int64) × (Nat → Int32) × Int32) (t : State) => px E uu.1 uu.2.1 uu.2.2.1 uu.2.2.2.1 uu.2.2.2.2.1 uu.2.2.2.2.2.1 uu.2.2.2.2.2.2.1 uu.2.2.2.2.2.2.2.1 uu.2.2.2.2.2.2.2.2.1 uu.2.2.2.2.2.2.2.2.2.1 uu.2.2.2.2.2.2.2.2.2.2.1 uu.2.2.2.2.2.2.2.2.2.2.2.1 uu.2.2.2.2.2.2.2.2.2.2.2.2.1 uu.2.2.2.2.2.2.2.2.2.2.2.2.2.1 uu.2.2.2.2.2.2.2.2.2.2.2.2.2.2.1 uu.2.2.2.2.2.2.2.2.2.2.2.2.2.2.2 ∧ va_P (dC, dI) vwCl (wPla ad cI cJ cZ uu.1 uu.2.1 uu.2.2.1 uu.2.2.2.1 uu.2.2.2.2.1 sp uu.2.2.2.2.2.1 uu.2.2.2.2.2.2.1 uu.2.2.2.2.2.2.2.1 uu.2.2.2.2.2.2.2.2.1 uu.2.2.2.2.2.2.2.2.2.1 uu.2.2.2.2.2.2.2.2.2.2.1 uu.2.2.2.2.2.2.2.2.2.2.2.1 uu.2.2.2.2.2.2.2.2.2.2.2.2.1 uu.2.2.2.2.2.2.2.2.2.2.2.2.2.1 uu.2.2.2.2.2.2.2.2.2.2.2.2.2.2.1 uu.2.2.2.2.2.2.2.2.2.2.2.2.2.2.2 x y u sn) t.heap ∧ va_D (va_A (wPla ad cI cJ cZ sl ho nu fa ou sp fn co fo ro po pn rd st tw od rn x y u sn) sz) (wPla ad cI cJ cZ uu.1 uu.2.1 uu.2.2.1 uu.2.2.2.1 uu.2.2.2.2.1 sp uu.2.2.2.2.2.1 uu.2.2.2.2.2.2.1 uu.2.2.2.2.2.2.2.1 uu.2.2.2.2.2.2.2.2.1 uu.2.2.2.2.2.2.2.2.2.1 uu.2.2.2.2.2.2.2.2.2.2.1 uu.2.2.2.2.2.2.2.2.2.2.2.1 uu.2.2.2.2.2.2.2.2.2.2.2.2.1 uu.2.2.2.2.2.2.2.2.2.2.2.2.2.1 uu.2.2.2.2.2.2.2.2.2.2.2.2.2.2.1 uu.2.2.2.2.2.2.2.2.2.2.2.2.2.2.2 x y u sn)) (va_A (wPla ad cI cJ cZ sl ho nu fa ou sp fn co fo ro po pn rd st tw od rn x y u sn) sz)) 1 6 (va_A (wPla ad cI cJ cZ sl ho nu fa ou sp fn co fo ro po pn rd st tw od rn x y u sn) sz) := by
  unfold wpx_X3_face at hw
  refine vx_ofW (cc := cX3_face) (maxL := 2) (ret := (some .int)) (by decide) rfl ?_
  intro p e s m args below meth c s₁ B hml hnt hv
  obtain ⟨hav, hsz, hP, hK, hD0, hxe⟩ := hv
  have hx := B.exec
  have hb := B.bytes
  have hr := B.returns
  have hts := atoms_spec (ws := wsX3_face) B.pre
  have hown : s.vm.findClass RX3 = some m.cls := findClass_of_methodNamed B.named
  have hlocks := B.notSynchronized
  have C : CallFix p m c cX3_face 2 s args wsX3_face RX3 := ⟨hx, hb, hml, hown, hts⟩
  obtain ⟨ls, hE, hl⟩ := mx_entry (m := m) [.ref (ad 0), .int v1] (n := 2) (Nat.le_of_ble_eq_true rfl)
  have hl : lv_has ls 2 [(0, .ref (ad 0)), (1, .int v1)] := hl
  rw [show entryFrame m args 2 = F0 m 0 ls [] by rw [hav]; exact hE]
  subst hsz
  have hD := hD0.self (sz := s.heap.size)
  generalize hAe : va_A (wPla ad cI cJ cZ sl ho nu fa ou sp fn co fo ro po pn rd st tw od rn x y u sn) s.heap.size = A at hD hxe ⊢
  have hA : ∀ q : Nat, s.heap.size ≤ q → A q := fun q h => by rw [← hAe]; exact Or.inr h
  have hS : va_S A s.heap s.heap [] := va_S.rf
  obtain ⟨Q, hQ⟩ : ∃ Q, vx_MQ below (va_Qi (fun (_ : Int32) (_ : Unit) => False) (fun _ _ => True) A) (vx_X (fun _ : Int32 × (Nat → Int32) × (Nat → Int32) × (Nat → Int32) × (Nat → Int32) × Int32 × (Nat → Int32) × (Nat → Int32) × (Nat → Int32) × (Nat → Int32) × Int32 × (Nat → Int32) × (Nat → Int32) × (Nat → Int64) × (Nat → Int32) × Int32 => True) (fun (E : String) (uu : Int32 × (Nat → Int32) × (Nat → Int32) × (Nat → Int32) × (Nat → Int32) × Int32 × (Nat → Int32) × (Nat → Int32) × (Nat → Int32) × (Nat → Int32) × Int32 × (Nat → Int32) × (Nat → Int32) × (Nat → Int64) × (Nat → Int32) × Int32) (t : State) => px E uu.1 uu.2.1 uu.2.2.1 uu.2.2.2.1 uu.2.2.2.2.1 uu.2.2.2.2.2.1 uu.2.2.2.2.2.2.1 uu.2.2.2.2.2.2.2.1 uu.2.2.2.2.2.2.2.2.1 uu.2.2.2.2.2.2.2.2.2.1 uu.2.2.2.2.2.2.2.2.2.2.1 uu.2.2.2.2.2.2.2.2.2.2.2.1 uu.2.2.2.2.2.2.2.2.2.2.2.2.1 uu.2.2.2.2.2.2.2.2.2.2.2.2.2.1 uu.2.2.2.2.2.2.2.2.2.2.2.2.2.2.1 uu.2.2.2.2.2.2.2.2.2.2.2.2.2.2.2 ∧ va_P (dC, dI) vwCl (wPla ad cI cJ cZ uu.1 uu.2.1 uu.2.2.1 uu.2.2.2.1 uu.2.2.2.2.1 sp uu.2.2.2.2.2.1 uu.2.2.2.2.2.2.1 uu.2.2.2.2.2.2.2.1 uu.2.2.2.2.2.2.2.2.1 uu.2.2.2.2.2.2.2.2.2.1 uu.2.2.2.2.2.2.2.2.2.2.1 uu.2.2.2.2.2.2.2.2.2.2.2.1 uu.2.2.2.2.2.2.2.2.2.2.2.2.1 uu.2.2.2.2.2.2.2.2.2.2.2.2.2.1 uu.2.2.2.2.2.2.2.2.2.2.2.2.2.2.1 uu.2.2.2.2.2.2.2.2.2.2.2.2.2.2.2 x y u sn) t.heap ∧ va_D A (wPla ad cI cJ cZ uu.1 uu.2.1 uu.2.2.1 uu.2.2.2.1 uu.2.2.2.2.1 sp uu.2.2.2.2.2.1 uu.2.2.2.2.2.2.1 uu.2.2.2.2.2.2.2.1 uu.2.2.2.2.2.2.2.2.1 uu.2.2.2.2.2.2.2.2.2.1 uu.2.2.2.2.2.2.2.2.2.2.1 uu.2.2.2.2.2.2.2.2.2.2.2.1 uu.2.2.2.2.2.2.2.2.2.2.2.2.1 uu.2.2.2.2.2.2.2.2.2.2.2.2.2.1 uu.2.2.2.2.2.2.2.2.2.2.2.2.2.2.1 uu.2.2.2.2.2.2.2.2.2.2.2.2.2.2.2 x y u sn)) A) args s 1 6 A = Q := ⟨_, rfl⟩
  rw [hQ]
  obtain ⟨H, hH⟩ : ∃ H, s.heap = H := ⟨_, rfl⟩
  have hS : va_S A s.heap H [] := by rw [← hH]; exact hS
  rw [hH] at hP
  show W p l e rmx_X3_face s m args below meth c s.heap [] 0 0 Q (F0 m 0 ls [])
  suffices hg : W p l e rmx_X3_face s m args below meth c H [] 0 0 Q (F0 m 0 ls []) by rw [hH]; exact hg
  clear hH
  generalize hlo : ([] : List Loc) = locs at hS ⊢
  refine lv_aload_n hx hb dX3_face_0 rfl (lv_at hl 0 rfl) ?_
  refine lv_iload_n hx hb dX3_face_1 rfl (lv_at hl 1 rfl) ?_
  rcases hw with hw | hw
  · have hPc := hP.sub (ws' := (wPla ad cI cJ cZ sl ho nu fa ou sp fn co fo ro po pn rd st tw od rn x y u sn)) [0, 1, 2, 3, 4, 5, 6, 7, 8, 9, 10, 11, 12, 13, 14, 15, 16, 17, 18, 19] rfl
    have hDc := hD.sub (ws' := (wPla ad cI cJ cZ sl ho nu fa ou sp fn co fo ro po pn rd st tw od rn x y u sn)) [0, 1, 2, 3, 4, 5, 6, 7, 8, 9, 10, 11, 12, 13, 14, 15, 16, 17, 18, 19] (by decide) rfl
    have hFc := va_free (wc := (wPla ad cI cJ cZ sl ho nu fa ou sp fn co fo ro po pn rd st tw od rn x y u sn)) hD hS hA [0, 1, 2, 3, 4, 5, 6, 7, 8, 9, 10, 11, 12, 13, 14, 15, 16, 17, 18, 19] rfl
    refine vx_callv (vx_runV (As := [.int v1]) (rest := []) C (cx_X3_requireHalf l hst dC dI cI cJ cZ ad _ sl ho nu fa ou sp fn co fo ro po pn rd st tw od rn x y u sn v1 hw) (cwV 1 hts gX3_face_X3_requireHalf rfl rfl rfl (by decide +kernel) ⟨Nat.le_of_ble_eq_true rfl, Nat.le_of_ble_eq_true rfl⟩) ⟨fb_x, va_recv hK hPc (ci := 3) (q0 := 0) rfl rfl, fun U hU hW => ⟨rfl, by rw [hU], by rw [hU]; exact hPc, va_K.moved hW.alike hK, hDc.weaken (fun _ _ _ _ => trivial), hxe.step hS hFc hU hW⟩⟩ rfl rfl hl.1 rfl (lv_room (Nat.le_of_ble_eq_true rfl)) dX3_face_2 ⟨Nat.le_of_ble_eq_true rfl, Nat.le_of_ble_eq_true rfl⟩) hS (fun q _ h => hFc q h) hFc (fun q _ h => hFc q h) (fun E9 ce q9 uu t H1 locs ht hvm hpx hB hz1 hk1 hS hce hcv hcl => ?_) (fun uu t H1 locs ht hvm hpost hB hz1 hk1 hS => hpost.elim)
    obtain ⟨hw, hP1, hD1⟩ := hB
    rw [ht] at hP1
    try dsimp only at hw hP1 hD1
    obtain ⟨hP, hD⟩ := va_join (wr := []) (w1 := (wPla ad cI cJ cZ sl ho nu fa ou sp fn co fo ro po pn rd st tw od rn x y u sn)) hP hD [0, 1, 2, 3, 4, 5, 6, 7, 8, 9, 10, 11, 12, 13, 14, 15, 16, 17, 18, 19] [] rfl rfl (by decide) (by decide) hk1 hFc hP1 hD1
    have hP : va_P (dC, dI) vwCl (wPla ad cI cJ cZ sl ho nu fa ou sp fn co fo ro po pn rd st tw od rn x y u sn) H1 := hP
    have hD : va_D A (wPla ad cI cJ cZ sl ho nu fa ou sp fn co fo ro po pn rd st tw od rn x y u sn) := hD
    rw [← hQ]
    exact vx_out (fun x9 h9 => (hnt x9 h9).elim) hlocks hce hcv hcl (fun t ht hvm => ⟨(sl, ho, nu, fa, ou, fn, co, fo, ro, po, pn, rd, st, tw, od, rn), trivial, ⟨hw, by rw [ht]; exact hP, hD⟩, hS.F ht⟩) hS.2.2 (Nat.le_of_ble_eq_true rfl) (Nat.le_of_ble_eq_true rfl)
  · refine va_csv (W.runV (As := [.int v1]) (rest := []) C (c_X3_requireHalf l dC dI cI cJ cZ ad sl ho nu fa ou sp fn co fo ro po pn rd st tw od rn x y u sn v1 hw) (cwV 1 hts gX3_face_X3_requireHalf rfl rfl rfl (by decide +kernel) ⟨Nat.le_of_ble_eq_true rfl, Nat.le_of_ble_eq_true rfl⟩) ⟨fb_ro, va_recv hK hP (ci := 3) (q0 := 0) rfl rfl, fun U hU hW => ⟨rfl, by rw [hU]; exact hP, va_K.moved hW.alike hK⟩⟩ rfl rfl hl.1 rfl (lv_room (Nat.le_of_ble_eq_true rfl)) dX3_face_2 ⟨Nat.zero_le _, Nat.zero_le _⟩) (fun hw => ?_)
    refine lv_aload_n hx hb dX3_face_5 rfl (lv_at hl 0 rfl) ?_
    have hPc := hP.sub (ws' := (wPla ad cI cJ cZ sl ho nu fa ou sp fn co fo ro po pn rd st tw od rn x y u sn)) [0, 1, 2, 3, 4, 5, 6, 7, 8, 9, 10, 11, 12, 13, 14, 15, 16, 17, 18, 19] rfl
    have hDc := hD.sub (ws' := (wPla ad cI cJ cZ sl ho nu fa ou sp fn co fo ro po pn rd st tw od rn x y u sn)) [0, 1, 2, 3, 4, 5, 6, 7, 8, 9, 10, 11, 12, 13, 14, 15, 16, 17, 18, 19] (by decide) rfl
    have hFc := va_free (wc := (wPla ad cI cJ cZ sl ho nu fa ou sp fn co fo ro po pn rd st tw od rn x y u sn)) hD hS hA [0, 1, 2, 3, 4, 5, 6, 7, 8, 9, 10, 11, 12, 13, 14, 15, 16, 17, 18, 19] rfl
    refine va_callv (va_runV (As := []) (rest := []) C (c_X3_refresh l dC dI cI cJ cZ ad _ sl ho nu fa ou sp fn co fo ro po pn rd st tw od rn x y u sn  hw) (cwV 0 hts gX3_face_X3_refresh rfl rfl rfl (by decide +kernel) ⟨Nat.le_of_ble_eq_true rfl, Nat.le_of_ble_eq_true rfl⟩) ⟨fb_rw, va_recv hK hPc (ci := 3) (q0 := 0) rfl rfl, fun U hU hW => ⟨rfl, by rw [hU], by rw [hU]; exact hPc, va_K.moved hW.alike hK, hDc.weaken (fun _ _ _ _ => trivial)⟩⟩ rfl rfl hl.1 rfl (lv_room (Nat.le_of_ble_eq_true rfl)) dX3_face_6 ⟨Nat.zero_le _, Nat.zero_le _⟩) hS (fun q _ h => hFc q h) hFc (fun uu t H1 locs ht hvm hw hB hz1 hk1 hS => ?_)
    obtain ⟨sl_1, ho_2, nu_3, fa_4, ou_5, fn_6, co_7, fo_8, ro_9, po_10, pn_11, rd_12, st_13, tw_14, od_15, rn_16⟩ := uu
    obtain ⟨hP1, hD1⟩ := hB
    rw [ht] at hP1
    try dsimp only at hw hP1 hD1
    obtain ⟨hP, hD⟩ := va_join (wr := []) (w1 := (wPla ad cI cJ cZ sl_1 ho_2 nu_3 fa_4 ou_5 sp fn_6 co_7 fo_8 ro_9 po_10 pn_11 rd_12 st_13 tw_14 od_15 rn_16 x y u sn)) hP hD [0, 1, 2, 3, 4, 5, 6, 7, 8, 9, 10, 11, 12, 13, 14, 15, 16, 17, 18, 19] [] rfl rfl (by decide) (by decide) hk1 hFc hP1 hD1
    generalize H1 = H at hP hS ⊢
    have hP : va_P (dC, dI) vwCl (wPla ad cI cJ cZ sl_1 ho_2 nu_3 fa_4 ou_5 sp fn_6 co_7 fo_8 ro_9 po_10 pn_11 rd_12 st_13 tw_14 od_15 rn_16 x y u sn) H := hP
    have hD : va_D A (wPla ad cI cJ cZ sl_1 ho_2 nu_3 fa_4 ou_5 sp fn_6 co_7 fo_8 ro_9 po_10 pn_11 rd_12 st_13 tw_14 od_15 rn_16 x y u sn) := hD
    refine lv_aload_n hx hb dX3_face_9 rfl (lv_at hl 0 rfl) ?_
    refine va_get (D := (dC, dI)) (ci := 3) (v := .ref (ad 1)) (C := RX3) (T := TX3) (N := 4) hx hb hts fx_X3_face_1 hown hK hP 0 rfl rfl 2 (by decide) (hts _ fx_X3_face_0) (fun _ h9 => h9) rfl dX3_face_10 ?_
    refine va_get (D := (dC, dI)) (ci := 0) (v := .ref (ad 4)) (C := RX0) (T := TX0) (N := 8) hx hb hts fx_X3_face_3 hown hK hP 1 rfl rfl 4 (by decide) (hts _ fx_X3_face_2) (fun _ h9 => h9) rfl dX3_face_13 ?_
    refine lv_iload_n hx hb dX3_face_16 rfl (lv_at hl 1 rfl) ?_
    have hi := hw.1
    have hw := hw.2
    refine va_iald hx hb hK hP 4 0 rfl rfl hi dX3_face_17 ?_
    exact hw.elim
-- X3_piece
abbrev rm_X3_piece : Room := { frames := 6, cells := 0, slots := 0, locals := 142 }
theorem f_X3_piece_0 : (Cond.fieldLink RX3 20 "PlaneFaces" "rounds" "LPlaneFaces$Rounds;") ∈ wsX3_piece := by decide +kernel
theorem f_X3_piece_1 : ∀ w ∈ wsX30, w ∈ wsX3_piece := by decide +kernel
theorem f_X3_piece_2 : (Cond.fieldLink RX3 109 "PlaneFaces$Rounds" "pieceOf" "[I") ∈ wsX3_piece := by decide +kernel
theorem f_X3_piece_3 : ∀ w ∈ wsX10, w ∈ wsX3_piece := by decide +kernel
set_option maxRecDepth 100000 in
set_option maxHeartbeats 4000000 in
theorem c_X3_piece (l : Launch) (dC : Nat → ClassId) (dI : Nat → Nat → Nat) (cI cJ cZ : ClassId) (ad : Nat → Nat) (sz : Nat) (sl : Int32) (ho : Nat → Int32) (nu : Nat → Int32) (fa : Nat → Int32) (ou : Nat → Int32) (sp : Nat → Int32) (fn : Int32) (co : Nat → Int32) (fo : Nat → Int32) (ro : Nat → Int32) (po : Nat → Int32) (pn : Int32) (rd : Nat → Int32) (st : Nat → Int32) (tw : Nat → Int64) (od : Nat → Int32) (rn : Int32) (x : Nat → Int32) (y : Nat → Int32) (u : Nat → Int32) (sn : Int32) (v1 : Int32) {post : Int32 → Int32 → (Nat → Int32) → (Nat → Int32) → (Nat → Int32) → (Nat → Int32) → Int32 → (Nat → Int32) → (Nat → Int32) → (Nat → Int32) → (Nat → Int32) → Int32 → (Nat → Int32) → (Nat → Int32) → (Nat → Int64) → (Nat → Int32) → Int32 → Prop} (hw : wp_X3_piece sl ho nu fa ou fn co fo ro po pn rd st tw od rn x y u v1 post) : Met l yX3_piece wsX3_piece rm_X3_piece (va_Pc [.ref (ad 0), .int v1] (fun U => U.heap.size = sz ∧ va_P (dC, dI) vwCl (wPla ad cI cJ cZ sl ho nu fa ou sp fn co fo ro po pn rd st tw od rn x y u sn) U.heap ∧ va_K (dC, dI) vwCl (tyL cI cJ cZ) U ∧ va_D (fun _ => True) (wPla ad cI cJ cZ sl ho nu fa ou sp fn co fo ro po pn rd st tw od rn x y u sn))) (va_Qi (fun (r : Int32) (uu : Int32 × (Nat → Int32) × (Nat → Int32) × (Nat → Int32) × (Nat → Int32) × Int32 × (Nat → Int32) × (Nat → Int32) × (Nat → Int32) × (Nat → Int32) × Int32 × (Nat → Int32) × (Nat → Int32) × (Nat → Int64) × (Nat → Int32) × Int32) => post r uu.1 uu.2.1 uu.2.2.1 uu.2.2.2.1 uu.2.2.2.2.1 uu.2.2.2.2.2.1 uu.2.2.2.2.2.2.1 uu.2.2.2.2.2.2.2.1 uu.2.2.2.2.2.2.2.2.1 uu.2.2.2.2.2.2.2.2.2.1 uu.2.2.2.2.2.2.2.2.2.2.1 uu.2.2.2.2.2.2.2.2.2.2.2.1 uu.2.2.2.2.2.2.2.2.2.2.2.2.1 uu.2.2.2.2.2.2.2.2.2.2.2.2.2.1 uu.2.2.2.2.2.2.2.2.2.2.2.2.2.2.1 uu.2.2.2.2.2.2.2.2.2.2.2.2.2.2.2) (fun (uu : Int32 × (Nat → Int32) × (Nat → Int32) × (Nat → Int32) × (Nat → Int32) × Int32 × (Nat → Int32) × (Nat → Int32) × (Nat → Int32) × (Nat → Int32) × Int32 × (Nat → Int32) × (Nat → Int32) × (Nat → Int64) × (Nat → Int32) × Int32) (t : State) => va_P (dC, dI) vwCl (wPla ad cI cJ cZ uu.1 uu.2.1 uu.2.2.1 uu.2.2.2.1 uu.2.2.2.2.1 sp uu.2.2.2.2.2.1 uu.2.2.2.2.2.2.1 uu.2.2.2.2.2.2.2.1 uu.2.2.2.2.2.2.2.2.1 uu.2.2.2.2.2.2.2.2.2.1 uu.2.2.2.2.2.2.2.2.2.2.1 uu.2.2.2.2.2.2.2.2.2.2.2.1 uu.2.2.2.2.2.2.2.2.2.2.2.2.1 uu.2.2.2.2.2.2.2.2.2.2.2.2.2.1 uu.2.2.2.2.2.2.2.2.2.2.2.2.2.2.1 uu.2.2.2.2.2.2.2.2.2.2.2.2.2.2.2 x y u sn) t.heap ∧ va_D (va_A (wPla ad cI cJ cZ sl ho nu fa ou sp fn co fo ro po pn rd st tw od rn x y u sn) sz) (wPla ad cI cJ cZ uu.1 uu.2.1 uu.2.2.1 uu.2.2.2.1 uu.2.2.2.2.1 sp uu.2.2.2.2.2.1 uu.2.2.2.2.2.2.1 uu.2.2.2.2.2.2.2.1 uu.2.2.2.2.2.2.2.2.1 uu.2.2.2.2.2.2.2.2.2.1 uu.2.2.2.2.2.2.2.2.2.2.1 uu.2.2.2.2.2.2.2.2.2.2.2.1 uu.2.2.2.2.2.2.2.2.2.2.2.2.1 uu.2.2.2.2.2.2.2.2.2.2.2.2.2.1 uu.2.2.2.2.2.2.2.2.2.2.2.2.2.2.1 uu.2.2.2.2.2.2.2.2.2.2.2.2.2.2.2 x y u sn)) (va_A (wPla ad cI cJ cZ sl ho nu fa ou sp fn co fo ro po pn rd st tw od rn x y u sn) sz)) 0 0 (va_A (wPla ad cI cJ cZ sl ho nu fa ou sp fn co fo ro po pn rd st tw od rn x y u sn) sz) := by
  unfold wp_X3_piece at hw
  refine Met.ofW (cc := cX3_piece) (maxL := 2) (ret := (some .int)) (by decide) rfl ?_
  intro p e s m args below meth c s₁ B hml hv
  obtain ⟨hav, hsz, hP, hK, hD0⟩ := hv
  have hx := B.exec
  have hb := B.bytes
  have hr := B.returns
  have hts := atoms_spec (ws := wsX3_piece) B.pre
  have hown : s.vm.findClass RX3 = some m.cls := findClass_of_methodNamed B.named
  have hlocks := B.notSynchronized
  have C : CallFix p m c cX3_piece 2 s args wsX3_piece RX3 := ⟨hx, hb, hml, hown, hts⟩
  obtain ⟨ls, hE, hl⟩ := mx_entry (m := m) [.ref (ad 0), .int v1] (n := 2) (Nat.le_of_ble_eq_true rfl)
  have hl : lv_has ls 2 [(0, .ref (ad 0)), (1, .int v1)] := hl
  rw [show entryFrame m args 2 = F0 m 0 ls [] by rw [hav]; exact hE]
  subst hsz
  have hD := hD0.self (sz := s.heap.size)
  generalize hAe : va_A (wPla ad cI cJ cZ sl ho nu fa ou sp fn co fo ro po pn rd st tw od rn x y u sn) s.heap.size = A at hD ⊢
  have hA : ∀ q : Nat, s.heap.size ≤ q → A q := fun q h => by rw [← hAe]; exact Or.inr h
  have hS : va_S A s.heap s.heap [] := va_S.rf
  obtain ⟨Q, hQ⟩ : ∃ Q, MQ below (va_Qi (fun (r : Int32) (uu : Int32 × (Nat → Int32) × (Nat → Int32) × (Nat → Int32) × (Nat → Int32) × Int32 × (Nat → Int32) × (Nat → Int32) × (Nat → Int32) × (Nat → Int32) × Int32 × (Nat → Int32) × (Nat → Int32) × (Nat → Int64) × (Nat → Int32) × Int32) => post r uu.1 uu.2.1 uu.2.2.1 uu.2.2.2.1 uu.2.2.2.2.1 uu.2.2.2.2.2.1 uu.2.2.2.2.2.2.1 uu.2.2.2.2.2.2.2.1 uu.2.2.2.2.2.2.2.2.1 uu.2.2.2.2.2.2.2.2.2.1 uu.2.2.2.2.2.2.2.2.2.2.1 uu.2.2.2.2.2.2.2.2.2.2.2.1 uu.2.2.2.2.2.2.2.2.2.2.2.2.1 uu.2.2.2.2.2.2.2.2.2.2.2.2.2.1 uu.2.2.2.2.2.2.2.2.2.2.2.2.2.2.1 uu.2.2.2.2.2.2.2.2.2.2.2.2.2.2.2) (fun (uu : Int32 × (Nat → Int32) × (Nat → Int32) × (Nat → Int32) × (Nat → Int32) × Int32 × (Nat → Int32) × (Nat → Int32) × (Nat → Int32) × (Nat → Int32) × Int32 × (Nat → Int32) × (Nat → Int32) × (Nat → Int64) × (Nat → Int32) × Int32) (t : State) => va_P (dC, dI) vwCl (wPla ad cI cJ cZ uu.1 uu.2.1 uu.2.2.1 uu.2.2.2.1 uu.2.2.2.2.1 sp uu.2.2.2.2.2.1 uu.2.2.2.2.2.2.1 uu.2.2.2.2.2.2.2.1 uu.2.2.2.2.2.2.2.2.1 uu.2.2.2.2.2.2.2.2.2.1 uu.2.2.2.2.2.2.2.2.2.2.1 uu.2.2.2.2.2.2.2.2.2.2.2.1 uu.2.2.2.2.2.2.2.2.2.2.2.2.1 uu.2.2.2.2.2.2.2.2.2.2.2.2.2.1 uu.2.2.2.2.2.2.2.2.2.2.2.2.2.2.1 uu.2.2.2.2.2.2.2.2.2.2.2.2.2.2.2 x y u sn) t.heap ∧ va_D A (wPla ad cI cJ cZ uu.1 uu.2.1 uu.2.2.1 uu.2.2.2.1 uu.2.2.2.2.1 sp uu.2.2.2.2.2.1 uu.2.2.2.2.2.2.1 uu.2.2.2.2.2.2.2.1 uu.2.2.2.2.2.2.2.2.1 uu.2.2.2.2.2.2.2.2.2.1 uu.2.2.2.2.2.2.2.2.2.2.1 uu.2.2.2.2.2.2.2.2.2.2.2.1 uu.2.2.2.2.2.2.2.2.2.2.2.2.1 uu.2.2.2.2.2.2.2.2.2.2.2.2.2.1 uu.2.2.2.2.2.2.2.2.2.2.2.2.2.2.1 uu.2.2.2.2.2.2.2.2.2.2.2.2.2.2.2 x y u sn)) A) args s 0 0 A = Q := ⟨_, rfl⟩
  rw [hQ]
  obtain ⟨H, hH⟩ : ∃ H, s.heap = H := ⟨_, rfl⟩
  have hS : va_S A s.heap H [] := by rw [← hH]; exact hS
  rw [hH] at hP
  show W p l e rm_X3_piece s m args below meth c s.heap [] 0 0 Q (F0 m 0 ls [])
  suffices hg : W p l e rm_X3_piece s m args below meth c H [] 0 0 Q (F0 m 0 ls []) by rw [hH]; exact hg
  clear hH
  generalize hlo : ([] : List Loc) = locs at hS ⊢
  refine lv_aload_n hx hb dX3_piece_0 rfl (lv_at hl 0 rfl) ?_
  refine lv_iload_n hx hb dX3_piece_1 rfl (lv_at hl 1 rfl) ?_
  refine va_csv (W.runV (As := [.int v1]) (rest := []) C (c_X3_requireHalf l dC dI cI cJ cZ ad sl ho nu fa ou sp fn co fo ro po pn rd st tw od rn x y u sn v1 hw) (cwV 1 hts gX3_piece_X3_requireHalf rfl rfl rfl (by decide +kernel) ⟨Nat.le_of_ble_eq_true rfl, Nat.le_of_ble_eq_true rfl⟩) ⟨fb_ro, va_recv hK hP (ci := 3) (q0 := 0) rfl rfl, fun U hU hW => ⟨rfl, by rw [hU]; exact hP, va_K.moved hW.alike hK⟩⟩ rfl rfl hl.1 rfl (lv_room (Nat.le_of_ble_eq_true rfl)) dX3_piece_2 ⟨Nat.zero_le _, Nat.zero_le _⟩) (fun hw => ?_)
  refine lv_aload_n hx hb dX3_piece_5 rfl (lv_at hl 0 rfl) ?_
  have hPc := hP.sub (ws' := (wPla ad cI cJ cZ sl ho nu fa ou sp fn co fo ro po pn rd st tw od rn x y u sn)) [0, 1, 2, 3, 4, 5, 6, 7, 8, 9, 10, 11, 12, 13, 14, 15, 16, 17, 18, 19] rfl
  have hDc := hD.sub (ws' := (wPla ad cI cJ cZ sl ho nu fa ou sp fn co fo ro po pn rd st tw od rn x y u sn)) [0, 1, 2, 3, 4, 5, 6, 7, 8, 9, 10, 11, 12, 13, 14, 15, 16, 17, 18, 19] (by decide) rfl
  have hFc := va_free (wc := (wPla ad cI cJ cZ sl ho nu fa ou sp fn co fo ro po pn rd st tw od rn x y u sn)) hD hS hA [0, 1, 2, 3, 4, 5, 6, 7, 8, 9, 10, 11, 12, 13, 14, 15, 16, 17, 18, 19] rfl
  refine va_callv (va_runV (As := []) (rest := []) C (c_X3_refresh l dC dI cI cJ cZ ad _ sl ho nu fa ou sp fn co fo ro po pn rd st tw od rn x y u sn  hw) (cwV 0 hts gX3_piece_X3_refresh rfl rfl rfl (by decide +kernel) ⟨Nat.le_of_ble_eq_true rfl, Nat.le_of_ble_eq_true rfl⟩) ⟨fb_rw, va_recv hK hPc (ci := 3) (q0 := 0) rfl rfl, fun U hU hW => ⟨rfl, by rw [hU], by rw [hU]; exact hPc, va_K.moved hW.alike hK, hDc.weaken (fun _ _ _ _ => trivial)⟩⟩ rfl rfl hl.1 rfl (lv_room (Nat.le_of_ble_eq_true rfl)) dX3_piece_6 ⟨Nat.zero_le _, Nat.zero_le _⟩) hS (fun q _ h => hFc q h) hFc (fun uu t H1 locs ht hvm hw hB hz1 hk1 hS => ?_)
  obtain ⟨sl_1, ho_2, nu_3, fa_4, ou_5, fn_6, co_7, fo_8, ro_9, po_10, pn_11, rd_12, st_13, tw_14, od_15, rn_16⟩ := uu
  obtain ⟨hP1, hD1⟩ := hB
  rw [ht] at hP1
  try dsimp only at hw hP1 hD1
  obtain ⟨hP, hD⟩ := va_join (wr := []) (w1 := (wPla ad cI cJ cZ sl_1 ho_2 nu_3 fa_4 ou_5 sp fn_6 co_7 fo_8 ro_9 po_10 pn_11 rd_12 st_13 tw_14 od_15 rn_16 x y u sn)) hP hD [0, 1, 2, 3, 4, 5, 6, 7, 8, 9, 10, 11, 12, 13, 14, 15, 16, 17, 18, 19] [] rfl rfl (by decide) (by decide) hk1 hFc hP1 hD1
  generalize H1 = H at hP hS ⊢
  have hP : va_P (dC, dI) vwCl (wPla ad cI cJ cZ sl_1 ho_2 nu_3 fa_4 ou_5 sp fn_6 co_7 fo_8 ro_9 po_10 pn_11 rd_12 st_13 tw_14 od_15 rn_16 x y u sn) H := hP
  have hD : va_D A (wPla ad cI cJ cZ sl_1 ho_2 nu_3 fa_4 ou_5 sp fn_6 co_7 fo_8 ro_9 po_10 pn_11 rd_12 st_13 tw_14 od_15 rn_16 x y u sn) := hD
  refine lv_aload_n hx hb dX3_piece_9 rfl (lv_at hl 0 rfl) ?_
  refine va_get (D := (dC, dI)) (ci := 3) (v := .ref (ad 7)) (C := RX3) (T := TX3) (N := 4) hx hb hts f_X3_piece_1 hown hK hP 0 rfl rfl 1 (by decide) (hts _ f_X3_piece_0) (fun _ h9 => h9) rfl dX3_piece_10 ?_
  refine va_get (D := (dC, dI)) (ci := 1) (v := .ref (ad 11)) (C := RX1) (T := TX1) (N := 11) hx hb hts f_X3_piece_3 hown hK hP 7 rfl rfl 4 (by decide) (hts _ f_X3_piece_2) (fun _ h9 => h9) rfl dX3_piece_13 ?_
  refine lv_iload_n hx hb dX3_piece_16 rfl (lv_at hl 1 rfl) ?_
  refine lv_iconst (v := 1) hx hb dX3_piece_17 (by decide) ?_
  refine lv_ishr hx hb dX3_piece_18 ?_
  have hi := hw.1
  have hw := hw.2
  refine va_iald hx hb hK hP 11 0 rfl rfl hi dX3_piece_19 ?_
  rw [← hQ]
  exact W.iret (v := (po_10 (v1 >>> ((1 : Int32) &&& 31)).toNatClampNeg)) hx hb hr (fun t ht hW => ⟨⟨_, (sl_1, ho_2, nu_3, fa_4, ou_5, fn_6, co_7, fo_8, ro_9, po_10, pn_11, rd_12, st_13, tw_14, od_15, rn_16), rfl, hw, by rw [ht]; exact hP, hD⟩, hS.F ht⟩) hS.2.2 dX3_piece_20
-- X3_piece throws
abbrev rmx_X3_piece : Room := { frames := 7, cells := 1, slots := 6, locals := 142 }
theorem fx_X3_piece_0 : (Cond.fieldLink RX3 20 "PlaneFaces" "rounds" "LPlaneFaces$Rounds;") ∈ wsX3_piece := by decide +kernel
theorem fx_X3_piece_1 : ∀ w ∈ wsX30, w ∈ wsX3_piece := by decide +kernel
theorem fx_X3_piece_2 : (Cond.fieldLink RX3 109 "PlaneFaces$Rounds" "pieceOf" "[I") ∈ wsX3_piece := by decide +kernel
theorem fx_X3_piece_3 : ∀ w ∈ wsX10, w ∈ wsX3_piece := by decide +kernel
set_option maxRecDepth 100000 in
set_option maxHeartbeats 4000000 in
theorem cx_X3_piece (l : Launch) (hst : l.stackTraces = false) (dC : Nat → ClassId) (dI : Nat → Nat → Nat) (cI cJ cZ : ClassId) (ad : Nat → Nat) (sz : Nat) (sl : Int32) (ho : Nat → Int32) (nu : Nat → Int32) (fa : Nat → Int32) (ou : Nat → Int32) (sp : Nat → Int32) (fn : Int32) (co : Nat → Int32) (fo : Nat → Int32) (ro : Nat → Int32) (po : Nat → Int32) (pn : Int32) (rd : Nat → Int32) (st : Nat → Int32) (tw : Nat → Int64) (od : Nat → Int32) (rn : Int32) (x : Nat → Int32) (y : Nat → Int32) (u : Nat → Int32) (sn : Int32) (v1 : Int32) {px : String → Int32 → (Nat → Int32) → (Nat → Int32) → (Nat → Int32) → (Nat → Int32) → Int32 → (Nat → Int32) → (Nat → Int32) → (Nat → Int32) → (Nat → Int32) → Int32 → (Nat → Int32) → (Nat → Int32) → (Nat → Int64) → (Nat → Int32) → Int32 → Prop} (hw : wpx_X3_piece sl ho nu fa ou fn co fo ro po pn rd st tw od rn x y u v1 px) : vx_Met l yX3_piece wsX3_piece rmx_X3_piece (va_Pc [.ref (ad 0), .int v1] (fun U => U.heap.size = sz ∧ va_P (dC, dI) vwCl (wPla ad cI cJ cZ sl ho nu fa ou sp fn co fo ro po pn rd st tw od rn x y u sn) U.heap ∧ va_K (dC, dI) vwCl (tyL cI cJ cZ) U ∧ va_D (fun _ => True) (wPla ad cI cJ cZ sl ho nu fa ou sp fn co fo ro po pn rd st tw od rn x y u sn) ∧ xe (va_A (wPla ad cI cJ cZ sl ho nu fa ou sp fn co fo ro po pn rd st tw od rn x y u sn) sz) U U.heap)) (va_Qi (fun (_ : Int32) (_ : Unit) => False) (fun _ _ => True) (va_A (wPla ad cI cJ cZ sl ho nu fa ou sp fn co fo ro po pn rd st tw od rn x y u sn) sz)) (vx_X (fun _ : Int32 × (Nat → Int32) × (Nat → Int32) × (Nat → Int32) × (Nat → Int32) × Int32 × (Nat → Int32) × (Nat → Int32) × (Nat → Int32) × (Nat → Int32) × Int32 × (Nat → Int32) × (Nat → Int32) × (Nat → Int64) × (Nat → Int32) × Int32 => True) (fun (E : String) (uu : Int32 × (Nat → Int32) × (Nat → Int32) × (Nat → Int32) × (Nat → Int32) × Int32 × (Nat → Int32) × (Nat → Int32) × (Nat → Int32) × (Nat → Int32) × Int32 × (Nat → Int32) × (Nat → Int32) × (Nat → Int64) × (Nat → Int32) × Int32) (t : State) => px E uu.1 uu.2.1 uu.2.2.1 uu.2.2.2.1 uu.2.2.2.2.1 uu.2.2.2.2.2.1 uu.2.2.2.2.2.2.1 uu.2.2.2.2.2.2.2.1 uu.2.2.2.2.2.2.2.2.1 uu.2.2.2.2.2.2.2.2.2.1 uu.2.2.2.2.2.2.2.2.2.2.1 uu.2.2.2.2.2.2.2.2.2.2.2.1 uu.2.2.2.2.2.2.2.2.2.2.2.2.1 uu.2.2.2.2.2.2.2.2.2.2.2.2.2.1 uu.2.2.2.2.2.2.2.2.2.2.2.2.2.2.1 uu.2.2.2.2.2.2.2.2.2.2.2.2.2.2.2 ∧ va_P (dC, dI) vwCl (wPla ad cI cJ cZ uu.1 uu.2.1 uu.2.2.1 uu.2.2.2.1 uu.2.2.2.2.1 sp uu.2.2.2.2.2.1 uu.2.2.2.2.2.2.1 uu.2.2.2.2.2.2.2.1 uu.2.2.2.2.2.2.2.2.1 uu.2.2.2.2.2.2.2.2.2.1 uu.2.2.2.2.2.2.2.2.2.2.1 uu.2.2.2.2.2.2.2.2.2.2.2.1 uu.2.2.2.2.2.2.2.2.2.2.2.2.1 uu.2.2.2.2.2.2.2.2.2.2.2.2.2.1 uu.2.2.2.2.2.2.2.2.2.2.2.2.2.2.1 uu.2.2.2.2.2.2.2.2.2.2.2.2.2.2.2 x y u sn) t.heap ∧ va_D (va_A (wPla ad cI cJ cZ sl ho nu fa ou sp fn co fo ro po pn rd st tw od rn x y u sn) sz) (wPla ad cI cJ cZ uu.1 uu.2.1 uu.2.2.1 uu.2.2.2.1 uu.2.2.2.2.1 sp uu.2.2.2.2.2.1 uu.2.2.2.2.2.2.1 uu.2.2.2.2.2.2.2.1 uu.2.2.2.2.2.2.2.2.1 uu.2.2.2.2.2.2.2.2.2.1 uu.2.2.2.2.2.2.2.2.2.2.1 uu.2.2.2.2.2.2.2.2.2.2.2.1 uu.2.2.2.2.2.2.2.2.2.2.2.2.1 uu.2.2.2.2.2.2.2.2.2.2.2.2.2.1 uu.2.2.2.2.2.2.2.2.2.2.2.2.2.2.1 uu.2.2.2.2.2.2.2.2.2.2.2.2.2.2.2 x y u sn)) (va_A (wPla ad cI cJ cZ sl ho nu fa ou sp fn co fo ro po pn rd st tw od rn x y u sn) sz)) 1 6 (va_A (wPla ad cI cJ cZ sl ho nu fa ou sp fn co fo ro po pn rd st tw od rn x y u sn) sz) := by
  unfold wpx_X3_piece at hw
  refine vx_ofW (cc := cX3_piece) (maxL := 2) (ret := (some .int)) (by decide) rfl ?_
  intro p e s m args below meth c s₁ B hml hnt hv
  obtain ⟨hav, hsz, hP, hK, hD0, hxe⟩ := hv
  have hx := B.exec
  have hb := B.bytes
  have hr := B.returns
  have hts := atoms_spec (ws := wsX3_piece) B.pre
  have hown : s.vm.findClass RX3 = some m.cls := findClass_of_methodNamed B.named
  have hlocks := B.notSynchronized
  have C : CallFix p m c cX3_piece 2 s args wsX3_piece RX3 := ⟨hx, hb, hml, hown, hts⟩
  obtain ⟨ls, hE, hl⟩ := mx_entry (m := m) [.ref (ad 0), .int v1] (n := 2) (Nat.le_of_ble_eq_true rfl)
  have hl : lv_has ls 2 [(0, .ref (ad 0)), (1, .int v1)] := hl
  rw [show entryFrame m args 2 = F0 m 0 ls [] by rw [hav]; exact hE]
  subst hsz
  have hD := hD0.self (sz := s.heap.size)
  generalize hAe : va_A (wPla ad cI cJ cZ sl ho nu fa ou sp fn co fo ro po pn rd st tw od rn x y u sn) s.heap.size = A at hD hxe ⊢
  have hA : ∀ q : Nat, s.heap.size ≤ q → A q := fun q h => by rw [← hAe]; exact Or.inr h
  have hS : va_S A s.heap s.heap [] := va_S.rf
  obtain ⟨Q, hQ⟩ : ∃ Q, vx_MQ below (va_Qi (fun (_ : Int32) (_ : Unit) => False) (fun _ _ => True) A) (vx_X (fun _ : Int32 × (Nat → Int32) × (Nat → Int32) × (Nat → Int32) × (Nat → Int32) × Int32 × (Nat → Int32) × (Nat → Int32) × (Nat → Int32) × (Nat → Int32) × Int32 × (Nat → Int32) × (Nat → Int32) × (Nat → Int64) × (Nat → Int32) × Int32 => True) (fun (E : String) (uu : Int32 × (Nat → Int32) × (Nat → Int32) × (Nat → Int32) × (Nat → Int32) × Int32 × (Nat → Int32) × (Nat → Int32) × (Nat → Int32) × (Nat → Int32) × Int32 × (Nat → Int32) × (Nat → Int32) × (Nat → Int64) × (Nat → Int32) × Int32) (t : State) => px E uu.1 uu.2.1 uu.2.2.1 uu.2.2.2.1 uu.2.2.2.2.1 uu.2.2.2.2.2.1 uu.2.2.2.2.2.2.1 uu.2.2.2.2.2.2.2.1 uu.2.2.2.2.2.2.2.2.1 uu.2.2.2.2.2.2.2.2.2.1 uu.2.2.2.2.2.2.2.2.2.2.1 uu.2.2.2.2.2.2.2.2.2.2.2.1 uu.2.2.2.2.2.2.2.2.2.2.2.2.1 uu.2.2.2.2.2.2.2.2.2.2.2.2.2.1 uu.2.2.2.2.2.2.2.2.2.2.2.2.2.2.1 uu.2.2.2.2.2.2.2.2.2.2.2.2.2.2.2 ∧ va_P (dC, dI) vwCl (wPla ad cI cJ cZ uu.1 uu.2.1 uu.2.2.1 uu.2.2.2.1 uu.2.2.2.2.1 sp uu.2.2.2.2.2.1 uu.2.2.2.2.2.2.1 uu.2.2.2.2.2.2.2.1 uu.2.2.2.2.2.2.2.2.1 uu.2.2.2.2.2.2.2.2.2.1 uu.2.2.2.2.2.2.2.2.2.2.1 uu.2.2.2.2.2.2.2.2.2.2.2.1 uu.2.2.2.2.2.2.2.2.2.2.2.2.1 uu.2.2.2.2.2.2.2.2.2.2.2.2.2.1 uu.2.2.2.2.2.2.2.2.2.2.2.2.2.2.1 uu.2.2.2.2.2.2.2.2.2.2.2.2.2.2.2 x y u sn) t.heap ∧ va_D A (wPla ad cI cJ cZ uu.1 uu.2.1 uu.2.2.1 uu.2.2.2.1 uu.2.2.2.2.1 sp uu.2.2.2.2.2.1 uu.2.2.2.2.2.2.1 uu.2.2.2.2.2.2.2.1 uu.2.2.2.2.2.2.2.2.1 uu.2.2.2.2.2.2.2.2.2.1 uu.2.2.2.2.2.2.2.2.2.2.1 uu.2.2.2.2.2.2.2.2.2.2.2.1 uu.2.2.2.2.2.2.2.2.2.2.2.2.1 uu.2.2.2.2.2.2.2.2.2.2.2.2.2.1 uu.2.2.2.2.2.2.2.2.2.2.2.2.2.2.1 uu.2.2.2.2.2.2.2.2.2.2.2.2.2.2.2 x y u sn)) A) args s 1 6 A = Q := ⟨_, rfl⟩
  rw [hQ]
  obtain ⟨H, hH⟩ : ∃ H, s.heap = H := ⟨_, rfl⟩
  have hS : va_S A s.heap H [] := by rw [← hH]; exact hS
  rw [hH] at hP
  show W p l e rmx_X3_piece s m args below meth c s.heap [] 0 0 Q (F0 m 0 ls [])
  suffices hg : W p l e rmx_X3_piece s m args below meth c H [] 0 0 Q (F0 m 0 ls []) by rw [hH]; exact hg
  clear hH
  generalize hlo : ([] : List Loc) = locs at hS ⊢
  refine lv_aload_n hx hb dX3_piece_0 rfl (lv_at hl 0 rfl) ?_
  refine lv_iload_n hx hb dX3_piece_1 rfl (lv_at hl 1 rfl) ?_
  rcases hw with hw | hw
  · have hPc := hP.sub (ws' := (wPla ad cI cJ cZ sl ho nu fa ou sp fn co fo ro po pn rd st tw od rn x y u sn)) [0, 1, 2, 3, 4, 5, 6, 7, 8, 9, 10, 11, 12, 13, 14, 15, 16, 17, 18, 19] rfl
    have hDc := hD.sub (ws' := (wPla ad cI cJ cZ sl ho nu fa ou sp fn co fo ro po pn rd st tw od rn x y u sn)) [0, 1, 2, 3, 4, 5, 6, 7, 8, 9, 10, 11, 12, 13, 14, 15, 16, 17, 18, 19] (by decide) rfl
    have hFc := va_free (wc := (wPla ad cI cJ cZ sl ho nu fa ou sp fn co fo ro po pn rd st tw od rn x y u sn)) hD hS hA [0, 1, 2, 3, 4, 5, 6, 7, 8, 9, 10, 11, 12, 13, 14, 15, 16, 17, 18, 19] rfl
    refine vx_callv (vx_runV (As := [.int v1]) (rest := []) C (cx_X3_requireHalf l hst dC dI cI cJ cZ ad _ sl ho nu fa ou sp fn co fo ro po pn rd st tw od rn x y u sn v1 hw) (cwV 1 hts gX3_piece_X3_requireHalf rfl rfl rfl (by decide +kernel) ⟨Nat.le_of_ble_eq_true rfl, Nat.le_of_ble_eq_true rfl⟩) ⟨fb_x, va_recv hK hPc (ci := 3) (q0 := 0) rfl rfl, fun U hU hW => ⟨rfl, by rw [hU], by rw [hU]; exact hPc, va_K.moved hW.alike hK, hDc.weaken (fun _ _ _ _ => trivial), hxe.step hS hFc hU hW⟩⟩ rfl rfl hl.1 rfl (lv_room (Nat.le_of_ble_eq_true rfl)) dX3_piece_2 ⟨Nat.le_of_ble_eq_true rfl, Nat.le_of_ble_eq_true rfl⟩) hS (fun q _ h => hFc q h) hFc (fun q _ h => hFc q h) (fun E9 ce q9 uu t H1 locs ht hvm hpx hB hz1 hk1 hS hce hcv hcl => ?_) (fun uu t H1 locs ht hvm hpost hB hz1 hk1 hS => hpost.elim)
    obtain ⟨hw, hP1, hD1⟩ := hB
    rw [ht] at hP1
    try dsimp only at hw hP1 hD1
    obtain ⟨hP, hD⟩ := va_join (wr := []) (w1 := (wPla ad cI cJ cZ sl ho nu fa ou sp fn co fo ro po pn rd st tw od rn x y u sn)) hP hD [0, 1, 2, 3, 4, 5, 6, 7, 8, 9, 10, 11, 12, 13, 14, 15, 16, 17, 18, 19] [] rfl rfl (by decide) (by decide) hk1 hFc hP1 hD1
    have hP : va_P (dC, dI) vwCl (wPla ad cI cJ cZ sl ho nu fa ou sp fn co fo ro po pn rd st tw od rn x y u sn) H1 := hP
    have hD : va_D A (wPla ad cI cJ cZ sl ho nu fa ou sp fn co fo ro po pn rd st tw od rn x y u sn) := hD
    rw [← hQ]
    exact vx_out (fun x9 h9 => (hnt x9 h9).elim) hlocks hce hcv hcl (fun t ht hvm => ⟨(sl, ho, nu, fa, ou, fn, co, fo, ro, po, pn, rd, st, tw, od, rn), trivial, ⟨hw, by rw [ht]; exact hP, hD⟩, hS.F ht⟩) hS.2.2 (Nat.le_of_ble_eq_true rfl) (Nat.le_of_ble_eq_true rfl)
  · refine va_csv (W.runV (As := [.int v1]) (rest := []) C (c_X3_requireHalf l dC dI cI cJ cZ ad sl ho nu fa ou sp fn co fo ro po pn rd st tw od rn x y u sn v1 hw) (cwV 1 hts gX3_piece_X3_requireHalf rfl rfl rfl (by decide +kernel) ⟨Nat.le_of_ble_eq_true rfl, Nat.le_of_ble_eq_true rfl⟩) ⟨fb_ro, va_recv hK hP (ci := 3) (q0 := 0) rfl rfl, fun U hU hW => ⟨rfl, by rw [hU]; exact hP, va_K.moved hW.alike hK⟩⟩ rfl rfl hl.1 rfl (lv_room (Nat.le_of_ble_eq_true rfl)) dX3_piece_2 ⟨Nat.zero_le _, Nat.zero_le _⟩) (fun hw => ?_)
    refine lv_aload_n hx hb dX3_piece_5 rfl (lv_at hl 0 rfl) ?_
    have hPc := hP.sub (ws' := (wPla ad cI cJ cZ sl ho nu fa ou sp fn co fo ro po pn rd st tw od rn x y u sn)) [0, 1, 2, 3, 4, 5, 6, 7, 8, 9, 10, 11, 12, 13, 14, 15, 16, 17, 18, 19] rfl
    have hDc := hD.sub (ws' := (wPla ad cI cJ cZ sl ho nu fa ou sp fn co fo ro po pn rd st tw od rn x y u sn)) [0, 1, 2, 3, 4, 5, 6, 7, 8, 9, 10, 11, 12, 13, 14, 15, 16, 17, 18, 19] (by decide) rfl
    have hFc := va_free (wc := (wPla ad cI cJ cZ sl ho nu fa ou sp fn co fo ro po pn rd st tw od rn x y u sn)) hD hS hA [0, 1, 2, 3, 4, 5, 6, 7, 8, 9, 10, 11, 12, 13, 14, 15, 16, 17, 18, 19] rfl
    refine va_callv (va_runV (As := []) (rest := []) C (c_X3_refresh l dC dI cI cJ cZ ad _ sl ho nu fa ou sp fn co fo ro po pn rd st tw od rn x y u sn  hw) (cwV 0 hts gX3_piece_X3_refresh rfl rfl rfl (by decide +kernel) ⟨Nat.le_of_ble_eq_true rfl, Nat.le_of_ble_eq_true rfl⟩) ⟨fb_rw, va_recv hK hPc (ci := 3) (q0 := 0) rfl rfl, fun U hU hW => ⟨rfl, by rw [hU], by rw [hU]; exact hPc, va_K.moved hW.alike hK, hDc.weaken (fun _ _ _ _ => trivial)⟩⟩ rfl rfl hl.1 rfl (lv_room (Nat.le_of_ble_eq_true rfl)) dX3_piece_6 ⟨Nat.zero_le _, Nat.zero_le _⟩) hS (fun q _ h => hFc q h) hFc (fun uu t H1 locs ht hvm hw hB hz1 hk1 hS => ?_)
    obtain ⟨sl_1, ho_2, nu_3, fa_4, ou_5, fn_6, co_7, fo_8, ro_9, po_10, pn_11, rd_12, st_13, tw_14, od_15, rn_16⟩ := uu
    obtain ⟨hP1, hD1⟩ := hB
    rw [ht] at hP1
    try dsimp only at hw hP1 hD1
    obtain ⟨hP, hD⟩ := va_join (wr := []) (w1 := (wPla ad cI cJ cZ sl_1 ho_2 nu_3 fa_4 ou_5 sp fn_6 co_7 fo_8 ro_9 po_10 pn_11 rd_12 st_13 tw_14 od_15 rn_16 x y u sn)) hP hD [0, 1, 2, 3, 4, 5, 6, 7, 8, 9, 10, 11, 12, 13, 14, 15, 16, 17, 18, 19] [] rfl rfl (by decide) (by decide) hk1 hFc hP1 hD1
    generalize H1 = H at hP hS ⊢
    have hP : va_P (dC, dI) vwCl (wPla ad cI cJ cZ sl_1 ho_2 nu_3 fa_4 ou_5 sp fn_6 co_7 fo_8 ro_9 po_10 pn_11 rd_12 st_13 tw_14 od_15 rn_16 x y u sn) H := hP
    have hD : va_D A (wPla ad cI cJ cZ sl_1 ho_2 nu_3 fa_4 ou_5 sp fn_6 co_7 fo_8 ro_9 po_10 pn_11 rd_12 st_13 tw_14 od_15 rn_16 x y u sn) := hD
    refine lv_aload_n hx hb dX3_piece_9 rfl (lv_at hl 0 rfl) ?_
    refine va_get (D := (dC, dI)) (ci := 3) (v := .ref (ad 7)) (C := RX3) (T := TX3) (N := 4) hx hb hts fx_X3_piece_1 hown hK hP 0 rfl rfl 1 (by decide) (hts _ fx_X3_piece_0) (fun _ h9 => h9) rfl dX3_piece_10 ?_
    refine va_get (D := (dC, dI)) (ci := 1) (v := .ref (ad 11)) (C := RX1) (T := TX1) (N := 11) hx hb hts fx_X3_piece_3 hown hK hP 7 rfl rfl 4 (by decide) (hts _ fx_X3_piece_2) (fun _ h9 => h9) rfl dX3_piece_13 ?_
    refine lv_iload_n hx hb dX3_piece_16 rfl (lv_at hl 1 rfl) ?_
    refine lv_iconst (v := 1) hx hb dX3_piece_17 (by decide) ?_
    refine lv_ishr hx hb dX3_piece_18 ?_
    have hi := hw.1
    have hw := hw.2
    refine va_iald hx hb hK hP 11 0 rfl rfl hi dX3_piece_19 ?_
    exact hw.elim
-- X3_around
abbrev rm_X3_around : Room := { frames := 6, cells := 0, slots := 0, locals := 142 }
theorem f_X3_around_0 : (Cond.fieldLink RX3 20 "PlaneFaces" "rounds" "LPlaneFaces$Rounds;") ∈ wsX3_around := by decide +kernel
theorem f_X3_around_1 : ∀ w ∈ wsX30, w ∈ wsX3_around := by decide +kernel
theorem f_X3_around_2 : (Cond.fieldLink RX3 86 "PlaneFaces$Rounds" "pieces" "I") ∈ wsX3_around := by decide +kernel
theorem f_X3_around_3 : ∀ w ∈ wsX10, w ∈ wsX3_around := by decide +kernel
theorem f_X3_around_4 : (Cond.fieldLink RX3 12 "PlaneFaces" "faces" "LPlaneFaces$Faces;") ∈ wsX3_around := by decide +kernel
theorem f_X3_around_5 : (Cond.fieldLink RX3 117 "PlaneFaces$Faces" "outside" "[I") ∈ wsX3_around := by decide +kernel
theorem f_X3_around_6 : ∀ w ∈ wsX00, w ∈ wsX3_around := by decide +kernel
set_option maxRecDepth 100000 in
set_option maxHeartbeats 4000000 in
theorem c_X3_around (l : Launch) (dC : Nat → ClassId) (dI : Nat → Nat → Nat) (cI cJ cZ : ClassId) (ad : Nat → Nat) (sz : Nat) (sl : Int32) (ho : Nat → Int32) (nu : Nat → Int32) (fa : Nat → Int32) (ou : Nat → Int32) (sp : Nat → Int32) (fn : Int32) (co : Nat → Int32) (fo : Nat → Int32) (ro : Nat → Int32) (po : Nat → Int32) (pn : Int32) (rd : Nat → Int32) (st : Nat → Int32) (tw : Nat → Int64) (od : Nat → Int32) (rn : Int32) (x : Nat → Int32) (y : Nat → Int32) (u : Nat → Int32) (sn : Int32) (v1 : Int32) {post : Int32 → Int32 → (Nat → Int32) → (Nat → Int32) → (Nat → Int32) → (Nat → Int32) → Int32 → (Nat → Int32) → (Nat → Int32) → (Nat → Int32) → (Nat → Int32) → Int32 → (Nat → Int32) → (Nat → Int32) → (Nat → Int64) → (Nat → Int32) → Int32 → Prop} (hw : wp_X3_around sl ho nu fa ou fn co fo ro po pn rd st tw od rn x y u v1 post) : Met l yX3_around wsX3_around rm_X3_around (va_Pc [.ref (ad 0), .int v1] (fun U => U.heap.size = sz ∧ va_P (dC, dI) vwCl (wPla ad cI cJ cZ sl ho nu fa ou sp fn co fo ro po pn rd st tw od rn x y u sn) U.heap ∧ va_K (dC, dI) vwCl (tyL cI cJ cZ) U ∧ va_D (fun _ => True) (wPla ad cI cJ cZ sl ho nu fa ou sp fn co fo ro po pn rd st tw od rn x y u sn))) (va_Qi (fun (r : Int32) (uu : Int32 × (Nat → Int32) × (Nat → Int32) × (Nat → Int32) × (Nat → Int32) × Int32 × (Nat → Int32) × (Nat → Int32) × (Nat → Int32) × (Nat → Int32) × Int32 × (Nat → Int32) × (Nat → Int32) × (Nat → Int64) × (Nat → Int32) × Int32) => post r uu.1 uu.2.1 uu.2.2.1 uu.2.2.2.1 uu.2.2.2.2.1 uu.2.2.2.2.2.1 uu.2.2.2.2.2.2.1 uu.2.2.2.2.2.2.2.1 uu.2.2.2.2.2.2.2.2.1 uu.2.2.2.2.2.2.2.2.2.1 uu.2.2.2.2.2.2.2.2.2.2.1 uu.2.2.2.2.2.2.2.2.2.2.2.1 uu.2.2.2.2.2.2.2.2.2.2.2.2.1 uu.2.2.2.2.2.2.2.2.2.2.2.2.2.1 uu.2.2.2.2.2.2.2.2.2.2.2.2.2.2.1 uu.2.2.2.2.2.2.2.2.2.2.2.2.2.2.2) (fun (uu : Int32 × (Nat → Int32) × (Nat → Int32) × (Nat → Int32) × (Nat → Int32) × Int32 × (Nat → Int32) × (Nat → Int32) × (Nat → Int32) × (Nat → Int32) × Int32 × (Nat → Int32) × (Nat → Int32) × (Nat → Int64) × (Nat → Int32) × Int32) (t : State) => va_P (dC, dI) vwCl (wPla ad cI cJ cZ uu.1 uu.2.1 uu.2.2.1 uu.2.2.2.1 uu.2.2.2.2.1 sp uu.2.2.2.2.2.1 uu.2.2.2.2.2.2.1 uu.2.2.2.2.2.2.2.1 uu.2.2.2.2.2.2.2.2.1 uu.2.2.2.2.2.2.2.2.2.1 uu.2.2.2.2.2.2.2.2.2.2.1 uu.2.2.2.2.2.2.2.2.2.2.2.1 uu.2.2.2.2.2.2.2.2.2.2.2.2.1 uu.2.2.2.2.2.2.2.2.2.2.2.2.2.1 uu.2.2.2.2.2.2.2.2.2.2.2.2.2.2.1 uu.2.2.2.2.2.2.2.2.2.2.2.2.2.2.2 x y u sn) t.heap ∧ va_D (va_A (wPla ad cI cJ cZ sl ho nu fa ou sp fn co fo ro po pn rd st tw od rn x y u sn) sz) (wPla ad cI cJ cZ uu.1 uu.2.1 uu.2.2.1 uu.2.2.2.1 uu.2.2.2.2.1 sp uu.2.2.2.2.2.1 uu.2.2.2.2.2.2.1 uu.2.2.2.2.2.2.2.1 uu.2.2.2.2.2.2.2.2.1 uu.2.2.2.2.2.2.2.2.2.1 uu.2.2.2.2.2.2.2.2.2.2.1 uu.2.2.2.2.2.2.2.2.2.2.2.1 uu.2.2.2.2.2.2.2.2.2.2.2.2.1 uu.2.2.2.2.2.2.2.2.2.2.2.2.2.1 uu.2.2.2.2.2.2.2.2.2.2.2.2.2.2.1 uu.2.2.2.2.2.2.2.2.2.2.2.2.2.2.2 x y u sn)) (va_A (wPla ad cI cJ cZ sl ho nu fa ou sp fn co fo ro po pn rd st tw od rn x y u sn) sz)) 0 0 (va_A (wPla ad cI cJ cZ sl ho nu fa ou sp fn co fo ro po pn rd st tw od rn x y u sn) sz) := by
  unfold wp_X3_around at hw
  refine Met.ofW (cc := cX3_around) (maxL := 2) (ret := (some .int)) (by decide) rfl ?_
  intro p e s m args below meth c s₁ B hml hv
  obtain ⟨hav, hsz, hP, hK, hD0⟩ := hv
  have hx := B.exec
  have hb := B.bytes
  have hr := B.returns
  have hts := atoms_spec (ws := wsX3_around) B.pre
  have hown : s.vm.findClass RX3 = some m.cls := findClass_of_methodNamed B.named
  have hlocks := B.notSynchronized
  have C : CallFix p m c cX3_around 2 s args wsX3_around RX3 := ⟨hx, hb, hml, hown, hts⟩
  obtain ⟨ls, hE, hl⟩ := mx_entry (m := m) [.ref (ad 0), .int v1] (n := 2) (Nat.le_of_ble_eq_true rfl)
  have hl : lv_has ls 2 [(0, .ref (ad 0)), (1, .int v1)] := hl
  rw [show entryFrame m args 2 = F0 m 0 ls [] by rw [hav]; exact hE]
  subst hsz
  have hD := hD0.self (sz := s.heap.size)
  generalize hAe : va_A (wPla ad cI cJ cZ sl ho nu fa ou sp fn co fo ro po pn rd st tw od rn x y u sn) s.heap.size = A at hD ⊢
  have hA : ∀ q : Nat, s.heap.size ≤ q → A q := fun q h => by rw [← hAe]; exact Or.inr h
  have hS : va_S A s.heap s.heap [] := va_S.rf
  obtain ⟨Q, hQ⟩ : ∃ Q, MQ below (va_Qi (fun (r : Int32) (uu : Int32 × (Nat → Int32) × (Nat → Int32) × (Nat → Int32) × (Nat → Int32) × Int32 × (Nat → Int32) × (Nat → Int32) × (Nat → Int32) × (Nat → Int32) × Int32 × (Nat → Int32) × (Nat → Int32) × (Nat → Int64) × (Nat → Int32) × Int32) => post r uu.1 uu.2.1 uu.2.2.1 uu.2.2.2.1 uu.2.2.2.2.1 uu.2.2.2.2.2.1 uu.2.2.2.2.2.2.1 uu.2.2.2.2.2.2.2.1 uu.2.2.2.2.2.2.2.2.1 uu.2.2.2.2.2.2.2.2.2.1 uu.2.2.2.2.2.2.2.2.2.2.1 uu.2.2.2.2.2.2.2.2.2.2.2.1 uu.2.2.2.2.2.2.2.2.2.2.2.2.1 uu.2.2.2.2.2.2.2.2.2.2.2.2.2.1 uu.2.2.2.2.2.2.2.2.2.2.2.2.2.2.1 uu.2.2.2.2.2.2.2.2.2.2.2.2.2.2.2) (fun (uu : Int32 × (Nat → Int32) × (Nat → Int32) × (Nat → Int32) × (Nat → Int32) × Int32 × (Nat → Int32) × (Nat → Int32) × (Nat → Int32) × (Nat → Int32) × Int32 × (Nat → Int32) × (Nat → Int32) × (Nat → Int64) × (Nat → Int32) × Int32) (t : State) => va_P (dC, dI) vwCl (wPla ad cI cJ cZ uu.1 uu.2.1 uu.2.2.1 uu.2.2.2.1 uu.2.2.2.2.1 sp uu.2.2.2.2.2.1 uu.2.2.2.2.2.2.1 uu.2.2.2.2.2.2.2.1 uu.2.2.2.2.2.2.2.2.1 uu.2.2.2.2.2.2.2.2.2.1 uu.2.2.2.2.2.2.2.2.2.2.1 uu.2.2.2.2.2.2.2.2.2.2.2.1 uu.2.2.2.2.2.2.2.2.2.2.2.2.1 uu.2.2.2.2.2.2.2.2.2.2.2.2.2.1 uu.2.2.2.2.2.2.2.2.2.2.2.2.2.2.1 uu.2.2.2.2.2.2.2.2.2.2.2.2.2.2.2 x y u sn) t.heap ∧ va_D A (wPla ad cI cJ cZ uu.1 uu.2.1 uu.2.2.1 uu.2.2.2.1 uu.2.2.2.2.1 sp uu.2.2.2.2.2.1 uu.2.2.2.2.2.2.1 uu.2.2.2.2.2.2.2.1 uu.2.2.2.2.2.2.2.2.1 uu.2.2.2.2.2.2.2.2.2.1 uu.2.2.2.2.2.2.2.2.2.2.1 uu.2.2.2.2.2.2.2.2.2.2.2.1 uu.2.2.2.2.2.2.2.2.2.2.2.2.1 uu.2.2.2.2.2.2.2.2.2.2.2.2.2.1 uu.2.2.2.2.2.2.2.2.2.2.2.2.2.2.1 uu.2.2.2.2.2.2.2.2.2.2.2.2.2.2.2 x y u sn)) A) args s 0 0 A = Q := ⟨_, rfl⟩
  rw [hQ]
  obtain ⟨H, hH⟩ : ∃ H, s.heap = H := ⟨_, rfl⟩
  have hS : va_S A s.heap H [] := by rw [← hH]; exact hS
  rw [hH] at hP
  show W p l e rm_X3_around s m args below meth c s.heap [] 0 0 Q (F0 m 0 ls [])
  suffices hg : W p l e rm_X3_around s m args below meth c H [] 0 0 Q (F0 m 0 ls []) by rw [hH]; exact hg
  clear hH
  generalize hlo : ([] : List Loc) = locs at hS ⊢
  refine lv_aload_n hx hb dX3_around_0 rfl (lv_at hl 0 rfl) ?_
  have hPc := hP.sub (ws' := (wPla ad cI cJ cZ sl ho nu fa ou sp fn co fo ro po pn rd st tw od rn x y u sn)) [0, 1, 2, 3, 4, 5, 6, 7, 8, 9, 10, 11, 12, 13, 14, 15, 16, 17, 18, 19] rfl
  have hDc := hD.sub (ws' := (wPla ad cI cJ cZ sl ho nu fa ou sp fn co fo ro po pn rd st tw od rn x y u sn)) [0, 1, 2, 3, 4, 5, 6, 7, 8, 9, 10, 11, 12, 13, 14, 15, 16, 17, 18, 19] (by decide) rfl
  have hFc := va_free (wc := (wPla ad cI cJ cZ sl ho nu fa ou sp fn co fo ro po pn rd st tw od rn x y u sn)) hD hS hA [0, 1, 2, 3, 4, 5, 6, 7, 8, 9, 10, 11, 12, 13, 14, 15, 16, 17, 18, 19] rfl
  refine va_callv (va_runV (As := []) (rest := []) C (c_X3_refresh l dC dI cI cJ cZ ad _ sl ho nu fa ou sp fn co fo ro po pn rd st tw od rn x y u sn  hw) (cwV 0 hts gX3_around_X3_refresh rfl rfl rfl (by decide +kernel) ⟨Nat.le_of_ble_eq_true rfl, Nat.le_of_ble_eq_true rfl⟩) ⟨fb_rw, va_recv hK hPc (ci := 3) (q0 := 0) rfl rfl, fun U hU hW => ⟨rfl, by rw [hU], by rw [hU]; exact hPc, va_K.moved hW.alike hK, hDc.weaken (fun _ _ _ _ => trivial)⟩⟩ rfl rfl hl.1 rfl (lv_room (Nat.le_of_ble_eq_true rfl)) dX3_around_1 ⟨Nat.zero_le _, Nat.zero_le _⟩) hS (fun q _ h => hFc q h) hFc (fun uu t H1 locs ht hvm hw hB hz1 hk1 hS => ?_)
  obtain ⟨sl_1, ho_2, nu_3, fa_4, ou_5, fn_6, co_7, fo_8, ro_9, po_10, pn_11, rd_12, st_13, tw_14, od_15, rn_16⟩ := uu
  obtain ⟨hP1, hD1⟩ := hB
  rw [ht] at hP1
  try dsimp only at hw hP1 hD1
  obtain ⟨hP, hD⟩ := va_join (wr := []) (w1 := (wPla ad cI cJ cZ sl_1 ho_2 nu_3 fa_4 ou_5 sp fn_6 co_7 fo_8 ro_9 po_10 pn_11 rd_12 st_13 tw_14 od_15 rn_16 x y u sn)) hP hD [0, 1, 2, 3, 4, 5, 6, 7, 8, 9, 10, 11, 12, 13, 14, 15, 16, 17, 18, 19] [] rfl rfl (by decide) (by decide) hk1 hFc hP1 hD1
  generalize H1 = H at hP hS ⊢
  have hP : va_P (dC, dI) vwCl (wPla ad cI cJ cZ sl_1 ho_2 nu_3 fa_4 ou_5 sp fn_6 co_7 fo_8 ro_9 po_10 pn_11 rd_12 st_13 tw_14 od_15 rn_16 x y u sn) H := hP
  have hD : va_D A (wPla ad cI cJ cZ sl_1 ho_2 nu_3 fa_4 ou_5 sp fn_6 co_7 fo_8 ro_9 po_10 pn_11 rd_12 st_13 tw_14 od_15 rn_16 x y u sn) := hD
  refine lv_iload_n hx hb dX3_around_4 rfl (lv_at hl 1 rfl) ?_
  refine jn0_use (J := ∀ (ls : Array Slot) (H : Heap) (locs : List Loc), lv_has ls 2 [(0, .ref (ad 0))] → va_P (dC, dI) vwCl (wPla ad cI cJ cZ sl_1 ho_2 nu_3 fa_4 ou_5 sp fn_6 co_7 fo_8 ro_9 po_10 pn_11 rd_12 st_13 tw_14 od_15 rn_16 x y u sn) H → va_D A (wPla ad cI cJ cZ sl_1 ho_2 nu_3 fa_4 ou_5 sp fn_6 co_7 fo_8 ro_9 po_10 pn_11 rd_12 st_13 tw_14 od_15 rn_16 x y u sn) → va_S A s.heap H locs → W p l e rm_X3_around s m args below meth c H locs 0 0 Q (F0 m 19 ls [])) hw (fun hw ls H locs hl hP hD hS => ?_) (fun hw hj0 => ?_)
  · exact hw.elim
  · have hj18 := hj0
    refine lv_if_lt (tgt := 19) hx hb dX3_around_5 (by decide) (fun hc => ?_) (fun hc => ?_)
    · have hw := hw.1 (hc)
      exact hj18 hw ls _ _ (lv_sub hl [0] rfl) hP hD hS
    · have hw := hw.2 hc
      refine lv_iload_n hx hb dX3_around_8 rfl (lv_at hl 1 rfl) ?_
      refine lv_aload_n hx hb dX3_around_9 rfl (lv_at hl 0 rfl) ?_
      refine va_get (D := (dC, dI)) (ci := 3) (v := .ref (ad 7)) (C := RX3) (T := TX3) (N := 4) hx hb hts f_X3_around_1 hown hK hP 0 rfl rfl 1 (by decide) (hts _ f_X3_around_0) (fun _ h9 => h9) rfl dX3_around_10 ?_
      refine va_get (D := (dC, dI)) (ci := 1) (v := .int pn_11) (C := RX1) (T := TX1) (N := 11) hx hb hts f_X3_around_3 hown hK hP 7 rfl rfl 5 (by decide) (hts _ f_X3_around_2) (fun _ h9 => h9) rfl dX3_around_13 ?_
      refine lv_icmp_lt (tgt := 29) hx hb dX3_around_16 (by decide) (fun hc => ?_) (fun hc => ?_)
      · have hw := hw.1 (hc)
        refine lv_aload_n hx hb dX3_around_29 rfl (lv_at hl 0 rfl) ?_
        refine va_get (D := (dC, dI)) (ci := 3) (v := .ref (ad 1)) (C := RX3) (T := TX3) (N := 4) hx hb hts f_X3_around_1 hown hK hP 0 rfl rfl 2 (by decide) (hts _ f_X3_around_4) (fun _ h9 => h9) rfl dX3_around_30 ?_
        refine va_get (D := (dC, dI)) (ci := 0) (v := .ref (ad 5)) (C := RX0) (T := TX0) (N := 8) hx hb hts f_X3_around_6 hown hK hP 1 rfl rfl 5 (by decide) (hts _ f_X3_around_5) (fun _ h9 => h9) rfl dX3_around_33 ?_
        refine lv_iload_n hx hb dX3_around_36 rfl (lv_at hl 1 rfl) ?_
        have hi := hw.1
        have hw := hw.2
        refine va_iald hx hb hK hP 5 0 rfl rfl hi dX3_around_37 ?_
        rw [← hQ]
        exact W.iret (v := (ou_5 v1.toNatClampNeg)) hx hb hr (fun t ht hW => ⟨⟨_, (sl_1, ho_2, nu_3, fa_4, ou_5, fn_6, co_7, fo_8, ro_9, po_10, pn_11, rd_12, st_13, tw_14, od_15, rn_16), rfl, hw, by rw [ht]; exact hP, hD⟩, hS.F ht⟩) hS.2.2 dX3_around_38
      · have hw := hw.2 hc
        exact hj18 hw ls _ _ (lv_sub hl [0] rfl) hP hD hS
-- X3_around throws
abbrev rmx_X3_around : Room := { frames := 6, cells := 1, slots := 6, locals := 142 }
theorem fx_X3_around_0 : ∀ w ∈ (vx_atS RX3 116 "java/lang/IndexOutOfBoundsException" ["java/lang/RuntimeException", "java/lang/Exception"]).filter goodWord, w ∈ wsX3_around := by decide +kernel
theorem fx_X3_around_1 : ∀ w ∈ (vx_atS RX3 116 "java/lang/IndexOutOfBoundsException" ["java/lang/RuntimeException", "java/lang/Exception"]).filter (fun w => !goodWord w), w ∈ [Cond.castable "java/lang/IndexOutOfBoundsException" "java/lang/IndexOutOfBoundsException", .declares (Bundle.initS "java/lang/RuntimeException"), .declares (Bundle.initS "java/lang/Exception"), .declares (Bundle.initS "java/lang/Throwable")] := by decide +kernel
theorem fx_X3_around_2 : ∀ w ∈ Cond.classLink RX3 112 "java/lang/IndexOutOfBoundsException" :: Cond.initialized "java/lang/IndexOutOfBoundsException" :: vx_atS RX3 116 "java/lang/IndexOutOfBoundsException" ["java/lang/RuntimeException", "java/lang/Exception"], vx_ot w = true := by decide +kernel
theorem fx_X3_around_3 : (Cond.classLink RX3 112 "java/lang/IndexOutOfBoundsException") ∈ wsX3_around := by decide +kernel
theorem fx_X3_around_4 : (Cond.initialized "java/lang/IndexOutOfBoundsException") ∈ wsX3_around := by decide +kernel
theorem fx_X3_around_5 : (Cond.fieldLink RX3 20 "PlaneFaces" "rounds" "LPlaneFaces$Rounds;") ∈ wsX3_around := by decide +kernel
theorem fx_X3_around_6 : ∀ w ∈ wsX30, w ∈ wsX3_around := by decide +kernel
theorem fx_X3_around_7 : (Cond.fieldLink RX3 86 "PlaneFaces$Rounds" "pieces" "I") ∈ wsX3_around := by decide +kernel
theorem fx_X3_around_8 : ∀ w ∈ wsX10, w ∈ wsX3_around := by decide +kernel
theorem fx_X3_around_9 : (Cond.fieldLink RX3 12 "PlaneFaces" "faces" "LPlaneFaces$Faces;") ∈ wsX3_around := by decide +kernel
theorem fx_X3_around_10 : (Cond.fieldLink RX3 117 "PlaneFaces$Faces" "outside" "[I") ∈ wsX3_around := by decide +kernel
theorem fx_X3_around_11 : ∀ w ∈ wsX00, w ∈ wsX3_around := by decide +kernel
set_option maxRecDepth 100000 in
set_option maxHeartbeats 4000000 in
theorem cx_X3_around (l : Launch) (hst : l.stackTraces = false) (dC : Nat → ClassId) (dI : Nat → Nat → Nat) (cI cJ cZ : ClassId) (ad : Nat → Nat) (sz : Nat) (sl : Int32) (ho : Nat → Int32) (nu : Nat → Int32) (fa : Nat → Int32) (ou : Nat → Int32) (sp : Nat → Int32) (fn : Int32) (co : Nat → Int32) (fo : Nat → Int32) (ro : Nat → Int32) (po : Nat → Int32) (pn : Int32) (rd : Nat → Int32) (st : Nat → Int32) (tw : Nat → Int64) (od : Nat → Int32) (rn : Int32) (x : Nat → Int32) (y : Nat → Int32) (u : Nat → Int32) (sn : Int32) (v1 : Int32) {px : String → Int32 → (Nat → Int32) → (Nat → Int32) → (Nat → Int32) → (Nat → Int32) → Int32 → (Nat → Int32) → (Nat → Int32) → (Nat → Int32) → (Nat → Int32) → Int32 → (Nat → Int32) → (Nat → Int32) → (Nat → Int64) → (Nat → Int32) → Int32 → Prop} (hw : wpx_X3_around sl ho nu fa ou fn co fo ro po pn rd st tw od rn x y u v1 px) : vx_Met l yX3_around wsX3_around rmx_X3_around (va_Pc [.ref (ad 0), .int v1] (fun U => U.heap.size = sz ∧ va_P (dC, dI) vwCl (wPla ad cI cJ cZ sl ho nu fa ou sp fn co fo ro po pn rd st tw od rn x y u sn) U.heap ∧ va_K (dC, dI) vwCl (tyL cI cJ cZ) U ∧ va_D (fun _ => True) (wPla ad cI cJ cZ sl ho nu fa ou sp fn co fo ro po pn rd st tw od rn x y u sn) ∧ xe (va_A (wPla ad cI cJ cZ sl ho nu fa ou sp fn co fo ro po pn rd st tw od rn x y u sn) sz) U U.heap)) (va_Qi (fun (_ : Int32) (_ : Unit) => False) (fun _ _ => True) (va_A (wPla ad cI cJ cZ sl ho nu fa ou sp fn co fo ro po pn rd st tw od rn x y u sn) sz)) (vx_X (fun _ : Int32 × (Nat → Int32) × (Nat → Int32) × (Nat → Int32) × (Nat → Int32) × Int32 × (Nat → Int32) × (Nat → Int32) × (Nat → Int32) × (Nat → Int32) × Int32 × (Nat → Int32) × (Nat → Int32) × (Nat → Int64) × (Nat → Int32) × Int32 => True) (fun (E : String) (uu : Int32 × (Nat → Int32) × (Nat → Int32) × (Nat → Int32) × (Nat → Int32) × Int32 × (Nat → Int32) × (Nat → Int32) × (Nat → Int32) × (Nat → Int32) × Int32 × (Nat → Int32) × (Nat → Int32) × (Nat → Int64) × (Nat → Int32) × Int32) (t : State) => px E uu.1 uu.2.1 uu.2.2.1 uu.2.2.2.1 uu.2.2.2.2.1 uu.2.2.2.2.2.1 uu.2.2.2.2.2.2.1 uu.2.2.2.2.2.2.2.1 uu.2.2.2.2.2.2.2.2.1 uu.2.2.2.2.2.2.2.2.2.1 uu.2.2.2.2.2.2.2.2.2.2.1 uu.2.2.2.2.2.2.2.2.2.2.2.1 uu.2.2.2.2.2.2.2.2.2.2.2.2.1 uu.2.2.2.2.2.2.2.2.2.2.2.2.2.1 uu.2.2.2.2.2.2.2.2.2.2.2.2.2.2.1 uu.2.2.2.2.2.2.2.2.2.2.2.2.2.2.2 ∧ va_P (dC, dI) vwCl (wPla ad cI cJ cZ uu.1 uu.2.1 uu.2.2.1 uu.2.2.2.1 uu.2.2.2.2.1 sp uu.2.2.2.2.2.1 uu.2.2.2.2.2.2.1 uu.2.2.2.2.2.2.2.1 uu.2.2.2.2.2.2.2.2.1 uu.2.2.2.2.2.2.2.2.2.1 uu.2.2.2.2.2.2.2.2.2.2.1 uu.2.2.2.2.2.2.2.2.2.2.2.1 uu.2.2.2.2.2.2.2.2.2.2.2.2.1 uu.2.2.2.2.2.2.2.2.2.2.2.2.2.1 uu.2.2.2.2.2.2.2.2.2.2.2.2.2.2.1 uu.2.2.2.2.2.2.2.2.2.2.2.2.2.2.2 x y u sn) t.heap ∧ va_D (va_A (wPla ad cI cJ cZ sl ho nu fa ou sp fn co fo ro po pn rd st tw od rn x y u sn) sz) (wPla ad cI cJ cZ uu.1 uu.2.1 uu.2.2.1 uu.2.2.2.1 uu.2.2.2.2.1 sp uu.2.2.2.2.2.1 uu.2.2.2.2.2.2.1 uu.2.2.2.2.2.2.2.1 uu.2.2.2.2.2.2.2.2.1 uu.2.2.2.2.2.2.2.2.2.1 uu.2.2.2.2.2.2.2.2.2.2.1 uu.2.2.2.2.2.2.2.2.2.2.2.1 uu.2.2.2.2.2.2.2.2.2.2.2.2.1 uu.2.2.2.2.2.2.2.2.2.2.2.2.2.1 uu.2.2.2.2.2.2.2.2.2.2.2.2.2.2.1 uu.2.2.2.2.2.2.2.2.2.2.2.2.2.2.2 x y u sn)) (va_A (wPla ad cI cJ cZ sl ho nu fa ou sp fn co fo ro po pn rd st tw od rn x y u sn) sz)) 1 6 (va_A (wPla ad cI cJ cZ sl ho nu fa ou sp fn co fo ro po pn rd st tw od rn x y u sn) sz) := by
  unfold wpx_X3_around at hw
  refine vx_ofW (cc := cX3_around) (maxL := 2) (ret := (some .int)) (by decide) rfl ?_
  intro p e s m args below meth c s₁ B hml hnt hv
  obtain ⟨hav, hsz, hP, hK, hD0, hxe⟩ := hv
  have hx := B.exec
  have hb := B.bytes
  have hr := B.returns
  have hts := atoms_spec (ws := wsX3_around) B.pre
  have hown : s.vm.findClass RX3 = some m.cls := findClass_of_methodNamed B.named
  have hlocks := B.notSynchronized
  have C : CallFix p m c cX3_around 2 s args wsX3_around RX3 := ⟨hx, hb, hml, hown, hts⟩
  obtain ⟨ls, hE, hl⟩ := mx_entry (m := m) [.ref (ad 0), .int v1] (n := 2) (Nat.le_of_ble_eq_true rfl)
  have hl : lv_has ls 2 [(0, .ref (ad 0)), (1, .int v1)] := hl
  rw [show entryFrame m args 2 = F0 m 0 ls [] by rw [hav]; exact hE]
  subst hsz
  have hD := hD0.self (sz := s.heap.size)
  generalize hAe : va_A (wPla ad cI cJ cZ sl ho nu fa ou sp fn co fo ro po pn rd st tw od rn x y u sn) s.heap.size = A at hD hxe ⊢
  have hA : ∀ q : Nat, s.heap.size ≤ q → A q := fun q h => by rw [← hAe]; exact Or.inr h
  have hS : va_S A s.heap s.heap [] := va_S.rf
  obtain ⟨Q, hQ⟩ : ∃ Q, vx_MQ below (va_Qi (fun (_ : Int32) (_ : Unit) => False) (fun _ _ => True) A) (vx_X (fun _ : Int32 × (Nat → Int32) × (Nat → Int32) × (Nat → Int32) × (Nat → Int32) × Int32 × (Nat → Int32) × (Nat → Int32) × (Nat → Int32) × (Nat → Int32) × Int32 × (Nat → Int32) × (Nat → Int32) × (Nat → Int64) × (Nat → Int32) × Int32 => True) (fun (E : String) (uu : Int32 × (Nat → Int32) × (Nat → Int32) × (Nat → Int32) × (Nat → Int32) × Int32 × (Nat → Int32) × (Nat → Int32) × (Nat → Int32) × (Nat → Int32) × Int32 × (Nat → Int32) × (Nat → Int32) × (Nat → Int64) × (Nat → Int32) × Int32) (t : State) => px E uu.1 uu.2.1 uu.2.2.1 uu.2.2.2.1 uu.2.2.2.2.1 uu.2.2.2.2.2.1 uu.2.2.2.2.2.2.1 uu.2.2.2.2.2.2.2.1 uu.2.2.2.2.2.2.2.2.1 uu.2.2.2.2.2.2.2.2.2.1 uu.2.2.2.2.2.2.2.2.2.2.1 uu.2.2.2.2.2.2.2.2.2.2.2.1 uu.2.2.2.2.2.2.2.2.2.2.2.2.1 uu.2.2.2.2.2.2.2.2.2.2.2.2.2.1 uu.2.2.2.2.2.2.2.2.2.2.2.2.2.2.1 uu.2.2.2.2.2.2.2.2.2.2.2.2.2.2.2 ∧ va_P (dC, dI) vwCl (wPla ad cI cJ cZ uu.1 uu.2.1 uu.2.2.1 uu.2.2.2.1 uu.2.2.2.2.1 sp uu.2.2.2.2.2.1 uu.2.2.2.2.2.2.1 uu.2.2.2.2.2.2.2.1 uu.2.2.2.2.2.2.2.2.1 uu.2.2.2.2.2.2.2.2.2.1 uu.2.2.2.2.2.2.2.2.2.2.1 uu.2.2.2.2.2.2.2.2.2.2.2.1 uu.2.2.2.2.2.2.2.2.2.2.2.2.1 uu.2.2.2.2.2.2.2.2.2.2.2.2.2.1 uu.2.2.2.2.2.2.2.2.2.2.2.2.2.2.1 uu.2.2.2.2.2.2.2.2.2.2.2.2.2.2.2 x y u sn) t.heap ∧ va_D A (wPla ad cI cJ cZ uu.1 uu.2.1 uu.2.2.1 uu.2.2.2.1 uu.2.2.2.2.1 sp uu.2.2.2.2.2.1 uu.2.2.2.2.2.2.1 uu.2.2.2.2.2.2.2.1 uu.2.2.2.2.2.2.2.2.1 uu.2.2.2.2.2.2.2.2.2.1 uu.2.2.2.2.2.2.2.2.2.2.1 uu.2.2.2.2.2.2.2.2.2.2.2.1 uu.2.2.2.2.2.2.2.2.2.2.2.2.1 uu.2.2.2.2.2.2.2.2.2.2.2.2.2.1 uu.2.2.2.2.2.2.2.2.2.2.2.2.2.2.1 uu.2.2.2.2.2.2.2.2.2.2.2.2.2.2.2 x y u sn)) A) args s 1 6 A = Q := ⟨_, rfl⟩
  rw [hQ]
  obtain ⟨H, hH⟩ : ∃ H, s.heap = H := ⟨_, rfl⟩
  have hS : va_S A s.heap H [] := by rw [← hH]; exact hS
  rw [hH] at hP
  show W p l e rmx_X3_around s m args below meth c s.heap [] 0 0 Q (F0 m 0 ls [])
  suffices hg : W p l e rmx_X3_around s m args below meth c H [] 0 0 Q (F0 m 0 ls []) by rw [hH]; exact hg
  clear hH
  generalize hlo : ([] : List Loc) = locs at hS ⊢
  refine lv_aload_n hx hb dX3_around_0 rfl (lv_at hl 0 rfl) ?_
  have hPc := hP.sub (ws' := (wPla ad cI cJ cZ sl ho nu fa ou sp fn co fo ro po pn rd st tw od rn x y u sn)) [0, 1, 2, 3, 4, 5, 6, 7, 8, 9, 10, 11, 12, 13, 14, 15, 16, 17, 18, 19] rfl
  have hDc := hD.sub (ws' := (wPla ad cI cJ cZ sl ho nu fa ou sp fn co fo ro po pn rd st tw od rn x y u sn)) [0, 1, 2, 3, 4, 5, 6, 7, 8, 9, 10, 11, 12, 13, 14, 15, 16, 17, 18, 19] (by decide) rfl
  have hFc := va_free (wc := (wPla ad cI cJ cZ sl ho nu fa ou sp fn co fo ro po pn rd st tw od rn x y u sn)) hD hS hA [0, 1, 2, 3, 4, 5, 6, 7, 8, 9, 10, 11, 12, 13, 14, 15, 16, 17, 18, 19] rfl
  refine va_callv (va_runV (As := []) (rest := []) C (c_X3_refresh l dC dI cI cJ cZ ad _ sl ho nu fa ou sp fn co fo ro po pn rd st tw od rn x y u sn  hw) (cwV 0 hts gX3_around_X3_refresh rfl rfl rfl (by decide +kernel) ⟨Nat.le_of_ble_eq_true rfl, Nat.le_of_ble_eq_true rfl⟩) ⟨fb_rw, va_recv hK hPc (ci := 3) (q0 := 0) rfl rfl, fun U hU hW => ⟨rfl, by rw [hU], by rw [hU]; exact hPc, va_K.moved hW.alike hK, hDc.weaken (fun _ _ _ _ => trivial)⟩⟩ rfl rfl hl.1 rfl (lv_room (Nat.le_of_ble_eq_true rfl)) dX3_around_1 ⟨Nat.zero_le _, Nat.zero_le _⟩) hS (fun q _ h => hFc q h) hFc (fun uu t H1 locs ht hvm hw hB hz1 hk1 hS => ?_)
  obtain ⟨sl_1, ho_2, nu_3, fa_4, ou_5, fn_6, co_7, fo_8, ro_9, po_10, pn_11, rd_12, st_13, tw_14, od_15, rn_16⟩ := uu
  obtain ⟨hP1, hD1⟩ := hB
  rw [ht] at hP1
  try dsimp only at hw hP1 hD1
  obtain ⟨hP, hD⟩ := va_join (wr := []) (w1 := (wPla ad cI cJ cZ sl_1 ho_2 nu_3 fa_4 ou_5 sp fn_6 co_7 fo_8 ro_9 po_10 pn_11 rd_12 st_13 tw_14 od_15 rn_16 x y u sn)) hP hD [0, 1, 2, 3, 4, 5, 6, 7, 8, 9, 10, 11, 12, 13, 14, 15, 16, 17, 18, 19] [] rfl rfl (by decide) (by decide) hk1 hFc hP1 hD1
  generalize H1 = H at hP hS ⊢
  have hP : va_P (dC, dI) vwCl (wPla ad cI cJ cZ sl_1 ho_2 nu_3 fa_4 ou_5 sp fn_6 co_7 fo_8 ro_9 po_10 pn_11 rd_12 st_13 tw_14 od_15 rn_16 x y u sn) H := hP
  have hD : va_D A (wPla ad cI cJ cZ sl_1 ho_2 nu_3 fa_4 ou_5 sp fn_6 co_7 fo_8 ro_9 po_10 pn_11 rd_12 st_13 tw_14 od_15 rn_16 x y u sn) := hD
  refine lv_iload_n hx hb dX3_around_4 rfl (lv_at hl 1 rfl) ?_
  refine jn0_use (J := ∀ (ls : Array Slot) (H : Heap) (locs : List Loc), lv_has ls 2 [(0, .ref (ad 0))] → va_P (dC, dI) vwCl (wPla ad cI cJ cZ sl_1 ho_2 nu_3 fa_4 ou_5 sp fn_6 co_7 fo_8 ro_9 po_10 pn_11 rd_12 st_13 tw_14 od_15 rn_16 x y u sn) H → va_D A (wPla ad cI cJ cZ sl_1 ho_2 nu_3 fa_4 ou_5 sp fn_6 co_7 fo_8 ro_9 po_10 pn_11 rd_12 st_13 tw_14 od_15 rn_16 x y u sn) → va_S A s.heap H locs → W p l e rmx_X3_around s m args below meth c H locs 0 0 Q (F0 m 19 ls [])) hw (fun hw ls H locs hl hP hD hS => ?_) (fun hw hj0 => ?_)
  · obtain ⟨sa, hsa⟩ := hxe.2.2.1.2.2.1
    rw [← hQ]
    exact vx_throwS (A := A) (own := RX3) (cls := "java/lang/IndexOutOfBoundsException") (text := "no such piece") (names := ["java/lang/RuntimeException", "java/lang/Exception"]) (sa := sa) hx hb hst hown (by decide +kernel) (by decide +kernel) (hts _ fx_X3_around_3) (hts _ fx_X3_around_4) hsa (vx_hat (fun w h9 => hts w (fx_X3_around_0 w h9)) fx_X3_around_1 (xw_O hxe.2.2.2)) fx_X3_around_2 hxe.1 hxe.2.1 hS (hl.1.trans hml.symm) dX3_around_19 dX3_around_22 dX3_around_23 dX3_around_25 dX3_around_28 (fun x9 h9 => (hnt x9 h9).elim) (Nat.le_of_ble_eq_true rfl) (Nat.le_of_ble_eq_true rfl) (Nat.le_of_ble_eq_true rfl) (Nat.le_of_ble_eq_true rfl) hlocks (fun t hvm hsz hk => ⟨(sl_1, ho_2, nu_3, fa_4, ou_5, fn_6, co_7, fo_8, ro_9, po_10, pn_11, rd_12, st_13, tw_14, od_15, rn_16), trivial, ⟨hw, hP.kept (fun k q hq => hk q.1 (vx_lt hP hq)), hD⟩, ⟨Nat.le_trans hS.1 hsz, fun q h1 h2 => (hk q (Nat.lt_of_lt_of_le h1 hS.1)).trans (hS.2.1 q h1 h2)⟩⟩) hS.2.2 (Nat.le_of_ble_eq_true rfl) (Nat.le_of_ble_eq_true rfl)
  · have hj18 := hj0
    refine lv_if_lt (tgt := 19) hx hb dX3_around_5 (by decide) (fun hc => ?_) (fun hc => ?_)
    · have hw := hw.1 (hc)
      exact hj18 hw ls _ _ (lv_sub hl [0] rfl) hP hD hS
    · have hw := hw.2 hc
      refine lv_iload_n hx hb dX3_around_8 rfl (lv_at hl 1 rfl) ?_
      refine lv_aload_n hx hb dX3_around_9 rfl (lv_at hl 0 rfl) ?_
      refine va_get (D := (dC, dI)) (ci := 3) (v := .ref (ad 7)) (C := RX3) (T := TX3) (N := 4) hx hb hts fx_X3_around_6 hown hK hP 0 rfl rfl 1 (by decide) (hts _ fx_X3_around_5) (fun _ h9 => h9) rfl dX3_around_10 ?_
      refine va_get (D := (dC, dI)) (ci := 1) (v := .int pn_11) (C := RX1) (T := TX1) (N := 11) hx hb hts fx_X3_around_8 hown hK hP 7 rfl rfl 5 (by decide) (hts _ fx_X3_around_7) (fun _ h9 => h9) rfl dX3_around_13 ?_
      refine lv_icmp_lt (tgt := 29) hx hb dX3_around_16 (by decide) (fun hc => ?_) (fun hc => ?_)
      · have hw := hw.1 (hc)
        refine lv_aload_n hx hb dX3_around_29 rfl (lv_at hl 0 rfl) ?_
        refine va_get (D := (dC, dI)) (ci := 3) (v := .ref (ad 1)) (C := RX3) (T := TX3) (N := 4) hx hb hts fx_X3_around_6 hown hK hP 0 rfl rfl 2 (by decide) (hts _ fx_X3_around_9) (fun _ h9 => h9) rfl dX3_around_30 ?_
        refine va_get (D := (dC, dI)) (ci := 0) (v := .ref (ad 5)) (C := RX0) (T := TX0) (N := 8) hx hb hts fx_X3_around_11 hown hK hP 1 rfl rfl 5 (by decide) (hts _ fx_X3_around_10) (fun _ h9 => h9) rfl dX3_around_33 ?_
        refine lv_iload_n hx hb dX3_around_36 rfl (lv_at hl 1 rfl) ?_
        have hi := hw.1
        have hw := hw.2
        refine va_iald hx hb hK hP 5 0 rfl rfl hi dX3_around_37 ?_
        exact hw.elim
      · have hw := hw.2 hc
        exact hj18 hw ls _ _ (lv_sub hl [0] rfl) hP hD hS
