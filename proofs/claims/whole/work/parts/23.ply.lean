-- X3_area
abbrev rm_X3_area : Room := { frames := 6, cells := 0, slots := 0, locals := 142 }
theorem f_X3_area_0 : (Cond.fieldLink RX3 12 "PlaneFaces" "faces" "LPlaneFaces$Faces;") ∈ wsX3_area := by decide +kernel
theorem f_X3_area_1 : ∀ w ∈ wsX30, w ∈ wsX3_area := by decide +kernel
set_option maxRecDepth 100000 in
set_option maxHeartbeats 4000000 in
theorem c_X3_area (l : Launch) (dC : Nat → ClassId) (dI : Nat → Nat → Nat) (cI cJ cZ : ClassId) (ad : Nat → Nat) (sz : Nat) (sl : Int32) (ho : Nat → Int32) (nu : Nat → Int32) (fa : Nat → Int32) (ou : Nat → Int32) (sp : Nat → Int32) (fn : Int32) (co : Nat → Int32) (fo : Nat → Int32) (ro : Nat → Int32) (po : Nat → Int32) (pn : Int32) (rd : Nat → Int32) (st : Nat → Int32) (tw : Nat → Int64) (od : Nat → Int32) (rn : Int32) (x : Nat → Int32) (y : Nat → Int32) (u : Nat → Int32) (sn : Int32) (v1 : Int32) {post : Int32 → Int32 → (Nat → Int32) → (Nat → Int32) → (Nat → Int32) → (Nat → Int32) → Int32 → (Nat → Int32) → (Nat → Int32) → (Nat → Int32) → (Nat → Int32) → Int32 → (Nat → Int32) → (Nat → Int32) → (Nat → Int64) → (Nat → Int32) → Int32 → Prop} (hw : wp_X3_area sl ho nu fa ou fn co fo ro po pn rd st tw od rn x y u v1 post) : Met l yX3_area wsX3_area rm_X3_area (va_Pc [.ref (ad 0), .int v1] (fun U => U.heap.size = sz ∧ va_P (dC, dI) vwCl (wPla ad cI cJ cZ sl ho nu fa ou sp fn co fo ro po pn rd st tw od rn x y u sn) U.heap ∧ va_K (dC, dI) vwCl (tyL cI cJ cZ) U ∧ va_D (fun _ => True) (wPla ad cI cJ cZ sl ho nu fa ou sp fn co fo ro po pn rd st tw od rn x y u sn))) (va_Qi (fun (r : Int32) (uu : Int32 × (Nat → Int32) × (Nat → Int32) × (Nat → Int32) × (Nat → Int32) × Int32 × (Nat → Int32) × (Nat → Int32) × (Nat → Int32) × (Nat → Int32) × Int32 × (Nat → Int32) × (Nat → Int32) × (Nat → Int64) × (Nat → Int32) × Int32) => post r uu.1 uu.2.1 uu.2.2.1 uu.2.2.2.1 uu.2.2.2.2.1 uu.2.2.2.2.2.1 uu.2.2.2.2.2.2.1 uu.2.2.2.2.2.2.2.1 uu.2.2.2.2.2.2.2.2.1 uu.2.2.2.2.2.2.2.2.2.1 uu.2.2.2.2.2.2.2.2.2.2.1 uu.2.2.2.2.2.2.2.2.2.2.2.1 uu.2.2.2.2.2.2.2.2.2.2.2.2.1 uu.2.2.2.2.2.2.2.2.2.2.2.2.2.1 uu.2.2.2.2.2.2.2.2.2.2.2.2.2.2.1 uu.2.2.2.2.2.2.2.2.2.2.2.2.2.2.2) (fun (uu : Int32 × (Nat → Int32) × (Nat → Int32) × (Nat → Int32) × (Nat → Int32) × Int32 × (Nat → Int32) × (Nat → Int32) × (Nat → Int32) × (Nat → Int32) × Int32 × (Nat → Int32) × (Nat → Int32) × (Nat → Int64) × (Nat → Int32) × Int32) (t : State) => va_P (dC, dI) vwCl (wPla ad cI cJ cZ uu.1 uu.2.1 uu.2.2.1 uu.2.2.2.1 uu.2.2.2.2.1 sp uu.2.2.2.2.2.1 uu.2.2.2.2.2.2.1 uu.2.2.2.2.2.2.2.1 uu.2.2.2.2.2.2.2.2.1 uu.2.2.2.2.2.2.2.2.2.1 uu.2.2.2.2.2.2.2.2.2.2.1 uu.2.2.2.2.2.2.2.2.2.2.2.1 uu.2.2.2.2.2.2.2.2.2.2.2.2.1 uu.2.2.2.2.2.2.2.2.2.2.2.2.2.1 uu.2.2.2.2.2.2.2.2.2.2.2.2.2.2.1 uu.2.2.2.2.2.2.2.2.2.2.2.2.2.2.2 x y u sn) t.heap ∧ va_D (va_A (wPla ad cI cJ cZ sl ho nu fa ou sp fn co fo ro po pn rd st tw od rn x y u sn) sz) (wPla ad cI cJ cZ uu.1 uu.2.1 uu.2.2.1 uu.2.2.2.1 uu.2.2.2.2.1 sp uu.2.2.2.2.2.1 uu.2.2.2.2.2.2.1 uu.2.2.2.2.2.2.2.1 uu.2.2.2.2.2.2.2.2.1 uu.2.2.2.2.2.2.2.2.2.1 uu.2.2.2.2.2.2.2.2.2.2.1 uu.2.2.2.2.2.2.2.2.2.2.2.1 uu.2.2.2.2.2.2.2.2.2.2.2.2.1 uu.2.2.2.2.2.2.2.2.2.2.2.2.2.1 uu.2.2.2.2.2.2.2.2.2.2.2.2.2.2.1 uu.2.2.2.2.2.2.2.2.2.2.2.2.2.2.2 x y u sn)) (va_A (wPla ad cI cJ cZ sl ho nu fa ou sp fn co fo ro po pn rd st tw od rn x y u sn) sz)) 0 0 (va_A (wPla ad cI cJ cZ sl ho nu fa ou sp fn co fo ro po pn rd st tw od rn x y u sn) sz) := by
  unfold wp_X3_area at hw
  refine Met.ofW (cc := cX3_area) (maxL := 2) (ret := (some .int)) (by decide) rfl ?_
  intro p e s m args below meth c s₁ B hml hv
  obtain ⟨hav, hsz, hP, hK, hD0⟩ := hv
  have hx := B.exec
  have hb := B.bytes
  have hr := B.returns
  have hts := atoms_spec (ws := wsX3_area) B.pre
  have hown : s.vm.findClass RX3 = some m.cls := findClass_of_methodNamed B.named
  have hlocks := B.notSynchronized
  have C : CallFix p m c cX3_area 2 s args wsX3_area RX3 := ⟨hx, hb, hml, hown, hts⟩
  obtain ⟨ls, hE, hl⟩ := mx_entry (m := m) [.ref (ad 0), .int v1] (n := 2) (Nat.le_of_ble_eq_true rfl)
  have hl : lv_has ls 2 [(0, .ref (ad 0)), (1, .int v1)] := hl
  rw [show entryFrame m args 2 = F0 m 0 ls [] by rw [hav]; exact hE]
  subst hsz
  have hD := hD0.self (sz := s.heap.size)
  generalize hAe : va_A (wPla ad cI cJ cZ sl ho nu fa ou sp fn co fo ro po pn rd st tw od rn x y u sn) s.heap.size = A at hD ⊢
  have hA : ∀ q : Nat, s.heap.size ≤ q → A q := fun q h => by rw [← hAe]; exact Or.inr h
  have hS : va_S A s.heap s.heap [] := va_S.rf
  obtain ⟨Q, hQ⟩ : ∃ Q, MQ below (va_Qi (fun (r : Int32) (uu : Int32 × (Nat → Int32) × (Nat → Int32) × (Nat → Int32) × (Nat → Int32) × Int32 × (Nat → Int32) × (Nat → Int32) × (Nat → Int32) × (Nat → Int32) × Int32 × (Nat → Int32) × (Nat → Int32) × (Nat → Int64) × (Nat → Int32) × Int32) => post r uu.1 uu.2.1 uu.2.2.1 uu.2.2.2.1 uu.2.2.2.2.1 uu.2.2.2.2.2.1 uu.2.2.2.2.2.2.1 uu.2.2.2.2.2.2.2.1 uu.2.2.2.2.2.2.2.2.1 uu.2.2.2.2.2.2.2.2.2.1 uu.2.2.2.2.2.2.2.2.2.2.1 uu.2.2.2.2.2.2.2.2.2.2.2.1 uu.2.2.2.2.2.2.2.2.2.2.2.2.1 uu.2.2.2.2.2.2.2.2.2.2.2.2.2.1 uu.2.2.2.2.2.2.2.2.2.2.2.2.2.2.1 uu.2.2.2.2.2.2.2.2.2.2.2.2.2.2.2) (fun (uu : Int32 × (Nat → Int32) × (Nat → Int32) × (Nat → Int32) × (Nat → Int32) × Int32 × (Nat → Int32) × (Nat → Int32) × (Nat → Int32) × (Nat → Int32) × Int32 × (Nat → Int32) × (Nat → Int32) × (Nat → Int64) × (Nat → Int32) × Int32) (t : State) => va_P (dC, dI) vwCl (wPla ad cI cJ cZ uu.1 uu.2.1 uu.2.2.1 uu.2.2.2.1 uu.2.2.2.2.1 sp uu.2.2.2.2.2.1 uu.2.2.2.2.2.2.1 uu.2.2.2.2.2.2.2.1 uu.2.2.2.2.2.2.2.2.1 uu.2.2.2.2.2.2.2.2.2.1 uu.2.2.2.2.2.2.2.2.2.2.1 uu.2.2.2.2.2.2.2.2.2.2.2.1 uu.2.2.2.2.2.2.2.2.2.2.2.2.1 uu.2.2.2.2.2.2.2.2.2.2.2.2.2.1 uu.2.2.2.2.2.2.2.2.2.2.2.2.2.2.1 uu.2.2.2.2.2.2.2.2.2.2.2.2.2.2.2 x y u sn) t.heap ∧ va_D A (wPla ad cI cJ cZ uu.1 uu.2.1 uu.2.2.1 uu.2.2.2.1 uu.2.2.2.2.1 sp uu.2.2.2.2.2.1 uu.2.2.2.2.2.2.1 uu.2.2.2.2.2.2.2.1 uu.2.2.2.2.2.2.2.2.1 uu.2.2.2.2.2.2.2.2.2.1 uu.2.2.2.2.2.2.2.2.2.2.1 uu.2.2.2.2.2.2.2.2.2.2.2.1 uu.2.2.2.2.2.2.2.2.2.2.2.2.1 uu.2.2.2.2.2.2.2.2.2.2.2.2.2.1 uu.2.2.2.2.2.2.2.2.2.2.2.2.2.2.1 uu.2.2.2.2.2.2.2.2.2.2.2.2.2.2.2 x y u sn)) A) args s 0 0 A = Q := ⟨_, rfl⟩
  rw [hQ]
  obtain ⟨H, hH⟩ : ∃ H, s.heap = H := ⟨_, rfl⟩
  have hS : va_S A s.heap H [] := by rw [← hH]; exact hS
  rw [hH] at hP
  show W p l e rm_X3_area s m args below meth c s.heap [] 0 0 Q (F0 m 0 ls [])
  suffices hg : W p l e rm_X3_area s m args below meth c H [] 0 0 Q (F0 m 0 ls []) by rw [hH]; exact hg
  clear hH
  generalize hlo : ([] : List Loc) = locs at hS ⊢
  refine lv_aload_n hx hb dX3_area_0 rfl (lv_at hl 0 rfl) ?_
  have hPc := hP.sub (ws' := (wPla ad cI cJ cZ sl ho nu fa ou sp fn co fo ro po pn rd st tw od rn x y u sn)) [0, 1, 2, 3, 4, 5, 6, 7, 8, 9, 10, 11, 12, 13, 14, 15, 16, 17, 18, 19] rfl
  have hDc := hD.sub (ws' := (wPla ad cI cJ cZ sl ho nu fa ou sp fn co fo ro po pn rd st tw od rn x y u sn)) [0, 1, 2, 3, 4, 5, 6, 7, 8, 9, 10, 11, 12, 13, 14, 15, 16, 17, 18, 19] (by decide) rfl
  have hFc := va_free (wc := (wPla ad cI cJ cZ sl ho nu fa ou sp fn co fo ro po pn rd st tw od rn x y u sn)) hD hS hA [0, 1, 2, 3, 4, 5, 6, 7, 8, 9, 10, 11, 12, 13, 14, 15, 16, 17, 18, 19] rfl
  refine va_callv (va_runV (As := []) (rest := []) C (c_X3_refresh l dC dI cI cJ cZ ad _ sl ho nu fa ou sp fn co fo ro po pn rd st tw od rn x y u sn  hw) (cwV 0 hts gX3_area_X3_refresh rfl rfl rfl (by decide +kernel) ⟨Nat.le_of_ble_eq_true rfl, Nat.le_of_ble_eq_true rfl⟩) ⟨fb_rw, va_recv hK hPc (ci := 3) (q0 := 0) rfl rfl, fun U hU hW => ⟨rfl, by rw [hU], by rw [hU]; exact hPc, va_K.moved hW.alike hK, hDc.weaken (fun _ _ _ _ => trivial)⟩⟩ rfl rfl hl.1 rfl (lv_room (Nat.le_of_ble_eq_true rfl)) dX3_area_1 ⟨Nat.zero_le _, Nat.zero_le _⟩) hS (fun q _ h => hFc q h) hFc (fun uu t H1 locs ht hvm hw hB hz1 hk1 hS => ?_)
  obtain ⟨sl_1, ho_2, nu_3, fa_4, ou_5, fn_6, co_7, fo_8, ro_9, po_10, pn_11, rd_12, st_13, tw_14, od_15, rn_16⟩ := uu
  obtain ⟨hP1, hD1⟩ := hB
  rw [ht] at hP1
  try dsimp only at hw hP1 hD1
  obtain ⟨hP, hD⟩ := va_join (wr := []) (w1 := (wPla ad cI cJ cZ sl_1 ho_2 nu_3 fa_4 ou_5 sp fn_6 co_7 fo_8 ro_9 po_10 pn_11 rd_12 st_13 tw_14 od_15 rn_16 x y u sn)) hP hD [0, 1, 2, 3, 4, 5, 6, 7, 8, 9, 10, 11, 12, 13, 14, 15, 16, 17, 18, 19] [] rfl rfl (by decide) (by decide) hk1 hFc hP1 hD1
  generalize H1 = H at hP hS ⊢
  have hP : va_P (dC, dI) vwCl (wPla ad cI cJ cZ sl_1 ho_2 nu_3 fa_4 ou_5 sp fn_6 co_7 fo_8 ro_9 po_10 pn_11 rd_12 st_13 tw_14 od_15 rn_16 x y u sn) H := hP
  have hD : va_D A (wPla ad cI cJ cZ sl_1 ho_2 nu_3 fa_4 ou_5 sp fn_6 co_7 fo_8 ro_9 po_10 pn_11 rd_12 st_13 tw_14 od_15 rn_16 x y u sn) := hD
  refine lv_aload_n hx hb dX3_area_4 rfl (lv_at hl 0 rfl) ?_
  refine lv_iload_n hx hb dX3_area_5 rfl (lv_at hl 1 rfl) ?_
  refine va_csv (W.runV (As := [.int v1]) (rest := []) C (c_X3_requireFace l dC dI cI cJ cZ ad sl_1 ho_2 nu_3 fa_4 ou_5 sp fn_6 co_7 fo_8 ro_9 po_10 pn_11 rd_12 st_13 tw_14 od_15 rn_16 x y u sn v1 hw) (cwV 1 hts gX3_area_X3_requireFace rfl rfl rfl (by decide +kernel) ⟨Nat.le_of_ble_eq_true rfl, Nat.le_of_ble_eq_true rfl⟩) ⟨fb_ro, va_recv hK hP (ci := 3) (q0 := 0) rfl rfl, fun U hU hW => ⟨rfl, by rw [hU]; exact hP, va_K.moved hW.alike hK⟩⟩ rfl rfl hl.1 rfl (lv_room (Nat.le_of_ble_eq_true rfl)) dX3_area_6 ⟨Nat.zero_le _, Nat.zero_le _⟩) (fun hw => ?_)
  refine lv_iload_n hx hb dX3_area_9 rfl (lv_at hl 1 rfl) ?_
  refine jn1_use (J := fun (k17 : Int32) => ∀ (ls : Array Slot) (H : Heap) (locs : List Loc), lv_has ls 2 [(0, .ref (ad 0))] → va_P (dC, dI) vwCl (wPla ad cI cJ cZ sl_1 ho_2 nu_3 fa_4 ou_5 sp fn_6 co_7 fo_8 ro_9 po_10 pn_11 rd_12 st_13 tw_14 od_15 rn_16 x y u sn) H → va_D A (wPla ad cI cJ cZ sl_1 ho_2 nu_3 fa_4 ou_5 sp fn_6 co_7 fo_8 ro_9 po_10 pn_11 rd_12 st_13 tw_14 od_15 rn_16 x y u sn) → va_S A s.heap H locs → W p l e rm_X3_area s m args below meth c H locs 0 0 Q (F0 m 26 ls [.int k17])) hw (fun k17 hw ls H locs hl hP hD hS => ?_) (fun hw hj0 => ?_)
  · rw [← hQ]
    exact W.iret (v := k17) hx hb hr (fun t ht hW => ⟨⟨_, (sl_1, ho_2, nu_3, fa_4, ou_5, fn_6, co_7, fo_8, ro_9, po_10, pn_11, rd_12, st_13, tw_14, od_15, rn_16), rfl, hw, by rw [ht]; exact hP, hD⟩, hS.F ht⟩) hS.2.2 dX3_area_26
  · have hj19 := hj0
    refine lv_if_ne (tgt := 17) hx hb dX3_area_10 (by decide) (fun hc => ?_) (fun hc => ?_)
    · have hw := hw.2 hc
      refine lv_aload_n hx hb dX3_area_17 rfl (lv_at hl 0 rfl) ?_
      refine va_get (D := (dC, dI)) (ci := 3) (v := .ref (ad 1)) (C := RX3) (T := TX3) (N := 4) hx hb hts f_X3_area_1 hown hK hP 0 rfl rfl 2 (by decide) (hts _ f_X3_area_0) (fun _ h9 => h9) rfl dX3_area_18 ?_
      refine lv_iload_n hx hb dX3_area_21 rfl (lv_at hl 1 rfl) ?_
      have hPc := hP.sub (ws' := (wFac ad cI cJ cZ ho_2 nu_3 fa_4 ou_5 sp fn_6 co_7 fo_8 ro_9 po_10 pn_11 rd_12 st_13 tw_14 od_15 rn_16 x y u sn)) [1, 2, 3, 4, 5, 6, 7, 8, 9, 10, 11, 12, 13, 14, 15, 16, 17, 18, 19] rfl
      refine vp_callSl (W.runV (As := [.int v1]) (rest := []) C (c_X0_twiceArea l dC dI cI cJ cZ ad ho_2 nu_3 fa_4 ou_5 sp fn_6 co_7 fo_8 ro_9 po_10 pn_11 rd_12 st_13 tw_14 od_15 rn_16 x y u sn v1 hw) (cwV 1 hts gX3_area_X0_twiceArea rfl rfl rfl (by decide +kernel) ⟨Nat.le_of_ble_eq_true rfl, Nat.le_of_ble_eq_true rfl⟩) ⟨fb_ro, va_recv hK hPc (ci := 0) (q0 := 0) rfl rfl, fun U hU hW => ⟨rfl, by rw [hU]; exact hPc, va_K.moved hW.alike hK⟩⟩ rfl rfl hl.1 rfl (lv_room (Nat.le_of_ble_eq_true rfl)) dX3_area_22 ⟨Nat.zero_le _, Nat.zero_le _⟩) (fun r20 hw => ?_)
      refine lv_l2i hx hb dX3_area_25 rfl ?_
      exact hj19 (r20.toInt32) hw ls _ _ (lv_sub hl [0] rfl) hP hD hS
    · have hw := hw.1 (hc)
      refine lv_iconst (v := 0) hx hb dX3_area_13 (by decide) ?_
      refine lv_goto (tgt := 26) hx hb dX3_area_14 (by decide) ?_
      exact hj19 (0 : Int32) hw ls _ _ (lv_sub hl [0] rfl) hP hD hS
-- X3_area throws
abbrev rmx_X3_area : Room := { frames := 7, cells := 1, slots := 6, locals := 142 }
theorem fx_X3_area_0 : (Cond.fieldLink RX3 12 "PlaneFaces" "faces" "LPlaneFaces$Faces;") ∈ wsX3_area := by decide +kernel
theorem fx_X3_area_1 : ∀ w ∈ wsX30, w ∈ wsX3_area := by decide +kernel
set_option maxRecDepth 100000 in
set_option maxHeartbeats 4000000 in
theorem cx_X3_area (l : Launch) (hst : l.stackTraces = false) (dC : Nat → ClassId) (dI : Nat → Nat → Nat) (cI cJ cZ : ClassId) (ad : Nat → Nat) (sz : Nat) (sl : Int32) (ho : Nat → Int32) (nu : Nat → Int32) (fa : Nat → Int32) (ou : Nat → Int32) (sp : Nat → Int32) (fn : Int32) (co : Nat → Int32) (fo : Nat → Int32) (ro : Nat → Int32) (po : Nat → Int32) (pn : Int32) (rd : Nat → Int32) (st : Nat → Int32) (tw : Nat → Int64) (od : Nat → Int32) (rn : Int32) (x : Nat → Int32) (y : Nat → Int32) (u : Nat → Int32) (sn : Int32) (v1 : Int32) {px : String → Int32 → (Nat → Int32) → (Nat → Int32) → (Nat → Int32) → (Nat → Int32) → Int32 → (Nat → Int32) → (Nat → Int32) → (Nat → Int32) → (Nat → Int32) → Int32 → (Nat → Int32) → (Nat → Int32) → (Nat → Int64) → (Nat → Int32) → Int32 → Prop} (hw : wpx_X3_area sl ho nu fa ou fn co fo ro po pn rd st tw od rn x y u v1 px) : vx_Met l yX3_area wsX3_area rmx_X3_area (va_Pc [.ref (ad 0), .int v1] (fun U => U.heap.size = sz ∧ va_P (dC, dI) vwCl (wPla ad cI cJ cZ sl ho nu fa ou sp fn co fo ro po pn rd st tw od rn x y u sn) U.heap ∧ va_K (dC, dI) vwCl (tyL cI cJ cZ) U ∧ va_D (fun _ => True) (wPla ad cI cJ cZ sl ho nu fa ou sp fn co fo ro po pn rd st tw od rn x y u sn) ∧ xe (va_A (wPla ad cI cJ cZ sl ho nu fa ou sp fn co fo ro po pn rd st tw od rn x y u sn) sz) U U.heap)) (va_Qi (fun (_ : Int32) (_ : Unit) => False) (fun _ _ => True) (va_A (wPla ad cI cJ cZ sl ho nu fa ou sp fn co fo ro po pn rd st tw od rn x y u sn) sz)) (vx_X (fun _ : Int32 × (Nat → Int32) × (Nat → Int32) × (Nat → Int32) × (Nat → Int32) × Int32 × (Nat → Int32) × (Nat → Int32) × (Nat → Int32) × (Nat → Int32) × Int32 × (Nat → Int32) × (Nat → Int32) × (Nat → Int64) × (Nat → Int32) × Int32 => True) (fun (E : String) (uu : Int32 × (Nat → Int32) × (Nat → Int32) × (Nat → Int32) × (Nat → Int32) × Int32 × (Nat → Int32) × (Nat → Int32) × (Nat → Int32) × (Nat → Int32) × Int32 × (Nat → Int32) × (Nat → Int32) × (Nat → Int64) × (Nat → Int32) × Int32) (t : State) => px E uu.1 uu.2.1 uu.2.2.1 uu.2.2.2.1 uu.2.2.2.2.1 uu.2.2.2.2.2.1 uu.2.2.2.2.2.2.1 uu.2.2.2.2.2.2.2.1 uu.2.2.2.2.2.2.2.2.1 uu.2.2.2.2.2.2.2.2.2.1 uu.2.2.2.2.2.2.2.2.2.2.1 uu.2.2.2.2.2.2.2.2.2.2.2.1 uu.2.2.2.2.2.2.2.2.2.2.2.2.1 uu.2.2.2.2.2.2.2.2.2.2.2.2.2.1 uu.2.2.2.2.2.2.2.2.2.2.2.2.2.2.1 uu.2.2.2.2.2.2.2.2.2.2.2.2.2.2.2 ∧ va_P (dC, dI) vwCl (wPla ad cI cJ cZ uu.1 uu.2.1 uu.2.2.1 uu.2.2.2.1 uu.2.2.2.2.1 sp uu.2.2.2.2.2.1 uu.2.2.2.2.2.2.1 uu.2.2.2.2.2.2.2.1 uu.2.2.2.2.2.2.2.2.1 uu.2.2.2.2.2.2.2.2.2.1 uu.2.2.2.2.2.2.2.2.2.2.1 uu.2.2.2.2.2.2.2.2.2.2.2.1 uu.2.2.2.2.2.2.2.2.2.2.2.2.1 uu.2.2.2.2.2.2.2.2.2.2.2.2.2.1 uu.2.2.2.2.2.2.2.2.2.2.2.2.2.2.1 uu.2.2.2.2.2.2.2.2.2.2.2.2.2.2.2 x y u sn) t.heap ∧ va_D (va_A (wPla ad cI cJ cZ sl ho nu fa ou sp fn co fo ro po pn rd st tw od rn x y u sn) sz) (wPla ad cI cJ cZ uu.1 uu.2.1 uu.2.2.1 uu.2.2.2.1 uu.2.2.2.2.1 sp uu.2.2.2.2.2.1 uu.2.2.2.2.2.2.1 uu.2.2.2.2.2.2.2.1 uu.2.2.2.2.2.2.2.2.1 uu.2.2.2.2.2.2.2.2.2.1 uu.2.2.2.2.2.2.2.2.2.2.1 uu.2.2.2.2.2.2.2.2.2.2.2.1 uu.2.2.2.2.2.2.2.2.2.2.2.2.1 uu.2.2.2.2.2.2.2.2.2.2.2.2.2.1 uu.2.2.2.2.2.2.2.2.2.2.2.2.2.2.1 uu.2.2.2.2.2.2.2.2.2.2.2.2.2.2.2 x y u sn)) (va_A (wPla ad cI cJ cZ sl ho nu fa ou sp fn co fo ro po pn rd st tw od rn x y u sn) sz)) 1 6 (va_A (wPla ad cI cJ cZ sl ho nu fa ou sp fn co fo ro po pn rd st tw od rn x y u sn) sz) := by
  unfold wpx_X3_area at hw
  refine vx_ofW (cc := cX3_area) (maxL := 2) (ret := (some .int)) (by decide) rfl ?_
  intro p e s m args below meth c s₁ B hml hnt hv
  obtain ⟨hav, hsz, hP, hK, hD0, hxe⟩ := hv
  have hx := B.exec
  have hb := B.bytes
  have hr := B.returns
  have hts := atoms_spec (ws := wsX3_area) B.pre
  have hown : s.vm.findClass RX3 = some m.cls := findClass_of_methodNamed B.named
  have hlocks := B.notSynchronized
  have C : CallFix p m c cX3_area 2 s args wsX3_area RX3 := ⟨hx, hb, hml, hown, hts⟩
  obtain ⟨ls, hE, hl⟩ := mx_entry (m := m) [.ref (ad 0), .int v1] (n := 2) (Nat.le_of_ble_eq_true rfl)
  have hl : lv_has ls 2 [(0, .ref (ad 0)), (1, .int v1)] := hl
  rw [show entryFrame m args 2 = F0 m 0 ls [] by rw [hav]; exact hE]
  subst hsz
  have hD := hD0.self (sz := s.heap.size)
  generalize hAe : va_A (wPla ad cI cJ cZ sl ho nu fa ou sp fn co fo ro po pn rd st tw od rn x y u sn) s.heap.size = A at hD hxe ⊢
  have hA : ∀ q : Nat, s.heap.size ≤ q → A q := fun q h => by rw [← hAe]; exact Or.inr h
  have hS : va_S A s.heap s.heap [] := va_S.rf
  obtain ⟨Q, hQ⟩ : ∃ Q, vx_MQ below (va_Qi (fun (_ : Int32) (_ : Unit) => False) (fun _ _ => True) A) (vx_X (fun _ : Int32 × (Nat → Int32) × (Nat → Int32) × (Nat → Int32) × (Nat → Int32) × Int32 × (Nat → Int32) × (Nat → Int32) × (Nat → Int32) × (Nat → Int32) × Int32 × (Nat → Int32) × (Nat → Int32) × (Nat → Int64) × (Nat → Int32) × Int32 => True) (fun (E : String) (uu : Int32 × (Nat → Int32) × (Nat → Int32) × (Nat → Int32) × (Nat → Int32) × Int32 × (Nat → Int32) × (Nat → Int32) × (Nat → Int32) × (Nat → Int32) × Int32 × (Nat → Int32) × (Nat → Int32) × (Nat → Int64) × (Nat → Int32) × Int32) (t : State) => px E uu.1 uu.2.1 uu.2.2.1 uu.2.2.2.1 uu.2.2.2.2.1 uu.2.2.2.2.2.1 uu.2.2.2.2.2.2.1 uu.2.2.2.2.2.2.2.1 uu.2.2.2.2.2.2.2.2.1 uu.2.2.2.2.2.2.2.2.2.1 uu.2.2.2.2.2.2.2.2.2.2.1 uu.2.2.2.2.2.2.2.2.2.2.2.1 uu.2.2.2.2.2.2.2.2.2.2.2.2.1 uu.2.2.2.2.2.2.2.2.2.2.2.2.2.1 uu.2.2.2.2.2.2.2.2.2.2.2.2.2.2.1 uu.2.2.2.2.2.2.2.2.2.2.2.2.2.2.2 ∧ va_P (dC, dI) vwCl (wPla ad cI cJ cZ uu.1 uu.2.1 uu.2.2.1 uu.2.2.2.1 uu.2.2.2.2.1 sp uu.2.2.2.2.2.1 uu.2.2.2.2.2.2.1 uu.2.2.2.2.2.2.2.1 uu.2.2.2.2.2.2.2.2.1 uu.2.2.2.2.2.2.2.2.2.1 uu.2.2.2.2.2.2.2.2.2.2.1 uu.2.2.2.2.2.2.2.2.2.2.2.1 uu.2.2.2.2.2.2.2.2.2.2.2.2.1 uu.2.2.2.2.2.2.2.2.2.2.2.2.2.1 uu.2.2.2.2.2.2.2.2.2.2.2.2.2.2.1 uu.2.2.2.2.2.2.2.2.2.2.2.2.2.2.2 x y u sn) t.heap ∧ va_D A (wPla ad cI cJ cZ uu.1 uu.2.1 uu.2.2.1 uu.2.2.2.1 uu.2.2.2.2.1 sp uu.2.2.2.2.2.1 uu.2.2.2.2.2.2.1 uu.2.2.2.2.2.2.2.1 uu.2.2.2.2.2.2.2.2.1 uu.2.2.2.2.2.2.2.2.2.1 uu.2.2.2.2.2.2.2.2.2.2.1 uu.2.2.2.2.2.2.2.2.2.2.2.1 uu.2.2.2.2.2.2.2.2.2.2.2.2.1 uu.2.2.2.2.2.2.2.2.2.2.2.2.2.1 uu.2.2.2.2.2.2.2.2.2.2.2.2.2.2.1 uu.2.2.2.2.2.2.2.2.2.2.2.2.2.2.2 x y u sn)) A) args s 1 6 A = Q := ⟨_, rfl⟩
  rw [hQ]
  obtain ⟨H, hH⟩ : ∃ H, s.heap = H := ⟨_, rfl⟩
  have hS : va_S A s.heap H [] := by rw [← hH]; exact hS
  rw [hH] at hP
  show W p l e rmx_X3_area s m args below meth c s.heap [] 0 0 Q (F0 m 0 ls [])
  suffices hg : W p l e rmx_X3_area s m args below meth c H [] 0 0 Q (F0 m 0 ls []) by rw [hH]; exact hg
  clear hH
  generalize hlo : ([] : List Loc) = locs at hS ⊢
  refine lv_aload_n hx hb dX3_area_0 rfl (lv_at hl 0 rfl) ?_
  have hPc := hP.sub (ws' := (wPla ad cI cJ cZ sl ho nu fa ou sp fn co fo ro po pn rd st tw od rn x y u sn)) [0, 1, 2, 3, 4, 5, 6, 7, 8, 9, 10, 11, 12, 13, 14, 15, 16, 17, 18, 19] rfl
  have hDc := hD.sub (ws' := (wPla ad cI cJ cZ sl ho nu fa ou sp fn co fo ro po pn rd st tw od rn x y u sn)) [0, 1, 2, 3, 4, 5, 6, 7, 8, 9, 10, 11, 12, 13, 14, 15, 16, 17, 18, 19] (by decide) rfl
  have hFc := va_free (wc := (wPla ad cI cJ cZ sl ho nu fa ou sp fn co fo ro po pn rd st tw od rn x y u sn)) hD hS hA [0, 1, 2, 3, 4, 5, 6, 7, 8, 9, 10, 11, 12, 13, 14, 15, 16, 17, 18, 19] rfl
  refine va_callv (va_runV (As := []) (rest := []) C (c_X3_refresh l dC dI cI cJ cZ ad _ sl ho nu fa ou sp fn co fo ro po pn rd st tw od rn x y u sn  hw) (cwV 0 hts gX3_area_X3_refresh rfl rfl rfl (by decide +kernel) ⟨Nat.le_of_ble_eq_true rfl, Nat.le_of_ble_eq_true rfl⟩) ⟨fb_rw, va_recv hK hPc (ci := 3) (q0 := 0) rfl rfl, fun U hU hW => ⟨rfl, by rw [hU], by rw [hU]; exact hPc, va_K.moved hW.alike hK, hDc.weaken (fun _ _ _ _ => trivial)⟩⟩ rfl rfl hl.1 rfl (lv_room (Nat.le_of_ble_eq_true rfl)) dX3_area_1 ⟨Nat.zero_le _, Nat.zero_le _⟩) hS (fun q _ h => hFc q h) hFc (fun uu t H1 locs ht hvm hw hB hz1 hk1 hS => ?_)
  obtain ⟨sl_1, ho_2, nu_3, fa_4, ou_5, fn_6, co_7, fo_8, ro_9, po_10, pn_11, rd_12, st_13, tw_14, od_15, rn_16⟩ := uu
  obtain ⟨hP1, hD1⟩ := hB
  rw [ht] at hP1
  try dsimp only at hw hP1 hD1
  obtain ⟨hP, hD⟩ := va_join (wr := []) (w1 := (wPla ad cI cJ cZ sl_1 ho_2 nu_3 fa_4 ou_5 sp fn_6 co_7 fo_8 ro_9 po_10 pn_11 rd_12 st_13 tw_14 od_15 rn_16 x y u sn)) hP hD [0, 1, 2, 3, 4, 5, 6, 7, 8, 9, 10, 11, 12, 13, 14, 15, 16, 17, 18, 19] [] rfl rfl (by decide) (by decide) hk1 hFc hP1 hD1
  generalize H1 = H at hP hS ⊢
  have hP : va_P (dC, dI) vwCl (wPla ad cI cJ cZ sl_1 ho_2 nu_3 fa_4 ou_5 sp fn_6 co_7 fo_8 ro_9 po_10 pn_11 rd_12 st_13 tw_14 od_15 rn_16 x y u sn) H := hP
  have hD : va_D A (wPla ad cI cJ cZ sl_1 ho_2 nu_3 fa_4 ou_5 sp fn_6 co_7 fo_8 ro_9 po_10 pn_11 rd_12 st_13 tw_14 od_15 rn_16 x y u sn) := hD
  refine lv_aload_n hx hb dX3_area_4 rfl (lv_at hl 0 rfl) ?_
  refine lv_iload_n hx hb dX3_area_5 rfl (lv_at hl 1 rfl) ?_
  rcases hw with hw | hw
  · have hPc := hP.sub (ws' := (wPla ad cI cJ cZ sl_1 ho_2 nu_3 fa_4 ou_5 sp fn_6 co_7 fo_8 ro_9 po_10 pn_11 rd_12 st_13 tw_14 od_15 rn_16 x y u sn)) [0, 1, 2, 3, 4, 5, 6, 7, 8, 9, 10, 11, 12, 13, 14, 15, 16, 17, 18, 19] rfl
    have hDc := hD.sub (ws' := (wPla ad cI cJ cZ sl_1 ho_2 nu_3 fa_4 ou_5 sp fn_6 co_7 fo_8 ro_9 po_10 pn_11 rd_12 st_13 tw_14 od_15 rn_16 x y u sn)) [0, 1, 2, 3, 4, 5, 6, 7, 8, 9, 10, 11, 12, 13, 14, 15, 16, 17, 18, 19] (by decide) rfl
    have hFc := va_free (wc := (wPla ad cI cJ cZ sl_1 ho_2 nu_3 fa_4 ou_5 sp fn_6 co_7 fo_8 ro_9 po_10 pn_11 rd_12 st_13 tw_14 od_15 rn_16 x y u sn)) hD hS hA [0, 1, 2, 3, 4, 5, 6, 7, 8, 9, 10, 11, 12, 13, 14, 15, 16, 17, 18, 19] rfl
    refine vx_callv (vx_runV (As := [.int v1]) (rest := []) C (cx_X3_requireFace l hst dC dI cI cJ cZ ad _ sl_1 ho_2 nu_3 fa_4 ou_5 sp fn_6 co_7 fo_8 ro_9 po_10 pn_11 rd_12 st_13 tw_14 od_15 rn_16 x y u sn v1 hw) (cwV 1 hts gX3_area_X3_requireFace rfl rfl rfl (by decide +kernel) ⟨Nat.le_of_ble_eq_true rfl, Nat.le_of_ble_eq_true rfl⟩) ⟨fb_x, va_recv hK hPc (ci := 3) (q0 := 0) rfl rfl, fun U hU hW => ⟨rfl, by rw [hU], by rw [hU]; exact hPc, va_K.moved hW.alike hK, hDc.weaken (fun _ _ _ _ => trivial), hxe.step hS hFc hU hW⟩⟩ rfl rfl hl.1 rfl (lv_room (Nat.le_of_ble_eq_true rfl)) dX3_area_6 ⟨Nat.le_of_ble_eq_true rfl, Nat.le_of_ble_eq_true rfl⟩) hS (fun q _ h => hFc q h) hFc (fun q _ h => hFc q h) (fun E9 ce q9 uu t H1 locs ht hvm hpx hB hz1 hk1 hS hce hcv hcl => ?_) (fun uu t H1 locs ht hvm hpost hB hz1 hk1 hS => hpost.elim)
    obtain ⟨hw, hP1, hD1⟩ := hB
    rw [ht] at hP1
    try dsimp only at hw hP1 hD1
    obtain ⟨hP, hD⟩ := va_join (wr := []) (w1 := (wPla ad cI cJ cZ sl_1 ho_2 nu_3 fa_4 ou_5 sp fn_6 co_7 fo_8 ro_9 po_10 pn_11 rd_12 st_13 tw_14 od_15 rn_16 x y u sn)) hP hD [0, 1, 2, 3, 4, 5, 6, 7, 8, 9, 10, 11, 12, 13, 14, 15, 16, 17, 18, 19] [] rfl rfl (by decide) (by decide) hk1 hFc hP1 hD1
    have hP : va_P (dC, dI) vwCl (wPla ad cI cJ cZ sl_1 ho_2 nu_3 fa_4 ou_5 sp fn_6 co_7 fo_8 ro_9 po_10 pn_11 rd_12 st_13 tw_14 od_15 rn_16 x y u sn) H1 := hP
    have hD : va_D A (wPla ad cI cJ cZ sl_1 ho_2 nu_3 fa_4 ou_5 sp fn_6 co_7 fo_8 ro_9 po_10 pn_11 rd_12 st_13 tw_14 od_15 rn_16 x y u sn) := hD
    rw [← hQ]
    exact vx_out (fun x9 h9 => (hnt x9 h9).elim) hlocks hce hcv hcl (fun t ht hvm => ⟨(sl_1, ho_2, nu_3, fa_4, ou_5, fn_6, co_7, fo_8, ro_9, po_10, pn_11, rd_12, st_13, tw_14, od_15, rn_16), trivial, ⟨hw, by rw [ht]; exact hP, hD⟩, hS.F ht⟩) hS.2.2 (Nat.le_of_ble_eq_true rfl) (Nat.le_of_ble_eq_true rfl)
  · refine va_csv (W.runV (As := [.int v1]) (rest := []) C (c_X3_requireFace l dC dI cI cJ cZ ad sl_1 ho_2 nu_3 fa_4 ou_5 sp fn_6 co_7 fo_8 ro_9 po_10 pn_11 rd_12 st_13 tw_14 od_15 rn_16 x y u sn v1 hw) (cwV 1 hts gX3_area_X3_requireFace rfl rfl rfl (by decide +kernel) ⟨Nat.le_of_ble_eq_true rfl, Nat.le_of_ble_eq_true rfl⟩) ⟨fb_ro, va_recv hK hP (ci := 3) (q0 := 0) rfl rfl, fun U hU hW => ⟨rfl, by rw [hU]; exact hP, va_K.moved hW.alike hK⟩⟩ rfl rfl hl.1 rfl (lv_room (Nat.le_of_ble_eq_true rfl)) dX3_area_6 ⟨Nat.zero_le _, Nat.zero_le _⟩) (fun hw => ?_)
    refine lv_iload_n hx hb dX3_area_9 rfl (lv_at hl 1 rfl) ?_
    refine jn1_use (J := fun (k17 : Int32) => ∀ (ls : Array Slot) (H : Heap) (locs : List Loc), lv_has ls 2 [(0, .ref (ad 0))] → va_P (dC, dI) vwCl (wPla ad cI cJ cZ sl_1 ho_2 nu_3 fa_4 ou_5 sp fn_6 co_7 fo_8 ro_9 po_10 pn_11 rd_12 st_13 tw_14 od_15 rn_16 x y u sn) H → va_D A (wPla ad cI cJ cZ sl_1 ho_2 nu_3 fa_4 ou_5 sp fn_6 co_7 fo_8 ro_9 po_10 pn_11 rd_12 st_13 tw_14 od_15 rn_16 x y u sn) → va_S A s.heap H locs → W p l e rmx_X3_area s m args below meth c H locs 0 0 Q (F0 m 26 ls [.int k17])) hw (fun k17 hw ls H locs hl hP hD hS => ?_) (fun hw hj0 => ?_)
    · exact hw.elim
    · have hj19 := hj0
      refine lv_if_ne (tgt := 17) hx hb dX3_area_10 (by decide) (fun hc => ?_) (fun hc => ?_)
      · have hw := hw.2 hc
        refine lv_aload_n hx hb dX3_area_17 rfl (lv_at hl 0 rfl) ?_
        refine va_get (D := (dC, dI)) (ci := 3) (v := .ref (ad 1)) (C := RX3) (T := TX3) (N := 4) hx hb hts fx_X3_area_1 hown hK hP 0 rfl rfl 2 (by decide) (hts _ fx_X3_area_0) (fun _ h9 => h9) rfl dX3_area_18 ?_
        refine lv_iload_n hx hb dX3_area_21 rfl (lv_at hl 1 rfl) ?_
        have hPc := hP.sub (ws' := (wFac ad cI cJ cZ ho_2 nu_3 fa_4 ou_5 sp fn_6 co_7 fo_8 ro_9 po_10 pn_11 rd_12 st_13 tw_14 od_15 rn_16 x y u sn)) [1, 2, 3, 4, 5, 6, 7, 8, 9, 10, 11, 12, 13, 14, 15, 16, 17, 18, 19] rfl
        refine vp_callSl (W.runV (As := [.int v1]) (rest := []) C (c_X0_twiceArea l dC dI cI cJ cZ ad ho_2 nu_3 fa_4 ou_5 sp fn_6 co_7 fo_8 ro_9 po_10 pn_11 rd_12 st_13 tw_14 od_15 rn_16 x y u sn v1 hw) (cwV 1 hts gX3_area_X0_twiceArea rfl rfl rfl (by decide +kernel) ⟨Nat.le_of_ble_eq_true rfl, Nat.le_of_ble_eq_true rfl⟩) ⟨fb_ro, va_recv hK hPc (ci := 0) (q0 := 0) rfl rfl, fun U hU hW => ⟨rfl, by rw [hU]; exact hPc, va_K.moved hW.alike hK⟩⟩ rfl rfl hl.1 rfl (lv_room (Nat.le_of_ble_eq_true rfl)) dX3_area_22 ⟨Nat.zero_le _, Nat.zero_le _⟩) (fun r20 hw => ?_)
        refine lv_l2i hx hb dX3_area_25 rfl ?_
        exact hj19 (r20.toInt32) hw ls _ _ (lv_sub hl [0] rfl) hP hD hS
      · have hw := hw.1 (hc)
        refine lv_iconst (v := 0) hx hb dX3_area_13 (by decide) ?_
        refine lv_goto (tgt := 26) hx hb dX3_area_14 (by decide) ?_
        exact hj19 (0 : Int32) hw ls _ _ (lv_sub hl [0] rfl) hP hD hS
-- X3_border
abbrev rm_X3_border : Room := { frames := 6, cells := 0, slots := 0, locals := 142 }
theorem f_X3_border_0 : (Cond.fieldLink RX3 12 "PlaneFaces" "faces" "LPlaneFaces$Faces;") ∈ wsX3_border := by decide +kernel
theorem f_X3_border_1 : ∀ w ∈ wsX30, w ∈ wsX3_border := by decide +kernel
set_option maxRecDepth 100000 in
set_option maxHeartbeats 4000000 in
theorem c_X3_border (l : Launch) (dC : Nat → ClassId) (dI : Nat → Nat → Nat) (cI cJ cZ : ClassId) (ad : Nat → Nat) (sz : Nat) (sl : Int32) (ho : Nat → Int32) (nu : Nat → Int32) (fa : Nat → Int32) (ou : Nat → Int32) (sp : Nat → Int32) (fn : Int32) (co : Nat → Int32) (fo : Nat → Int32) (ro : Nat → Int32) (po : Nat → Int32) (pn : Int32) (rd : Nat → Int32) (st : Nat → Int32) (tw : Nat → Int64) (od : Nat → Int32) (rn : Int32) (x : Nat → Int32) (y : Nat → Int32) (u : Nat → Int32) (sn : Int32) (v1 : Int32) (v2 : Int32) {post : Int32 → Int32 → (Nat → Int32) → (Nat → Int32) → (Nat → Int32) → (Nat → Int32) → Int32 → (Nat → Int32) → (Nat → Int32) → (Nat → Int32) → (Nat → Int32) → Int32 → (Nat → Int32) → (Nat → Int32) → (Nat → Int64) → (Nat → Int32) → Int32 → Prop} (hw : wp_X3_border sl ho nu fa ou fn co fo ro po pn rd st tw od rn x y u v1 v2 post) : Met l yX3_border wsX3_border rm_X3_border (va_Pc [.ref (ad 0), .int v1, .int v2] (fun U => U.heap.size = sz ∧ va_P (dC, dI) vwCl (wPla ad cI cJ cZ sl ho nu fa ou sp fn co fo ro po pn rd st tw od rn x y u sn) U.heap ∧ va_K (dC, dI) vwCl (tyL cI cJ cZ) U ∧ va_D (fun _ => True) (wPla ad cI cJ cZ sl ho nu fa ou sp fn co fo ro po pn rd st tw od rn x y u sn))) (va_Qi (fun (r : Int32) (uu : Int32 × (Nat → Int32) × (Nat → Int32) × (Nat → Int32) × (Nat → Int32) × Int32 × (Nat → Int32) × (Nat → Int32) × (Nat → Int32) × (Nat → Int32) × Int32 × (Nat → Int32) × (Nat → Int32) × (Nat → Int64) × (Nat → Int32) × Int32) => post r uu.1 uu.2.1 uu.2.2.1 uu.2.2.2.1 uu.2.2.2.2.1 uu.2.2.2.2.2.1 uu.2.2.2.2.2.2.1 uu.2.2.2.2.2.2.2.1 uu.2.2.2.2.2.2.2.2.1 uu.2.2.2.2.2.2.2.2.2.1 uu.2.2.2.2.2.2.2.2.2.2.1 uu.2.2.2.2.2.2.2.2.2.2.2.1 uu.2.2.2.2.2.2.2.2.2.2.2.2.1 uu.2.2.2.2.2.2.2.2.2.2.2.2.2.1 uu.2.2.2.2.2.2.2.2.2.2.2.2.2.2.1 uu.2.2.2.2.2.2.2.2.2.2.2.2.2.2.2) (fun (uu : Int32 × (Nat → Int32) × (Nat → Int32) × (Nat → Int32) × (Nat → Int32) × Int32 × (Nat → Int32) × (Nat → Int32) × (Nat → Int32) × (Nat → Int32) × Int32 × (Nat → Int32) × (Nat → Int32) × (Nat → Int64) × (Nat → Int32) × Int32) (t : State) => va_P (dC, dI) vwCl (wPla ad cI cJ cZ uu.1 uu.2.1 uu.2.2.1 uu.2.2.2.1 uu.2.2.2.2.1 sp uu.2.2.2.2.2.1 uu.2.2.2.2.2.2.1 uu.2.2.2.2.2.2.2.1 uu.2.2.2.2.2.2.2.2.1 uu.2.2.2.2.2.2.2.2.2.1 uu.2.2.2.2.2.2.2.2.2.2.1 uu.2.2.2.2.2.2.2.2.2.2.2.1 uu.2.2.2.2.2.2.2.2.2.2.2.2.1 uu.2.2.2.2.2.2.2.2.2.2.2.2.2.1 uu.2.2.2.2.2.2.2.2.2.2.2.2.2.2.1 uu.2.2.2.2.2.2.2.2.2.2.2.2.2.2.2 x y u sn) t.heap ∧ va_D (va_A (wPla ad cI cJ cZ sl ho nu fa ou sp fn co fo ro po pn rd st tw od rn x y u sn) sz) (wPla ad cI cJ cZ uu.1 uu.2.1 uu.2.2.1 uu.2.2.2.1 uu.2.2.2.2.1 sp uu.2.2.2.2.2.1 uu.2.2.2.2.2.2.1 uu.2.2.2.2.2.2.2.1 uu.2.2.2.2.2.2.2.2.1 uu.2.2.2.2.2.2.2.2.2.1 uu.2.2.2.2.2.2.2.2.2.2.1 uu.2.2.2.2.2.2.2.2.2.2.2.1 uu.2.2.2.2.2.2.2.2.2.2.2.2.1 uu.2.2.2.2.2.2.2.2.2.2.2.2.2.1 uu.2.2.2.2.2.2.2.2.2.2.2.2.2.2.1 uu.2.2.2.2.2.2.2.2.2.2.2.2.2.2.2 x y u sn)) (va_A (wPla ad cI cJ cZ sl ho nu fa ou sp fn co fo ro po pn rd st tw od rn x y u sn) sz)) 0 0 (va_A (wPla ad cI cJ cZ sl ho nu fa ou sp fn co fo ro po pn rd st tw od rn x y u sn) sz) := by
  unfold wp_X3_border at hw
  refine Met.ofW (cc := cX3_border) (maxL := 3) (ret := (some .int)) (by decide) rfl ?_
  intro p e s m args below meth c s₁ B hml hv
  obtain ⟨hav, hsz, hP, hK, hD0⟩ := hv
  have hx := B.exec
  have hb := B.bytes
  have hr := B.returns
  have hts := atoms_spec (ws := wsX3_border) B.pre
  have hown : s.vm.findClass RX3 = some m.cls := findClass_of_methodNamed B.named
  have hlocks := B.notSynchronized
  have C : CallFix p m c cX3_border 3 s args wsX3_border RX3 := ⟨hx, hb, hml, hown, hts⟩
  obtain ⟨ls, hE, hl⟩ := mx_entry (m := m) [.ref (ad 0), .int v1, .int v2] (n := 3) (Nat.le_of_ble_eq_true rfl)
  have hl : lv_has ls 3 [(0, .ref (ad 0)), (1, .int v1), (2, .int v2)] := hl
  rw [show entryFrame m args 3 = F0 m 0 ls [] by rw [hav]; exact hE]
  subst hsz
  have hD := hD0.self (sz := s.heap.size)
  generalize hAe : va_A (wPla ad cI cJ cZ sl ho nu fa ou sp fn co fo ro po pn rd st tw od rn x y u sn) s.heap.size = A at hD ⊢
  have hA : ∀ q : Nat, s.heap.size ≤ q → A q := fun q h => by rw [← hAe]; exact Or.inr h
  have hS : va_S A s.heap s.heap [] := va_S.rf
  obtain ⟨Q, hQ⟩ : ∃ Q, MQ below (va_Qi (fun (r : Int32) (uu : Int32 × (Nat → Int32) × (Nat → Int32) × (Nat → Int32) × (Nat → Int32) × Int32 × (Nat → Int32) × (Nat → Int32) × (Nat → Int32) × (Nat → Int32) × Int32 × (Nat → Int32) × (Nat → Int32) × (Nat → Int64) × (Nat → Int32) × Int32) => post r uu.1 uu.2.1 uu.2.2.1 uu.2.2.2.1 uu.2.2.2.2.1 uu.2.2.2.2.2.1 uu.2.2.2.2.2.2.1 uu.2.2.2.2.2.2.2.1 uu.2.2.2.2.2.2.2.2.1 uu.2.2.2.2.2.2.2.2.2.1 uu.2.2.2.2.2.2.2.2.2.2.1 uu.2.2.2.2.2.2.2.2.2.2.2.1 uu.2.2.2.2.2.2.2.2.2.2.2.2.1 uu.2.2.2.2.2.2.2.2.2.2.2.2.2.1 uu.2.2.2.2.2.2.2.2.2.2.2.2.2.2.1 uu.2.2.2.2.2.2.2.2.2.2.2.2.2.2.2) (fun (uu : Int32 × (Nat → Int32) × (Nat → Int32) × (Nat → Int32) × (Nat → Int32) × Int32 × (Nat → Int32) × (Nat → Int32) × (Nat → Int32) × (Nat → Int32) × Int32 × (Nat → Int32) × (Nat → Int32) × (Nat → Int64) × (Nat → Int32) × Int32) (t : State) => va_P (dC, dI) vwCl (wPla ad cI cJ cZ uu.1 uu.2.1 uu.2.2.1 uu.2.2.2.1 uu.2.2.2.2.1 sp uu.2.2.2.2.2.1 uu.2.2.2.2.2.2.1 uu.2.2.2.2.2.2.2.1 uu.2.2.2.2.2.2.2.2.1 uu.2.2.2.2.2.2.2.2.2.1 uu.2.2.2.2.2.2.2.2.2.2.1 uu.2.2.2.2.2.2.2.2.2.2.2.1 uu.2.2.2.2.2.2.2.2.2.2.2.2.1 uu.2.2.2.2.2.2.2.2.2.2.2.2.2.1 uu.2.2.2.2.2.2.2.2.2.2.2.2.2.2.1 uu.2.2.2.2.2.2.2.2.2.2.2.2.2.2.2 x y u sn) t.heap ∧ va_D A (wPla ad cI cJ cZ uu.1 uu.2.1 uu.2.2.1 uu.2.2.2.1 uu.2.2.2.2.1 sp uu.2.2.2.2.2.1 uu.2.2.2.2.2.2.1 uu.2.2.2.2.2.2.2.1 uu.2.2.2.2.2.2.2.2.1 uu.2.2.2.2.2.2.2.2.2.1 uu.2.2.2.2.2.2.2.2.2.2.1 uu.2.2.2.2.2.2.2.2.2.2.2.1 uu.2.2.2.2.2.2.2.2.2.2.2.2.1 uu.2.2.2.2.2.2.2.2.2.2.2.2.2.1 uu.2.2.2.2.2.2.2.2.2.2.2.2.2.2.1 uu.2.2.2.2.2.2.2.2.2.2.2.2.2.2.2 x y u sn)) A) args s 0 0 A = Q := ⟨_, rfl⟩
  rw [hQ]
  obtain ⟨H, hH⟩ : ∃ H, s.heap = H := ⟨_, rfl⟩
  have hS : va_S A s.heap H [] := by rw [← hH]; exact hS
  rw [hH] at hP
  show W p l e rm_X3_border s m args below meth c s.heap [] 0 0 Q (F0 m 0 ls [])
  suffices hg : W p l e rm_X3_border s m args below meth c H [] 0 0 Q (F0 m 0 ls []) by rw [hH]; exact hg
  clear hH
  generalize hlo : ([] : List Loc) = locs at hS ⊢
  refine lv_aload_n hx hb dX3_border_0 rfl (lv_at hl 0 rfl) ?_
  have hPc := hP.sub (ws' := (wPla ad cI cJ cZ sl ho nu fa ou sp fn co fo ro po pn rd st tw od rn x y u sn)) [0, 1, 2, 3, 4, 5, 6, 7, 8, 9, 10, 11, 12, 13, 14, 15, 16, 17, 18, 19] rfl
  have hDc := hD.sub (ws' := (wPla ad cI cJ cZ sl ho nu fa ou sp fn co fo ro po pn rd st tw od rn x y u sn)) [0, 1, 2, 3, 4, 5, 6, 7, 8, 9, 10, 11, 12, 13, 14, 15, 16, 17, 18, 19] (by decide) rfl
  have hFc := va_free (wc := (wPla ad cI cJ cZ sl ho nu fa ou sp fn co fo ro po pn rd st tw od rn x y u sn)) hD hS hA [0, 1, 2, 3, 4, 5, 6, 7, 8, 9, 10, 11, 12, 13, 14, 15, 16, 17, 18, 19] rfl
  refine va_callv (va_runV (As := []) (rest := []) C (c_X3_refresh l dC dI cI cJ cZ ad _ sl ho nu fa ou sp fn co fo ro po pn rd st tw od rn x y u sn  hw) (cwV 0 hts gX3_border_X3_refresh rfl rfl rfl (by decide +kernel) ⟨Nat.le_of_ble_eq_true rfl, Nat.le_of_ble_eq_true rfl⟩) ⟨fb_rw, va_recv hK hPc (ci := 3) (q0 := 0) rfl rfl, fun U hU hW => ⟨rfl, by rw [hU], by rw [hU]; exact hPc, va_K.moved hW.alike hK, hDc.weaken (fun _ _ _ _ => trivial)⟩⟩ rfl rfl hl.1 rfl (lv_room (Nat.le_of_ble_eq_true rfl)) dX3_border_1 ⟨Nat.zero_le _, Nat.zero_le _⟩) hS (fun q _ h => hFc q h) hFc (fun uu t H1 locs ht hvm hw hB hz1 hk1 hS => ?_)
  obtain ⟨sl_1, ho_2, nu_3, fa_4, ou_5, fn_6, co_7, fo_8, ro_9, po_10, pn_11, rd_12, st_13, tw_14, od_15, rn_16⟩ := uu
  obtain ⟨hP1, hD1⟩ := hB
  rw [ht] at hP1
  try dsimp only at hw hP1 hD1
  obtain ⟨hP, hD⟩ := va_join (wr := []) (w1 := (wPla ad cI cJ cZ sl_1 ho_2 nu_3 fa_4 ou_5 sp fn_6 co_7 fo_8 ro_9 po_10 pn_11 rd_12 st_13 tw_14 od_15 rn_16 x y u sn)) hP hD [0, 1, 2, 3, 4, 5, 6, 7, 8, 9, 10, 11, 12, 13, 14, 15, 16, 17, 18, 19] [] rfl rfl (by decide) (by decide) hk1 hFc hP1 hD1
  generalize H1 = H at hP hS ⊢
  have hP : va_P (dC, dI) vwCl (wPla ad cI cJ cZ sl_1 ho_2 nu_3 fa_4 ou_5 sp fn_6 co_7 fo_8 ro_9 po_10 pn_11 rd_12 st_13 tw_14 od_15 rn_16 x y u sn) H := hP
  have hD : va_D A (wPla ad cI cJ cZ sl_1 ho_2 nu_3 fa_4 ou_5 sp fn_6 co_7 fo_8 ro_9 po_10 pn_11 rd_12 st_13 tw_14 od_15 rn_16 x y u sn) := hD
  refine lv_aload_n hx hb dX3_border_4 rfl (lv_at hl 0 rfl) ?_
  refine lv_iload_n hx hb dX3_border_5 rfl (lv_at hl 1 rfl) ?_
  refine va_csv (W.runV (As := [.int v1]) (rest := []) C (c_X3_requireFace l dC dI cI cJ cZ ad sl_1 ho_2 nu_3 fa_4 ou_5 sp fn_6 co_7 fo_8 ro_9 po_10 pn_11 rd_12 st_13 tw_14 od_15 rn_16 x y u sn v1 hw) (cwV 1 hts gX3_border_X3_requireFace rfl rfl rfl (by decide +kernel) ⟨Nat.le_of_ble_eq_true rfl, Nat.le_of_ble_eq_true rfl⟩) ⟨fb_ro, va_recv hK hP (ci := 3) (q0 := 0) rfl rfl, fun U hU hW => ⟨rfl, by rw [hU]; exact hP, va_K.moved hW.alike hK⟩⟩ rfl rfl hl.1 rfl (lv_room (Nat.le_of_ble_eq_true rfl)) dX3_border_6 ⟨Nat.zero_le _, Nat.zero_le _⟩) (fun hw => ?_)
  refine lv_iload_n hx hb dX3_border_9 rfl (lv_at hl 2 rfl) ?_
  rcases sw_3 v2 with hc | hc | hc | hc | hc
  · have hw := hw.1 hc
    refine lv_tableOut (tgt := 76) hx hb dX3_border_10 hc (by decide) ?_
    refine lv_iconst (v := -1) hx hb dX3_border_76 (by decide) ?_
    rw [← hQ]
    exact W.iret (v := (-1 : Int32)) hx hb hr (fun t ht hW => ⟨⟨_, (sl_1, ho_2, nu_3, fa_4, ou_5, fn_6, co_7, fo_8, ro_9, po_10, pn_11, rd_12, st_13, tw_14, od_15, rn_16), rfl, hw, by rw [ht]; exact hP, hD⟩, hS.F ht⟩) hS.2.2 dX3_border_77
  · have hw := hw.2.1 hc
    rw [hc]
    refine lv_tableIn (tgt := 40) hx hb dX3_border_10 (by decide) (by decide) rfl (by decide) ?_
    refine lv_aload_n hx hb dX3_border_40 rfl (lv_at hl 0 rfl) ?_
    refine va_get (D := (dC, dI)) (ci := 3) (v := .ref (ad 1)) (C := RX3) (T := TX3) (N := 4) hx hb hts f_X3_border_1 hown hK hP 0 rfl rfl 2 (by decide) (hts _ f_X3_border_0) (fun _ h9 => h9) rfl dX3_border_41 ?_
    refine lv_iload_n hx hb dX3_border_44 rfl (lv_at hl 1 rfl) ?_
    have hPc := hP.sub (ws' := (wFac ad cI cJ cZ ho_2 nu_3 fa_4 ou_5 sp fn_6 co_7 fo_8 ro_9 po_10 pn_11 rd_12 st_13 tw_14 od_15 rn_16 x y u sn)) [1, 2, 3, 4, 5, 6, 7, 8, 9, 10, 11, 12, 13, 14, 15, 16, 17, 18, 19] rfl
    refine vp_callSi (W.runV (As := [.int v1]) (rest := []) C (c_X0_roundsOf l dC dI cI cJ cZ ad ho_2 nu_3 fa_4 ou_5 sp fn_6 co_7 fo_8 ro_9 po_10 pn_11 rd_12 st_13 tw_14 od_15 rn_16 x y u sn v1 hw) (cwV 1 hts gX3_border_X0_roundsOf rfl rfl rfl (by decide +kernel) ⟨Nat.le_of_ble_eq_true rfl, Nat.le_of_ble_eq_true rfl⟩) ⟨fb_ro, va_recv hK hPc (ci := 0) (q0 := 0) rfl rfl, fun U hU hW => ⟨rfl, by rw [hU]; exact hPc, va_K.moved hW.alike hK⟩⟩ rfl rfl hl.1 rfl (lv_room (Nat.le_of_ble_eq_true rfl)) dX3_border_45 ⟨Nat.zero_le _, Nat.zero_le _⟩) (fun r17 hw => ?_)
    rw [← hQ]
    exact W.iret (v := r17) hx hb hr (fun t ht hW => ⟨⟨_, (sl_1, ho_2, nu_3, fa_4, ou_5, fn_6, co_7, fo_8, ro_9, po_10, pn_11, rd_12, st_13, tw_14, od_15, rn_16), rfl, hw, by rw [ht]; exact hP, hD⟩, hS.F ht⟩) hS.2.2 dX3_border_48
  · have hw := hw.2.2.1 hc
    rw [hc]
    refine lv_tableIn (tgt := 49) hx hb dX3_border_10 (by decide) (by decide) rfl (by decide) ?_
    refine lv_aload_n hx hb dX3_border_49 rfl (lv_at hl 0 rfl) ?_
    refine va_get (D := (dC, dI)) (ci := 3) (v := .ref (ad 1)) (C := RX3) (T := TX3) (N := 4) hx hb hts f_X3_border_1 hown hK hP 0 rfl rfl 2 (by decide) (hts _ f_X3_border_0) (fun _ h9 => h9) rfl dX3_border_50 ?_
    refine lv_iload_n hx hb dX3_border_53 rfl (lv_at hl 1 rfl) ?_
    have hPc := hP.sub (ws' := (wFac ad cI cJ cZ ho_2 nu_3 fa_4 ou_5 sp fn_6 co_7 fo_8 ro_9 po_10 pn_11 rd_12 st_13 tw_14 od_15 rn_16 x y u sn)) [1, 2, 3, 4, 5, 6, 7, 8, 9, 10, 11, 12, 13, 14, 15, 16, 17, 18, 19] rfl
    refine vp_callSi (W.runV (As := [.int v1]) (rest := []) C (c_X0_halvesOf l dC dI cI cJ cZ ad ho_2 nu_3 fa_4 ou_5 sp fn_6 co_7 fo_8 ro_9 po_10 pn_11 rd_12 st_13 tw_14 od_15 rn_16 x y u sn v1 hw) (cwV 1 hts gX3_border_X0_halvesOf rfl rfl rfl (by decide +kernel) ⟨Nat.le_of_ble_eq_true rfl, Nat.le_of_ble_eq_true rfl⟩) ⟨fb_ro, va_recv hK hPc (ci := 0) (q0 := 0) rfl rfl, fun U hU hW => ⟨rfl, by rw [hU]; exact hPc, va_K.moved hW.alike hK⟩⟩ rfl rfl hl.1 rfl (lv_room (Nat.le_of_ble_eq_true rfl)) dX3_border_54 ⟨Nat.zero_le _, Nat.zero_le _⟩) (fun r18 hw => ?_)
    rw [← hQ]
    exact W.iret (v := r18) hx hb hr (fun t ht hW => ⟨⟨_, (sl_1, ho_2, nu_3, fa_4, ou_5, fn_6, co_7, fo_8, ro_9, po_10, pn_11, rd_12, st_13, tw_14, od_15, rn_16), rfl, hw, by rw [ht]; exact hP, hD⟩, hS.F ht⟩) hS.2.2 dX3_border_57
  · have hw := hw.2.2.2.1 hc
    rw [hc]
    refine lv_tableIn (tgt := 58) hx hb dX3_border_10 (by decide) (by decide) rfl (by decide) ?_
    refine lv_aload_n hx hb dX3_border_58 rfl (lv_at hl 0 rfl) ?_
    refine va_get (D := (dC, dI)) (ci := 3) (v := .ref (ad 1)) (C := RX3) (T := TX3) (N := 4) hx hb hts f_X3_border_1 hown hK hP 0 rfl rfl 2 (by decide) (hts _ f_X3_border_0) (fun _ h9 => h9) rfl dX3_border_59 ?_
    refine lv_iload_n hx hb dX3_border_62 rfl (lv_at hl 1 rfl) ?_
    have hPc := hP.sub (ws' := (wFac ad cI cJ cZ ho_2 nu_3 fa_4 ou_5 sp fn_6 co_7 fo_8 ro_9 po_10 pn_11 rd_12 st_13 tw_14 od_15 rn_16 x y u sn)) [1, 2, 3, 4, 5, 6, 7, 8, 9, 10, 11, 12, 13, 14, 15, 16, 17, 18, 19] rfl
    refine vp_callSi (W.runV (As := [.int v1]) (rest := []) C (c_X0_leastHalfOf l dC dI cI cJ cZ ad ho_2 nu_3 fa_4 ou_5 sp fn_6 co_7 fo_8 ro_9 po_10 pn_11 rd_12 st_13 tw_14 od_15 rn_16 x y u sn v1 hw) (cwV 1 hts gX3_border_X0_leastHalfOf rfl rfl rfl (by decide +kernel) ⟨Nat.le_of_ble_eq_true rfl, Nat.le_of_ble_eq_true rfl⟩) ⟨fb_ro, va_recv hK hPc (ci := 0) (q0 := 0) rfl rfl, fun U hU hW => ⟨rfl, by rw [hU]; exact hPc, va_K.moved hW.alike hK⟩⟩ rfl rfl hl.1 rfl (lv_room (Nat.le_of_ble_eq_true rfl)) dX3_border_63 ⟨Nat.zero_le _, Nat.zero_le _⟩) (fun r19 hw => ?_)
    rw [← hQ]
    exact W.iret (v := r19) hx hb hr (fun t ht hW => ⟨⟨_, (sl_1, ho_2, nu_3, fa_4, ou_5, fn_6, co_7, fo_8, ro_9, po_10, pn_11, rd_12, st_13, tw_14, od_15, rn_16), rfl, hw, by rw [ht]; exact hP, hD⟩, hS.F ht⟩) hS.2.2 dX3_border_66
  · have hw := hw.2.2.2.2 hc
    rw [hc]
    refine lv_tableIn (tgt := 67) hx hb dX3_border_10 (by decide) (by decide) rfl (by decide) ?_
    refine lv_aload_n hx hb dX3_border_67 rfl (lv_at hl 0 rfl) ?_
    refine va_get (D := (dC, dI)) (ci := 3) (v := .ref (ad 1)) (C := RX3) (T := TX3) (N := 4) hx hb hts f_X3_border_1 hown hK hP 0 rfl rfl 2 (by decide) (hts _ f_X3_border_0) (fun _ h9 => h9) rfl dX3_border_68 ?_
    refine lv_iload_n hx hb dX3_border_71 rfl (lv_at hl 1 rfl) ?_
    have hPc := hP.sub (ws' := (wFac ad cI cJ cZ ho_2 nu_3 fa_4 ou_5 sp fn_6 co_7 fo_8 ro_9 po_10 pn_11 rd_12 st_13 tw_14 od_15 rn_16 x y u sn)) [1, 2, 3, 4, 5, 6, 7, 8, 9, 10, 11, 12, 13, 14, 15, 16, 17, 18, 19] rfl
    refine vp_callSi (W.runV (As := [.int v1]) (rest := []) C (c_X0_piecesIn l dC dI cI cJ cZ ad ho_2 nu_3 fa_4 ou_5 sp fn_6 co_7 fo_8 ro_9 po_10 pn_11 rd_12 st_13 tw_14 od_15 rn_16 x y u sn v1 hw) (cwV 1 hts gX3_border_X0_piecesIn rfl rfl rfl (by decide +kernel) ⟨Nat.le_of_ble_eq_true rfl, Nat.le_of_ble_eq_true rfl⟩) ⟨fb_ro, va_recv hK hPc (ci := 0) (q0 := 0) rfl rfl, fun U hU hW => ⟨rfl, by rw [hU]; exact hPc, va_K.moved hW.alike hK⟩⟩ rfl rfl hl.1 rfl (lv_room (Nat.le_of_ble_eq_true rfl)) dX3_border_72 ⟨Nat.zero_le _, Nat.zero_le _⟩) (fun r20 hw => ?_)
    rw [← hQ]
    exact W.iret (v := r20) hx hb hr (fun t ht hW => ⟨⟨_, (sl_1, ho_2, nu_3, fa_4, ou_5, fn_6, co_7, fo_8, ro_9, po_10, pn_11, rd_12, st_13, tw_14, od_15, rn_16), rfl, hw, by rw [ht]; exact hP, hD⟩, hS.F ht⟩) hS.2.2 dX3_border_75
-- X3_border throws
abbrev rmx_X3_border : Room := { frames := 7, cells := 1, slots := 6, locals := 142 }
theorem fx_X3_border_0 : (Cond.fieldLink RX3 12 "PlaneFaces" "faces" "LPlaneFaces$Faces;") ∈ wsX3_border := by decide +kernel
theorem fx_X3_border_1 : ∀ w ∈ wsX30, w ∈ wsX3_border := by decide +kernel
set_option maxRecDepth 100000 in
set_option maxHeartbeats 4000000 in
theorem cx_X3_border (l : Launch) (hst : l.stackTraces = false) (dC : Nat → ClassId) (dI : Nat → Nat → Nat) (cI cJ cZ : ClassId) (ad : Nat → Nat) (sz : Nat) (sl : Int32) (ho : Nat → Int32) (nu : Nat → Int32) (fa : Nat → Int32) (ou : Nat → Int32) (sp : Nat → Int32) (fn : Int32) (co : Nat → Int32) (fo : Nat → Int32) (ro : Nat → Int32) (po : Nat → Int32) (pn : Int32) (rd : Nat → Int32) (st : Nat → Int32) (tw : Nat → Int64) (od : Nat → Int32) (rn : Int32) (x : Nat → Int32) (y : Nat → Int32) (u : Nat → Int32) (sn : Int32) (v1 : Int32) (v2 : Int32) {px : String → Int32 → (Nat → Int32) → (Nat → Int32) → (Nat → Int32) → (Nat → Int32) → Int32 → (Nat → Int32) → (Nat → Int32) → (Nat → Int32) → (Nat → Int32) → Int32 → (Nat → Int32) → (Nat → Int32) → (Nat → Int64) → (Nat → Int32) → Int32 → Prop} (hw : wpx_X3_border sl ho nu fa ou fn co fo ro po pn rd st tw od rn x y u v1 v2 px) : vx_Met l yX3_border wsX3_border rmx_X3_border (va_Pc [.ref (ad 0), .int v1, .int v2] (fun U => U.heap.size = sz ∧ va_P (dC, dI) vwCl (wPla ad cI cJ cZ sl ho nu fa ou sp fn co fo ro po pn rd st tw od rn x y u sn) U.heap ∧ va_K (dC, dI) vwCl (tyL cI cJ cZ) U ∧ va_D (fun _ => True) (wPla ad cI cJ cZ sl ho nu fa ou sp fn co fo ro po pn rd st tw od rn x y u sn) ∧ xe (va_A (wPla ad cI cJ cZ sl ho nu fa ou sp fn co fo ro po pn rd st tw od rn x y u sn) sz) U U.heap)) (va_Qi (fun (_ : Int32) (_ : Unit) => False) (fun _ _ => True) (va_A (wPla ad cI cJ cZ sl ho nu fa ou sp fn co fo ro po pn rd st tw od rn x y u sn) sz)) (vx_X (fun _ : Int32 × (Nat → Int32) × (Nat → Int32) × (Nat → Int32) × (Nat → Int32) × Int32 × (Nat → Int32) × (Nat → Int32) × (Nat → Int32) × (Nat → Int32) × Int32 × (Nat → Int32) × (Nat → Int32) × (Nat → Int64) × (Nat → Int32) × Int32 => True) (fun (E : String) (uu : Int32 × (Nat → Int32) × (Nat → Int32) × (Nat → Int32) × (Nat → Int32) × Int32 × (Nat → Int32) × (Nat → Int32) × (Nat → Int32) × (Nat → Int32) × Int32 × (Nat → Int32) × (Nat → Int32) × (Nat → Int64) × (Nat → Int32) × Int32) (t : State) => px E uu.1 uu.2.1 uu.2.2.1 uu.2.2.2.1 uu.2.2.2.2.1 uu.2.2.2.2.2.1 uu.2.2.2.2.2.2.1 uu.2.2.2.2.2.2.2.1 uu.2.2.2.2.2.2.2.2.1 uu.2.2.2.2.2.2.2.2.2.1 uu.2.2.2.2.2.2.2.2.2.2.1 uu.2.2.2.2.2.2.2.2.2.2.2.1 uu.2.2.2.2.2.2.2.2.2.2.2.2.1 uu.2.2.2.2.2.2.2.2.2.2.2.2.2.1 uu.2.2.2.2.2.2.2.2.2.2.2.2.2.2.1 uu.2.2.2.2.2.2.2.2.2.2.2.2.2.2.2 ∧ va_P (dC, dI) vwCl (wPla ad cI cJ cZ uu.1 uu.2.1 uu.2.2.1 uu.2.2.2.1 uu.2.2.2.2.1 sp uu.2.2.2.2.2.1 uu.2.2.2.2.2.2.1 uu.2.2.2.2.2.2.2.1 uu.2.2.2.2.2.2.2.2.1 uu.2.2.2.2.2.2.2.2.2.1 uu.2.2.2.2.2.2.2.2.2.2.1 uu.2.2.2.2.2.2.2.2.2.2.2.1 uu.2.2.2.2.2.2.2.2.2.2.2.2.1 uu.2.2.2.2.2.2.2.2.2.2.2.2.2.1 uu.2.2.2.2.2.2.2.2.2.2.2.2.2.2.1 uu.2.2.2.2.2.2.2.2.2.2.2.2.2.2.2 x y u sn) t.heap ∧ va_D (va_A (wPla ad cI cJ cZ sl ho nu fa ou sp fn co fo ro po pn rd st tw od rn x y u sn) sz) (wPla ad cI cJ cZ uu.1 uu.2.1 uu.2.2.1 uu.2.2.2.1 uu.2.2.2.2.1 sp uu.2.2.2.2.2.1 uu.2.2.2.2.2.2.1 uu.2.2.2.2.2.2.2.1 uu.2.2.2.2.2.2.2.2.1 uu.2.2.2.2.2.2.2.2.2.1 uu.2.2.2.2.2.2.2.2.2.2.1 uu.2.2.2.2.2.2.2.2.2.2.2.1 uu.2.2.2.2.2.2.2.2.2.2.2.2.1 uu.2.2.2.2.2.2.2.2.2.2.2.2.2.1 uu.2.2.2.2.2.2.2.2.2.2.2.2.2.2.1 uu.2.2.2.2.2.2.2.2.2.2.2.2.2.2.2 x y u sn)) (va_A (wPla ad cI cJ cZ sl ho nu fa ou sp fn co fo ro po pn rd st tw od rn x y u sn) sz)) 1 6 (va_A (wPla ad cI cJ cZ sl ho nu fa ou sp fn co fo ro po pn rd st tw od rn x y u sn) sz) := by
  unfold wpx_X3_border at hw
  refine vx_ofW (cc := cX3_border) (maxL := 3) (ret := (some .int)) (by decide) rfl ?_
  intro p e s m args below meth c s₁ B hml hnt hv
  obtain ⟨hav, hsz, hP, hK, hD0, hxe⟩ := hv
  have hx := B.exec
  have hb := B.bytes
  have hr := B.returns
  have hts := atoms_spec (ws := wsX3_border) B.pre
  have hown : s.vm.findClass RX3 = some m.cls := findClass_of_methodNamed B.named
  have hlocks := B.notSynchronized
  have C : CallFix p m c cX3_border 3 s args wsX3_border RX3 := ⟨hx, hb, hml, hown, hts⟩
  obtain ⟨ls, hE, hl⟩ := mx_entry (m := m) [.ref (ad 0), .int v1, .int v2] (n := 3) (Nat.le_of_ble_eq_true rfl)
  have hl : lv_has ls 3 [(0, .ref (ad 0)), (1, .int v1), (2, .int v2)] := hl
  rw [show entryFrame m args 3 = F0 m 0 ls [] by rw [hav]; exact hE]
  subst hsz
  have hD := hD0.self (sz := s.heap.size)
  generalize hAe : va_A (wPla ad cI cJ cZ sl ho nu fa ou sp fn co fo ro po pn rd st tw od rn x y u sn) s.heap.size = A at hD hxe ⊢
  have hA : ∀ q : Nat, s.heap.size ≤ q → A q := fun q h => by rw [← hAe]; exact Or.inr h
  have hS : va_S A s.heap s.heap [] := va_S.rf
  obtain ⟨Q, hQ⟩ : ∃ Q, vx_MQ below (va_Qi (fun (_ : Int32) (_ : Unit) => False) (fun _ _ => True) A) (vx_X (fun _ : Int32 × (Nat → Int32) × (Nat → Int32) × (Nat → Int32) × (Nat → Int32) × Int32 × (Nat → Int32) × (Nat → Int32) × (Nat → Int32) × (Nat → Int32) × Int32 × (Nat → Int32) × (Nat → Int32) × (Nat → Int64) × (Nat → Int32) × Int32 => True) (fun (E : String) (uu : Int32 × (Nat → Int32) × (Nat → Int32) × (Nat → Int32) × (Nat → Int32) × Int32 × (Nat → Int32) × (Nat → Int32) × (Nat → Int32) × (Nat → Int32) × Int32 × (Nat → Int32) × (Nat → Int32) × (Nat → Int64) × (Nat → Int32) × Int32) (t : State) => px E uu.1 uu.2.1 uu.2.2.1 uu.2.2.2.1 uu.2.2.2.2.1 uu.2.2.2.2.2.1 uu.2.2.2.2.2.2.1 uu.2.2.2.2.2.2.2.1 uu.2.2.2.2.2.2.2.2.1 uu.2.2.2.2.2.2.2.2.2.1 uu.2.2.2.2.2.2.2.2.2.2.1 uu.2.2.2.2.2.2.2.2.2.2.2.1 uu.2.2.2.2.2.2.2.2.2.2.2.2.1 uu.2.2.2.2.2.2.2.2.2.2.2.2.2.1 uu.2.2.2.2.2.2.2.2.2.2.2.2.2.2.1 uu.2.2.2.2.2.2.2.2.2.2.2.2.2.2.2 ∧ va_P (dC, dI) vwCl (wPla ad cI cJ cZ uu.1 uu.2.1 uu.2.2.1 uu.2.2.2.1 uu.2.2.2.2.1 sp uu.2.2.2.2.2.1 uu.2.2.2.2.2.2.1 uu.2.2.2.2.2.2.2.1 uu.2.2.2.2.2.2.2.2.1 uu.2.2.2.2.2.2.2.2.2.1 uu.2.2.2.2.2.2.2.2.2.2.1 uu.2.2.2.2.2.2.2.2.2.2.2.1 uu.2.2.2.2.2.2.2.2.2.2.2.2.1 uu.2.2.2.2.2.2.2.2.2.2.2.2.2.1 uu.2.2.2.2.2.2.2.2.2.2.2.2.2.2.1 uu.2.2.2.2.2.2.2.2.2.2.2.2.2.2.2 x y u sn) t.heap ∧ va_D A (wPla ad cI cJ cZ uu.1 uu.2.1 uu.2.2.1 uu.2.2.2.1 uu.2.2.2.2.1 sp uu.2.2.2.2.2.1 uu.2.2.2.2.2.2.1 uu.2.2.2.2.2.2.2.1 uu.2.2.2.2.2.2.2.2.1 uu.2.2.2.2.2.2.2.2.2.1 uu.2.2.2.2.2.2.2.2.2.2.1 uu.2.2.2.2.2.2.2.2.2.2.2.1 uu.2.2.2.2.2.2.2.2.2.2.2.2.1 uu.2.2.2.2.2.2.2.2.2.2.2.2.2.1 uu.2.2.2.2.2.2.2.2.2.2.2.2.2.2.1 uu.2.2.2.2.2.2.2.2.2.2.2.2.2.2.2 x y u sn)) A) args s 1 6 A = Q := ⟨_, rfl⟩
  rw [hQ]
  obtain ⟨H, hH⟩ : ∃ H, s.heap = H := ⟨_, rfl⟩
  have hS : va_S A s.heap H [] := by rw [← hH]; exact hS
  rw [hH] at hP
  show W p l e rmx_X3_border s m args below meth c s.heap [] 0 0 Q (F0 m 0 ls [])
  suffices hg : W p l e rmx_X3_border s m args below meth c H [] 0 0 Q (F0 m 0 ls []) by rw [hH]; exact hg
  clear hH
  generalize hlo : ([] : List Loc) = locs at hS ⊢
  refine lv_aload_n hx hb dX3_border_0 rfl (lv_at hl 0 rfl) ?_
  have hPc := hP.sub (ws' := (wPla ad cI cJ cZ sl ho nu fa ou sp fn co fo ro po pn rd st tw od rn x y u sn)) [0, 1, 2, 3, 4, 5, 6, 7, 8, 9, 10, 11, 12, 13, 14, 15, 16, 17, 18, 19] rfl
  have hDc := hD.sub (ws' := (wPla ad cI cJ cZ sl ho nu fa ou sp fn co fo ro po pn rd st tw od rn x y u sn)) [0, 1, 2, 3, 4, 5, 6, 7, 8, 9, 10, 11, 12, 13, 14, 15, 16, 17, 18, 19] (by decide) rfl
  have hFc := va_free (wc := (wPla ad cI cJ cZ sl ho nu fa ou sp fn co fo ro po pn rd st tw od rn x y u sn)) hD hS hA [0, 1, 2, 3, 4, 5, 6, 7, 8, 9, 10, 11, 12, 13, 14, 15, 16, 17, 18, 19] rfl
  refine va_callv (va_runV (As := []) (rest := []) C (c_X3_refresh l dC dI cI cJ cZ ad _ sl ho nu fa ou sp fn co fo ro po pn rd st tw od rn x y u sn  hw) (cwV 0 hts gX3_border_X3_refresh rfl rfl rfl (by decide +kernel) ⟨Nat.le_of_ble_eq_true rfl, Nat.le_of_ble_eq_true rfl⟩) ⟨fb_rw, va_recv hK hPc (ci := 3) (q0 := 0) rfl rfl, fun U hU hW => ⟨rfl, by rw [hU], by rw [hU]; exact hPc, va_K.moved hW.alike hK, hDc.weaken (fun _ _ _ _ => trivial)⟩⟩ rfl rfl hl.1 rfl (lv_room (Nat.le_of_ble_eq_true rfl)) dX3_border_1 ⟨Nat.zero_le _, Nat.zero_le _⟩) hS (fun q _ h => hFc q h) hFc (fun uu t H1 locs ht hvm hw hB hz1 hk1 hS => ?_)
  obtain ⟨sl_1, ho_2, nu_3, fa_4, ou_5, fn_6, co_7, fo_8, ro_9, po_10, pn_11, rd_12, st_13, tw_14, od_15, rn_16⟩ := uu
  obtain ⟨hP1, hD1⟩ := hB
  rw [ht] at hP1
  try dsimp only at hw hP1 hD1
  obtain ⟨hP, hD⟩ := va_join (wr := []) (w1 := (wPla ad cI cJ cZ sl_1 ho_2 nu_3 fa_4 ou_5 sp fn_6 co_7 fo_8 ro_9 po_10 pn_11 rd_12 st_13 tw_14 od_15 rn_16 x y u sn)) hP hD [0, 1, 2, 3, 4, 5, 6, 7, 8, 9, 10, 11, 12, 13, 14, 15, 16, 17, 18, 19] [] rfl rfl (by decide) (by decide) hk1 hFc hP1 hD1
  generalize H1 = H at hP hS ⊢
  have hP : va_P (dC, dI) vwCl (wPla ad cI cJ cZ sl_1 ho_2 nu_3 fa_4 ou_5 sp fn_6 co_7 fo_8 ro_9 po_10 pn_11 rd_12 st_13 tw_14 od_15 rn_16 x y u sn) H := hP
  have hD : va_D A (wPla ad cI cJ cZ sl_1 ho_2 nu_3 fa_4 ou_5 sp fn_6 co_7 fo_8 ro_9 po_10 pn_11 rd_12 st_13 tw_14 od_15 rn_16 x y u sn) := hD
  refine lv_aload_n hx hb dX3_border_4 rfl (lv_at hl 0 rfl) ?_
  refine lv_iload_n hx hb dX3_border_5 rfl (lv_at hl 1 rfl) ?_
  rcases hw with hw | hw
  · have hPc := hP.sub (ws' := (wPla ad cI cJ cZ sl_1 ho_2 nu_3 fa_4 ou_5 sp fn_6 co_7 fo_8 ro_9 po_10 pn_11 rd_12 st_13 tw_14 od_15 rn_16 x y u sn)) [0, 1, 2, 3, 4, 5, 6, 7, 8, 9, 10, 11, 12, 13, 14, 15, 16, 17, 18, 19] rfl
    have hDc := hD.sub (ws' := (wPla ad cI cJ cZ sl_1 ho_2 nu_3 fa_4 ou_5 sp fn_6 co_7 fo_8 ro_9 po_10 pn_11 rd_12 st_13 tw_14 od_15 rn_16 x y u sn)) [0, 1, 2, 3, 4, 5, 6, 7, 8, 9, 10, 11, 12, 13, 14, 15, 16, 17, 18, 19] (by decide) rfl
    have hFc := va_free (wc := (wPla ad cI cJ cZ sl_1 ho_2 nu_3 fa_4 ou_5 sp fn_6 co_7 fo_8 ro_9 po_10 pn_11 rd_12 st_13 tw_14 od_15 rn_16 x y u sn)) hD hS hA [0, 1, 2, 3, 4, 5, 6, 7, 8, 9, 10, 11, 12, 13, 14, 15, 16, 17, 18, 19] rfl
    refine vx_callv (vx_runV (As := [.int v1]) (rest := []) C (cx_X3_requireFace l hst dC dI cI cJ cZ ad _ sl_1 ho_2 nu_3 fa_4 ou_5 sp fn_6 co_7 fo_8 ro_9 po_10 pn_11 rd_12 st_13 tw_14 od_15 rn_16 x y u sn v1 hw) (cwV 1 hts gX3_border_X3_requireFace rfl rfl rfl (by decide +kernel) ⟨Nat.le_of_ble_eq_true rfl, Nat.le_of_ble_eq_true rfl⟩) ⟨fb_x, va_recv hK hPc (ci := 3) (q0 := 0) rfl rfl, fun U hU hW => ⟨rfl, by rw [hU], by rw [hU]; exact hPc, va_K.moved hW.alike hK, hDc.weaken (fun _ _ _ _ => trivial), hxe.step hS hFc hU hW⟩⟩ rfl rfl hl.1 rfl (lv_room (Nat.le_of_ble_eq_true rfl)) dX3_border_6 ⟨Nat.le_of_ble_eq_true rfl, Nat.le_of_ble_eq_true rfl⟩) hS (fun q _ h => hFc q h) hFc (fun q _ h => hFc q h) (fun E9 ce q9 uu t H1 locs ht hvm hpx hB hz1 hk1 hS hce hcv hcl => ?_) (fun uu t H1 locs ht hvm hpost hB hz1 hk1 hS => hpost.elim)
    obtain ⟨hw, hP1, hD1⟩ := hB
    rw [ht] at hP1
    try dsimp only at hw hP1 hD1
    obtain ⟨hP, hD⟩ := va_join (wr := []) (w1 := (wPla ad cI cJ cZ sl_1 ho_2 nu_3 fa_4 ou_5 sp fn_6 co_7 fo_8 ro_9 po_10 pn_11 rd_12 st_13 tw_14 od_15 rn_16 x y u sn)) hP hD [0, 1, 2, 3, 4, 5, 6, 7, 8, 9, 10, 11, 12, 13, 14, 15, 16, 17, 18, 19] [] rfl rfl (by decide) (by decide) hk1 hFc hP1 hD1
    have hP : va_P (dC, dI) vwCl (wPla ad cI cJ cZ sl_1 ho_2 nu_3 fa_4 ou_5 sp fn_6 co_7 fo_8 ro_9 po_10 pn_11 rd_12 st_13 tw_14 od_15 rn_16 x y u sn) H1 := hP
    have hD : va_D A (wPla ad cI cJ cZ sl_1 ho_2 nu_3 fa_4 ou_5 sp fn_6 co_7 fo_8 ro_9 po_10 pn_11 rd_12 st_13 tw_14 od_15 rn_16 x y u sn) := hD
    rw [← hQ]
    exact vx_out (fun x9 h9 => (hnt x9 h9).elim) hlocks hce hcv hcl (fun t ht hvm => ⟨(sl_1, ho_2, nu_3, fa_4, ou_5, fn_6, co_7, fo_8, ro_9, po_10, pn_11, rd_12, st_13, tw_14, od_15, rn_16), trivial, ⟨hw, by rw [ht]; exact hP, hD⟩, hS.F ht⟩) hS.2.2 (Nat.le_of_ble_eq_true rfl) (Nat.le_of_ble_eq_true rfl)
  · refine va_csv (W.runV (As := [.int v1]) (rest := []) C (c_X3_requireFace l dC dI cI cJ cZ ad sl_1 ho_2 nu_3 fa_4 ou_5 sp fn_6 co_7 fo_8 ro_9 po_10 pn_11 rd_12 st_13 tw_14 od_15 rn_16 x y u sn v1 hw) (cwV 1 hts gX3_border_X3_requireFace rfl rfl rfl (by decide +kernel) ⟨Nat.le_of_ble_eq_true rfl, Nat.le_of_ble_eq_true rfl⟩) ⟨fb_ro, va_recv hK hP (ci := 3) (q0 := 0) rfl rfl, fun U hU hW => ⟨rfl, by rw [hU]; exact hP, va_K.moved hW.alike hK⟩⟩ rfl rfl hl.1 rfl (lv_room (Nat.le_of_ble_eq_true rfl)) dX3_border_6 ⟨Nat.zero_le _, Nat.zero_le _⟩) (fun hw => ?_)
    refine lv_iload_n hx hb dX3_border_9 rfl (lv_at hl 2 rfl) ?_
    rcases sw_3 v2 with hc | hc | hc | hc | hc
    · have hw := hw.1 hc
      refine lv_tableOut (tgt := 76) hx hb dX3_border_10 hc (by decide) ?_
      refine lv_iconst (v := -1) hx hb dX3_border_76 (by decide) ?_
      exact hw.elim
    · have hw := hw.2.1 hc
      rw [hc]
      refine lv_tableIn (tgt := 40) hx hb dX3_border_10 (by decide) (by decide) rfl (by decide) ?_
      refine lv_aload_n hx hb dX3_border_40 rfl (lv_at hl 0 rfl) ?_
      refine va_get (D := (dC, dI)) (ci := 3) (v := .ref (ad 1)) (C := RX3) (T := TX3) (N := 4) hx hb hts fx_X3_border_1 hown hK hP 0 rfl rfl 2 (by decide) (hts _ fx_X3_border_0) (fun _ h9 => h9) rfl dX3_border_41 ?_
      refine lv_iload_n hx hb dX3_border_44 rfl (lv_at hl 1 rfl) ?_
      have hPc := hP.sub (ws' := (wFac ad cI cJ cZ ho_2 nu_3 fa_4 ou_5 sp fn_6 co_7 fo_8 ro_9 po_10 pn_11 rd_12 st_13 tw_14 od_15 rn_16 x y u sn)) [1, 2, 3, 4, 5, 6, 7, 8, 9, 10, 11, 12, 13, 14, 15, 16, 17, 18, 19] rfl
      refine vp_callSi (W.runV (As := [.int v1]) (rest := []) C (c_X0_roundsOf l dC dI cI cJ cZ ad ho_2 nu_3 fa_4 ou_5 sp fn_6 co_7 fo_8 ro_9 po_10 pn_11 rd_12 st_13 tw_14 od_15 rn_16 x y u sn v1 hw) (cwV 1 hts gX3_border_X0_roundsOf rfl rfl rfl (by decide +kernel) ⟨Nat.le_of_ble_eq_true rfl, Nat.le_of_ble_eq_true rfl⟩) ⟨fb_ro, va_recv hK hPc (ci := 0) (q0 := 0) rfl rfl, fun U hU hW => ⟨rfl, by rw [hU]; exact hPc, va_K.moved hW.alike hK⟩⟩ rfl rfl hl.1 rfl (lv_room (Nat.le_of_ble_eq_true rfl)) dX3_border_45 ⟨Nat.zero_le _, Nat.zero_le _⟩) (fun r17 hw => ?_)
      exact hw.elim
    · have hw := hw.2.2.1 hc
      rw [hc]
      refine lv_tableIn (tgt := 49) hx hb dX3_border_10 (by decide) (by decide) rfl (by decide) ?_
      refine lv_aload_n hx hb dX3_border_49 rfl (lv_at hl 0 rfl) ?_
      refine va_get (D := (dC, dI)) (ci := 3) (v := .ref (ad 1)) (C := RX3) (T := TX3) (N := 4) hx hb hts fx_X3_border_1 hown hK hP 0 rfl rfl 2 (by decide) (hts _ fx_X3_border_0) (fun _ h9 => h9) rfl dX3_border_50 ?_
      refine lv_iload_n hx hb dX3_border_53 rfl (lv_at hl 1 rfl) ?_
      have hPc := hP.sub (ws' := (wFac ad cI cJ cZ ho_2 nu_3 fa_4 ou_5 sp fn_6 co_7 fo_8 ro_9 po_10 pn_11 rd_12 st_13 tw_14 od_15 rn_16 x y u sn)) [1, 2, 3, 4, 5, 6, 7, 8, 9, 10, 11, 12, 13, 14, 15, 16, 17, 18, 19] rfl
      refine vp_callSi (W.runV (As := [.int v1]) (rest := []) C (c_X0_halvesOf l dC dI cI cJ cZ ad ho_2 nu_3 fa_4 ou_5 sp fn_6 co_7 fo_8 ro_9 po_10 pn_11 rd_12 st_13 tw_14 od_15 rn_16 x y u sn v1 hw) (cwV 1 hts gX3_border_X0_halvesOf rfl rfl rfl (by decide +kernel) ⟨Nat.le_of_ble_eq_true rfl, Nat.le_of_ble_eq_true rfl⟩) ⟨fb_ro, va_recv hK hPc (ci := 0) (q0 := 0) rfl rfl, fun U hU hW => ⟨rfl, by rw [hU]; exact hPc, va_K.moved hW.alike hK⟩⟩ rfl rfl hl.1 rfl (lv_room (Nat.le_of_ble_eq_true rfl)) dX3_border_54 ⟨Nat.zero_le _, Nat.zero_le _⟩) (fun r18 hw => ?_)
      exact hw.elim
    · have hw := hw.2.2.2.1 hc
      rw [hc]
      refine lv_tableIn (tgt := 58) hx hb dX3_border_10 (by decide) (by decide) rfl (by decide) ?_
      refine lv_aload_n hx hb dX3_border_58 rfl (lv_at hl 0 rfl) ?_
      refine va_get (D := (dC, dI)) (ci := 3) (v := .ref (ad 1)) (C := RX3) (T := TX3) (N := 4) hx hb hts fx_X3_border_1 hown hK hP 0 rfl rfl 2 (by decide) (hts _ fx_X3_border_0) (fun _ h9 => h9) rfl dX3_border_59 ?_
      refine lv_iload_n hx hb dX3_border_62 rfl (lv_at hl 1 rfl) ?_
      have hPc := hP.sub (ws' := (wFac ad cI cJ cZ ho_2 nu_3 fa_4 ou_5 sp fn_6 co_7 fo_8 ro_9 po_10 pn_11 rd_12 st_13 tw_14 od_15 rn_16 x y u sn)) [1, 2, 3, 4, 5, 6, 7, 8, 9, 10, 11, 12, 13, 14, 15, 16, 17, 18, 19] rfl
      refine vp_callSi (W.runV (As := [.int v1]) (rest := []) C (c_X0_leastHalfOf l dC dI cI cJ cZ ad ho_2 nu_3 fa_4 ou_5 sp fn_6 co_7 fo_8 ro_9 po_10 pn_11 rd_12 st_13 tw_14 od_15 rn_16 x y u sn v1 hw) (cwV 1 hts gX3_border_X0_leastHalfOf rfl rfl rfl (by decide +kernel) ⟨Nat.le_of_ble_eq_true rfl, Nat.le_of_ble_eq_true rfl⟩) ⟨fb_ro, va_recv hK hPc (ci := 0) (q0 := 0) rfl rfl, fun U hU hW => ⟨rfl, by rw [hU]; exact hPc, va_K.moved hW.alike hK⟩⟩ rfl rfl hl.1 rfl (lv_room (Nat.le_of_ble_eq_true rfl)) dX3_border_63 ⟨Nat.zero_le _, Nat.zero_le _⟩) (fun r19 hw => ?_)
      exact hw.elim
    · have hw := hw.2.2.2.2 hc
      rw [hc]
      refine lv_tableIn (tgt := 67) hx hb dX3_border_10 (by decide) (by decide) rfl (by decide) ?_
      refine lv_aload_n hx hb dX3_border_67 rfl (lv_at hl 0 rfl) ?_
      refine va_get (D := (dC, dI)) (ci := 3) (v := .ref (ad 1)) (C := RX3) (T := TX3) (N := 4) hx hb hts fx_X3_border_1 hown hK hP 0 rfl rfl 2 (by decide) (hts _ fx_X3_border_0) (fun _ h9 => h9) rfl dX3_border_68 ?_
      refine lv_iload_n hx hb dX3_border_71 rfl (lv_at hl 1 rfl) ?_
      have hPc := hP.sub (ws' := (wFac ad cI cJ cZ ho_2 nu_3 fa_4 ou_5 sp fn_6 co_7 fo_8 ro_9 po_10 pn_11 rd_12 st_13 tw_14 od_15 rn_16 x y u sn)) [1, 2, 3, 4, 5, 6, 7, 8, 9, 10, 11, 12, 13, 14, 15, 16, 17, 18, 19] rfl
      refine vp_callSi (W.runV (As := [.int v1]) (rest := []) C (c_X0_piecesIn l dC dI cI cJ cZ ad ho_2 nu_3 fa_4 ou_5 sp fn_6 co_7 fo_8 ro_9 po_10 pn_11 rd_12 st_13 tw_14 od_15 rn_16 x y u sn v1 hw) (cwV 1 hts gX3_border_X0_piecesIn rfl rfl rfl (by decide +kernel) ⟨Nat.le_of_ble_eq_true rfl, Nat.le_of_ble_eq_true rfl⟩) ⟨fb_ro, va_recv hK hPc (ci := 0) (q0 := 0) rfl rfl, fun U hU hW => ⟨rfl, by rw [hU]; exact hPc, va_K.moved hW.alike hK⟩⟩ rfl rfl hl.1 rfl (lv_room (Nat.le_of_ble_eq_true rfl)) dX3_border_72 ⟨Nat.zero_le _, Nat.zero_le _⟩) (fun r20 hw => ?_)
      exact hw.elim
-- X3_locate
abbrev rm_X3_locate : Room := { frames := 6, cells := 0, slots := 0, locals := 142 }
theorem f_X3_locate_0 : (Cond.fieldLink RX3 27 "PlaneFaces" "segments" "LPlaneFaces$Segments;") ∈ wsX3_locate := by decide +kernel
theorem f_X3_locate_1 : ∀ w ∈ wsX30, w ∈ wsX3_locate := by decide +kernel
theorem f_X3_locate_2 : (Cond.fieldLink RX3 12 "PlaneFaces" "faces" "LPlaneFaces$Faces;") ∈ wsX3_locate := by decide +kernel
theorem f_X3_locate_3 : (Cond.fieldLink RX3 20 "PlaneFaces" "rounds" "LPlaneFaces$Rounds;") ∈ wsX3_locate := by decide +kernel
set_option maxRecDepth 100000 in
set_option maxHeartbeats 4000000 in
theorem c_X3_locate (l : Launch) (dC : Nat → ClassId) (dI : Nat → Nat → Nat) (cI cJ cZ : ClassId) (ad : Nat → Nat) (sz : Nat) (sl : Int32) (ho : Nat → Int32) (nu : Nat → Int32) (fa : Nat → Int32) (ou : Nat → Int32) (sp : Nat → Int32) (fn : Int32) (co : Nat → Int32) (fo : Nat → Int32) (ro : Nat → Int32) (po : Nat → Int32) (pn : Int32) (rd : Nat → Int32) (st : Nat → Int32) (tw : Nat → Int64) (od : Nat → Int32) (rn : Int32) (x : Nat → Int32) (y : Nat → Int32) (u : Nat → Int32) (sn : Int32) (v1 : Int32) (v2 : Int32) {post : Int32 → Int32 → (Nat → Int32) → (Nat → Int32) → (Nat → Int32) → (Nat → Int32) → Int32 → (Nat → Int32) → (Nat → Int32) → (Nat → Int32) → (Nat → Int32) → Int32 → (Nat → Int32) → (Nat → Int32) → (Nat → Int64) → (Nat → Int32) → Int32 → Prop} (hw : wp_X3_locate sl ho nu fa ou fn co fo ro po pn rd st tw od rn x y u v1 v2 post) : Met l yX3_locate wsX3_locate rm_X3_locate (va_Pc [.ref (ad 0), .int v1, .int v2] (fun U => U.heap.size = sz ∧ va_P (dC, dI) vwCl (wPla ad cI cJ cZ sl ho nu fa ou sp fn co fo ro po pn rd st tw od rn x y u sn) U.heap ∧ va_K (dC, dI) vwCl (tyL cI cJ cZ) U ∧ va_D (fun _ => True) (wPla ad cI cJ cZ sl ho nu fa ou sp fn co fo ro po pn rd st tw od rn x y u sn))) (va_Qi (fun (r : Int32) (uu : Int32 × (Nat → Int32) × (Nat → Int32) × (Nat → Int32) × (Nat → Int32) × Int32 × (Nat → Int32) × (Nat → Int32) × (Nat → Int32) × (Nat → Int32) × Int32 × (Nat → Int32) × (Nat → Int32) × (Nat → Int64) × (Nat → Int32) × Int32) => post r uu.1 uu.2.1 uu.2.2.1 uu.2.2.2.1 uu.2.2.2.2.1 uu.2.2.2.2.2.1 uu.2.2.2.2.2.2.1 uu.2.2.2.2.2.2.2.1 uu.2.2.2.2.2.2.2.2.1 uu.2.2.2.2.2.2.2.2.2.1 uu.2.2.2.2.2.2.2.2.2.2.1 uu.2.2.2.2.2.2.2.2.2.2.2.1 uu.2.2.2.2.2.2.2.2.2.2.2.2.1 uu.2.2.2.2.2.2.2.2.2.2.2.2.2.1 uu.2.2.2.2.2.2.2.2.2.2.2.2.2.2.1 uu.2.2.2.2.2.2.2.2.2.2.2.2.2.2.2) (fun (uu : Int32 × (Nat → Int32) × (Nat → Int32) × (Nat → Int32) × (Nat → Int32) × Int32 × (Nat → Int32) × (Nat → Int32) × (Nat → Int32) × (Nat → Int32) × Int32 × (Nat → Int32) × (Nat → Int32) × (Nat → Int64) × (Nat → Int32) × Int32) (t : State) => va_P (dC, dI) vwCl (wPla ad cI cJ cZ uu.1 uu.2.1 uu.2.2.1 uu.2.2.2.1 uu.2.2.2.2.1 sp uu.2.2.2.2.2.1 uu.2.2.2.2.2.2.1 uu.2.2.2.2.2.2.2.1 uu.2.2.2.2.2.2.2.2.1 uu.2.2.2.2.2.2.2.2.2.1 uu.2.2.2.2.2.2.2.2.2.2.1 uu.2.2.2.2.2.2.2.2.2.2.2.1 uu.2.2.2.2.2.2.2.2.2.2.2.2.1 uu.2.2.2.2.2.2.2.2.2.2.2.2.2.1 uu.2.2.2.2.2.2.2.2.2.2.2.2.2.2.1 uu.2.2.2.2.2.2.2.2.2.2.2.2.2.2.2 x y u sn) t.heap ∧ va_D (va_A (wPla ad cI cJ cZ sl ho nu fa ou sp fn co fo ro po pn rd st tw od rn x y u sn) sz) (wPla ad cI cJ cZ uu.1 uu.2.1 uu.2.2.1 uu.2.2.2.1 uu.2.2.2.2.1 sp uu.2.2.2.2.2.1 uu.2.2.2.2.2.2.1 uu.2.2.2.2.2.2.2.1 uu.2.2.2.2.2.2.2.2.1 uu.2.2.2.2.2.2.2.2.2.1 uu.2.2.2.2.2.2.2.2.2.2.1 uu.2.2.2.2.2.2.2.2.2.2.2.1 uu.2.2.2.2.2.2.2.2.2.2.2.2.1 uu.2.2.2.2.2.2.2.2.2.2.2.2.2.1 uu.2.2.2.2.2.2.2.2.2.2.2.2.2.2.1 uu.2.2.2.2.2.2.2.2.2.2.2.2.2.2.2 x y u sn)) (va_A (wPla ad cI cJ cZ sl ho nu fa ou sp fn co fo ro po pn rd st tw od rn x y u sn) sz)) 0 0 (va_A (wPla ad cI cJ cZ sl ho nu fa ou sp fn co fo ro po pn rd st tw od rn x y u sn) sz) := by
  unfold wp_X3_locate at hw
  refine Met.ofW (cc := cX3_locate) (maxL := 5) (ret := (some .int)) (by decide) rfl ?_
  intro p e s m args below meth c s₁ B hml hv
  obtain ⟨hav, hsz, hP, hK, hD0⟩ := hv
  have hx := B.exec
  have hb := B.bytes
  have hr := B.returns
  have hts := atoms_spec (ws := wsX3_locate) B.pre
  have hown : s.vm.findClass RX3 = some m.cls := findClass_of_methodNamed B.named
  have hlocks := B.notSynchronized
  have C : CallFix p m c cX3_locate 5 s args wsX3_locate RX3 := ⟨hx, hb, hml, hown, hts⟩
  obtain ⟨ls, hE, hl⟩ := mx_entry (m := m) [.ref (ad 0), .int v1, .int v2] (n := 5) (Nat.le_of_ble_eq_true rfl)
  have hl : lv_has ls 5 [(0, .ref (ad 0)), (1, .int v1), (2, .int v2)] := hl
  rw [show entryFrame m args 5 = F0 m 0 ls [] by rw [hav]; exact hE]
  subst hsz
  have hD := hD0.self (sz := s.heap.size)
  generalize hAe : va_A (wPla ad cI cJ cZ sl ho nu fa ou sp fn co fo ro po pn rd st tw od rn x y u sn) s.heap.size = A at hD ⊢
  have hA : ∀ q : Nat, s.heap.size ≤ q → A q := fun q h => by rw [← hAe]; exact Or.inr h
  have hS : va_S A s.heap s.heap [] := va_S.rf
  obtain ⟨Q, hQ⟩ : ∃ Q, MQ below (va_Qi (fun (r : Int32) (uu : Int32 × (Nat → Int32) × (Nat → Int32) × (Nat → Int32) × (Nat → Int32) × Int32 × (Nat → Int32) × (Nat → Int32) × (Nat → Int32) × (Nat → Int32) × Int32 × (Nat → Int32) × (Nat → Int32) × (Nat → Int64) × (Nat → Int32) × Int32) => post r uu.1 uu.2.1 uu.2.2.1 uu.2.2.2.1 uu.2.2.2.2.1 uu.2.2.2.2.2.1 uu.2.2.2.2.2.2.1 uu.2.2.2.2.2.2.2.1 uu.2.2.2.2.2.2.2.2.1 uu.2.2.2.2.2.2.2.2.2.1 uu.2.2.2.2.2.2.2.2.2.2.1 uu.2.2.2.2.2.2.2.2.2.2.2.1 uu.2.2.2.2.2.2.2.2.2.2.2.2.1 uu.2.2.2.2.2.2.2.2.2.2.2.2.2.1 uu.2.2.2.2.2.2.2.2.2.2.2.2.2.2.1 uu.2.2.2.2.2.2.2.2.2.2.2.2.2.2.2) (fun (uu : Int32 × (Nat → Int32) × (Nat → Int32) × (Nat → Int32) × (Nat → Int32) × Int32 × (Nat → Int32) × (Nat → Int32) × (Nat → Int32) × (Nat → Int32) × Int32 × (Nat → Int32) × (Nat → Int32) × (Nat → Int64) × (Nat → Int32) × Int32) (t : State) => va_P (dC, dI) vwCl (wPla ad cI cJ cZ uu.1 uu.2.1 uu.2.2.1 uu.2.2.2.1 uu.2.2.2.2.1 sp uu.2.2.2.2.2.1 uu.2.2.2.2.2.2.1 uu.2.2.2.2.2.2.2.1 uu.2.2.2.2.2.2.2.2.1 uu.2.2.2.2.2.2.2.2.2.1 uu.2.2.2.2.2.2.2.2.2.2.1 uu.2.2.2.2.2.2.2.2.2.2.2.1 uu.2.2.2.2.2.2.2.2.2.2.2.2.1 uu.2.2.2.2.2.2.2.2.2.2.2.2.2.1 uu.2.2.2.2.2.2.2.2.2.2.2.2.2.2.1 uu.2.2.2.2.2.2.2.2.2.2.2.2.2.2.2 x y u sn) t.heap ∧ va_D A (wPla ad cI cJ cZ uu.1 uu.2.1 uu.2.2.1 uu.2.2.2.1 uu.2.2.2.2.1 sp uu.2.2.2.2.2.1 uu.2.2.2.2.2.2.1 uu.2.2.2.2.2.2.2.1 uu.2.2.2.2.2.2.2.2.1 uu.2.2.2.2.2.2.2.2.2.1 uu.2.2.2.2.2.2.2.2.2.2.1 uu.2.2.2.2.2.2.2.2.2.2.2.1 uu.2.2.2.2.2.2.2.2.2.2.2.2.1 uu.2.2.2.2.2.2.2.2.2.2.2.2.2.1 uu.2.2.2.2.2.2.2.2.2.2.2.2.2.2.1 uu.2.2.2.2.2.2.2.2.2.2.2.2.2.2.2 x y u sn)) A) args s 0 0 A = Q := ⟨_, rfl⟩
  rw [hQ]
  obtain ⟨H, hH⟩ : ∃ H, s.heap = H := ⟨_, rfl⟩
  have hS : va_S A s.heap H [] := by rw [← hH]; exact hS
  rw [hH] at hP
  show W p l e rm_X3_locate s m args below meth c s.heap [] 0 0 Q (F0 m 0 ls [])
  suffices hg : W p l e rm_X3_locate s m args below meth c H [] 0 0 Q (F0 m 0 ls []) by rw [hH]; exact hg
  clear hH
  generalize hlo : ([] : List Loc) = locs at hS ⊢
  refine lv_iload_n hx hb dX3_locate_0 rfl (lv_at hl 1 rfl) ?_
  refine lv_iload_n hx hb dX3_locate_1 rfl (lv_at hl 2 rfl) ?_
  refine va_csv (W.runS (As := [.int v1, .int v2]) (rest := []) C (c_X3_requirePlace l v1 v2 hw) (va_cwS 2 hts gX3_locate_X3_requirePlace rfl rfl rfl (by decide +kernel) ⟨Nat.le_of_ble_eq_true rfl, Nat.le_of_ble_eq_true rfl⟩) ⟨fb_st, fun U hU hW => ⟨rfl, trivial⟩⟩ rfl rfl hl.1 rfl (lv_room (Nat.le_of_ble_eq_true rfl)) dX3_locate_2 ⟨Nat.zero_le _, Nat.zero_le _⟩) (fun hw => ?_)
  refine lv_aload_n hx hb dX3_locate_5 rfl (lv_at hl 0 rfl) ?_
  have hPc := hP.sub (ws' := (wPla ad cI cJ cZ sl ho nu fa ou sp fn co fo ro po pn rd st tw od rn x y u sn)) [0, 1, 2, 3, 4, 5, 6, 7, 8, 9, 10, 11, 12, 13, 14, 15, 16, 17, 18, 19] rfl
  have hDc := hD.sub (ws' := (wPla ad cI cJ cZ sl ho nu fa ou sp fn co fo ro po pn rd st tw od rn x y u sn)) [0, 1, 2, 3, 4, 5, 6, 7, 8, 9, 10, 11, 12, 13, 14, 15, 16, 17, 18, 19] (by decide) rfl
  have hFc := va_free (wc := (wPla ad cI cJ cZ sl ho nu fa ou sp fn co fo ro po pn rd st tw od rn x y u sn)) hD hS hA [0, 1, 2, 3, 4, 5, 6, 7, 8, 9, 10, 11, 12, 13, 14, 15, 16, 17, 18, 19] rfl
  refine va_callv (va_runV (As := []) (rest := []) C (c_X3_refresh l dC dI cI cJ cZ ad _ sl ho nu fa ou sp fn co fo ro po pn rd st tw od rn x y u sn  hw) (cwV 0 hts gX3_locate_X3_refresh rfl rfl rfl (by decide +kernel) ⟨Nat.le_of_ble_eq_true rfl, Nat.le_of_ble_eq_true rfl⟩) ⟨fb_rw, va_recv hK hPc (ci := 3) (q0 := 0) rfl rfl, fun U hU hW => ⟨rfl, by rw [hU], by rw [hU]; exact hPc, va_K.moved hW.alike hK, hDc.weaken (fun _ _ _ _ => trivial)⟩⟩ rfl rfl hl.1 rfl (lv_room (Nat.le_of_ble_eq_true rfl)) dX3_locate_6 ⟨Nat.zero_le _, Nat.zero_le _⟩) hS (fun q _ h => hFc q h) hFc (fun uu t H1 locs ht hvm hw hB hz1 hk1 hS => ?_)
  obtain ⟨sl_1, ho_2, nu_3, fa_4, ou_5, fn_6, co_7, fo_8, ro_9, po_10, pn_11, rd_12, st_13, tw_14, od_15, rn_16⟩ := uu
  obtain ⟨hP1, hD1⟩ := hB
  rw [ht] at hP1
  try dsimp only at hw hP1 hD1
  obtain ⟨hP, hD⟩ := va_join (wr := []) (w1 := (wPla ad cI cJ cZ sl_1 ho_2 nu_3 fa_4 ou_5 sp fn_6 co_7 fo_8 ro_9 po_10 pn_11 rd_12 st_13 tw_14 od_15 rn_16 x y u sn)) hP hD [0, 1, 2, 3, 4, 5, 6, 7, 8, 9, 10, 11, 12, 13, 14, 15, 16, 17, 18, 19] [] rfl rfl (by decide) (by decide) hk1 hFc hP1 hD1
  generalize H1 = H at hP hS ⊢
  have hP : va_P (dC, dI) vwCl (wPla ad cI cJ cZ sl_1 ho_2 nu_3 fa_4 ou_5 sp fn_6 co_7 fo_8 ro_9 po_10 pn_11 rd_12 st_13 tw_14 od_15 rn_16 x y u sn) H := hP
  have hD : va_D A (wPla ad cI cJ cZ sl_1 ho_2 nu_3 fa_4 ou_5 sp fn_6 co_7 fo_8 ro_9 po_10 pn_11 rd_12 st_13 tw_14 od_15 rn_16 x y u sn) := hD
  refine lv_aload_n hx hb dX3_locate_9 rfl (lv_at hl 0 rfl) ?_
  refine va_get (D := (dC, dI)) (ci := 3) (v := .ref (ad 16)) (C := RX3) (T := TX3) (N := 4) hx hb hts f_X3_locate_1 hown hK hP 0 rfl rfl 0 (by decide) (hts _ f_X3_locate_0) (fun _ h9 => h9) rfl dX3_locate_10 ?_
  refine lv_iload_n hx hb dX3_locate_13 rfl (lv_at hl 1 rfl) ?_
  refine lv_iload_n hx hb dX3_locate_14 rfl (lv_at hl 2 rfl) ?_
  have hPc := hP.sub (ws' := (wSeg ad cI cJ cZ x y u sn)) [16, 17, 18, 19] rfl
  refine vp_callSi (W.runV (As := [.int v1, .int v2]) (rest := []) C (c_X2_leastHalfAt l dC dI cI cJ cZ ad x y u sn v1 v2 hw) (cwV 2 hts gX3_locate_X2_leastHalfAt rfl rfl rfl (by decide +kernel) ⟨Nat.le_of_ble_eq_true rfl, Nat.le_of_ble_eq_true rfl⟩) ⟨fb_ro, va_recv hK hPc (ci := 2) (q0 := 0) rfl rfl, fun U hU hW => ⟨rfl, by rw [hU]; exact hPc, va_K.moved hW.alike hK⟩⟩ rfl rfl hl.1 rfl (lv_room (Nat.le_of_ble_eq_true rfl)) dX3_locate_15 ⟨Nat.zero_le _, Nat.zero_le _⟩) (fun r17 hw => ?_)
  refine lv_istore_n (lv' := [(3, .int r17), (0, .ref (ad 0)), (1, .int v1), (2, .int v2)]) hx hb dX3_locate_18 rfl hl (by decide) rfl (fun ls hl => ?_)
  refine lv_iload_n hx hb dX3_locate_19 rfl (lv_at hl 0 rfl) ?_
  refine lv_iconst (v := -1) hx hb dX3_locate_20 (by decide) ?_
  refine lv_icmp_eq (tgt := 29) hx hb dX3_locate_21 (by decide) (fun hc => ?_) (fun hc => ?_)
  · have hw := hw.1 (hc)
    refine lv_aload_n hx hb dX3_locate_29 rfl (lv_at hl 1 rfl) ?_
    refine va_get (D := (dC, dI)) (ci := 3) (v := .ref (ad 16)) (C := RX3) (T := TX3) (N := 4) hx hb hts f_X3_locate_1 hown hK hP 0 rfl rfl 0 (by decide) (hts _ f_X3_locate_0) (fun _ h9 => h9) rfl dX3_locate_30 ?_
    refine lv_iload_n hx hb dX3_locate_33 rfl (lv_at hl 2 rfl) ?_
    refine lv_iload_n hx hb dX3_locate_34 rfl (lv_at hl 3 rfl) ?_
    have hPc := hP.sub (ws' := (wSeg ad cI cJ cZ x y u sn)) [16, 17, 18, 19] rfl
    refine vp_callSi (W.runV (As := [.int v1, .int v2]) (rest := []) C (c_X2_segmentThrough l dC dI cI cJ cZ ad x y u sn v1 v2 hw) (cwV 2 hts gX3_locate_X2_segmentThrough rfl rfl rfl (by decide +kernel) ⟨Nat.le_of_ble_eq_true rfl, Nat.le_of_ble_eq_true rfl⟩) ⟨fb_ro, va_recv hK hPc (ci := 2) (q0 := 0) rfl rfl, fun U hU hW => ⟨rfl, by rw [hU]; exact hPc, va_K.moved hW.alike hK⟩⟩ rfl rfl hl.1 rfl (lv_room (Nat.le_of_ble_eq_true rfl)) dX3_locate_35 ⟨Nat.zero_le _, Nat.zero_le _⟩) (fun r18 hw => ?_)
    refine lv_istore (lv' := [(4, .int r18), (3, .int r17), (0, .ref (ad 0)), (1, .int v1), (2, .int v2)]) hx hb dX3_locate_38 hl (by decide) rfl (fun ls hl => ?_)
    refine lv_iload hx hb dX3_locate_40 (lv_at hl 0 rfl) ?_
    refine lv_iconst (v := -1) hx hb dX3_locate_42 (by decide) ?_
    refine lv_icmp_eq (tgt := 52) hx hb dX3_locate_43 (by decide) (fun hc => ?_) (fun hc => ?_)
    · have hw := hw.1 (hc)
      refine lv_aload_n hx hb dX3_locate_52 rfl (lv_at hl 2 rfl) ?_
      refine va_get (D := (dC, dI)) (ci := 3) (v := .ref (ad 1)) (C := RX3) (T := TX3) (N := 4) hx hb hts f_X3_locate_1 hown hK hP 0 rfl rfl 2 (by decide) (hts _ f_X3_locate_2) (fun _ h9 => h9) rfl dX3_locate_53 ?_
      refine lv_aload_n hx hb dX3_locate_56 rfl (lv_at hl 2 rfl) ?_
      refine va_get (D := (dC, dI)) (ci := 3) (v := .ref (ad 7)) (C := RX3) (T := TX3) (N := 4) hx hb hts f_X3_locate_1 hown hK hP 0 rfl rfl 1 (by decide) (hts _ f_X3_locate_3) (fun _ h9 => h9) rfl dX3_locate_57 ?_
      refine lv_iload_n hx hb dX3_locate_60 rfl (lv_at hl 3 rfl) ?_
      refine lv_iload_n hx hb dX3_locate_61 rfl (lv_at hl 4 rfl) ?_
      refine lv_iconst (v := -1) hx hb dX3_locate_62 (by decide) ?_
      have hPc := hP.sub (ws' := (wRnd ad cI cJ cZ co_7 fo_8 ro_9 po_10 pn_11 rd_12 st_13 tw_14 od_15 rn_16 x y u sn)) [7, 8, 9, 10, 11, 12, 13, 14, 15, 16, 17, 18, 19] rfl
      have hDc := hD.sub (ws' := (wRnd ad cI cJ cZ co_7 fo_8 ro_9 po_10 pn_11 rd_12 st_13 tw_14 od_15 rn_16 x y u sn)) [7, 8, 9, 10, 11, 12, 13, 14, 15, 16, 17, 18, 19] (by decide) rfl
      have hFc := va_free (wc := (wRnd ad cI cJ cZ co_7 fo_8 ro_9 po_10 pn_11 rd_12 st_13 tw_14 od_15 rn_16 x y u sn)) hD hS hA [7, 8, 9, 10, 11, 12, 13, 14, 15, 16, 17, 18, 19] rfl
      refine va_calli (va_runV (As := [.int v1, .int v2, .int (-1 : Int32)]) (rest := [.ref (ad 1)]) C (c_X1_enclosing l dC dI cI cJ cZ ad _ co_7 fo_8 ro_9 po_10 pn_11 rd_12 st_13 tw_14 od_15 rn_16 x y u sn v1 v2 (-1 : Int32) hw) (cwV 3 hts gX3_locate_X1_enclosing rfl rfl rfl (by decide +kernel) ⟨Nat.le_of_ble_eq_true rfl, Nat.le_of_ble_eq_true rfl⟩) ⟨fb_rw, va_recv hK hPc (ci := 1) (q0 := 0) rfl rfl, fun U hU hW => ⟨rfl, by rw [hU], by rw [hU]; exact hPc, va_K.moved hW.alike hK, hDc.weaken (fun _ _ _ _ => trivial)⟩⟩ rfl rfl hl.1 rfl (lv_room (Nat.le_of_ble_eq_true rfl)) dX3_locate_63 ⟨Nat.zero_le _, Nat.zero_le _⟩) hS (fun q _ h => hFc q h) hFc (fun r19 uu t H1 locs ht hvm hw hB hz1 hk1 hS => ?_)
      obtain ⟨od_20, rfl⟩ : ∃ z, z = uu := ⟨_, rfl⟩
      obtain ⟨hP1, hD1⟩ := hB
      rw [ht] at hP1
      try dsimp only at hw hP1 hD1
      obtain ⟨hP, hD⟩ := va_join (wr := [(ad 0, .inr (3, [.ref (ad 16), .ref (ad 7), .ref (ad 1), .int sl_1])), (ad 1, .inr (0, [.ref (ad 7), .ref (ad 16), .ref (ad 2), .ref (ad 3), .ref (ad 4), .ref (ad 5), .ref (ad 6), .int fn_6])), (ad 2, .inl (cI, 120, .inl ho_2)), (ad 3, .inl (cI, 120, .inl nu_3)), (ad 4, .inl (cI, 120, .inl fa_4)), (ad 5, .inl (cI, 60, .inl ou_5)), (ad 6, .inl (cI, 121, .inl sp))]) (w1 := (wRnd ad cI cJ cZ co_7 fo_8 ro_9 po_10 pn_11 rd_12 st_13 tw_14 od_20 rn_16 x y u sn)) hP hD [7, 8, 9, 10, 11, 12, 13, 14, 15, 16, 17, 18, 19] [0, 1, 2, 3, 4, 5, 6] rfl rfl (by decide) (by decide) hk1 hFc hP1 hD1
      generalize H1 = H at hP hS ⊢
      have hP : va_P (dC, dI) vwCl (wPla ad cI cJ cZ sl_1 ho_2 nu_3 fa_4 ou_5 sp fn_6 co_7 fo_8 ro_9 po_10 pn_11 rd_12 st_13 tw_14 od_20 rn_16 x y u sn) H := hP
      have hD : va_D A (wPla ad cI cJ cZ sl_1 ho_2 nu_3 fa_4 ou_5 sp fn_6 co_7 fo_8 ro_9 po_10 pn_11 rd_12 st_13 tw_14 od_20 rn_16 x y u sn) := hD
      have hPc := hP.sub (ws' := (wFac ad cI cJ cZ ho_2 nu_3 fa_4 ou_5 sp fn_6 co_7 fo_8 ro_9 po_10 pn_11 rd_12 st_13 tw_14 od_20 rn_16 x y u sn)) [1, 2, 3, 4, 5, 6, 7, 8, 9, 10, 11, 12, 13, 14, 15, 16, 17, 18, 19] rfl
      refine vp_callSi (W.runV (As := [.int r19]) (rest := []) C (c_X0_faceWithin l dC dI cI cJ cZ ad ho_2 nu_3 fa_4 ou_5 sp fn_6 co_7 fo_8 ro_9 po_10 pn_11 rd_12 st_13 tw_14 od_20 rn_16 x y u sn r19 hw) (cwV 1 hts gX3_locate_X0_faceWithin rfl rfl rfl (by decide +kernel) ⟨Nat.le_of_ble_eq_true rfl, Nat.le_of_ble_eq_true rfl⟩) ⟨fb_ro, va_recv hK hPc (ci := 0) (q0 := 0) rfl rfl, fun U hU hW => ⟨rfl, by rw [hU]; exact hPc, va_K.moved hW.alike hK⟩⟩ rfl rfl hl.1 rfl (lv_room (Nat.le_of_ble_eq_true rfl)) dX3_locate_66 ⟨Nat.zero_le _, Nat.zero_le _⟩) (fun r21 hw => ?_)
      rw [← hQ]
      exact W.iret (v := r21) hx hb hr (fun t ht hW => ⟨⟨_, (sl_1, ho_2, nu_3, fa_4, ou_5, fn_6, co_7, fo_8, ro_9, po_10, pn_11, rd_12, st_13, tw_14, od_20, rn_16), rfl, hw, by rw [ht]; exact hP, hD⟩, hS.F ht⟩) hS.2.2 dX3_locate_69
    · have hw := hw.2 hc
      refine lv_bipush (v := -2) hx hb dX3_locate_46 (by decide) ?_
      refine lv_iload hx hb dX3_locate_48 (lv_at hl 0 rfl) ?_
      refine lv_isub hx hb dX3_locate_50 ?_
      rw [← hQ]
      exact W.iret (v := ((-2 : Int32) - r18)) hx hb hr (fun t ht hW => ⟨⟨_, (sl_1, ho_2, nu_3, fa_4, ou_5, fn_6, co_7, fo_8, ro_9, po_10, pn_11, rd_12, st_13, tw_14, od_15, rn_16), rfl, hw, by rw [ht]; exact hP, hD⟩, hS.F ht⟩) hS.2.2 dX3_locate_51
  · have hw := hw.2 hc
    refine lv_bipush (v := -100) hx hb dX3_locate_24 (by decide) ?_
    refine lv_iload_n hx hb dX3_locate_26 rfl (lv_at hl 0 rfl) ?_
    refine lv_isub hx hb dX3_locate_27 ?_
    rw [← hQ]
    exact W.iret (v := ((-100 : Int32) - r17)) hx hb hr (fun t ht hW => ⟨⟨_, (sl_1, ho_2, nu_3, fa_4, ou_5, fn_6, co_7, fo_8, ro_9, po_10, pn_11, rd_12, st_13, tw_14, od_15, rn_16), rfl, hw, by rw [ht]; exact hP, hD⟩, hS.F ht⟩) hS.2.2 dX3_locate_28
-- X3_locate throws
abbrev rmx_X3_locate : Room := { frames := 7, cells := 1, slots := 6, locals := 142 }
theorem fx_X3_locate_0 : (Cond.fieldLink RX3 27 "PlaneFaces" "segments" "LPlaneFaces$Segments;") ∈ wsX3_locate := by decide +kernel
theorem fx_X3_locate_1 : ∀ w ∈ wsX30, w ∈ wsX3_locate := by decide +kernel
theorem fx_X3_locate_2 : (Cond.fieldLink RX3 12 "PlaneFaces" "faces" "LPlaneFaces$Faces;") ∈ wsX3_locate := by decide +kernel
theorem fx_X3_locate_3 : (Cond.fieldLink RX3 20 "PlaneFaces" "rounds" "LPlaneFaces$Rounds;") ∈ wsX3_locate := by decide +kernel
set_option maxRecDepth 100000 in
set_option maxHeartbeats 4000000 in
theorem cx_X3_locate (l : Launch) (hst : l.stackTraces = false) (dC : Nat → ClassId) (dI : Nat → Nat → Nat) (cI cJ cZ : ClassId) (ad : Nat → Nat) (sz : Nat) (sl : Int32) (ho : Nat → Int32) (nu : Nat → Int32) (fa : Nat → Int32) (ou : Nat → Int32) (sp : Nat → Int32) (fn : Int32) (co : Nat → Int32) (fo : Nat → Int32) (ro : Nat → Int32) (po : Nat → Int32) (pn : Int32) (rd : Nat → Int32) (st : Nat → Int32) (tw : Nat → Int64) (od : Nat → Int32) (rn : Int32) (x : Nat → Int32) (y : Nat → Int32) (u : Nat → Int32) (sn : Int32) (v1 : Int32) (v2 : Int32) {px : String → Int32 → (Nat → Int32) → (Nat → Int32) → (Nat → Int32) → (Nat → Int32) → Int32 → (Nat → Int32) → (Nat → Int32) → (Nat → Int32) → (Nat → Int32) → Int32 → (Nat → Int32) → (Nat → Int32) → (Nat → Int64) → (Nat → Int32) → Int32 → Prop} (hw : wpx_X3_locate sl ho nu fa ou fn co fo ro po pn rd st tw od rn x y u v1 v2 px) : vx_Met l yX3_locate wsX3_locate rmx_X3_locate (va_Pc [.ref (ad 0), .int v1, .int v2] (fun U => U.heap.size = sz ∧ va_P (dC, dI) vwCl (wPla ad cI cJ cZ sl ho nu fa ou sp fn co fo ro po pn rd st tw od rn x y u sn) U.heap ∧ va_K (dC, dI) vwCl (tyL cI cJ cZ) U ∧ va_D (fun _ => True) (wPla ad cI cJ cZ sl ho nu fa ou sp fn co fo ro po pn rd st tw od rn x y u sn) ∧ xe (va_A (wPla ad cI cJ cZ sl ho nu fa ou sp fn co fo ro po pn rd st tw od rn x y u sn) sz) U U.heap)) (va_Qi (fun (_ : Int32) (_ : Unit) => False) (fun _ _ => True) (va_A (wPla ad cI cJ cZ sl ho nu fa ou sp fn co fo ro po pn rd st tw od rn x y u sn) sz)) (vx_X (fun _ : Int32 × (Nat → Int32) × (Nat → Int32) × (Nat → Int32) × (Nat → Int32) × Int32 × (Nat → Int32) × (Nat → Int32) × (Nat → Int32) × (Nat → Int32) × Int32 × (Nat → Int32) × (Nat → Int32) × (Nat → Int64) × (Nat → Int32) × Int32 => True) (fun (E : String) (uu : Int32 × (Nat → Int32) × (Nat → Int32) × (Nat → Int32) × (Nat → Int32) × Int32 × (Nat → Int32) × (Nat → Int32) × (Nat → Int32) × (Nat → Int32) × Int32 × (Nat → Int32) × (Nat → Int32) × (Nat → Int64) × (Nat → Int32) × Int32) (t : State) => px E uu.1 uu.2.1 uu.2.2.1 uu.2.2.2.1 uu.2.2.2.2.1 uu.2.2.2.2.2.1 uu.2.2.2.2.2.2.1 uu.2.2.2.2.2.2.2.1 uu.2.2.2.2.2.2.2.2.1 uu.2.2.2.2.2.2.2.2.2.1 uu.2.2.2.2.2.2.2.2.2.2.1 uu.2.2.2.2.2.2.2.2.2.2.2.1 uu.2.2.2.2.2.2.2.2.2.2.2.2.1 uu.2.2.2.2.2.2.2.2.2.2.2.2.2.1 uu.2.2.2.2.2.2.2.2.2.2.2.2.2.2.1 uu.2.2.2.2.2.2.2.2.2.2.2.2.2.2.2 ∧ va_P (dC, dI) vwCl (wPla ad cI cJ cZ uu.1 uu.2.1 uu.2.2.1 uu.2.2.2.1 uu.2.2.2.2.1 sp uu.2.2.2.2.2.1 uu.2.2.2.2.2.2.1 uu.2.2.2.2.2.2.2.1 uu.2.2.2.2.2.2.2.2.1 uu.2.2.2.2.2.2.2.2.2.1 uu.2.2.2.2.2.2.2.2.2.2.1 uu.2.2.2.2.2.2.2.2.2.2.2.1 uu.2.2.2.2.2.2.2.2.2.2.2.2.1 uu.2.2.2.2.2.2.2.2.2.2.2.2.2.1 uu.2.2.2.2.2.2.2.2.2.2.2.2.2.2.1 uu.2.2.2.2.2.2.2.2.2.2.2.2.2.2.2 x y u sn) t.heap ∧ va_D (va_A (wPla ad cI cJ cZ sl ho nu fa ou sp fn co fo ro po pn rd st tw od rn x y u sn) sz) (wPla ad cI cJ cZ uu.1 uu.2.1 uu.2.2.1 uu.2.2.2.1 uu.2.2.2.2.1 sp uu.2.2.2.2.2.1 uu.2.2.2.2.2.2.1 uu.2.2.2.2.2.2.2.1 uu.2.2.2.2.2.2.2.2.1 uu.2.2.2.2.2.2.2.2.2.1 uu.2.2.2.2.2.2.2.2.2.2.1 uu.2.2.2.2.2.2.2.2.2.2.2.1 uu.2.2.2.2.2.2.2.2.2.2.2.2.1 uu.2.2.2.2.2.2.2.2.2.2.2.2.2.1 uu.2.2.2.2.2.2.2.2.2.2.2.2.2.2.1 uu.2.2.2.2.2.2.2.2.2.2.2.2.2.2.2 x y u sn)) (va_A (wPla ad cI cJ cZ sl ho nu fa ou sp fn co fo ro po pn rd st tw od rn x y u sn) sz)) 1 6 (va_A (wPla ad cI cJ cZ sl ho nu fa ou sp fn co fo ro po pn rd st tw od rn x y u sn) sz) := by
  unfold wpx_X3_locate at hw
  refine vx_ofW (cc := cX3_locate) (maxL := 5) (ret := (some .int)) (by decide) rfl ?_
  intro p e s m args below meth c s₁ B hml hnt hv
  obtain ⟨hav, hsz, hP, hK, hD0, hxe⟩ := hv
  have hx := B.exec
  have hb := B.bytes
  have hr := B.returns
  have hts := atoms_spec (ws := wsX3_locate) B.pre
  have hown : s.vm.findClass RX3 = some m.cls := findClass_of_methodNamed B.named
  have hlocks := B.notSynchronized
  have C : CallFix p m c cX3_locate 5 s args wsX3_locate RX3 := ⟨hx, hb, hml, hown, hts⟩
  obtain ⟨ls, hE, hl⟩ := mx_entry (m := m) [.ref (ad 0), .int v1, .int v2] (n := 5) (Nat.le_of_ble_eq_true rfl)
  have hl : lv_has ls 5 [(0, .ref (ad 0)), (1, .int v1), (2, .int v2)] := hl
  rw [show entryFrame m args 5 = F0 m 0 ls [] by rw [hav]; exact hE]
  subst hsz
  have hD := hD0.self (sz := s.heap.size)
  generalize hAe : va_A (wPla ad cI cJ cZ sl ho nu fa ou sp fn co fo ro po pn rd st tw od rn x y u sn) s.heap.size = A at hD hxe ⊢
  have hA : ∀ q : Nat, s.heap.size ≤ q → A q := fun q h => by rw [← hAe]; exact Or.inr h
  have hS : va_S A s.heap s.heap [] := va_S.rf
  obtain ⟨Q, hQ⟩ : ∃ Q, vx_MQ below (va_Qi (fun (_ : Int32) (_ : Unit) => False) (fun _ _ => True) A) (vx_X (fun _ : Int32 × (Nat → Int32) × (Nat → Int32) × (Nat → Int32) × (Nat → Int32) × Int32 × (Nat → Int32) × (Nat → Int32) × (Nat → Int32) × (Nat → Int32) × Int32 × (Nat → Int32) × (Nat → Int32) × (Nat → Int64) × (Nat → Int32) × Int32 => True) (fun (E : String) (uu : Int32 × (Nat → Int32) × (Nat → Int32) × (Nat → Int32) × (Nat → Int32) × Int32 × (Nat → Int32) × (Nat → Int32) × (Nat → Int32) × (Nat → Int32) × Int32 × (Nat → Int32) × (Nat → Int32) × (Nat → Int64) × (Nat → Int32) × Int32) (t : State) => px E uu.1 uu.2.1 uu.2.2.1 uu.2.2.2.1 uu.2.2.2.2.1 uu.2.2.2.2.2.1 uu.2.2.2.2.2.2.1 uu.2.2.2.2.2.2.2.1 uu.2.2.2.2.2.2.2.2.1 uu.2.2.2.2.2.2.2.2.2.1 uu.2.2.2.2.2.2.2.2.2.2.1 uu.2.2.2.2.2.2.2.2.2.2.2.1 uu.2.2.2.2.2.2.2.2.2.2.2.2.1 uu.2.2.2.2.2.2.2.2.2.2.2.2.2.1 uu.2.2.2.2.2.2.2.2.2.2.2.2.2.2.1 uu.2.2.2.2.2.2.2.2.2.2.2.2.2.2.2 ∧ va_P (dC, dI) vwCl (wPla ad cI cJ cZ uu.1 uu.2.1 uu.2.2.1 uu.2.2.2.1 uu.2.2.2.2.1 sp uu.2.2.2.2.2.1 uu.2.2.2.2.2.2.1 uu.2.2.2.2.2.2.2.1 uu.2.2.2.2.2.2.2.2.1 uu.2.2.2.2.2.2.2.2.2.1 uu.2.2.2.2.2.2.2.2.2.2.1 uu.2.2.2.2.2.2.2.2.2.2.2.1 uu.2.2.2.2.2.2.2.2.2.2.2.2.1 uu.2.2.2.2.2.2.2.2.2.2.2.2.2.1 uu.2.2.2.2.2.2.2.2.2.2.2.2.2.2.1 uu.2.2.2.2.2.2.2.2.2.2.2.2.2.2.2 x y u sn) t.heap ∧ va_D A (wPla ad cI cJ cZ uu.1 uu.2.1 uu.2.2.1 uu.2.2.2.1 uu.2.2.2.2.1 sp uu.2.2.2.2.2.1 uu.2.2.2.2.2.2.1 uu.2.2.2.2.2.2.2.1 uu.2.2.2.2.2.2.2.2.1 uu.2.2.2.2.2.2.2.2.2.1 uu.2.2.2.2.2.2.2.2.2.2.1 uu.2.2.2.2.2.2.2.2.2.2.2.1 uu.2.2.2.2.2.2.2.2.2.2.2.2.1 uu.2.2.2.2.2.2.2.2.2.2.2.2.2.1 uu.2.2.2.2.2.2.2.2.2.2.2.2.2.2.1 uu.2.2.2.2.2.2.2.2.2.2.2.2.2.2.2 x y u sn)) A) args s 1 6 A = Q := ⟨_, rfl⟩
  rw [hQ]
  obtain ⟨H, hH⟩ : ∃ H, s.heap = H := ⟨_, rfl⟩
  have hS : va_S A s.heap H [] := by rw [← hH]; exact hS
  rw [hH] at hP
  show W p l e rmx_X3_locate s m args below meth c s.heap [] 0 0 Q (F0 m 0 ls [])
  suffices hg : W p l e rmx_X3_locate s m args below meth c H [] 0 0 Q (F0 m 0 ls []) by rw [hH]; exact hg
  clear hH
  generalize hlo : ([] : List Loc) = locs at hS ⊢
  refine lv_iload_n hx hb dX3_locate_0 rfl (lv_at hl 1 rfl) ?_
  refine lv_iload_n hx hb dX3_locate_1 rfl (lv_at hl 2 rfl) ?_
  rcases hw with hw | hw
  · have hPc := hP.sub (ws' := (wEmp ad cI cJ cZ )) [] rfl
    have hDc := hD.sub (ws' := (wEmp ad cI cJ cZ )) [] (by decide) rfl
    have hFc := va_free (wc := (wEmp ad cI cJ cZ )) hD hS hA [] rfl
    refine vx_callv (vx_runS (As := [.int v1, .int v2]) (rest := []) C (cx_X3_requirePlace l hst dC dI cI cJ cZ ad _  v1 v2 hw) (va_cwS 2 hts gX3_locate_X3_requirePlace rfl rfl rfl (by decide +kernel) ⟨Nat.le_of_ble_eq_true rfl, Nat.le_of_ble_eq_true rfl⟩) ⟨fb_x, fun U hU hW => ⟨rfl, by rw [hU], by rw [hU]; exact hPc, va_K.moved hW.alike hK, hDc.weaken (fun _ _ _ _ => trivial), hxe.step hS hFc hU hW⟩⟩ rfl rfl hl.1 rfl (lv_room (Nat.le_of_ble_eq_true rfl)) dX3_locate_2 ⟨Nat.le_of_ble_eq_true rfl, Nat.le_of_ble_eq_true rfl⟩) hS (fun q _ h => hFc q h) hFc (fun q _ h => hFc q h) (fun E9 ce q9 uu t H1 locs ht hvm hpx hB hz1 hk1 hS hce hcv hcl => ?_) (fun uu t H1 locs ht hvm hpost hB hz1 hk1 hS => hpost.elim)
    obtain ⟨hw, hP1, hD1⟩ := hB
    rw [ht] at hP1
    try dsimp only at hw hP1 hD1
    obtain ⟨hP, hD⟩ := va_join (wr := [(ad 0, .inr (3, [.ref (ad 16), .ref (ad 7), .ref (ad 1), .int sl])), (ad 1, .inr (0, [.ref (ad 7), .ref (ad 16), .ref (ad 2), .ref (ad 3), .ref (ad 4), .ref (ad 5), .ref (ad 6), .int fn])), (ad 2, .inl (cI, 120, .inl ho)), (ad 3, .inl (cI, 120, .inl nu)), (ad 4, .inl (cI, 120, .inl fa)), (ad 5, .inl (cI, 60, .inl ou)), (ad 6, .inl (cI, 121, .inl sp)), (ad 7, .inr (1, [.ref (ad 16), .ref (ad 8), .ref (ad 9), .ref (ad 10), .ref (ad 11), .int pn, .ref (ad 12), .ref (ad 13), .ref (ad 14), .ref (ad 15), .int rn])), (ad 8, .inl (cI, 120, .inl co)), (ad 9, .inl (cI, 120, .inl fo)), (ad 10, .inl (cI, 60, .inl ro)), (ad 11, .inl (cI, 60, .inl po)), (ad 12, .inl (cI, 120, .inl rd)), (ad 13, .inl (cI, 120, .inl st)), (ad 14, .inl (cJ, 120, .inr (.inl tw))), (ad 15, .inl (cI, 120, .inl od)), (ad 16, .inr (2, [.ref (ad 17), .ref (ad 18), .ref (ad 19), .int sn])), (ad 17, .inl (cI, 120, .inl x)), (ad 18, .inl (cI, 120, .inl y)), (ad 19, .inl (cZ, 60, .inl u))]) (w1 := (wEmp ad cI cJ cZ )) hP hD [] [0, 1, 2, 3, 4, 5, 6, 7, 8, 9, 10, 11, 12, 13, 14, 15, 16, 17, 18, 19] rfl rfl (by decide) (by decide) hk1 hFc hP1 hD1
    have hP : va_P (dC, dI) vwCl (wPla ad cI cJ cZ sl ho nu fa ou sp fn co fo ro po pn rd st tw od rn x y u sn) H1 := hP
    have hD : va_D A (wPla ad cI cJ cZ sl ho nu fa ou sp fn co fo ro po pn rd st tw od rn x y u sn) := hD
    rw [← hQ]
    exact vx_out (fun x9 h9 => (hnt x9 h9).elim) hlocks hce hcv hcl (fun t ht hvm => ⟨(sl, ho, nu, fa, ou, fn, co, fo, ro, po, pn, rd, st, tw, od, rn), trivial, ⟨hw, by rw [ht]; exact hP, hD⟩, hS.F ht⟩) hS.2.2 (Nat.le_of_ble_eq_true rfl) (Nat.le_of_ble_eq_true rfl)
  · refine va_csv (W.runS (As := [.int v1, .int v2]) (rest := []) C (c_X3_requirePlace l v1 v2 hw) (va_cwS 2 hts gX3_locate_X3_requirePlace rfl rfl rfl (by decide +kernel) ⟨Nat.le_of_ble_eq_true rfl, Nat.le_of_ble_eq_true rfl⟩) ⟨fb_st, fun U hU hW => ⟨rfl, trivial⟩⟩ rfl rfl hl.1 rfl (lv_room (Nat.le_of_ble_eq_true rfl)) dX3_locate_2 ⟨Nat.zero_le _, Nat.zero_le _⟩) (fun hw => ?_)
    refine lv_aload_n hx hb dX3_locate_5 rfl (lv_at hl 0 rfl) ?_
    have hPc := hP.sub (ws' := (wPla ad cI cJ cZ sl ho nu fa ou sp fn co fo ro po pn rd st tw od rn x y u sn)) [0, 1, 2, 3, 4, 5, 6, 7, 8, 9, 10, 11, 12, 13, 14, 15, 16, 17, 18, 19] rfl
    have hDc := hD.sub (ws' := (wPla ad cI cJ cZ sl ho nu fa ou sp fn co fo ro po pn rd st tw od rn x y u sn)) [0, 1, 2, 3, 4, 5, 6, 7, 8, 9, 10, 11, 12, 13, 14, 15, 16, 17, 18, 19] (by decide) rfl
    have hFc := va_free (wc := (wPla ad cI cJ cZ sl ho nu fa ou sp fn co fo ro po pn rd st tw od rn x y u sn)) hD hS hA [0, 1, 2, 3, 4, 5, 6, 7, 8, 9, 10, 11, 12, 13, 14, 15, 16, 17, 18, 19] rfl
    refine va_callv (va_runV (As := []) (rest := []) C (c_X3_refresh l dC dI cI cJ cZ ad _ sl ho nu fa ou sp fn co fo ro po pn rd st tw od rn x y u sn  hw) (cwV 0 hts gX3_locate_X3_refresh rfl rfl rfl (by decide +kernel) ⟨Nat.le_of_ble_eq_true rfl, Nat.le_of_ble_eq_true rfl⟩) ⟨fb_rw, va_recv hK hPc (ci := 3) (q0 := 0) rfl rfl, fun U hU hW => ⟨rfl, by rw [hU], by rw [hU]; exact hPc, va_K.moved hW.alike hK, hDc.weaken (fun _ _ _ _ => trivial)⟩⟩ rfl rfl hl.1 rfl (lv_room (Nat.le_of_ble_eq_true rfl)) dX3_locate_6 ⟨Nat.zero_le _, Nat.zero_le _⟩) hS (fun q _ h => hFc q h) hFc (fun uu t H1 locs ht hvm hw hB hz1 hk1 hS => ?_)
    obtain ⟨sl_1, ho_2, nu_3, fa_4, ou_5, fn_6, co_7, fo_8, ro_9, po_10, pn_11, rd_12, st_13, tw_14, od_15, rn_16⟩ := uu
    obtain ⟨hP1, hD1⟩ := hB
    rw [ht] at hP1
    try dsimp only at hw hP1 hD1
    obtain ⟨hP, hD⟩ := va_join (wr := []) (w1 := (wPla ad cI cJ cZ sl_1 ho_2 nu_3 fa_4 ou_5 sp fn_6 co_7 fo_8 ro_9 po_10 pn_11 rd_12 st_13 tw_14 od_15 rn_16 x y u sn)) hP hD [0, 1, 2, 3, 4, 5, 6, 7, 8, 9, 10, 11, 12, 13, 14, 15, 16, 17, 18, 19] [] rfl rfl (by decide) (by decide) hk1 hFc hP1 hD1
    generalize H1 = H at hP hS ⊢
    have hP : va_P (dC, dI) vwCl (wPla ad cI cJ cZ sl_1 ho_2 nu_3 fa_4 ou_5 sp fn_6 co_7 fo_8 ro_9 po_10 pn_11 rd_12 st_13 tw_14 od_15 rn_16 x y u sn) H := hP
    have hD : va_D A (wPla ad cI cJ cZ sl_1 ho_2 nu_3 fa_4 ou_5 sp fn_6 co_7 fo_8 ro_9 po_10 pn_11 rd_12 st_13 tw_14 od_15 rn_16 x y u sn) := hD
    refine lv_aload_n hx hb dX3_locate_9 rfl (lv_at hl 0 rfl) ?_
    refine va_get (D := (dC, dI)) (ci := 3) (v := .ref (ad 16)) (C := RX3) (T := TX3) (N := 4) hx hb hts fx_X3_locate_1 hown hK hP 0 rfl rfl 0 (by decide) (hts _ fx_X3_locate_0) (fun _ h9 => h9) rfl dX3_locate_10 ?_
    refine lv_iload_n hx hb dX3_locate_13 rfl (lv_at hl 1 rfl) ?_
    refine lv_iload_n hx hb dX3_locate_14 rfl (lv_at hl 2 rfl) ?_
    have hPc := hP.sub (ws' := (wSeg ad cI cJ cZ x y u sn)) [16, 17, 18, 19] rfl
    refine vp_callSi (W.runV (As := [.int v1, .int v2]) (rest := []) C (c_X2_leastHalfAt l dC dI cI cJ cZ ad x y u sn v1 v2 hw) (cwV 2 hts gX3_locate_X2_leastHalfAt rfl rfl rfl (by decide +kernel) ⟨Nat.le_of_ble_eq_true rfl, Nat.le_of_ble_eq_true rfl⟩) ⟨fb_ro, va_recv hK hPc (ci := 2) (q0 := 0) rfl rfl, fun U hU hW => ⟨rfl, by rw [hU]; exact hPc, va_K.moved hW.alike hK⟩⟩ rfl rfl hl.1 rfl (lv_room (Nat.le_of_ble_eq_true rfl)) dX3_locate_15 ⟨Nat.zero_le _, Nat.zero_le _⟩) (fun r17 hw => ?_)
    refine lv_istore_n (lv' := [(3, .int r17), (0, .ref (ad 0)), (1, .int v1), (2, .int v2)]) hx hb dX3_locate_18 rfl hl (by decide) rfl (fun ls hl => ?_)
    refine lv_iload_n hx hb dX3_locate_19 rfl (lv_at hl 0 rfl) ?_
    refine lv_iconst (v := -1) hx hb dX3_locate_20 (by decide) ?_
    refine lv_icmp_eq (tgt := 29) hx hb dX3_locate_21 (by decide) (fun hc => ?_) (fun hc => ?_)
    · have hw := hw.1 (hc)
      refine lv_aload_n hx hb dX3_locate_29 rfl (lv_at hl 1 rfl) ?_
      refine va_get (D := (dC, dI)) (ci := 3) (v := .ref (ad 16)) (C := RX3) (T := TX3) (N := 4) hx hb hts fx_X3_locate_1 hown hK hP 0 rfl rfl 0 (by decide) (hts _ fx_X3_locate_0) (fun _ h9 => h9) rfl dX3_locate_30 ?_
      refine lv_iload_n hx hb dX3_locate_33 rfl (lv_at hl 2 rfl) ?_
      refine lv_iload_n hx hb dX3_locate_34 rfl (lv_at hl 3 rfl) ?_
      have hPc := hP.sub (ws' := (wSeg ad cI cJ cZ x y u sn)) [16, 17, 18, 19] rfl
      refine vp_callSi (W.runV (As := [.int v1, .int v2]) (rest := []) C (c_X2_segmentThrough l dC dI cI cJ cZ ad x y u sn v1 v2 hw) (cwV 2 hts gX3_locate_X2_segmentThrough rfl rfl rfl (by decide +kernel) ⟨Nat.le_of_ble_eq_true rfl, Nat.le_of_ble_eq_true rfl⟩) ⟨fb_ro, va_recv hK hPc (ci := 2) (q0 := 0) rfl rfl, fun U hU hW => ⟨rfl, by rw [hU]; exact hPc, va_K.moved hW.alike hK⟩⟩ rfl rfl hl.1 rfl (lv_room (Nat.le_of_ble_eq_true rfl)) dX3_locate_35 ⟨Nat.zero_le _, Nat.zero_le _⟩) (fun r18 hw => ?_)
      refine lv_istore (lv' := [(4, .int r18), (3, .int r17), (0, .ref (ad 0)), (1, .int v1), (2, .int v2)]) hx hb dX3_locate_38 hl (by decide) rfl (fun ls hl => ?_)
      refine lv_iload hx hb dX3_locate_40 (lv_at hl 0 rfl) ?_
      refine lv_iconst (v := -1) hx hb dX3_locate_42 (by decide) ?_
      refine lv_icmp_eq (tgt := 52) hx hb dX3_locate_43 (by decide) (fun hc => ?_) (fun hc => ?_)
      · have hw := hw.1 (hc)
        refine lv_aload_n hx hb dX3_locate_52 rfl (lv_at hl 2 rfl) ?_
        refine va_get (D := (dC, dI)) (ci := 3) (v := .ref (ad 1)) (C := RX3) (T := TX3) (N := 4) hx hb hts fx_X3_locate_1 hown hK hP 0 rfl rfl 2 (by decide) (hts _ fx_X3_locate_2) (fun _ h9 => h9) rfl dX3_locate_53 ?_
        refine lv_aload_n hx hb dX3_locate_56 rfl (lv_at hl 2 rfl) ?_
        refine va_get (D := (dC, dI)) (ci := 3) (v := .ref (ad 7)) (C := RX3) (T := TX3) (N := 4) hx hb hts fx_X3_locate_1 hown hK hP 0 rfl rfl 1 (by decide) (hts _ fx_X3_locate_3) (fun _ h9 => h9) rfl dX3_locate_57 ?_
        refine lv_iload_n hx hb dX3_locate_60 rfl (lv_at hl 3 rfl) ?_
        refine lv_iload_n hx hb dX3_locate_61 rfl (lv_at hl 4 rfl) ?_
        refine lv_iconst (v := -1) hx hb dX3_locate_62 (by decide) ?_
        have hPc := hP.sub (ws' := (wRnd ad cI cJ cZ co_7 fo_8 ro_9 po_10 pn_11 rd_12 st_13 tw_14 od_15 rn_16 x y u sn)) [7, 8, 9, 10, 11, 12, 13, 14, 15, 16, 17, 18, 19] rfl
        have hDc := hD.sub (ws' := (wRnd ad cI cJ cZ co_7 fo_8 ro_9 po_10 pn_11 rd_12 st_13 tw_14 od_15 rn_16 x y u sn)) [7, 8, 9, 10, 11, 12, 13, 14, 15, 16, 17, 18, 19] (by decide) rfl
        have hFc := va_free (wc := (wRnd ad cI cJ cZ co_7 fo_8 ro_9 po_10 pn_11 rd_12 st_13 tw_14 od_15 rn_16 x y u sn)) hD hS hA [7, 8, 9, 10, 11, 12, 13, 14, 15, 16, 17, 18, 19] rfl
        refine va_calli (va_runV (As := [.int v1, .int v2, .int (-1 : Int32)]) (rest := [.ref (ad 1)]) C (c_X1_enclosing l dC dI cI cJ cZ ad _ co_7 fo_8 ro_9 po_10 pn_11 rd_12 st_13 tw_14 od_15 rn_16 x y u sn v1 v2 (-1 : Int32) hw) (cwV 3 hts gX3_locate_X1_enclosing rfl rfl rfl (by decide +kernel) ⟨Nat.le_of_ble_eq_true rfl, Nat.le_of_ble_eq_true rfl⟩) ⟨fb_rw, va_recv hK hPc (ci := 1) (q0 := 0) rfl rfl, fun U hU hW => ⟨rfl, by rw [hU], by rw [hU]; exact hPc, va_K.moved hW.alike hK, hDc.weaken (fun _ _ _ _ => trivial)⟩⟩ rfl rfl hl.1 rfl (lv_room (Nat.le_of_ble_eq_true rfl)) dX3_locate_63 ⟨Nat.zero_le _, Nat.zero_le _⟩) hS (fun q _ h => hFc q h) hFc (fun r19 uu t H1 locs ht hvm hw hB hz1 hk1 hS => ?_)
        obtain ⟨od_20, rfl⟩ : ∃ z, z = uu := ⟨_, rfl⟩
        obtain ⟨hP1, hD1⟩ := hB
        rw [ht] at hP1
        try dsimp only at hw hP1 hD1
        obtain ⟨hP, hD⟩ := va_join (wr := [(ad 0, .inr (3, [.ref (ad 16), .ref (ad 7), .ref (ad 1), .int sl_1])), (ad 1, .inr (0, [.ref (ad 7), .ref (ad 16), .ref (ad 2), .ref (ad 3), .ref (ad 4), .ref (ad 5), .ref (ad 6), .int fn_6])), (ad 2, .inl (cI, 120, .inl ho_2)), (ad 3, .inl (cI, 120, .inl nu_3)), (ad 4, .inl (cI, 120, .inl fa_4)), (ad 5, .inl (cI, 60, .inl ou_5)), (ad 6, .inl (cI, 121, .inl sp))]) (w1 := (wRnd ad cI cJ cZ co_7 fo_8 ro_9 po_10 pn_11 rd_12 st_13 tw_14 od_20 rn_16 x y u sn)) hP hD [7, 8, 9, 10, 11, 12, 13, 14, 15, 16, 17, 18, 19] [0, 1, 2, 3, 4, 5, 6] rfl rfl (by decide) (by decide) hk1 hFc hP1 hD1
        generalize H1 = H at hP hS ⊢
        have hP : va_P (dC, dI) vwCl (wPla ad cI cJ cZ sl_1 ho_2 nu_3 fa_4 ou_5 sp fn_6 co_7 fo_8 ro_9 po_10 pn_11 rd_12 st_13 tw_14 od_20 rn_16 x y u sn) H := hP
        have hD : va_D A (wPla ad cI cJ cZ sl_1 ho_2 nu_3 fa_4 ou_5 sp fn_6 co_7 fo_8 ro_9 po_10 pn_11 rd_12 st_13 tw_14 od_20 rn_16 x y u sn) := hD
        have hPc := hP.sub (ws' := (wFac ad cI cJ cZ ho_2 nu_3 fa_4 ou_5 sp fn_6 co_7 fo_8 ro_9 po_10 pn_11 rd_12 st_13 tw_14 od_20 rn_16 x y u sn)) [1, 2, 3, 4, 5, 6, 7, 8, 9, 10, 11, 12, 13, 14, 15, 16, 17, 18, 19] rfl
        refine vp_callSi (W.runV (As := [.int r19]) (rest := []) C (c_X0_faceWithin l dC dI cI cJ cZ ad ho_2 nu_3 fa_4 ou_5 sp fn_6 co_7 fo_8 ro_9 po_10 pn_11 rd_12 st_13 tw_14 od_20 rn_16 x y u sn r19 hw) (cwV 1 hts gX3_locate_X0_faceWithin rfl rfl rfl (by decide +kernel) ⟨Nat.le_of_ble_eq_true rfl, Nat.le_of_ble_eq_true rfl⟩) ⟨fb_ro, va_recv hK hPc (ci := 0) (q0 := 0) rfl rfl, fun U hU hW => ⟨rfl, by rw [hU]; exact hPc, va_K.moved hW.alike hK⟩⟩ rfl rfl hl.1 rfl (lv_room (Nat.le_of_ble_eq_true rfl)) dX3_locate_66 ⟨Nat.zero_le _, Nat.zero_le _⟩) (fun r21 hw => ?_)
        exact hw.elim
      · have hw := hw.2 hc
        refine lv_bipush (v := -2) hx hb dX3_locate_46 (by decide) ?_
        refine lv_iload hx hb dX3_locate_48 (lv_at hl 0 rfl) ?_
        refine lv_isub hx hb dX3_locate_50 ?_
        exact hw.elim
    · have hw := hw.2 hc
      refine lv_bipush (v := -100) hx hb dX3_locate_24 (by decide) ?_
      refine lv_iload_n hx hb dX3_locate_26 rfl (lv_at hl 0 rfl) ?_
      refine lv_isub hx hb dX3_locate_27 ?_
      exact hw.elim
-- X3_above
abbrev rm_X3_above : Room := { frames := 3, cells := 0, slots := 0, locals := 83 }
theorem f_X3_above_0 : (Cond.fieldLink RX3 27 "PlaneFaces" "segments" "LPlaneFaces$Segments;") ∈ wsX3_above := by decide +kernel
theorem f_X3_above_1 : ∀ w ∈ wsX30, w ∈ wsX3_above := by decide +kernel
set_option maxRecDepth 100000 in
set_option maxHeartbeats 4000000 in
theorem c_X3_above (l : Launch) (dC : Nat → ClassId) (dI : Nat → Nat → Nat) (cI cJ cZ : ClassId) (ad : Nat → Nat) (sl : Int32) (ho : Nat → Int32) (nu : Nat → Int32) (fa : Nat → Int32) (ou : Nat → Int32) (sp : Nat → Int32) (fn : Int32) (co : Nat → Int32) (fo : Nat → Int32) (ro : Nat → Int32) (po : Nat → Int32) (pn : Int32) (rd : Nat → Int32) (st : Nat → Int32) (tw : Nat → Int64) (od : Nat → Int32) (rn : Int32) (x : Nat → Int32) (y : Nat → Int32) (u : Nat → Int32) (sn : Int32) (v1 : Int32) (v2 : Int32) {post : Int32 → Prop} (hw : wp_X3_above x y u v1 v2 post) : Met l yX3_above wsX3_above rm_X3_above (va_Pc [.ref (ad 0), .int v1, .int v2] (fun U => va_P (dC, dI) vwCl (wPla ad cI cJ cZ sl ho nu fa ou sp fn co fo ro po pn rd st tw od rn x y u sn) U.heap ∧ va_K (dC, dI) vwCl (tyL cI cJ cZ) U)) (vp_Si post) 0 0 (fun _ => False) := by
  unfold wp_X3_above at hw
  refine Met.ofW (cc := cX3_above) (maxL := 3) (ret := (some .int)) (by decide) rfl ?_
  intro p e s m args below meth c s₁ B hml hv
  obtain ⟨hav, hP, hK⟩ := hv
  have hx := B.exec
  have hb := B.bytes
  have hr := B.returns
  have hts := atoms_spec (ws := wsX3_above) B.pre
  have hown : s.vm.findClass RX3 = some m.cls := findClass_of_methodNamed B.named
  have hlocks := B.notSynchronized
  have C : CallFix p m c cX3_above 3 s args wsX3_above RX3 := ⟨hx, hb, hml, hown, hts⟩
  obtain ⟨ls, hE, hl⟩ := mx_entry (m := m) [.ref (ad 0), .int v1, .int v2] (n := 3) (Nat.le_of_ble_eq_true rfl)
  have hl : lv_has ls 3 [(0, .ref (ad 0)), (1, .int v1), (2, .int v2)] := hl
  rw [show entryFrame m args 3 = F0 m 0 ls [] by rw [hav]; exact hE]
  obtain ⟨Q, hQ⟩ : ∃ Q, MQ below (vp_Si post) args s 0 0 (fun _ => False) = Q := ⟨_, rfl⟩
  rw [hQ]
  obtain ⟨H, hH⟩ : ∃ H, s.heap = H := ⟨_, rfl⟩
  rw [hH]
  rw [hH] at hP
  show W p l e rm_X3_above s m args below meth c H [] 0 0 Q (F0 m 0 ls [])
  refine lv_iload_n hx hb dX3_above_0 rfl (lv_at hl 1 rfl) ?_
  refine lv_iload_n hx hb dX3_above_1 rfl (lv_at hl 2 rfl) ?_
  refine va_csv (W.runS (As := [.int v1, .int v2]) (rest := []) C (c_X3_requirePlace l v1 v2 hw) (va_cwS 2 hts gX3_above_X3_requirePlace rfl rfl rfl (by decide +kernel) ⟨Nat.le_of_ble_eq_true rfl, Nat.le_of_ble_eq_true rfl⟩) ⟨fb_st, fun U hU hW => ⟨rfl, trivial⟩⟩ rfl rfl hl.1 rfl (lv_room (Nat.le_of_ble_eq_true rfl)) dX3_above_2 ⟨Nat.zero_le _, Nat.zero_le _⟩) (fun hw => ?_)
  refine lv_aload_n hx hb dX3_above_5 rfl (lv_at hl 0 rfl) ?_
  refine va_get (D := (dC, dI)) (ci := 3) (v := .ref (ad 16)) (C := RX3) (T := TX3) (N := 4) hx hb hts f_X3_above_1 hown hK hP 0 rfl rfl 0 (by decide) (hts _ f_X3_above_0) (fun _ h9 => h9) rfl dX3_above_6 ?_
  refine lv_iload_n hx hb dX3_above_9 rfl (lv_at hl 1 rfl) ?_
  refine lv_iload_n hx hb dX3_above_10 rfl (lv_at hl 2 rfl) ?_
  have hPc := hP.sub (ws' := (wSeg ad cI cJ cZ x y u sn)) [16, 17, 18, 19] rfl
  refine vp_callSi (W.runV (As := [.int v1, .int v2]) (rest := []) C (c_X2_firstUpFrom l dC dI cI cJ cZ ad x y u sn v1 v2 hw) (cwV 2 hts gX3_above_X2_firstUpFrom rfl rfl rfl (by decide +kernel) ⟨Nat.le_of_ble_eq_true rfl, Nat.le_of_ble_eq_true rfl⟩) ⟨fb_ro, va_recv hK hPc (ci := 2) (q0 := 0) rfl rfl, fun U hU hW => ⟨rfl, by rw [hU]; exact hPc, va_K.moved hW.alike hK⟩⟩ rfl rfl hl.1 rfl (lv_room (Nat.le_of_ble_eq_true rfl)) dX3_above_11 ⟨Nat.zero_le _, Nat.zero_le _⟩) (fun r1 hw => ?_)
  rw [← hQ]
  exact W.iret (v := r1) hx hb hr (fun t ht hW => ⟨_, rfl, hw, ht.trans hH.symm⟩) (fun q h => by cases h) dX3_above_14
-- X3_above throws
abbrev rmx_X3_above : Room := { frames := 7, cells := 1, slots := 6, locals := 113 }
theorem fx_X3_above_0 : (Cond.fieldLink RX3 27 "PlaneFaces" "segments" "LPlaneFaces$Segments;") ∈ wsX3_above := by decide +kernel
theorem fx_X3_above_1 : ∀ w ∈ wsX30, w ∈ wsX3_above := by decide +kernel
set_option maxRecDepth 100000 in
set_option maxHeartbeats 4000000 in
theorem cx_X3_above (l : Launch) (hst : l.stackTraces = false) (dC : Nat → ClassId) (dI : Nat → Nat → Nat) (cI cJ cZ : ClassId) (ad : Nat → Nat) (sz : Nat) (sl : Int32) (ho : Nat → Int32) (nu : Nat → Int32) (fa : Nat → Int32) (ou : Nat → Int32) (sp : Nat → Int32) (fn : Int32) (co : Nat → Int32) (fo : Nat → Int32) (ro : Nat → Int32) (po : Nat → Int32) (pn : Int32) (rd : Nat → Int32) (st : Nat → Int32) (tw : Nat → Int64) (od : Nat → Int32) (rn : Int32) (x : Nat → Int32) (y : Nat → Int32) (u : Nat → Int32) (sn : Int32) (v1 : Int32) (v2 : Int32) {px : String → Prop} (hw : wpx_X3_above x y u v1 v2 px) : vx_Met l yX3_above wsX3_above rmx_X3_above (va_Pc [.ref (ad 0), .int v1, .int v2] (fun U => U.heap.size = sz ∧ va_P (dC, dI) vwCl (wPla ad cI cJ cZ sl ho nu fa ou sp fn co fo ro po pn rd st tw od rn x y u sn) U.heap ∧ va_K (dC, dI) vwCl (tyL cI cJ cZ) U ∧ va_D (fun _ => True) (wPla ad cI cJ cZ sl ho nu fa ou sp fn co fo ro po pn rd st tw od rn x y u sn) ∧ xe (va_A (wPla ad cI cJ cZ sl ho nu fa ou sp fn co fo ro po pn rd st tw od rn x y u sn) sz) U U.heap)) (va_Qi (fun (_ : Int32) (_ : Unit) => False) (fun _ _ => True) (va_A (wPla ad cI cJ cZ sl ho nu fa ou sp fn co fo ro po pn rd st tw od rn x y u sn) sz)) (vx_X (fun _ : Unit => True) (fun (E : String) (uu : Unit) (t : State) => px E  ∧ va_P (dC, dI) vwCl (wPla ad cI cJ cZ sl ho nu fa ou sp fn co fo ro po pn rd st tw od rn x y u sn) t.heap ∧ va_D (va_A (wPla ad cI cJ cZ sl ho nu fa ou sp fn co fo ro po pn rd st tw od rn x y u sn) sz) (wPla ad cI cJ cZ sl ho nu fa ou sp fn co fo ro po pn rd st tw od rn x y u sn)) (va_A (wPla ad cI cJ cZ sl ho nu fa ou sp fn co fo ro po pn rd st tw od rn x y u sn) sz)) 1 6 (va_A (wPla ad cI cJ cZ sl ho nu fa ou sp fn co fo ro po pn rd st tw od rn x y u sn) sz) := by
  unfold wpx_X3_above at hw
  refine vx_ofW (cc := cX3_above) (maxL := 3) (ret := (some .int)) (by decide) rfl ?_
  intro p e s m args below meth c s₁ B hml hnt hv
  obtain ⟨hav, hsz, hP, hK, hD0, hxe⟩ := hv
  have hx := B.exec
  have hb := B.bytes
  have hr := B.returns
  have hts := atoms_spec (ws := wsX3_above) B.pre
  have hown : s.vm.findClass RX3 = some m.cls := findClass_of_methodNamed B.named
  have hlocks := B.notSynchronized
  have C : CallFix p m c cX3_above 3 s args wsX3_above RX3 := ⟨hx, hb, hml, hown, hts⟩
  obtain ⟨ls, hE, hl⟩ := mx_entry (m := m) [.ref (ad 0), .int v1, .int v2] (n := 3) (Nat.le_of_ble_eq_true rfl)
  have hl : lv_has ls 3 [(0, .ref (ad 0)), (1, .int v1), (2, .int v2)] := hl
  rw [show entryFrame m args 3 = F0 m 0 ls [] by rw [hav]; exact hE]
  subst hsz
  have hD := hD0.self (sz := s.heap.size)
  generalize hAe : va_A (wPla ad cI cJ cZ sl ho nu fa ou sp fn co fo ro po pn rd st tw od rn x y u sn) s.heap.size = A at hD hxe ⊢
  have hA : ∀ q : Nat, s.heap.size ≤ q → A q := fun q h => by rw [← hAe]; exact Or.inr h
  have hS : va_S A s.heap s.heap [] := va_S.rf
  obtain ⟨Q, hQ⟩ : ∃ Q, vx_MQ below (va_Qi (fun (_ : Int32) (_ : Unit) => False) (fun _ _ => True) A) (vx_X (fun _ : Unit => True) (fun (E : String) (uu : Unit) (t : State) => px E  ∧ va_P (dC, dI) vwCl (wPla ad cI cJ cZ sl ho nu fa ou sp fn co fo ro po pn rd st tw od rn x y u sn) t.heap ∧ va_D A (wPla ad cI cJ cZ sl ho nu fa ou sp fn co fo ro po pn rd st tw od rn x y u sn)) A) args s 1 6 A = Q := ⟨_, rfl⟩
  rw [hQ]
  obtain ⟨H, hH⟩ : ∃ H, s.heap = H := ⟨_, rfl⟩
  have hS : va_S A s.heap H [] := by rw [← hH]; exact hS
  rw [hH] at hP
  show W p l e rmx_X3_above s m args below meth c s.heap [] 0 0 Q (F0 m 0 ls [])
  suffices hg : W p l e rmx_X3_above s m args below meth c H [] 0 0 Q (F0 m 0 ls []) by rw [hH]; exact hg
  clear hH
  generalize hlo : ([] : List Loc) = locs at hS ⊢
  refine lv_iload_n hx hb dX3_above_0 rfl (lv_at hl 1 rfl) ?_
  refine lv_iload_n hx hb dX3_above_1 rfl (lv_at hl 2 rfl) ?_
  rcases hw with hw | hw
  · have hPc := hP.sub (ws' := (wEmp ad cI cJ cZ )) [] rfl
    have hDc := hD.sub (ws' := (wEmp ad cI cJ cZ )) [] (by decide) rfl
    have hFc := va_free (wc := (wEmp ad cI cJ cZ )) hD hS hA [] rfl
    refine vx_callv (vx_runS (As := [.int v1, .int v2]) (rest := []) C (cx_X3_requirePlace l hst dC dI cI cJ cZ ad _  v1 v2 hw) (va_cwS 2 hts gX3_above_X3_requirePlace rfl rfl rfl (by decide +kernel) ⟨Nat.le_of_ble_eq_true rfl, Nat.le_of_ble_eq_true rfl⟩) ⟨fb_x, fun U hU hW => ⟨rfl, by rw [hU], by rw [hU]; exact hPc, va_K.moved hW.alike hK, hDc.weaken (fun _ _ _ _ => trivial), hxe.step hS hFc hU hW⟩⟩ rfl rfl hl.1 rfl (lv_room (Nat.le_of_ble_eq_true rfl)) dX3_above_2 ⟨Nat.le_of_ble_eq_true rfl, Nat.le_of_ble_eq_true rfl⟩) hS (fun q _ h => hFc q h) hFc (fun q _ h => hFc q h) (fun E9 ce q9 uu t H1 locs ht hvm hpx hB hz1 hk1 hS hce hcv hcl => ?_) (fun uu t H1 locs ht hvm hpost hB hz1 hk1 hS => hpost.elim)
    obtain ⟨hw, hP1, hD1⟩ := hB
    rw [ht] at hP1
    try dsimp only at hw hP1 hD1
    obtain ⟨hP, hD⟩ := va_join (wr := [(ad 0, .inr (3, [.ref (ad 16), .ref (ad 7), .ref (ad 1), .int sl])), (ad 1, .inr (0, [.ref (ad 7), .ref (ad 16), .ref (ad 2), .ref (ad 3), .ref (ad 4), .ref (ad 5), .ref (ad 6), .int fn])), (ad 2, .inl (cI, 120, .inl ho)), (ad 3, .inl (cI, 120, .inl nu)), (ad 4, .inl (cI, 120, .inl fa)), (ad 5, .inl (cI, 60, .inl ou)), (ad 6, .inl (cI, 121, .inl sp)), (ad 7, .inr (1, [.ref (ad 16), .ref (ad 8), .ref (ad 9), .ref (ad 10), .ref (ad 11), .int pn, .ref (ad 12), .ref (ad 13), .ref (ad 14), .ref (ad 15), .int rn])), (ad 8, .inl (cI, 120, .inl co)), (ad 9, .inl (cI, 120, .inl fo)), (ad 10, .inl (cI, 60, .inl ro)), (ad 11, .inl (cI, 60, .inl po)), (ad 12, .inl (cI, 120, .inl rd)), (ad 13, .inl (cI, 120, .inl st)), (ad 14, .inl (cJ, 120, .inr (.inl tw))), (ad 15, .inl (cI, 120, .inl od)), (ad 16, .inr (2, [.ref (ad 17), .ref (ad 18), .ref (ad 19), .int sn])), (ad 17, .inl (cI, 120, .inl x)), (ad 18, .inl (cI, 120, .inl y)), (ad 19, .inl (cZ, 60, .inl u))]) (w1 := (wEmp ad cI cJ cZ )) hP hD [] [0, 1, 2, 3, 4, 5, 6, 7, 8, 9, 10, 11, 12, 13, 14, 15, 16, 17, 18, 19] rfl rfl (by decide) (by decide) hk1 hFc hP1 hD1
    have hP : va_P (dC, dI) vwCl (wPla ad cI cJ cZ sl ho nu fa ou sp fn co fo ro po pn rd st tw od rn x y u sn) H1 := hP
    have hD : va_D A (wPla ad cI cJ cZ sl ho nu fa ou sp fn co fo ro po pn rd st tw od rn x y u sn) := hD
    rw [← hQ]
    exact vx_out (fun x9 h9 => (hnt x9 h9).elim) hlocks hce hcv hcl (fun t ht hvm => ⟨(), trivial, ⟨hw, by rw [ht]; exact hP, hD⟩, hS.F ht⟩) hS.2.2 (Nat.le_of_ble_eq_true rfl) (Nat.le_of_ble_eq_true rfl)
  · refine va_csv (W.runS (As := [.int v1, .int v2]) (rest := []) C (c_X3_requirePlace l v1 v2 hw) (va_cwS 2 hts gX3_above_X3_requirePlace rfl rfl rfl (by decide +kernel) ⟨Nat.le_of_ble_eq_true rfl, Nat.le_of_ble_eq_true rfl⟩) ⟨fb_st, fun U hU hW => ⟨rfl, trivial⟩⟩ rfl rfl hl.1 rfl (lv_room (Nat.le_of_ble_eq_true rfl)) dX3_above_2 ⟨Nat.zero_le _, Nat.zero_le _⟩) (fun hw => ?_)
    refine lv_aload_n hx hb dX3_above_5 rfl (lv_at hl 0 rfl) ?_
    refine va_get (D := (dC, dI)) (ci := 3) (v := .ref (ad 16)) (C := RX3) (T := TX3) (N := 4) hx hb hts fx_X3_above_1 hown hK hP 0 rfl rfl 0 (by decide) (hts _ fx_X3_above_0) (fun _ h9 => h9) rfl dX3_above_6 ?_
    refine lv_iload_n hx hb dX3_above_9 rfl (lv_at hl 1 rfl) ?_
    refine lv_iload_n hx hb dX3_above_10 rfl (lv_at hl 2 rfl) ?_
    have hPc := hP.sub (ws' := (wSeg ad cI cJ cZ x y u sn)) [16, 17, 18, 19] rfl
    refine vp_callSi (W.runV (As := [.int v1, .int v2]) (rest := []) C (c_X2_firstUpFrom l dC dI cI cJ cZ ad x y u sn v1 v2 hw) (cwV 2 hts gX3_above_X2_firstUpFrom rfl rfl rfl (by decide +kernel) ⟨Nat.le_of_ble_eq_true rfl, Nat.le_of_ble_eq_true rfl⟩) ⟨fb_ro, va_recv hK hPc (ci := 2) (q0 := 0) rfl rfl, fun U hU hW => ⟨rfl, by rw [hU]; exact hPc, va_K.moved hW.alike hK⟩⟩ rfl rfl hl.1 rfl (lv_room (Nat.le_of_ble_eq_true rfl)) dX3_above_11 ⟨Nat.zero_le _, Nat.zero_le _⟩) (fun r1 hw => ?_)
    exact hw.elim
-- X3_across
abbrev rm_X3_across : Room := { frames := 6, cells := 0, slots := 0, locals := 142 }
theorem f_X3_across_0 : (Cond.fieldLink RX3 12 "PlaneFaces" "faces" "LPlaneFaces$Faces;") ∈ wsX3_across := by decide +kernel
theorem f_X3_across_1 : ∀ w ∈ wsX30, w ∈ wsX3_across := by decide +kernel
set_option maxRecDepth 100000 in
set_option maxHeartbeats 4000000 in
theorem c_X3_across (l : Launch) (dC : Nat → ClassId) (dI : Nat → Nat → Nat) (cI cJ cZ : ClassId) (ad : Nat → Nat) (sz : Nat) (sl : Int32) (ho : Nat → Int32) (nu : Nat → Int32) (fa : Nat → Int32) (ou : Nat → Int32) (sp : Nat → Int32) (fn : Int32) (co : Nat → Int32) (fo : Nat → Int32) (ro : Nat → Int32) (po : Nat → Int32) (pn : Int32) (rd : Nat → Int32) (st : Nat → Int32) (tw : Nat → Int64) (od : Nat → Int32) (rn : Int32) (x : Nat → Int32) (y : Nat → Int32) (u : Nat → Int32) (sn : Int32) (v1 : Int32) (v2 : Int32) {post : Int32 → Int32 → (Nat → Int32) → (Nat → Int32) → (Nat → Int32) → (Nat → Int32) → (Nat → Int32) → Int32 → (Nat → Int32) → (Nat → Int32) → (Nat → Int32) → (Nat → Int32) → Int32 → (Nat → Int32) → (Nat → Int32) → (Nat → Int64) → (Nat → Int32) → Int32 → Prop} (hw : wp_X3_across sl ho nu fa ou sp fn co fo ro po pn rd st tw od rn x y u v1 v2 post) : Met l yX3_across wsX3_across rm_X3_across (va_Pc [.ref (ad 0), .int v1, .int v2] (fun U => U.heap.size = sz ∧ va_P (dC, dI) vwCl (wPla ad cI cJ cZ sl ho nu fa ou sp fn co fo ro po pn rd st tw od rn x y u sn) U.heap ∧ va_K (dC, dI) vwCl (tyL cI cJ cZ) U ∧ va_D (fun _ => True) (wPla ad cI cJ cZ sl ho nu fa ou sp fn co fo ro po pn rd st tw od rn x y u sn))) (va_Qi (fun (r : Int32) (uu : Int32 × (Nat → Int32) × (Nat → Int32) × (Nat → Int32) × (Nat → Int32) × (Nat → Int32) × Int32 × (Nat → Int32) × (Nat → Int32) × (Nat → Int32) × (Nat → Int32) × Int32 × (Nat → Int32) × (Nat → Int32) × (Nat → Int64) × (Nat → Int32) × Int32) => post r uu.1 uu.2.1 uu.2.2.1 uu.2.2.2.1 uu.2.2.2.2.1 uu.2.2.2.2.2.1 uu.2.2.2.2.2.2.1 uu.2.2.2.2.2.2.2.1 uu.2.2.2.2.2.2.2.2.1 uu.2.2.2.2.2.2.2.2.2.1 uu.2.2.2.2.2.2.2.2.2.2.1 uu.2.2.2.2.2.2.2.2.2.2.2.1 uu.2.2.2.2.2.2.2.2.2.2.2.2.1 uu.2.2.2.2.2.2.2.2.2.2.2.2.2.1 uu.2.2.2.2.2.2.2.2.2.2.2.2.2.2.1 uu.2.2.2.2.2.2.2.2.2.2.2.2.2.2.2.1 uu.2.2.2.2.2.2.2.2.2.2.2.2.2.2.2.2) (fun (uu : Int32 × (Nat → Int32) × (Nat → Int32) × (Nat → Int32) × (Nat → Int32) × (Nat → Int32) × Int32 × (Nat → Int32) × (Nat → Int32) × (Nat → Int32) × (Nat → Int32) × Int32 × (Nat → Int32) × (Nat → Int32) × (Nat → Int64) × (Nat → Int32) × Int32) (t : State) => va_P (dC, dI) vwCl (wPla ad cI cJ cZ uu.1 uu.2.1 uu.2.2.1 uu.2.2.2.1 uu.2.2.2.2.1 uu.2.2.2.2.2.1 uu.2.2.2.2.2.2.1 uu.2.2.2.2.2.2.2.1 uu.2.2.2.2.2.2.2.2.1 uu.2.2.2.2.2.2.2.2.2.1 uu.2.2.2.2.2.2.2.2.2.2.1 uu.2.2.2.2.2.2.2.2.2.2.2.1 uu.2.2.2.2.2.2.2.2.2.2.2.2.1 uu.2.2.2.2.2.2.2.2.2.2.2.2.2.1 uu.2.2.2.2.2.2.2.2.2.2.2.2.2.2.1 uu.2.2.2.2.2.2.2.2.2.2.2.2.2.2.2.1 uu.2.2.2.2.2.2.2.2.2.2.2.2.2.2.2.2 x y u sn) t.heap ∧ va_D (va_A (wPla ad cI cJ cZ sl ho nu fa ou sp fn co fo ro po pn rd st tw od rn x y u sn) sz) (wPla ad cI cJ cZ uu.1 uu.2.1 uu.2.2.1 uu.2.2.2.1 uu.2.2.2.2.1 uu.2.2.2.2.2.1 uu.2.2.2.2.2.2.1 uu.2.2.2.2.2.2.2.1 uu.2.2.2.2.2.2.2.2.1 uu.2.2.2.2.2.2.2.2.2.1 uu.2.2.2.2.2.2.2.2.2.2.1 uu.2.2.2.2.2.2.2.2.2.2.2.1 uu.2.2.2.2.2.2.2.2.2.2.2.2.1 uu.2.2.2.2.2.2.2.2.2.2.2.2.2.1 uu.2.2.2.2.2.2.2.2.2.2.2.2.2.2.1 uu.2.2.2.2.2.2.2.2.2.2.2.2.2.2.2.1 uu.2.2.2.2.2.2.2.2.2.2.2.2.2.2.2.2 x y u sn)) (va_A (wPla ad cI cJ cZ sl ho nu fa ou sp fn co fo ro po pn rd st tw od rn x y u sn) sz)) 0 0 (va_A (wPla ad cI cJ cZ sl ho nu fa ou sp fn co fo ro po pn rd st tw od rn x y u sn) sz) := by
  unfold wp_X3_across at hw
  refine Met.ofW (cc := cX3_across) (maxL := 3) (ret := (some .int)) (by decide) rfl ?_
  intro p e s m args below meth c s₁ B hml hv
  obtain ⟨hav, hsz, hP, hK, hD0⟩ := hv
  have hx := B.exec
  have hb := B.bytes
  have hr := B.returns
  have hts := atoms_spec (ws := wsX3_across) B.pre
  have hown : s.vm.findClass RX3 = some m.cls := findClass_of_methodNamed B.named
  have hlocks := B.notSynchronized
  have C : CallFix p m c cX3_across 3 s args wsX3_across RX3 := ⟨hx, hb, hml, hown, hts⟩
  obtain ⟨ls, hE, hl⟩ := mx_entry (m := m) [.ref (ad 0), .int v1, .int v2] (n := 3) (Nat.le_of_ble_eq_true rfl)
  have hl : lv_has ls 3 [(0, .ref (ad 0)), (1, .int v1), (2, .int v2)] := hl
  rw [show entryFrame m args 3 = F0 m 0 ls [] by rw [hav]; exact hE]
  subst hsz
  have hD := hD0.self (sz := s.heap.size)
  generalize hAe : va_A (wPla ad cI cJ cZ sl ho nu fa ou sp fn co fo ro po pn rd st tw od rn x y u sn) s.heap.size = A at hD ⊢
  have hA : ∀ q : Nat, s.heap.size ≤ q → A q := fun q h => by rw [← hAe]; exact Or.inr h
  have hS : va_S A s.heap s.heap [] := va_S.rf
  obtain ⟨Q, hQ⟩ : ∃ Q, MQ below (va_Qi (fun (r : Int32) (uu : Int32 × (Nat → Int32) × (Nat → Int32) × (Nat → Int32) × (Nat → Int32) × (Nat → Int32) × Int32 × (Nat → Int32) × (Nat → Int32) × (Nat → Int32) × (Nat → Int32) × Int32 × (Nat → Int32) × (Nat → Int32) × (Nat → Int64) × (Nat → Int32) × Int32) => post r uu.1 uu.2.1 uu.2.2.1 uu.2.2.2.1 uu.2.2.2.2.1 uu.2.2.2.2.2.1 uu.2.2.2.2.2.2.1 uu.2.2.2.2.2.2.2.1 uu.2.2.2.2.2.2.2.2.1 uu.2.2.2.2.2.2.2.2.2.1 uu.2.2.2.2.2.2.2.2.2.2.1 uu.2.2.2.2.2.2.2.2.2.2.2.1 uu.2.2.2.2.2.2.2.2.2.2.2.2.1 uu.2.2.2.2.2.2.2.2.2.2.2.2.2.1 uu.2.2.2.2.2.2.2.2.2.2.2.2.2.2.1 uu.2.2.2.2.2.2.2.2.2.2.2.2.2.2.2.1 uu.2.2.2.2.2.2.2.2.2.2.2.2.2.2.2.2) (fun (uu : Int32 × (Nat → Int32) × (Nat → Int32) × (Nat → Int32) × (Nat → Int32) × (Nat → Int32) × Int32 × (Nat → Int32) × (Nat → Int32) × (Nat → Int32) × (Nat → Int32) × Int32 × (Nat → Int32) × (Nat → Int32) × (Nat → Int64) × (Nat → Int32) × Int32) (t : State) => va_P (dC, dI) vwCl (wPla ad cI cJ cZ uu.1 uu.2.1 uu.2.2.1 uu.2.2.2.1 uu.2.2.2.2.1 uu.2.2.2.2.2.1 uu.2.2.2.2.2.2.1 uu.2.2.2.2.2.2.2.1 uu.2.2.2.2.2.2.2.2.1 uu.2.2.2.2.2.2.2.2.2.1 uu.2.2.2.2.2.2.2.2.2.2.1 uu.2.2.2.2.2.2.2.2.2.2.2.1 uu.2.2.2.2.2.2.2.2.2.2.2.2.1 uu.2.2.2.2.2.2.2.2.2.2.2.2.2.1 uu.2.2.2.2.2.2.2.2.2.2.2.2.2.2.1 uu.2.2.2.2.2.2.2.2.2.2.2.2.2.2.2.1 uu.2.2.2.2.2.2.2.2.2.2.2.2.2.2.2.2 x y u sn) t.heap ∧ va_D A (wPla ad cI cJ cZ uu.1 uu.2.1 uu.2.2.1 uu.2.2.2.1 uu.2.2.2.2.1 uu.2.2.2.2.2.1 uu.2.2.2.2.2.2.1 uu.2.2.2.2.2.2.2.1 uu.2.2.2.2.2.2.2.2.1 uu.2.2.2.2.2.2.2.2.2.1 uu.2.2.2.2.2.2.2.2.2.2.1 uu.2.2.2.2.2.2.2.2.2.2.2.1 uu.2.2.2.2.2.2.2.2.2.2.2.2.1 uu.2.2.2.2.2.2.2.2.2.2.2.2.2.1 uu.2.2.2.2.2.2.2.2.2.2.2.2.2.2.1 uu.2.2.2.2.2.2.2.2.2.2.2.2.2.2.2.1 uu.2.2.2.2.2.2.2.2.2.2.2.2.2.2.2.2 x y u sn)) A) args s 0 0 A = Q := ⟨_, rfl⟩
  rw [hQ]
  obtain ⟨H, hH⟩ : ∃ H, s.heap = H := ⟨_, rfl⟩
  have hS : va_S A s.heap H [] := by rw [← hH]; exact hS
  rw [hH] at hP
  show W p l e rm_X3_across s m args below meth c s.heap [] 0 0 Q (F0 m 0 ls [])
  suffices hg : W p l e rm_X3_across s m args below meth c H [] 0 0 Q (F0 m 0 ls []) by rw [hH]; exact hg
  clear hH
  generalize hlo : ([] : List Loc) = locs at hS ⊢
  refine lv_aload_n hx hb dX3_across_0 rfl (lv_at hl 0 rfl) ?_
  have hPc := hP.sub (ws' := (wPla ad cI cJ cZ sl ho nu fa ou sp fn co fo ro po pn rd st tw od rn x y u sn)) [0, 1, 2, 3, 4, 5, 6, 7, 8, 9, 10, 11, 12, 13, 14, 15, 16, 17, 18, 19] rfl
  have hDc := hD.sub (ws' := (wPla ad cI cJ cZ sl ho nu fa ou sp fn co fo ro po pn rd st tw od rn x y u sn)) [0, 1, 2, 3, 4, 5, 6, 7, 8, 9, 10, 11, 12, 13, 14, 15, 16, 17, 18, 19] (by decide) rfl
  have hFc := va_free (wc := (wPla ad cI cJ cZ sl ho nu fa ou sp fn co fo ro po pn rd st tw od rn x y u sn)) hD hS hA [0, 1, 2, 3, 4, 5, 6, 7, 8, 9, 10, 11, 12, 13, 14, 15, 16, 17, 18, 19] rfl
  refine va_callv (va_runV (As := []) (rest := []) C (c_X3_refresh l dC dI cI cJ cZ ad _ sl ho nu fa ou sp fn co fo ro po pn rd st tw od rn x y u sn  hw) (cwV 0 hts gX3_across_X3_refresh rfl rfl rfl (by decide +kernel) ⟨Nat.le_of_ble_eq_true rfl, Nat.le_of_ble_eq_true rfl⟩) ⟨fb_rw, va_recv hK hPc (ci := 3) (q0 := 0) rfl rfl, fun U hU hW => ⟨rfl, by rw [hU], by rw [hU]; exact hPc, va_K.moved hW.alike hK, hDc.weaken (fun _ _ _ _ => trivial)⟩⟩ rfl rfl hl.1 rfl (lv_room (Nat.le_of_ble_eq_true rfl)) dX3_across_1 ⟨Nat.zero_le _, Nat.zero_le _⟩) hS (fun q _ h => hFc q h) hFc (fun uu t H1 locs ht hvm hw hB hz1 hk1 hS => ?_)
  obtain ⟨sl_1, ho_2, nu_3, fa_4, ou_5, fn_6, co_7, fo_8, ro_9, po_10, pn_11, rd_12, st_13, tw_14, od_15, rn_16⟩ := uu
  obtain ⟨hP1, hD1⟩ := hB
  rw [ht] at hP1
  try dsimp only at hw hP1 hD1
  obtain ⟨hP, hD⟩ := va_join (wr := []) (w1 := (wPla ad cI cJ cZ sl_1 ho_2 nu_3 fa_4 ou_5 sp fn_6 co_7 fo_8 ro_9 po_10 pn_11 rd_12 st_13 tw_14 od_15 rn_16 x y u sn)) hP hD [0, 1, 2, 3, 4, 5, 6, 7, 8, 9, 10, 11, 12, 13, 14, 15, 16, 17, 18, 19] [] rfl rfl (by decide) (by decide) hk1 hFc hP1 hD1
  generalize H1 = H at hP hS ⊢
  have hP : va_P (dC, dI) vwCl (wPla ad cI cJ cZ sl_1 ho_2 nu_3 fa_4 ou_5 sp fn_6 co_7 fo_8 ro_9 po_10 pn_11 rd_12 st_13 tw_14 od_15 rn_16 x y u sn) H := hP
  have hD : va_D A (wPla ad cI cJ cZ sl_1 ho_2 nu_3 fa_4 ou_5 sp fn_6 co_7 fo_8 ro_9 po_10 pn_11 rd_12 st_13 tw_14 od_15 rn_16 x y u sn) := hD
  refine lv_aload_n hx hb dX3_across_4 rfl (lv_at hl 0 rfl) ?_
  refine lv_iload_n hx hb dX3_across_5 rfl (lv_at hl 1 rfl) ?_
  refine va_csv (W.runV (As := [.int v1]) (rest := []) C (c_X3_requireFace l dC dI cI cJ cZ ad sl_1 ho_2 nu_3 fa_4 ou_5 sp fn_6 co_7 fo_8 ro_9 po_10 pn_11 rd_12 st_13 tw_14 od_15 rn_16 x y u sn v1 hw) (cwV 1 hts gX3_across_X3_requireFace rfl rfl rfl (by decide +kernel) ⟨Nat.le_of_ble_eq_true rfl, Nat.le_of_ble_eq_true rfl⟩) ⟨fb_ro, va_recv hK hP (ci := 3) (q0 := 0) rfl rfl, fun U hU hW => ⟨rfl, by rw [hU]; exact hP, va_K.moved hW.alike hK⟩⟩ rfl rfl hl.1 rfl (lv_room (Nat.le_of_ble_eq_true rfl)) dX3_across_6 ⟨Nat.zero_le _, Nat.zero_le _⟩) (fun hw => ?_)
  refine lv_aload_n hx hb dX3_across_9 rfl (lv_at hl 0 rfl) ?_
  refine lv_iload_n hx hb dX3_across_10 rfl (lv_at hl 2 rfl) ?_
  refine va_csv (W.runV (As := [.int v2]) (rest := []) C (c_X3_requireFace l dC dI cI cJ cZ ad sl_1 ho_2 nu_3 fa_4 ou_5 sp fn_6 co_7 fo_8 ro_9 po_10 pn_11 rd_12 st_13 tw_14 od_15 rn_16 x y u sn v2 hw) (cwV 1 hts gX3_across_X3_requireFace rfl rfl rfl (by decide +kernel) ⟨Nat.le_of_ble_eq_true rfl, Nat.le_of_ble_eq_true rfl⟩) ⟨fb_ro, va_recv hK hP (ci := 3) (q0 := 0) rfl rfl, fun U hU hW => ⟨rfl, by rw [hU]; exact hP, va_K.moved hW.alike hK⟩⟩ rfl rfl hl.1 rfl (lv_room (Nat.le_of_ble_eq_true rfl)) dX3_across_11 ⟨Nat.zero_le _, Nat.zero_le _⟩) (fun hw => ?_)
  refine lv_aload_n hx hb dX3_across_14 rfl (lv_at hl 0 rfl) ?_
  refine va_get (D := (dC, dI)) (ci := 3) (v := .ref (ad 1)) (C := RX3) (T := TX3) (N := 4) hx hb hts f_X3_across_1 hown hK hP 0 rfl rfl 2 (by decide) (hts _ f_X3_across_0) (fun _ h9 => h9) rfl dX3_across_15 ?_
  refine lv_iload_n hx hb dX3_across_18 rfl (lv_at hl 1 rfl) ?_
  refine lv_iload_n hx hb dX3_across_19 rfl (lv_at hl 2 rfl) ?_
  have hPc := hP.sub (ws' := (wFac ad cI cJ cZ ho_2 nu_3 fa_4 ou_5 sp fn_6 co_7 fo_8 ro_9 po_10 pn_11 rd_12 st_13 tw_14 od_15 rn_16 x y u sn)) [1, 2, 3, 4, 5, 6, 7, 8, 9, 10, 11, 12, 13, 14, 15, 16, 17, 18, 19] rfl
  have hDc := hD.sub (ws' := (wFac ad cI cJ cZ ho_2 nu_3 fa_4 ou_5 sp fn_6 co_7 fo_8 ro_9 po_10 pn_11 rd_12 st_13 tw_14 od_15 rn_16 x y u sn)) [1, 2, 3, 4, 5, 6, 7, 8, 9, 10, 11, 12, 13, 14, 15, 16, 17, 18, 19] (by decide) rfl
  have hFc := va_free (wc := (wFac ad cI cJ cZ ho_2 nu_3 fa_4 ou_5 sp fn_6 co_7 fo_8 ro_9 po_10 pn_11 rd_12 st_13 tw_14 od_15 rn_16 x y u sn)) hD hS hA [1, 2, 3, 4, 5, 6, 7, 8, 9, 10, 11, 12, 13, 14, 15, 16, 17, 18, 19] rfl
  refine va_calli (va_runV (As := [.int v1, .int v2]) (rest := []) C (c_X0_crossings l dC dI cI cJ cZ ad _ ho_2 nu_3 fa_4 ou_5 sp fn_6 co_7 fo_8 ro_9 po_10 pn_11 rd_12 st_13 tw_14 od_15 rn_16 x y u sn v1 v2 hw) (cwV 2 hts gX3_across_X0_crossings rfl rfl rfl (by decide +kernel) ⟨Nat.le_of_ble_eq_true rfl, Nat.le_of_ble_eq_true rfl⟩) ⟨fb_rw, va_recv hK hPc (ci := 0) (q0 := 0) rfl rfl, fun U hU hW => ⟨rfl, by rw [hU], by rw [hU]; exact hPc, va_K.moved hW.alike hK, hDc.weaken (fun _ _ _ _ => trivial)⟩⟩ rfl rfl hl.1 rfl (lv_room (Nat.le_of_ble_eq_true rfl)) dX3_across_20 ⟨Nat.zero_le _, Nat.zero_le _⟩) hS (fun q _ h => hFc q h) hFc (fun r17 uu t H1 locs ht hvm hw hB hz1 hk1 hS => ?_)
  obtain ⟨sp_18, rfl⟩ : ∃ z, z = uu := ⟨_, rfl⟩
  obtain ⟨hP1, hD1⟩ := hB
  rw [ht] at hP1
  try dsimp only at hw hP1 hD1
  obtain ⟨hP, hD⟩ := va_join (wr := [(ad 0, .inr (3, [.ref (ad 16), .ref (ad 7), .ref (ad 1), .int sl_1]))]) (w1 := (wFac ad cI cJ cZ ho_2 nu_3 fa_4 ou_5 sp_18 fn_6 co_7 fo_8 ro_9 po_10 pn_11 rd_12 st_13 tw_14 od_15 rn_16 x y u sn)) hP hD [1, 2, 3, 4, 5, 6, 7, 8, 9, 10, 11, 12, 13, 14, 15, 16, 17, 18, 19] [0] rfl rfl (by decide) (by decide) hk1 hFc hP1 hD1
  generalize H1 = H at hP hS ⊢
  have hP : va_P (dC, dI) vwCl (wPla ad cI cJ cZ sl_1 ho_2 nu_3 fa_4 ou_5 sp_18 fn_6 co_7 fo_8 ro_9 po_10 pn_11 rd_12 st_13 tw_14 od_15 rn_16 x y u sn) H := hP
  have hD : va_D A (wPla ad cI cJ cZ sl_1 ho_2 nu_3 fa_4 ou_5 sp_18 fn_6 co_7 fo_8 ro_9 po_10 pn_11 rd_12 st_13 tw_14 od_15 rn_16 x y u sn) := hD
  rw [← hQ]
  exact W.iret (v := r17) hx hb hr (fun t ht hW => ⟨⟨_, (sl_1, ho_2, nu_3, fa_4, ou_5, sp_18, fn_6, co_7, fo_8, ro_9, po_10, pn_11, rd_12, st_13, tw_14, od_15, rn_16), rfl, hw, by rw [ht]; exact hP, hD⟩, hS.F ht⟩) hS.2.2 dX3_across_23
-- X3_across throws
abbrev rmx_X3_across : Room := { frames := 7, cells := 1, slots := 6, locals := 142 }
theorem fx_X3_across_0 : (Cond.fieldLink RX3 12 "PlaneFaces" "faces" "LPlaneFaces$Faces;") ∈ wsX3_across := by decide +kernel
theorem fx_X3_across_1 : ∀ w ∈ wsX30, w ∈ wsX3_across := by decide +kernel
set_option maxRecDepth 100000 in
set_option maxHeartbeats 4000000 in
theorem cx_X3_across (l : Launch) (hst : l.stackTraces = false) (dC : Nat → ClassId) (dI : Nat → Nat → Nat) (cI cJ cZ : ClassId) (ad : Nat → Nat) (sz : Nat) (sl : Int32) (ho : Nat → Int32) (nu : Nat → Int32) (fa : Nat → Int32) (ou : Nat → Int32) (sp : Nat → Int32) (fn : Int32) (co : Nat → Int32) (fo : Nat → Int32) (ro : Nat → Int32) (po : Nat → Int32) (pn : Int32) (rd : Nat → Int32) (st : Nat → Int32) (tw : Nat → Int64) (od : Nat → Int32) (rn : Int32) (x : Nat → Int32) (y : Nat → Int32) (u : Nat → Int32) (sn : Int32) (v1 : Int32) (v2 : Int32) {px : String → Int32 → (Nat → Int32) → (Nat → Int32) → (Nat → Int32) → (Nat → Int32) → (Nat → Int32) → Int32 → (Nat → Int32) → (Nat → Int32) → (Nat → Int32) → (Nat → Int32) → Int32 → (Nat → Int32) → (Nat → Int32) → (Nat → Int64) → (Nat → Int32) → Int32 → Prop} (hw : wpx_X3_across sl ho nu fa ou sp fn co fo ro po pn rd st tw od rn x y u v1 v2 px) : vx_Met l yX3_across wsX3_across rmx_X3_across (va_Pc [.ref (ad 0), .int v1, .int v2] (fun U => U.heap.size = sz ∧ va_P (dC, dI) vwCl (wPla ad cI cJ cZ sl ho nu fa ou sp fn co fo ro po pn rd st tw od rn x y u sn) U.heap ∧ va_K (dC, dI) vwCl (tyL cI cJ cZ) U ∧ va_D (fun _ => True) (wPla ad cI cJ cZ sl ho nu fa ou sp fn co fo ro po pn rd st tw od rn x y u sn) ∧ xe (va_A (wPla ad cI cJ cZ sl ho nu fa ou sp fn co fo ro po pn rd st tw od rn x y u sn) sz) U U.heap)) (va_Qi (fun (_ : Int32) (_ : Unit) => False) (fun _ _ => True) (va_A (wPla ad cI cJ cZ sl ho nu fa ou sp fn co fo ro po pn rd st tw od rn x y u sn) sz)) (vx_X (fun _ : Int32 × (Nat → Int32) × (Nat → Int32) × (Nat → Int32) × (Nat → Int32) × (Nat → Int32) × Int32 × (Nat → Int32) × (Nat → Int32) × (Nat → Int32) × (Nat → Int32) × Int32 × (Nat → Int32) × (Nat → Int32) × (Nat → Int64) × (Nat → Int32) × Int32 => True) (fun (E : String) (uu : Int32 × (Nat → Int32) × (Nat → Int32) × (Nat → Int32) × (Nat → Int32) × (Nat → Int32) × Int32 × (Nat → Int32) × (Nat → Int32) × (Nat → Int32) × (Nat → Int32) × Int32 × (Nat → Int32) × (Nat → Int32) × (Nat → Int64) × (Nat → Int32) × Int32) (t : State) => px E uu.1 uu.2.1 uu.2.2.1 uu.2.2.2.1 uu.2.2.2.2.1 uu.2.2.2.2.2.1 uu.2.2.2.2.2.2.1 uu.2.2.2.2.2.2.2.1 uu.2.2.2.2.2.2.2.2.1 uu.2.2.2.2.2.2.2.2.2.1 uu.2.2.2.2.2.2.2.2.2.2.1 uu.2.2.2.2.2.2.2.2.2.2.2.1 uu.2.2.2.2.2.2.2.2.2.2.2.2.1 uu.2.2.2.2.2.2.2.2.2.2.2.2.2.1 uu.2.2.2.2.2.2.2.2.2.2.2.2.2.2.1 uu.2.2.2.2.2.2.2.2.2.2.2.2.2.2.2.1 uu.2.2.2.2.2.2.2.2.2.2.2.2.2.2.2.2 ∧ va_P (dC, dI) vwCl (wPla ad cI cJ cZ uu.1 uu.2.1 uu.2.2.1 uu.2.2.2.1 uu.2.2.2.2.1 uu.2.2.2.2.2.1 uu.2.2.2.2.2.2.1 uu.2.2.2.2.2.2.2.1 uu.2.2.2.2.2.2.2.2.1 uu.2.2.2.2.2.2.2.2.2.1 uu.2.2.2.2.2.2.2.2.2.2.1 uu.2.2.2.2.2.2.2.2.2.2.2.1 uu.2.2.2.2.2.2.2.2.2.2.2.2.1 uu.2.2.2.2.2.2.2.2.2.2.2.2.2.1 uu.2.2.2.2.2.2.2.2.2.2.2.2.2.2.1 uu.2.2.2.2.2.2.2.2.2.2.2.2.2.2.2.1 uu.2.2.2.2.2.2.2.2.2.2.2.2.2.2.2.2 x y u sn) t.heap ∧ va_D (va_A (wPla ad cI cJ cZ sl ho nu fa ou sp fn co fo ro po pn rd st tw od rn x y u sn) sz) (wPla ad cI cJ cZ uu.1 uu.2.1 uu.2.2.1 uu.2.2.2.1 uu.2.2.2.2.1 uu.2.2.2.2.2.1 uu.2.2.2.2.2.2.1 uu.2.2.2.2.2.2.2.1 uu.2.2.2.2.2.2.2.2.1 uu.2.2.2.2.2.2.2.2.2.1 uu.2.2.2.2.2.2.2.2.2.2.1 uu.2.2.2.2.2.2.2.2.2.2.2.1 uu.2.2.2.2.2.2.2.2.2.2.2.2.1 uu.2.2.2.2.2.2.2.2.2.2.2.2.2.1 uu.2.2.2.2.2.2.2.2.2.2.2.2.2.2.1 uu.2.2.2.2.2.2.2.2.2.2.2.2.2.2.2.1 uu.2.2.2.2.2.2.2.2.2.2.2.2.2.2.2.2 x y u sn)) (va_A (wPla ad cI cJ cZ sl ho nu fa ou sp fn co fo ro po pn rd st tw od rn x y u sn) sz)) 1 6 (va_A (wPla ad cI cJ cZ sl ho nu fa ou sp fn co fo ro po pn rd st tw od rn x y u sn) sz) := by
  unfold wpx_X3_across at hw
  refine vx_ofW (cc := cX3_across) (maxL := 3) (ret := (some .int)) (by decide) rfl ?_
  intro p e s m args below meth c s₁ B hml hnt hv
  obtain ⟨hav, hsz, hP, hK, hD0, hxe⟩ := hv
  have hx := B.exec
  have hb := B.bytes
  have hr := B.returns
  have hts := atoms_spec (ws := wsX3_across) B.pre
  have hown : s.vm.findClass RX3 = some m.cls := findClass_of_methodNamed B.named
  have hlocks := B.notSynchronized
  have C : CallFix p m c cX3_across 3 s args wsX3_across RX3 := ⟨hx, hb, hml, hown, hts⟩
  obtain ⟨ls, hE, hl⟩ := mx_entry (m := m) [.ref (ad 0), .int v1, .int v2] (n := 3) (Nat.le_of_ble_eq_true rfl)
  have hl : lv_has ls 3 [(0, .ref (ad 0)), (1, .int v1), (2, .int v2)] := hl
  rw [show entryFrame m args 3 = F0 m 0 ls [] by rw [hav]; exact hE]
  subst hsz
  have hD := hD0.self (sz := s.heap.size)
  generalize hAe : va_A (wPla ad cI cJ cZ sl ho nu fa ou sp fn co fo ro po pn rd st tw od rn x y u sn) s.heap.size = A at hD hxe ⊢
  have hA : ∀ q : Nat, s.heap.size ≤ q → A q := fun q h => by rw [← hAe]; exact Or.inr h
  have hS : va_S A s.heap s.heap [] := va_S.rf
  obtain ⟨Q, hQ⟩ : ∃ Q, vx_MQ below (va_Qi (fun (_ : Int32) (_ : Unit) => False) (fun _ _ => True) A) (vx_X (fun _ : Int32 × (Nat → Int32) × (Nat → Int32) × (Nat → Int32) × (Nat → Int32) × (Nat → Int32) × Int32 × (Nat → Int32) × (Nat → Int32) × (Nat → Int32) × (Nat → Int32) × Int32 × (Nat → Int32) × (Nat → Int32) × (Nat → Int64) × (Nat → Int32) × Int32 => True) (fun (E : String) (uu : Int32 × (Nat → Int32) × (Nat → Int32) × (Nat → Int32) × (Nat → Int32) × (Nat → Int32) × Int32 × (Nat → Int32) × (Nat → Int32) × (Nat → Int32) × (Nat → Int32) × Int32 × (Nat → Int32) × (Nat → Int32) × (Nat → Int64) × (Nat → Int32) × Int32) (t : State) => px E uu.1 uu.2.1 uu.2.2.1 uu.2.2.2.1 uu.2.2.2.2.1 uu.2.2.2.2.2.1 uu.2.2.2.2.2.2.1 uu.2.2.2.2.2.2.2.1 uu.2.2.2.2.2.2.2.2.1 uu.2.2.2.2.2.2.2.2.2.1 uu.2.2.2.2.2.2.2.2.2.2.1 uu.2.2.2.2.2.2.2.2.2.2.2.1 uu.2.2.2.2.2.2.2.2.2.2.2.2.1 uu.2.2.2.2.2.2.2.2.2.2.2.2.2.1 uu.2.2.2.2.2.2.2.2.2.2.2.2.2.2.1 uu.2.2.2.2.2.2.2.2.2.2.2.2.2.2.2.1 uu.2.2.2.2.2.2.2.2.2.2.2.2.2.2.2.2 ∧ va_P (dC, dI) vwCl (wPla ad cI cJ cZ uu.1 uu.2.1 uu.2.2.1 uu.2.2.2.1 uu.2.2.2.2.1 uu.2.2.2.2.2.1 uu.2.2.2.2.2.2.1 uu.2.2.2.2.2.2.2.1 uu.2.2.2.2.2.2.2.2.1 uu.2.2.2.2.2.2.2.2.2.1 uu.2.2.2.2.2.2.2.2.2.2.1 uu.2.2.2.2.2.2.2.2.2.2.2.1 uu.2.2.2.2.2.2.2.2.2.2.2.2.1 uu.2.2.2.2.2.2.2.2.2.2.2.2.2.1 uu.2.2.2.2.2.2.2.2.2.2.2.2.2.2.1 uu.2.2.2.2.2.2.2.2.2.2.2.2.2.2.2.1 uu.2.2.2.2.2.2.2.2.2.2.2.2.2.2.2.2 x y u sn) t.heap ∧ va_D A (wPla ad cI cJ cZ uu.1 uu.2.1 uu.2.2.1 uu.2.2.2.1 uu.2.2.2.2.1 uu.2.2.2.2.2.1 uu.2.2.2.2.2.2.1 uu.2.2.2.2.2.2.2.1 uu.2.2.2.2.2.2.2.2.1 uu.2.2.2.2.2.2.2.2.2.1 uu.2.2.2.2.2.2.2.2.2.2.1 uu.2.2.2.2.2.2.2.2.2.2.2.1 uu.2.2.2.2.2.2.2.2.2.2.2.2.1 uu.2.2.2.2.2.2.2.2.2.2.2.2.2.1 uu.2.2.2.2.2.2.2.2.2.2.2.2.2.2.1 uu.2.2.2.2.2.2.2.2.2.2.2.2.2.2.2.1 uu.2.2.2.2.2.2.2.2.2.2.2.2.2.2.2.2 x y u sn)) A) args s 1 6 A = Q := ⟨_, rfl⟩
  rw [hQ]
  obtain ⟨H, hH⟩ : ∃ H, s.heap = H := ⟨_, rfl⟩
  have hS : va_S A s.heap H [] := by rw [← hH]; exact hS
  rw [hH] at hP
  show W p l e rmx_X3_across s m args below meth c s.heap [] 0 0 Q (F0 m 0 ls [])
  suffices hg : W p l e rmx_X3_across s m args below meth c H [] 0 0 Q (F0 m 0 ls []) by rw [hH]; exact hg
  clear hH
  generalize hlo : ([] : List Loc) = locs at hS ⊢
  refine lv_aload_n hx hb dX3_across_0 rfl (lv_at hl 0 rfl) ?_
  have hPc := hP.sub (ws' := (wPla ad cI cJ cZ sl ho nu fa ou sp fn co fo ro po pn rd st tw od rn x y u sn)) [0, 1, 2, 3, 4, 5, 6, 7, 8, 9, 10, 11, 12, 13, 14, 15, 16, 17, 18, 19] rfl
  have hDc := hD.sub (ws' := (wPla ad cI cJ cZ sl ho nu fa ou sp fn co fo ro po pn rd st tw od rn x y u sn)) [0, 1, 2, 3, 4, 5, 6, 7, 8, 9, 10, 11, 12, 13, 14, 15, 16, 17, 18, 19] (by decide) rfl
  have hFc := va_free (wc := (wPla ad cI cJ cZ sl ho nu fa ou sp fn co fo ro po pn rd st tw od rn x y u sn)) hD hS hA [0, 1, 2, 3, 4, 5, 6, 7, 8, 9, 10, 11, 12, 13, 14, 15, 16, 17, 18, 19] rfl
  refine va_callv (va_runV (As := []) (rest := []) C (c_X3_refresh l dC dI cI cJ cZ ad _ sl ho nu fa ou sp fn co fo ro po pn rd st tw od rn x y u sn  hw) (cwV 0 hts gX3_across_X3_refresh rfl rfl rfl (by decide +kernel) ⟨Nat.le_of_ble_eq_true rfl, Nat.le_of_ble_eq_true rfl⟩) ⟨fb_rw, va_recv hK hPc (ci := 3) (q0 := 0) rfl rfl, fun U hU hW => ⟨rfl, by rw [hU], by rw [hU]; exact hPc, va_K.moved hW.alike hK, hDc.weaken (fun _ _ _ _ => trivial)⟩⟩ rfl rfl hl.1 rfl (lv_room (Nat.le_of_ble_eq_true rfl)) dX3_across_1 ⟨Nat.zero_le _, Nat.zero_le _⟩) hS (fun q _ h => hFc q h) hFc (fun uu t H1 locs ht hvm hw hB hz1 hk1 hS => ?_)
  obtain ⟨sl_1, ho_2, nu_3, fa_4, ou_5, fn_6, co_7, fo_8, ro_9, po_10, pn_11, rd_12, st_13, tw_14, od_15, rn_16⟩ := uu
  obtain ⟨hP1, hD1⟩ := hB
  rw [ht] at hP1
  try dsimp only at hw hP1 hD1
  obtain ⟨hP, hD⟩ := va_join (wr := []) (w1 := (wPla ad cI cJ cZ sl_1 ho_2 nu_3 fa_4 ou_5 sp fn_6 co_7 fo_8 ro_9 po_10 pn_11 rd_12 st_13 tw_14 od_15 rn_16 x y u sn)) hP hD [0, 1, 2, 3, 4, 5, 6, 7, 8, 9, 10, 11, 12, 13, 14, 15, 16, 17, 18, 19] [] rfl rfl (by decide) (by decide) hk1 hFc hP1 hD1
  generalize H1 = H at hP hS ⊢
  have hP : va_P (dC, dI) vwCl (wPla ad cI cJ cZ sl_1 ho_2 nu_3 fa_4 ou_5 sp fn_6 co_7 fo_8 ro_9 po_10 pn_11 rd_12 st_13 tw_14 od_15 rn_16 x y u sn) H := hP
  have hD : va_D A (wPla ad cI cJ cZ sl_1 ho_2 nu_3 fa_4 ou_5 sp fn_6 co_7 fo_8 ro_9 po_10 pn_11 rd_12 st_13 tw_14 od_15 rn_16 x y u sn) := hD
  refine lv_aload_n hx hb dX3_across_4 rfl (lv_at hl 0 rfl) ?_
  refine lv_iload_n hx hb dX3_across_5 rfl (lv_at hl 1 rfl) ?_
  rcases hw with hw | hw
  · have hPc := hP.sub (ws' := (wPla ad cI cJ cZ sl_1 ho_2 nu_3 fa_4 ou_5 sp fn_6 co_7 fo_8 ro_9 po_10 pn_11 rd_12 st_13 tw_14 od_15 rn_16 x y u sn)) [0, 1, 2, 3, 4, 5, 6, 7, 8, 9, 10, 11, 12, 13, 14, 15, 16, 17, 18, 19] rfl
    have hDc := hD.sub (ws' := (wPla ad cI cJ cZ sl_1 ho_2 nu_3 fa_4 ou_5 sp fn_6 co_7 fo_8 ro_9 po_10 pn_11 rd_12 st_13 tw_14 od_15 rn_16 x y u sn)) [0, 1, 2, 3, 4, 5, 6, 7, 8, 9, 10, 11, 12, 13, 14, 15, 16, 17, 18, 19] (by decide) rfl
    have hFc := va_free (wc := (wPla ad cI cJ cZ sl_1 ho_2 nu_3 fa_4 ou_5 sp fn_6 co_7 fo_8 ro_9 po_10 pn_11 rd_12 st_13 tw_14 od_15 rn_16 x y u sn)) hD hS hA [0, 1, 2, 3, 4, 5, 6, 7, 8, 9, 10, 11, 12, 13, 14, 15, 16, 17, 18, 19] rfl
    refine vx_callv (vx_runV (As := [.int v1]) (rest := []) C (cx_X3_requireFace l hst dC dI cI cJ cZ ad _ sl_1 ho_2 nu_3 fa_4 ou_5 sp fn_6 co_7 fo_8 ro_9 po_10 pn_11 rd_12 st_13 tw_14 od_15 rn_16 x y u sn v1 hw) (cwV 1 hts gX3_across_X3_requireFace rfl rfl rfl (by decide +kernel) ⟨Nat.le_of_ble_eq_true rfl, Nat.le_of_ble_eq_true rfl⟩) ⟨fb_x, va_recv hK hPc (ci := 3) (q0 := 0) rfl rfl, fun U hU hW => ⟨rfl, by rw [hU], by rw [hU]; exact hPc, va_K.moved hW.alike hK, hDc.weaken (fun _ _ _ _ => trivial), hxe.step hS hFc hU hW⟩⟩ rfl rfl hl.1 rfl (lv_room (Nat.le_of_ble_eq_true rfl)) dX3_across_6 ⟨Nat.le_of_ble_eq_true rfl, Nat.le_of_ble_eq_true rfl⟩) hS (fun q _ h => hFc q h) hFc (fun q _ h => hFc q h) (fun E9 ce q9 uu t H1 locs ht hvm hpx hB hz1 hk1 hS hce hcv hcl => ?_) (fun uu t H1 locs ht hvm hpost hB hz1 hk1 hS => hpost.elim)
    obtain ⟨hw, hP1, hD1⟩ := hB
    rw [ht] at hP1
    try dsimp only at hw hP1 hD1
    obtain ⟨hP, hD⟩ := va_join (wr := []) (w1 := (wPla ad cI cJ cZ sl_1 ho_2 nu_3 fa_4 ou_5 sp fn_6 co_7 fo_8 ro_9 po_10 pn_11 rd_12 st_13 tw_14 od_15 rn_16 x y u sn)) hP hD [0, 1, 2, 3, 4, 5, 6, 7, 8, 9, 10, 11, 12, 13, 14, 15, 16, 17, 18, 19] [] rfl rfl (by decide) (by decide) hk1 hFc hP1 hD1
    have hP : va_P (dC, dI) vwCl (wPla ad cI cJ cZ sl_1 ho_2 nu_3 fa_4 ou_5 sp fn_6 co_7 fo_8 ro_9 po_10 pn_11 rd_12 st_13 tw_14 od_15 rn_16 x y u sn) H1 := hP
    have hD : va_D A (wPla ad cI cJ cZ sl_1 ho_2 nu_3 fa_4 ou_5 sp fn_6 co_7 fo_8 ro_9 po_10 pn_11 rd_12 st_13 tw_14 od_15 rn_16 x y u sn) := hD
    rw [← hQ]
    exact vx_out (fun x9 h9 => (hnt x9 h9).elim) hlocks hce hcv hcl (fun t ht hvm => ⟨(sl_1, ho_2, nu_3, fa_4, ou_5, sp, fn_6, co_7, fo_8, ro_9, po_10, pn_11, rd_12, st_13, tw_14, od_15, rn_16), trivial, ⟨hw, by rw [ht]; exact hP, hD⟩, hS.F ht⟩) hS.2.2 (Nat.le_of_ble_eq_true rfl) (Nat.le_of_ble_eq_true rfl)
  · refine va_csv (W.runV (As := [.int v1]) (rest := []) C (c_X3_requireFace l dC dI cI cJ cZ ad sl_1 ho_2 nu_3 fa_4 ou_5 sp fn_6 co_7 fo_8 ro_9 po_10 pn_11 rd_12 st_13 tw_14 od_15 rn_16 x y u sn v1 hw) (cwV 1 hts gX3_across_X3_requireFace rfl rfl rfl (by decide +kernel) ⟨Nat.le_of_ble_eq_true rfl, Nat.le_of_ble_eq_true rfl⟩) ⟨fb_ro, va_recv hK hP (ci := 3) (q0 := 0) rfl rfl, fun U hU hW => ⟨rfl, by rw [hU]; exact hP, va_K.moved hW.alike hK⟩⟩ rfl rfl hl.1 rfl (lv_room (Nat.le_of_ble_eq_true rfl)) dX3_across_6 ⟨Nat.zero_le _, Nat.zero_le _⟩) (fun hw => ?_)
    refine lv_aload_n hx hb dX3_across_9 rfl (lv_at hl 0 rfl) ?_
    refine lv_iload_n hx hb dX3_across_10 rfl (lv_at hl 2 rfl) ?_
    rcases hw with hw | hw
    · have hPc := hP.sub (ws' := (wPla ad cI cJ cZ sl_1 ho_2 nu_3 fa_4 ou_5 sp fn_6 co_7 fo_8 ro_9 po_10 pn_11 rd_12 st_13 tw_14 od_15 rn_16 x y u sn)) [0, 1, 2, 3, 4, 5, 6, 7, 8, 9, 10, 11, 12, 13, 14, 15, 16, 17, 18, 19] rfl
      have hDc := hD.sub (ws' := (wPla ad cI cJ cZ sl_1 ho_2 nu_3 fa_4 ou_5 sp fn_6 co_7 fo_8 ro_9 po_10 pn_11 rd_12 st_13 tw_14 od_15 rn_16 x y u sn)) [0, 1, 2, 3, 4, 5, 6, 7, 8, 9, 10, 11, 12, 13, 14, 15, 16, 17, 18, 19] (by decide) rfl
      have hFc := va_free (wc := (wPla ad cI cJ cZ sl_1 ho_2 nu_3 fa_4 ou_5 sp fn_6 co_7 fo_8 ro_9 po_10 pn_11 rd_12 st_13 tw_14 od_15 rn_16 x y u sn)) hD hS hA [0, 1, 2, 3, 4, 5, 6, 7, 8, 9, 10, 11, 12, 13, 14, 15, 16, 17, 18, 19] rfl
      refine vx_callv (vx_runV (As := [.int v2]) (rest := []) C (cx_X3_requireFace l hst dC dI cI cJ cZ ad _ sl_1 ho_2 nu_3 fa_4 ou_5 sp fn_6 co_7 fo_8 ro_9 po_10 pn_11 rd_12 st_13 tw_14 od_15 rn_16 x y u sn v2 hw) (cwV 1 hts gX3_across_X3_requireFace rfl rfl rfl (by decide +kernel) ⟨Nat.le_of_ble_eq_true rfl, Nat.le_of_ble_eq_true rfl⟩) ⟨fb_x, va_recv hK hPc (ci := 3) (q0 := 0) rfl rfl, fun U hU hW => ⟨rfl, by rw [hU], by rw [hU]; exact hPc, va_K.moved hW.alike hK, hDc.weaken (fun _ _ _ _ => trivial), hxe.step hS hFc hU hW⟩⟩ rfl rfl hl.1 rfl (lv_room (Nat.le_of_ble_eq_true rfl)) dX3_across_11 ⟨Nat.le_of_ble_eq_true rfl, Nat.le_of_ble_eq_true rfl⟩) hS (fun q _ h => hFc q h) hFc (fun q _ h => hFc q h) (fun E9 ce q9 uu t H1 locs ht hvm hpx hB hz1 hk1 hS hce hcv hcl => ?_) (fun uu t H1 locs ht hvm hpost hB hz1 hk1 hS => hpost.elim)
      obtain ⟨hw, hP1, hD1⟩ := hB
      rw [ht] at hP1
      try dsimp only at hw hP1 hD1
      obtain ⟨hP, hD⟩ := va_join (wr := []) (w1 := (wPla ad cI cJ cZ sl_1 ho_2 nu_3 fa_4 ou_5 sp fn_6 co_7 fo_8 ro_9 po_10 pn_11 rd_12 st_13 tw_14 od_15 rn_16 x y u sn)) hP hD [0, 1, 2, 3, 4, 5, 6, 7, 8, 9, 10, 11, 12, 13, 14, 15, 16, 17, 18, 19] [] rfl rfl (by decide) (by decide) hk1 hFc hP1 hD1
      have hP : va_P (dC, dI) vwCl (wPla ad cI cJ cZ sl_1 ho_2 nu_3 fa_4 ou_5 sp fn_6 co_7 fo_8 ro_9 po_10 pn_11 rd_12 st_13 tw_14 od_15 rn_16 x y u sn) H1 := hP
      have hD : va_D A (wPla ad cI cJ cZ sl_1 ho_2 nu_3 fa_4 ou_5 sp fn_6 co_7 fo_8 ro_9 po_10 pn_11 rd_12 st_13 tw_14 od_15 rn_16 x y u sn) := hD
      rw [← hQ]
      exact vx_out (fun x9 h9 => (hnt x9 h9).elim) hlocks hce hcv hcl (fun t ht hvm => ⟨(sl_1, ho_2, nu_3, fa_4, ou_5, sp, fn_6, co_7, fo_8, ro_9, po_10, pn_11, rd_12, st_13, tw_14, od_15, rn_16), trivial, ⟨hw, by rw [ht]; exact hP, hD⟩, hS.F ht⟩) hS.2.2 (Nat.le_of_ble_eq_true rfl) (Nat.le_of_ble_eq_true rfl)
    · refine va_csv (W.runV (As := [.int v2]) (rest := []) C (c_X3_requireFace l dC dI cI cJ cZ ad sl_1 ho_2 nu_3 fa_4 ou_5 sp fn_6 co_7 fo_8 ro_9 po_10 pn_11 rd_12 st_13 tw_14 od_15 rn_16 x y u sn v2 hw) (cwV 1 hts gX3_across_X3_requireFace rfl rfl rfl (by decide +kernel) ⟨Nat.le_of_ble_eq_true rfl, Nat.le_of_ble_eq_true rfl⟩) ⟨fb_ro, va_recv hK hP (ci := 3) (q0 := 0) rfl rfl, fun U hU hW => ⟨rfl, by rw [hU]; exact hP, va_K.moved hW.alike hK⟩⟩ rfl rfl hl.1 rfl (lv_room (Nat.le_of_ble_eq_true rfl)) dX3_across_11 ⟨Nat.zero_le _, Nat.zero_le _⟩) (fun hw => ?_)
      refine lv_aload_n hx hb dX3_across_14 rfl (lv_at hl 0 rfl) ?_
      refine va_get (D := (dC, dI)) (ci := 3) (v := .ref (ad 1)) (C := RX3) (T := TX3) (N := 4) hx hb hts fx_X3_across_1 hown hK hP 0 rfl rfl 2 (by decide) (hts _ fx_X3_across_0) (fun _ h9 => h9) rfl dX3_across_15 ?_
      refine lv_iload_n hx hb dX3_across_18 rfl (lv_at hl 1 rfl) ?_
      refine lv_iload_n hx hb dX3_across_19 rfl (lv_at hl 2 rfl) ?_
      have hPc := hP.sub (ws' := (wFac ad cI cJ cZ ho_2 nu_3 fa_4 ou_5 sp fn_6 co_7 fo_8 ro_9 po_10 pn_11 rd_12 st_13 tw_14 od_15 rn_16 x y u sn)) [1, 2, 3, 4, 5, 6, 7, 8, 9, 10, 11, 12, 13, 14, 15, 16, 17, 18, 19] rfl
      have hDc := hD.sub (ws' := (wFac ad cI cJ cZ ho_2 nu_3 fa_4 ou_5 sp fn_6 co_7 fo_8 ro_9 po_10 pn_11 rd_12 st_13 tw_14 od_15 rn_16 x y u sn)) [1, 2, 3, 4, 5, 6, 7, 8, 9, 10, 11, 12, 13, 14, 15, 16, 17, 18, 19] (by decide) rfl
      have hFc := va_free (wc := (wFac ad cI cJ cZ ho_2 nu_3 fa_4 ou_5 sp fn_6 co_7 fo_8 ro_9 po_10 pn_11 rd_12 st_13 tw_14 od_15 rn_16 x y u sn)) hD hS hA [1, 2, 3, 4, 5, 6, 7, 8, 9, 10, 11, 12, 13, 14, 15, 16, 17, 18, 19] rfl
      refine va_calli (va_runV (As := [.int v1, .int v2]) (rest := []) C (c_X0_crossings l dC dI cI cJ cZ ad _ ho_2 nu_3 fa_4 ou_5 sp fn_6 co_7 fo_8 ro_9 po_10 pn_11 rd_12 st_13 tw_14 od_15 rn_16 x y u sn v1 v2 hw) (cwV 2 hts gX3_across_X0_crossings rfl rfl rfl (by decide +kernel) ⟨Nat.le_of_ble_eq_true rfl, Nat.le_of_ble_eq_true rfl⟩) ⟨fb_rw, va_recv hK hPc (ci := 0) (q0 := 0) rfl rfl, fun U hU hW => ⟨rfl, by rw [hU], by rw [hU]; exact hPc, va_K.moved hW.alike hK, hDc.weaken (fun _ _ _ _ => trivial)⟩⟩ rfl rfl hl.1 rfl (lv_room (Nat.le_of_ble_eq_true rfl)) dX3_across_20 ⟨Nat.zero_le _, Nat.zero_le _⟩) hS (fun q _ h => hFc q h) hFc (fun r17 uu t H1 locs ht hvm hw hB hz1 hk1 hS => ?_)
      obtain ⟨sp_18, rfl⟩ : ∃ z, z = uu := ⟨_, rfl⟩
      exact (show False from hw).elim
