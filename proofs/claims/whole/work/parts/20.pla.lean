-- X3_refresh
abbrev rm_X3_refresh : Room := { frames := 5, cells := 0, slots := 0, locals := 122 }
theorem f_X3_refresh_0 : (Cond.fieldLink RX3 28 "PlaneFaces" "stale" "Z") ∈ wsX3_refresh := by decide +kernel
theorem f_X3_refresh_1 : ∀ w ∈ wsX30, w ∈ wsX3_refresh := by decide +kernel
theorem f_X3_refresh_2 : (Cond.fieldLink RX3 20 "PlaneFaces" "rounds" "LPlaneFaces$Rounds;") ∈ wsX3_refresh := by decide +kernel
theorem f_X3_refresh_3 : (Cond.fieldLink RX3 12 "PlaneFaces" "faces" "LPlaneFaces$Faces;") ∈ wsX3_refresh := by decide +kernel
set_option maxRecDepth 100000 in
set_option maxHeartbeats 4000000 in
theorem c_X3_refresh (l : Launch) (dC : Nat → ClassId) (dI : Nat → Nat → Nat) (cI cJ cZ : ClassId) (ad : Nat → Nat) (sz : Nat) (sl : Int32) (ho : Nat → Int32) (nu : Nat → Int32) (fa : Nat → Int32) (ou : Nat → Int32) (sp : Nat → Int32) (fn : Int32) (co : Nat → Int32) (fo : Nat → Int32) (ro : Nat → Int32) (po : Nat → Int32) (pn : Int32) (rd : Nat → Int32) (st : Nat → Int32) (tw : Nat → Int64) (od : Nat → Int32) (rn : Int32) (x : Nat → Int32) (y : Nat → Int32) (u : Nat → Int32) (sn : Int32)  {post : Int32 → (Nat → Int32) → (Nat → Int32) → (Nat → Int32) → (Nat → Int32) → Int32 → (Nat → Int32) → (Nat → Int32) → (Nat → Int32) → (Nat → Int32) → Int32 → (Nat → Int32) → (Nat → Int32) → (Nat → Int64) → (Nat → Int32) → Int32 → Prop} (hw : wp_X3_refresh sl ho nu fa ou fn co fo ro po pn rd st tw od rn x y u post) : Met l yX3_refresh wsX3_refresh rm_X3_refresh (va_Pc [.ref (ad 0)] (fun U => U.heap.size = sz ∧ va_P (dC, dI) vwCl (wPla ad cI cJ cZ sl ho nu fa ou sp fn co fo ro po pn rd st tw od rn x y u sn) U.heap ∧ va_K (dC, dI) vwCl (tyL cI cJ cZ) U ∧ va_D (fun _ => True) (wPla ad cI cJ cZ sl ho nu fa ou sp fn co fo ro po pn rd st tw od rn x y u sn))) (va_Qv (fun uu : Int32 × (Nat → Int32) × (Nat → Int32) × (Nat → Int32) × (Nat → Int32) × Int32 × (Nat → Int32) × (Nat → Int32) × (Nat → Int32) × (Nat → Int32) × Int32 × (Nat → Int32) × (Nat → Int32) × (Nat → Int64) × (Nat → Int32) × Int32 => post uu.1 uu.2.1 uu.2.2.1 uu.2.2.2.1 uu.2.2.2.2.1 uu.2.2.2.2.2.1 uu.2.2.2.2.2.2.1 uu.2.2.2.2.2.2.2.1 uu.2.2.2.2.2.2.2.2.1 uu.2.2.2.2.2.2.2.2.2.1 uu.2.2.2.2.2.2.2.2.2.2.1 uu.2.2.2.2.2.2.2.2.2.2.2.1 uu.2.2.2.2.2.2.2.2.2.2.2.2.1 uu.2.2.2.2.2.2.2.2.2.2.2.2.2.1 uu.2.2.2.2.2.2.2.2.2.2.2.2.2.2.1 uu.2.2.2.2.2.2.2.2.2.2.2.2.2.2.2) (fun (uu : Int32 × (Nat → Int32) × (Nat → Int32) × (Nat → Int32) × (Nat → Int32) × Int32 × (Nat → Int32) × (Nat → Int32) × (Nat → Int32) × (Nat → Int32) × Int32 × (Nat → Int32) × (Nat → Int32) × (Nat → Int64) × (Nat → Int32) × Int32) (t : State) => va_P (dC, dI) vwCl (wPla ad cI cJ cZ uu.1 uu.2.1 uu.2.2.1 uu.2.2.2.1 uu.2.2.2.2.1 sp uu.2.2.2.2.2.1 uu.2.2.2.2.2.2.1 uu.2.2.2.2.2.2.2.1 uu.2.2.2.2.2.2.2.2.1 uu.2.2.2.2.2.2.2.2.2.1 uu.2.2.2.2.2.2.2.2.2.2.1 uu.2.2.2.2.2.2.2.2.2.2.2.1 uu.2.2.2.2.2.2.2.2.2.2.2.2.1 uu.2.2.2.2.2.2.2.2.2.2.2.2.2.1 uu.2.2.2.2.2.2.2.2.2.2.2.2.2.2.1 uu.2.2.2.2.2.2.2.2.2.2.2.2.2.2.2 x y u sn) t.heap ∧ va_D (va_A (wPla ad cI cJ cZ sl ho nu fa ou sp fn co fo ro po pn rd st tw od rn x y u sn) sz) (wPla ad cI cJ cZ uu.1 uu.2.1 uu.2.2.1 uu.2.2.2.1 uu.2.2.2.2.1 sp uu.2.2.2.2.2.1 uu.2.2.2.2.2.2.1 uu.2.2.2.2.2.2.2.1 uu.2.2.2.2.2.2.2.2.1 uu.2.2.2.2.2.2.2.2.2.1 uu.2.2.2.2.2.2.2.2.2.2.1 uu.2.2.2.2.2.2.2.2.2.2.2.1 uu.2.2.2.2.2.2.2.2.2.2.2.2.1 uu.2.2.2.2.2.2.2.2.2.2.2.2.2.1 uu.2.2.2.2.2.2.2.2.2.2.2.2.2.2.1 uu.2.2.2.2.2.2.2.2.2.2.2.2.2.2.2 x y u sn)) (va_A (wPla ad cI cJ cZ sl ho nu fa ou sp fn co fo ro po pn rd st tw od rn x y u sn) sz)) 0 0 (va_A (wPla ad cI cJ cZ sl ho nu fa ou sp fn co fo ro po pn rd st tw od rn x y u sn) sz) := by
  unfold wp_X3_refresh at hw
  refine Met.ofW (cc := cX3_refresh) (maxL := 1) (ret := none) (by decide) rfl ?_
  intro p e s m args below meth c s₁ B hml hv
  obtain ⟨hav, hsz, hP, hK, hD0⟩ := hv
  have hx := B.exec
  have hb := B.bytes
  have hr := B.returns
  have hts := atoms_spec (ws := wsX3_refresh) B.pre
  have hown : s.vm.findClass RX3 = some m.cls := findClass_of_methodNamed B.named
  have hlocks := B.notSynchronized
  have C : CallFix p m c cX3_refresh 1 s args wsX3_refresh RX3 := ⟨hx, hb, hml, hown, hts⟩
  obtain ⟨ls, hE, hl⟩ := mx_entry (m := m) [.ref (ad 0)] (n := 1) (Nat.le_of_ble_eq_true rfl)
  have hl : lv_has ls 1 [(0, .ref (ad 0))] := hl
  rw [show entryFrame m args 1 = F0 m 0 ls [] by rw [hav]; exact hE]
  subst hsz
  have hD := hD0.self (sz := s.heap.size)
  generalize hAe : va_A (wPla ad cI cJ cZ sl ho nu fa ou sp fn co fo ro po pn rd st tw od rn x y u sn) s.heap.size = A at hD ⊢
  have hA : ∀ q : Nat, s.heap.size ≤ q → A q := fun q h => by rw [← hAe]; exact Or.inr h
  have hS : va_S A s.heap s.heap [] := va_S.rf
  obtain ⟨Q, hQ⟩ : ∃ Q, MQ below (va_Qv (fun uu : Int32 × (Nat → Int32) × (Nat → Int32) × (Nat → Int32) × (Nat → Int32) × Int32 × (Nat → Int32) × (Nat → Int32) × (Nat → Int32) × (Nat → Int32) × Int32 × (Nat → Int32) × (Nat → Int32) × (Nat → Int64) × (Nat → Int32) × Int32 => post uu.1 uu.2.1 uu.2.2.1 uu.2.2.2.1 uu.2.2.2.2.1 uu.2.2.2.2.2.1 uu.2.2.2.2.2.2.1 uu.2.2.2.2.2.2.2.1 uu.2.2.2.2.2.2.2.2.1 uu.2.2.2.2.2.2.2.2.2.1 uu.2.2.2.2.2.2.2.2.2.2.1 uu.2.2.2.2.2.2.2.2.2.2.2.1 uu.2.2.2.2.2.2.2.2.2.2.2.2.1 uu.2.2.2.2.2.2.2.2.2.2.2.2.2.1 uu.2.2.2.2.2.2.2.2.2.2.2.2.2.2.1 uu.2.2.2.2.2.2.2.2.2.2.2.2.2.2.2) (fun (uu : Int32 × (Nat → Int32) × (Nat → Int32) × (Nat → Int32) × (Nat → Int32) × Int32 × (Nat → Int32) × (Nat → Int32) × (Nat → Int32) × (Nat → Int32) × Int32 × (Nat → Int32) × (Nat → Int32) × (Nat → Int64) × (Nat → Int32) × Int32) (t : State) => va_P (dC, dI) vwCl (wPla ad cI cJ cZ uu.1 uu.2.1 uu.2.2.1 uu.2.2.2.1 uu.2.2.2.2.1 sp uu.2.2.2.2.2.1 uu.2.2.2.2.2.2.1 uu.2.2.2.2.2.2.2.1 uu.2.2.2.2.2.2.2.2.1 uu.2.2.2.2.2.2.2.2.2.1 uu.2.2.2.2.2.2.2.2.2.2.1 uu.2.2.2.2.2.2.2.2.2.2.2.1 uu.2.2.2.2.2.2.2.2.2.2.2.2.1 uu.2.2.2.2.2.2.2.2.2.2.2.2.2.1 uu.2.2.2.2.2.2.2.2.2.2.2.2.2.2.1 uu.2.2.2.2.2.2.2.2.2.2.2.2.2.2.2 x y u sn) t.heap ∧ va_D A (wPla ad cI cJ cZ uu.1 uu.2.1 uu.2.2.1 uu.2.2.2.1 uu.2.2.2.2.1 sp uu.2.2.2.2.2.1 uu.2.2.2.2.2.2.1 uu.2.2.2.2.2.2.2.1 uu.2.2.2.2.2.2.2.2.1 uu.2.2.2.2.2.2.2.2.2.1 uu.2.2.2.2.2.2.2.2.2.2.1 uu.2.2.2.2.2.2.2.2.2.2.2.1 uu.2.2.2.2.2.2.2.2.2.2.2.2.1 uu.2.2.2.2.2.2.2.2.2.2.2.2.2.1 uu.2.2.2.2.2.2.2.2.2.2.2.2.2.2.1 uu.2.2.2.2.2.2.2.2.2.2.2.2.2.2.2 x y u sn)) A) args s 0 0 A = Q := ⟨_, rfl⟩
  rw [hQ]
  obtain ⟨H, hH⟩ : ∃ H, s.heap = H := ⟨_, rfl⟩
  have hS : va_S A s.heap H [] := by rw [← hH]; exact hS
  rw [hH] at hP
  show W p l e rm_X3_refresh s m args below meth c s.heap [] 0 0 Q (F0 m 0 ls [])
  suffices hg : W p l e rm_X3_refresh s m args below meth c H [] 0 0 Q (F0 m 0 ls []) by rw [hH]; exact hg
  clear hH
  generalize hlo : ([] : List Loc) = locs at hS ⊢
  refine lv_aload_n hx hb dX3_refresh_0 rfl (lv_at hl 0 rfl) ?_
  refine va_get (D := (dC, dI)) (ci := 3) (v := .int sl) (C := RX3) (T := TX3) (N := 4) hx hb hts f_X3_refresh_1 hown hK hP 0 rfl rfl 3 (by decide) (hts _ f_X3_refresh_0) (fun _ h9 => h9) rfl dX3_refresh_1 ?_
  refine jn16_use (J := fun (sl_1 : Int32) (ho_2 : Nat → Int32) (nu_3 : Nat → Int32) (fa_4 : Nat → Int32) (ou_5 : Nat → Int32) (fn_6 : Int32) (co_7 : Nat → Int32) (fo_8 : Nat → Int32) (ro_9 : Nat → Int32) (po_10 : Nat → Int32) (pn_11 : Int32) (rd_12 : Nat → Int32) (st_13 : Nat → Int32) (tw_14 : Nat → Int64) (od_15 : Nat → Int32) (rn_16 : Int32) => ∀ (ls : Array Slot) (H : Heap) (locs : List Loc), lv_has ls 1 [(0, .ref (ad 0))] → va_P (dC, dI) vwCl (wPla ad cI cJ cZ sl_1 ho_2 nu_3 fa_4 ou_5 sp fn_6 co_7 fo_8 ro_9 po_10 pn_11 rd_12 st_13 tw_14 od_15 rn_16 x y u sn) H → va_D A (wPla ad cI cJ cZ sl_1 ho_2 nu_3 fa_4 ou_5 sp fn_6 co_7 fo_8 ro_9 po_10 pn_11 rd_12 st_13 tw_14 od_15 rn_16 x y u sn) → va_S A s.heap H locs → W p l e rm_X3_refresh s m args below meth c H locs 0 0 Q (F0 m 40 ls [])) hw (fun sl_1 ho_2 nu_3 fa_4 ou_5 fn_6 co_7 fo_8 ro_9 po_10 pn_11 rd_12 st_13 tw_14 od_15 rn_16 hw ls H locs hl hP hD hS => ?_) (fun hw hj0 => ?_)
  · rw [← hQ]
    exact W.vret hx hb hr (fun t ht hW => ⟨⟨(sl_1, ho_2, nu_3, fa_4, ou_5, fn_6, co_7, fo_8, ro_9, po_10, pn_11, rd_12, st_13, tw_14, od_15, rn_16), rfl, hw, by rw [ht]; exact hP, hD⟩, hS.F ht⟩) hS.2.2 dX3_refresh_40
  · have hj18 := hj0
    refine lv_if_eq (tgt := 40) hx hb dX3_refresh_4 (by decide) (fun hc => ?_) (fun hc => ?_)
    · have hw := hw.1 (hc)
      exact hj18 sl ho nu fa ou fn co fo ro po pn rd st tw od rn hw ls _ _ (lv_sub hl [0] rfl) hP hD hS
    · have hw := hw.2 hc
      refine lv_aload_n hx hb dX3_refresh_7 rfl (lv_at hl 0 rfl) ?_
      refine va_get (D := (dC, dI)) (ci := 3) (v := .ref (ad 7)) (C := RX3) (T := TX3) (N := 4) hx hb hts f_X3_refresh_1 hown hK hP 0 rfl rfl 1 (by decide) (hts _ f_X3_refresh_2) (fun _ h9 => h9) rfl dX3_refresh_8 ?_
      have hPc := hP.sub (ws' := (wRnd ad cI cJ cZ co fo ro po pn rd st tw od rn x y u sn)) [7, 8, 9, 10, 11, 12, 13, 14, 15, 16, 17, 18, 19] rfl
      have hDc := hD.sub (ws' := (wRnd ad cI cJ cZ co fo ro po pn rd st tw od rn x y u sn)) [7, 8, 9, 10, 11, 12, 13, 14, 15, 16, 17, 18, 19] (by decide) rfl
      have hFc := va_free (wc := (wRnd ad cI cJ cZ co fo ro po pn rd st tw od rn x y u sn)) hD hS hA [7, 8, 9, 10, 11, 12, 13, 14, 15, 16, 17, 18, 19] rfl
      refine va_callv (va_runV (As := []) (rest := []) C (c_X1_trace l dC dI cI cJ cZ ad _ co fo ro po pn rd st tw od rn x y u sn  hw) (cwV 0 hts gX3_refresh_X1_trace rfl rfl rfl (by decide +kernel) ⟨Nat.le_of_ble_eq_true rfl, Nat.le_of_ble_eq_true rfl⟩) ⟨fb_rw, va_recv hK hPc (ci := 1) (q0 := 0) rfl rfl, fun U hU hW => ⟨rfl, by rw [hU], by rw [hU]; exact hPc, va_K.moved hW.alike hK, hDc.weaken (fun _ _ _ _ => trivial)⟩⟩ rfl rfl hl.1 rfl (lv_room (Nat.le_of_ble_eq_true rfl)) dX3_refresh_11 ⟨Nat.zero_le _, Nat.zero_le _⟩) hS (fun q _ h => hFc q h) hFc (fun uu t H1 locs ht hvm hw hB hz1 hk1 hS => ?_)
      obtain ⟨co_19, fo_20, ro_21, po_22, pn_23, rd_24, st_25, tw_26, rn_27⟩ := uu
      obtain ⟨hP1, hD1⟩ := hB
      rw [ht] at hP1
      try dsimp only at hw hP1 hD1
      obtain ⟨hP, hD⟩ := va_join (wr := [(ad 0, .inr (3, [.ref (ad 16), .ref (ad 7), .ref (ad 1), .int sl])), (ad 1, .inr (0, [.ref (ad 7), .ref (ad 16), .ref (ad 2), .ref (ad 3), .ref (ad 4), .ref (ad 5), .ref (ad 6), .int fn])), (ad 2, .inl (cI, 120, .inl ho)), (ad 3, .inl (cI, 120, .inl nu)), (ad 4, .inl (cI, 120, .inl fa)), (ad 5, .inl (cI, 60, .inl ou)), (ad 6, .inl (cI, 121, .inl sp))]) (w1 := (wRnd ad cI cJ cZ co_19 fo_20 ro_21 po_22 pn_23 rd_24 st_25 tw_26 od rn_27 x y u sn)) hP hD [7, 8, 9, 10, 11, 12, 13, 14, 15, 16, 17, 18, 19] [0, 1, 2, 3, 4, 5, 6] rfl rfl (by decide) (by decide) hk1 hFc hP1 hD1
      generalize H1 = H at hP hS ⊢
      have hP : va_P (dC, dI) vwCl (wPla ad cI cJ cZ sl ho nu fa ou sp fn co_19 fo_20 ro_21 po_22 pn_23 rd_24 st_25 tw_26 od rn_27 x y u sn) H := hP
      have hD : va_D A (wPla ad cI cJ cZ sl ho nu fa ou sp fn co_19 fo_20 ro_21 po_22 pn_23 rd_24 st_25 tw_26 od rn_27 x y u sn) := hD
      refine lv_aload_n hx hb dX3_refresh_14 rfl (lv_at hl 0 rfl) ?_
      refine va_get (D := (dC, dI)) (ci := 3) (v := .ref (ad 1)) (C := RX3) (T := TX3) (N := 4) hx hb hts f_X3_refresh_1 hown hK hP 0 rfl rfl 2 (by decide) (hts _ f_X3_refresh_3) (fun _ h9 => h9) rfl dX3_refresh_15 ?_
      have hPc := hP.sub (ws' := (wFac ad cI cJ cZ ho nu fa ou sp fn co_19 fo_20 ro_21 po_22 pn_23 rd_24 st_25 tw_26 od rn_27 x y u sn)) [1, 2, 3, 4, 5, 6, 7, 8, 9, 10, 11, 12, 13, 14, 15, 16, 17, 18, 19] rfl
      have hDc := hD.sub (ws' := (wFac ad cI cJ cZ ho nu fa ou sp fn co_19 fo_20 ro_21 po_22 pn_23 rd_24 st_25 tw_26 od rn_27 x y u sn)) [1, 2, 3, 4, 5, 6, 7, 8, 9, 10, 11, 12, 13, 14, 15, 16, 17, 18, 19] (by decide) rfl
      have hFc := va_free (wc := (wFac ad cI cJ cZ ho nu fa ou sp fn co_19 fo_20 ro_21 po_22 pn_23 rd_24 st_25 tw_26 od rn_27 x y u sn)) hD hS hA [1, 2, 3, 4, 5, 6, 7, 8, 9, 10, 11, 12, 13, 14, 15, 16, 17, 18, 19] rfl
      refine va_callv (va_runV (As := []) (rest := []) C (c_X0_findHomes l dC dI cI cJ cZ ad _ ho nu fa ou sp fn co_19 fo_20 ro_21 po_22 pn_23 rd_24 st_25 tw_26 od rn_27 x y u sn  hw) (cwV 0 hts gX3_refresh_X0_findHomes rfl rfl rfl (by decide +kernel) ⟨Nat.le_of_ble_eq_true rfl, Nat.le_of_ble_eq_true rfl⟩) ⟨fb_rw, va_recv hK hPc (ci := 0) (q0 := 0) rfl rfl, fun U hU hW => ⟨rfl, by rw [hU], by rw [hU]; exact hPc, va_K.moved hW.alike hK, hDc.weaken (fun _ _ _ _ => trivial)⟩⟩ rfl rfl hl.1 rfl (lv_room (Nat.le_of_ble_eq_true rfl)) dX3_refresh_18 ⟨Nat.zero_le _, Nat.zero_le _⟩) hS (fun q _ h => hFc q h) hFc (fun uu t H1 locs ht hvm hw hB hz1 hk1 hS => ?_)
      obtain ⟨ho_28, od_29⟩ := uu
      obtain ⟨hP1, hD1⟩ := hB
      rw [ht] at hP1
      try dsimp only at hw hP1 hD1
      obtain ⟨hP, hD⟩ := va_join (wr := [(ad 0, .inr (3, [.ref (ad 16), .ref (ad 7), .ref (ad 1), .int sl]))]) (w1 := (wFac ad cI cJ cZ ho_28 nu fa ou sp fn co_19 fo_20 ro_21 po_22 pn_23 rd_24 st_25 tw_26 od_29 rn_27 x y u sn)) hP hD [1, 2, 3, 4, 5, 6, 7, 8, 9, 10, 11, 12, 13, 14, 15, 16, 17, 18, 19] [0] rfl rfl (by decide) (by decide) hk1 hFc hP1 hD1
      generalize H1 = H at hP hS ⊢
      have hP : va_P (dC, dI) vwCl (wPla ad cI cJ cZ sl ho_28 nu fa ou sp fn co_19 fo_20 ro_21 po_22 pn_23 rd_24 st_25 tw_26 od_29 rn_27 x y u sn) H := hP
      have hD : va_D A (wPla ad cI cJ cZ sl ho_28 nu fa ou sp fn co_19 fo_20 ro_21 po_22 pn_23 rd_24 st_25 tw_26 od_29 rn_27 x y u sn) := hD
      refine lv_aload_n hx hb dX3_refresh_21 rfl (lv_at hl 0 rfl) ?_
      refine va_get (D := (dC, dI)) (ci := 3) (v := .ref (ad 1)) (C := RX3) (T := TX3) (N := 4) hx hb hts f_X3_refresh_1 hown hK hP 0 rfl rfl 2 (by decide) (hts _ f_X3_refresh_3) (fun _ h9 => h9) rfl dX3_refresh_22 ?_
      have hPc := hP.sub (ws' := (wFac ad cI cJ cZ ho_28 nu fa ou sp fn co_19 fo_20 ro_21 po_22 pn_23 rd_24 st_25 tw_26 od_29 rn_27 x y u sn)) [1, 2, 3, 4, 5, 6, 7, 8, 9, 10, 11, 12, 13, 14, 15, 16, 17, 18, 19] rfl
      have hDc := hD.sub (ws' := (wFac ad cI cJ cZ ho_28 nu fa ou sp fn co_19 fo_20 ro_21 po_22 pn_23 rd_24 st_25 tw_26 od_29 rn_27 x y u sn)) [1, 2, 3, 4, 5, 6, 7, 8, 9, 10, 11, 12, 13, 14, 15, 16, 17, 18, 19] (by decide) rfl
      have hFc := va_free (wc := (wFac ad cI cJ cZ ho_28 nu fa ou sp fn co_19 fo_20 ro_21 po_22 pn_23 rd_24 st_25 tw_26 od_29 rn_27 x y u sn)) hD hS hA [1, 2, 3, 4, 5, 6, 7, 8, 9, 10, 11, 12, 13, 14, 15, 16, 17, 18, 19] rfl
      refine va_callv (va_runV (As := []) (rest := []) C (c_X0_numberFaces l dC dI cI cJ cZ ad _ ho_28 nu fa ou sp fn co_19 fo_20 ro_21 po_22 pn_23 rd_24 st_25 tw_26 od_29 rn_27 x y u sn  hw) (cwV 0 hts gX3_refresh_X0_numberFaces rfl rfl rfl (by decide +kernel) ⟨Nat.le_of_ble_eq_true rfl, Nat.le_of_ble_eq_true rfl⟩) ⟨fb_rw, va_recv hK hPc (ci := 0) (q0 := 0) rfl rfl, fun U hU hW => ⟨rfl, by rw [hU], by rw [hU]; exact hPc, va_K.moved hW.alike hK, hDc.weaken (fun _ _ _ _ => trivial)⟩⟩ rfl rfl hl.1 rfl (lv_room (Nat.le_of_ble_eq_true rfl)) dX3_refresh_25 ⟨Nat.zero_le _, Nat.zero_le _⟩) hS (fun q _ h => hFc q h) hFc (fun uu t H1 locs ht hvm hw hB hz1 hk1 hS => ?_)
      obtain ⟨nu_30, fa_31, fn_32⟩ := uu
      obtain ⟨hP1, hD1⟩ := hB
      rw [ht] at hP1
      try dsimp only at hw hP1 hD1
      obtain ⟨hP, hD⟩ := va_join (wr := [(ad 0, .inr (3, [.ref (ad 16), .ref (ad 7), .ref (ad 1), .int sl]))]) (w1 := (wFac ad cI cJ cZ ho_28 nu_30 fa_31 ou sp fn_32 co_19 fo_20 ro_21 po_22 pn_23 rd_24 st_25 tw_26 od_29 rn_27 x y u sn)) hP hD [1, 2, 3, 4, 5, 6, 7, 8, 9, 10, 11, 12, 13, 14, 15, 16, 17, 18, 19] [0] rfl rfl (by decide) (by decide) hk1 hFc hP1 hD1
      generalize H1 = H at hP hS ⊢
      have hP : va_P (dC, dI) vwCl (wPla ad cI cJ cZ sl ho_28 nu_30 fa_31 ou sp fn_32 co_19 fo_20 ro_21 po_22 pn_23 rd_24 st_25 tw_26 od_29 rn_27 x y u sn) H := hP
      have hD : va_D A (wPla ad cI cJ cZ sl ho_28 nu_30 fa_31 ou sp fn_32 co_19 fo_20 ro_21 po_22 pn_23 rd_24 st_25 tw_26 od_29 rn_27 x y u sn) := hD
      refine lv_aload_n hx hb dX3_refresh_28 rfl (lv_at hl 0 rfl) ?_
      refine va_get (D := (dC, dI)) (ci := 3) (v := .ref (ad 1)) (C := RX3) (T := TX3) (N := 4) hx hb hts f_X3_refresh_1 hown hK hP 0 rfl rfl 2 (by decide) (hts _ f_X3_refresh_3) (fun _ h9 => h9) rfl dX3_refresh_29 ?_
      have hPc := hP.sub (ws' := (wFac ad cI cJ cZ ho_28 nu_30 fa_31 ou sp fn_32 co_19 fo_20 ro_21 po_22 pn_23 rd_24 st_25 tw_26 od_29 rn_27 x y u sn)) [1, 2, 3, 4, 5, 6, 7, 8, 9, 10, 11, 12, 13, 14, 15, 16, 17, 18, 19] rfl
      have hDc := hD.sub (ws' := (wFac ad cI cJ cZ ho_28 nu_30 fa_31 ou sp fn_32 co_19 fo_20 ro_21 po_22 pn_23 rd_24 st_25 tw_26 od_29 rn_27 x y u sn)) [1, 2, 3, 4, 5, 6, 7, 8, 9, 10, 11, 12, 13, 14, 15, 16, 17, 18, 19] (by decide) rfl
      have hFc := va_free (wc := (wFac ad cI cJ cZ ho_28 nu_30 fa_31 ou sp fn_32 co_19 fo_20 ro_21 po_22 pn_23 rd_24 st_25 tw_26 od_29 rn_27 x y u sn)) hD hS hA [1, 2, 3, 4, 5, 6, 7, 8, 9, 10, 11, 12, 13, 14, 15, 16, 17, 18, 19] rfl
      refine va_callv (va_runV (As := []) (rest := []) C (c_X0_findOutsides l dC dI cI cJ cZ ad _ ho_28 nu_30 fa_31 ou sp fn_32 co_19 fo_20 ro_21 po_22 pn_23 rd_24 st_25 tw_26 od_29 rn_27 x y u sn  hw) (cwV 0 hts gX3_refresh_X0_findOutsides rfl rfl rfl (by decide +kernel) ⟨Nat.le_of_ble_eq_true rfl, Nat.le_of_ble_eq_true rfl⟩) ⟨fb_rw, va_recv hK hPc (ci := 0) (q0 := 0) rfl rfl, fun U hU hW => ⟨rfl, by rw [hU], by rw [hU]; exact hPc, va_K.moved hW.alike hK, hDc.weaken (fun _ _ _ _ => trivial)⟩⟩ rfl rfl hl.1 rfl (lv_room (Nat.le_of_ble_eq_true rfl)) dX3_refresh_32 ⟨Nat.zero_le _, Nat.zero_le _⟩) hS (fun q _ h => hFc q h) hFc (fun uu t H1 locs ht hvm hw hB hz1 hk1 hS => ?_)
      obtain ⟨ou_33, rfl⟩ : ∃ z, z = uu := ⟨_, rfl⟩
      obtain ⟨hP1, hD1⟩ := hB
      rw [ht] at hP1
      try dsimp only at hw hP1 hD1
      obtain ⟨hP, hD⟩ := va_join (wr := [(ad 0, .inr (3, [.ref (ad 16), .ref (ad 7), .ref (ad 1), .int sl]))]) (w1 := (wFac ad cI cJ cZ ho_28 nu_30 fa_31 ou_33 sp fn_32 co_19 fo_20 ro_21 po_22 pn_23 rd_24 st_25 tw_26 od_29 rn_27 x y u sn)) hP hD [1, 2, 3, 4, 5, 6, 7, 8, 9, 10, 11, 12, 13, 14, 15, 16, 17, 18, 19] [0] rfl rfl (by decide) (by decide) hk1 hFc hP1 hD1
      generalize H1 = H at hP hS ⊢
      have hP : va_P (dC, dI) vwCl (wPla ad cI cJ cZ sl ho_28 nu_30 fa_31 ou_33 sp fn_32 co_19 fo_20 ro_21 po_22 pn_23 rd_24 st_25 tw_26 od_29 rn_27 x y u sn) H := hP
      have hD : va_D A (wPla ad cI cJ cZ sl ho_28 nu_30 fa_31 ou_33 sp fn_32 co_19 fo_20 ro_21 po_22 pn_23 rd_24 st_25 tw_26 od_29 rn_27 x y u sn) := hD
      refine lv_aload_n hx hb dX3_refresh_35 rfl (lv_at hl 0 rfl) ?_
      refine lv_iconst (v := 0) hx hb dX3_refresh_36 (by decide) ?_
      refine va_put (D := (dC, dI)) (ci := 3) (v := .int (0 : Int32)) (ty := .boolean) (C := RX3) (T := TX3) (N := 4) hx hb hts f_X3_refresh_1 tyX3 tyX3_ok nmX3 hown hK hP hD hS 0 rfl rfl 3 (by decide) (hts _ f_X3_refresh_0) (fun _ h9 => h9) rfl (by decide +kernel) (by decide) rfl (Nat.le_of_ble_eq_true rfl) dX3_refresh_37 (fun H locs hP hD hS => ?_)
      have hP : va_P (dC, dI) vwCl (wPla ad cI cJ cZ (0 : Int32) ho_28 nu_30 fa_31 ou_33 sp fn_32 co_19 fo_20 ro_21 po_22 pn_23 rd_24 st_25 tw_26 od_29 rn_27 x y u sn) H := hP
      have hD : va_D A (wPla ad cI cJ cZ (0 : Int32) ho_28 nu_30 fa_31 ou_33 sp fn_32 co_19 fo_20 ro_21 po_22 pn_23 rd_24 st_25 tw_26 od_29 rn_27 x y u sn) := hD
      exact hj18 (0 : Int32) ho_28 nu_30 fa_31 ou_33 fn_32 co_19 fo_20 ro_21 po_22 pn_23 rd_24 st_25 tw_26 od_29 rn_27 hw ls _ _ (lv_sub hl [0] rfl) hP hD hS
-- X3_remove
abbrev rm_X3_remove : Room := { frames := 1, cells := 0, slots := 0, locals := 21 }
theorem f_X3_remove_0 : (Cond.fieldLink RX3 27 "PlaneFaces" "segments" "LPlaneFaces$Segments;") ∈ wsX3_remove := by decide +kernel
theorem f_X3_remove_1 : ∀ w ∈ wsX30, w ∈ wsX3_remove := by decide +kernel
theorem f_X3_remove_2 : (Cond.fieldLink RX3 28 "PlaneFaces" "stale" "Z") ∈ wsX3_remove := by decide +kernel
set_option maxRecDepth 100000 in
set_option maxHeartbeats 4000000 in
theorem c_X3_remove (l : Launch) (dC : Nat → ClassId) (dI : Nat → Nat → Nat) (cI cJ cZ : ClassId) (ad : Nat → Nat) (sz : Nat) (sl : Int32) (ho : Nat → Int32) (nu : Nat → Int32) (fa : Nat → Int32) (ou : Nat → Int32) (sp : Nat → Int32) (fn : Int32) (co : Nat → Int32) (fo : Nat → Int32) (ro : Nat → Int32) (po : Nat → Int32) (pn : Int32) (rd : Nat → Int32) (st : Nat → Int32) (tw : Nat → Int64) (od : Nat → Int32) (rn : Int32) (x : Nat → Int32) (y : Nat → Int32) (u : Nat → Int32) (sn : Int32) (v1 : Int32) {post : Int32 → Int32 → (Nat → Int32) → Int32 → Prop} (hw : wp_X3_remove sl u sn v1 post) : Met l yX3_remove wsX3_remove rm_X3_remove (va_Pc [.ref (ad 0), .int v1] (fun U => U.heap.size = sz ∧ va_P (dC, dI) vwCl (wPla ad cI cJ cZ sl ho nu fa ou sp fn co fo ro po pn rd st tw od rn x y u sn) U.heap ∧ va_K (dC, dI) vwCl (tyL cI cJ cZ) U ∧ va_D (fun _ => True) (wPla ad cI cJ cZ sl ho nu fa ou sp fn co fo ro po pn rd st tw od rn x y u sn))) (va_Qi (fun (r : Int32) (uu : Int32 × (Nat → Int32) × Int32) => post r uu.1 uu.2.1 uu.2.2) (fun (uu : Int32 × (Nat → Int32) × Int32) (t : State) => va_P (dC, dI) vwCl (wPla ad cI cJ cZ uu.1 ho nu fa ou sp fn co fo ro po pn rd st tw od rn x y uu.2.1 uu.2.2) t.heap ∧ va_D (va_A (wPla ad cI cJ cZ sl ho nu fa ou sp fn co fo ro po pn rd st tw od rn x y u sn) sz) (wPla ad cI cJ cZ uu.1 ho nu fa ou sp fn co fo ro po pn rd st tw od rn x y uu.2.1 uu.2.2)) (va_A (wPla ad cI cJ cZ sl ho nu fa ou sp fn co fo ro po pn rd st tw od rn x y u sn) sz)) 0 0 (va_A (wPla ad cI cJ cZ sl ho nu fa ou sp fn co fo ro po pn rd st tw od rn x y u sn) sz) := by
  unfold wp_X3_remove at hw
  refine Met.ofW (cc := cX3_remove) (maxL := 2) (ret := (some .boolean)) (by decide) rfl ?_
  intro p e s m args below meth c s₁ B hml hv
  obtain ⟨hav, hsz, hP, hK, hD0⟩ := hv
  have hx := B.exec
  have hb := B.bytes
  have hr := B.returns
  have hts := atoms_spec (ws := wsX3_remove) B.pre
  have hown : s.vm.findClass RX3 = some m.cls := findClass_of_methodNamed B.named
  have hlocks := B.notSynchronized
  have C : CallFix p m c cX3_remove 2 s args wsX3_remove RX3 := ⟨hx, hb, hml, hown, hts⟩
  obtain ⟨ls, hE, hl⟩ := mx_entry (m := m) [.ref (ad 0), .int v1] (n := 2) (Nat.le_of_ble_eq_true rfl)
  have hl : lv_has ls 2 [(0, .ref (ad 0)), (1, .int v1)] := hl
  rw [show entryFrame m args 2 = F0 m 0 ls [] by rw [hav]; exact hE]
  subst hsz
  have hD := hD0.self (sz := s.heap.size)
  generalize hAe : va_A (wPla ad cI cJ cZ sl ho nu fa ou sp fn co fo ro po pn rd st tw od rn x y u sn) s.heap.size = A at hD ⊢
  have hA : ∀ q : Nat, s.heap.size ≤ q → A q := fun q h => by rw [← hAe]; exact Or.inr h
  have hS : va_S A s.heap s.heap [] := va_S.rf
  obtain ⟨Q, hQ⟩ : ∃ Q, MQ below (va_Qi (fun (r : Int32) (uu : Int32 × (Nat → Int32) × Int32) => post r uu.1 uu.2.1 uu.2.2) (fun (uu : Int32 × (Nat → Int32) × Int32) (t : State) => va_P (dC, dI) vwCl (wPla ad cI cJ cZ uu.1 ho nu fa ou sp fn co fo ro po pn rd st tw od rn x y uu.2.1 uu.2.2) t.heap ∧ va_D A (wPla ad cI cJ cZ uu.1 ho nu fa ou sp fn co fo ro po pn rd st tw od rn x y uu.2.1 uu.2.2)) A) args s 0 0 A = Q := ⟨_, rfl⟩
  rw [hQ]
  obtain ⟨H, hH⟩ : ∃ H, s.heap = H := ⟨_, rfl⟩
  have hS : va_S A s.heap H [] := by rw [← hH]; exact hS
  rw [hH] at hP
  show W p l e rm_X3_remove s m args below meth c s.heap [] 0 0 Q (F0 m 0 ls [])
  suffices hg : W p l e rm_X3_remove s m args below meth c H [] 0 0 Q (F0 m 0 ls []) by rw [hH]; exact hg
  clear hH
  generalize hlo : ([] : List Loc) = locs at hS ⊢
  refine lv_aload_n hx hb dX3_remove_0 rfl (lv_at hl 0 rfl) ?_
  refine va_get (D := (dC, dI)) (ci := 3) (v := .ref (ad 16)) (C := RX3) (T := TX3) (N := 4) hx hb hts f_X3_remove_1 hown hK hP 0 rfl rfl 0 (by decide) (hts _ f_X3_remove_0) (fun _ h9 => h9) rfl dX3_remove_1 ?_
  refine lv_iload_n hx hb dX3_remove_4 rfl (lv_at hl 1 rfl) ?_
  have hPc := hP.sub (ws' := (wSeg ad cI cJ cZ x y u sn)) [16, 17, 18, 19] rfl
  refine vp_callSi (W.runV (As := [.int v1]) (rest := []) C (c_X2_has l dC dI cI cJ cZ ad x y u sn v1 hw) (cwV 1 hts gX3_remove_X2_has rfl rfl rfl (by decide +kernel) ⟨Nat.le_of_ble_eq_true rfl, Nat.le_of_ble_eq_true rfl⟩) ⟨fb_ro, va_recv hK hPc (ci := 2) (q0 := 0) rfl rfl, fun U hU hW => ⟨rfl, by rw [hU]; exact hPc, va_K.moved hW.alike hK⟩⟩ rfl rfl hl.1 rfl (lv_room (Nat.le_of_ble_eq_true rfl)) dX3_remove_5 ⟨Nat.zero_le _, Nat.zero_le _⟩) (fun r1 hw => ?_)
  refine lv_if_ne (tgt := 13) hx hb dX3_remove_8 (by decide) (fun hc => ?_) (fun hc => ?_)
  · have hw := hw.2 hc
    refine lv_aload_n hx hb dX3_remove_13 rfl (lv_at hl 0 rfl) ?_
    refine va_get (D := (dC, dI)) (ci := 3) (v := .ref (ad 16)) (C := RX3) (T := TX3) (N := 4) hx hb hts f_X3_remove_1 hown hK hP 0 rfl rfl 0 (by decide) (hts _ f_X3_remove_0) (fun _ h9 => h9) rfl dX3_remove_14 ?_
    refine lv_iload_n hx hb dX3_remove_17 rfl (lv_at hl 1 rfl) ?_
    have hPc := hP.sub (ws' := (wSeg ad cI cJ cZ x y u sn)) [16, 17, 18, 19] rfl
    have hDc := hD.sub (ws' := (wSeg ad cI cJ cZ x y u sn)) [16, 17, 18, 19] (by decide) rfl
    have hFc := va_free (wc := (wSeg ad cI cJ cZ x y u sn)) hD hS hA [16, 17, 18, 19] rfl
    refine va_callv (va_runV (As := [.int v1]) (rest := []) C (c_X2_drop l dC dI cI cJ cZ ad _ x y u sn v1 hw) (cwV 1 hts gX3_remove_X2_drop rfl rfl rfl (by decide +kernel) ⟨Nat.le_of_ble_eq_true rfl, Nat.le_of_ble_eq_true rfl⟩) ⟨fb_rw, va_recv hK hPc (ci := 2) (q0 := 0) rfl rfl, fun U hU hW => ⟨rfl, by rw [hU], by rw [hU]; exact hPc, va_K.moved hW.alike hK, hDc.weaken (fun _ _ _ _ => trivial)⟩⟩ rfl rfl hl.1 rfl (lv_room (Nat.le_of_ble_eq_true rfl)) dX3_remove_18 ⟨Nat.zero_le _, Nat.zero_le _⟩) hS (fun q _ h => hFc q h) hFc (fun uu t H1 locs ht hvm hw hB hz1 hk1 hS => ?_)
    obtain ⟨u_2, sn_3⟩ := uu
    obtain ⟨hP1, hD1⟩ := hB
    rw [ht] at hP1
    try dsimp only at hw hP1 hD1
    obtain ⟨hP, hD⟩ := va_join (wr := [(ad 0, .inr (3, [.ref (ad 16), .ref (ad 7), .ref (ad 1), .int sl])), (ad 1, .inr (0, [.ref (ad 7), .ref (ad 16), .ref (ad 2), .ref (ad 3), .ref (ad 4), .ref (ad 5), .ref (ad 6), .int fn])), (ad 2, .inl (cI, 120, .inl ho)), (ad 3, .inl (cI, 120, .inl nu)), (ad 4, .inl (cI, 120, .inl fa)), (ad 5, .inl (cI, 60, .inl ou)), (ad 6, .inl (cI, 121, .inl sp)), (ad 7, .inr (1, [.ref (ad 16), .ref (ad 8), .ref (ad 9), .ref (ad 10), .ref (ad 11), .int pn, .ref (ad 12), .ref (ad 13), .ref (ad 14), .ref (ad 15), .int rn])), (ad 8, .inl (cI, 120, .inl co)), (ad 9, .inl (cI, 120, .inl fo)), (ad 10, .inl (cI, 60, .inl ro)), (ad 11, .inl (cI, 60, .inl po)), (ad 12, .inl (cI, 120, .inl rd)), (ad 13, .inl (cI, 120, .inl st)), (ad 14, .inl (cJ, 120, .inr (.inl tw))), (ad 15, .inl (cI, 120, .inl od))]) (w1 := (wSeg ad cI cJ cZ x y u_2 sn_3)) hP hD [16, 17, 18, 19] [0, 1, 2, 3, 4, 5, 6, 7, 8, 9, 10, 11, 12, 13, 14, 15] rfl rfl (by decide) (by decide) hk1 hFc hP1 hD1
    generalize H1 = H at hP hS ⊢
    have hP : va_P (dC, dI) vwCl (wPla ad cI cJ cZ sl ho nu fa ou sp fn co fo ro po pn rd st tw od rn x y u_2 sn_3) H := hP
    have hD : va_D A (wPla ad cI cJ cZ sl ho nu fa ou sp fn co fo ro po pn rd st tw od rn x y u_2 sn_3) := hD
    refine lv_aload_n hx hb dX3_remove_21 rfl (lv_at hl 0 rfl) ?_
    refine lv_iconst (v := 1) hx hb dX3_remove_22 (by decide) ?_
    refine va_put (D := (dC, dI)) (ci := 3) (v := .int (1 : Int32)) (ty := .boolean) (C := RX3) (T := TX3) (N := 4) hx hb hts f_X3_remove_1 tyX3 tyX3_ok nmX3 hown hK hP hD hS 0 rfl rfl 3 (by decide) (hts _ f_X3_remove_2) (fun _ h9 => h9) rfl (by decide +kernel) (by decide) rfl (Nat.le_of_ble_eq_true rfl) dX3_remove_23 (fun H locs hP hD hS => ?_)
    have hP : va_P (dC, dI) vwCl (wPla ad cI cJ cZ (1 : Int32) ho nu fa ou sp fn co fo ro po pn rd st tw od rn x y u_2 sn_3) H := hP
    have hD : va_D A (wPla ad cI cJ cZ (1 : Int32) ho nu fa ou sp fn co fo ro po pn rd st tw od rn x y u_2 sn_3) := hD
    refine lv_iconst (v := 1) hx hb dX3_remove_26 (by decide) ?_
    rw [← hQ]
    exact W.zret (v := (1 : Int32)) (ty := .boolean) hx hb hr (bz_n hw.1) (fun t ht hW => ⟨⟨_, ((1 : Int32), u_2, sn_3), rfl, hw.2, by rw [ht]; exact hP, hD⟩, hS.F ht⟩) hS.2.2 dX3_remove_27
  · have hw := hw.1 (hc)
    refine lv_iconst (v := 0) hx hb dX3_remove_11 (by decide) ?_
    rw [← hQ]
    exact W.zret (v := (0 : Int32)) (ty := .boolean) hx hb hr (bz_n hw.1) (fun t ht hW => ⟨⟨_, (sl, u, sn), rfl, hw.2, by rw [ht]; exact hP, hD⟩, hS.F ht⟩) hS.2.2 dX3_remove_12
-- X3_clear
abbrev rm_X3_clear : Room := { frames := 1, cells := 0, slots := 0, locals := 21 }
theorem f_X3_clear_0 : (Cond.fieldLink RX3 27 "PlaneFaces" "segments" "LPlaneFaces$Segments;") ∈ wsX3_clear := by decide +kernel
theorem f_X3_clear_1 : ∀ w ∈ wsX30, w ∈ wsX3_clear := by decide +kernel
theorem f_X3_clear_2 : (Cond.fieldLink RX3 72 "PlaneFaces$Segments" "size" "I") ∈ wsX3_clear := by decide +kernel
theorem f_X3_clear_3 : ∀ w ∈ wsX20, w ∈ wsX3_clear := by decide +kernel
theorem f_X3_clear_4 : (Cond.fieldLink RX3 28 "PlaneFaces" "stale" "Z") ∈ wsX3_clear := by decide +kernel
set_option maxRecDepth 100000 in
set_option maxHeartbeats 4000000 in
theorem c_X3_clear (l : Launch) (dC : Nat → ClassId) (dI : Nat → Nat → Nat) (cI cJ cZ : ClassId) (ad : Nat → Nat) (sz : Nat) (sl : Int32) (ho : Nat → Int32) (nu : Nat → Int32) (fa : Nat → Int32) (ou : Nat → Int32) (sp : Nat → Int32) (fn : Int32) (co : Nat → Int32) (fo : Nat → Int32) (ro : Nat → Int32) (po : Nat → Int32) (pn : Int32) (rd : Nat → Int32) (st : Nat → Int32) (tw : Nat → Int64) (od : Nat → Int32) (rn : Int32) (x : Nat → Int32) (y : Nat → Int32) (u : Nat → Int32) (sn : Int32)  {post : Int32 → Int32 → (Nat → Int32) → Int32 → Prop} (hw : wp_X3_clear sl u sn post) : Met l yX3_clear wsX3_clear rm_X3_clear (va_Pc [.ref (ad 0)] (fun U => U.heap.size = sz ∧ va_P (dC, dI) vwCl (wPla ad cI cJ cZ sl ho nu fa ou sp fn co fo ro po pn rd st tw od rn x y u sn) U.heap ∧ va_K (dC, dI) vwCl (tyL cI cJ cZ) U ∧ va_D (fun _ => True) (wPla ad cI cJ cZ sl ho nu fa ou sp fn co fo ro po pn rd st tw od rn x y u sn))) (va_Qi (fun (r : Int32) (uu : Int32 × (Nat → Int32) × Int32) => post r uu.1 uu.2.1 uu.2.2) (fun (uu : Int32 × (Nat → Int32) × Int32) (t : State) => va_P (dC, dI) vwCl (wPla ad cI cJ cZ uu.1 ho nu fa ou sp fn co fo ro po pn rd st tw od rn x y uu.2.1 uu.2.2) t.heap ∧ va_D (va_A (wPla ad cI cJ cZ sl ho nu fa ou sp fn co fo ro po pn rd st tw od rn x y u sn) sz) (wPla ad cI cJ cZ uu.1 ho nu fa ou sp fn co fo ro po pn rd st tw od rn x y uu.2.1 uu.2.2)) (va_A (wPla ad cI cJ cZ sl ho nu fa ou sp fn co fo ro po pn rd st tw od rn x y u sn) sz)) 0 0 (va_A (wPla ad cI cJ cZ sl ho nu fa ou sp fn co fo ro po pn rd st tw od rn x y u sn) sz) := by
  unfold wp_X3_clear at hw
  refine Met.ofW (cc := cX3_clear) (maxL := 2) (ret := (some .int)) (by decide) rfl ?_
  intro p e s m args below meth c s₁ B hml hv
  obtain ⟨hav, hsz, hP, hK, hD0⟩ := hv
  have hx := B.exec
  have hb := B.bytes
  have hr := B.returns
  have hts := atoms_spec (ws := wsX3_clear) B.pre
  have hown : s.vm.findClass RX3 = some m.cls := findClass_of_methodNamed B.named
  have hlocks := B.notSynchronized
  have C : CallFix p m c cX3_clear 2 s args wsX3_clear RX3 := ⟨hx, hb, hml, hown, hts⟩
  obtain ⟨ls, hE, hl⟩ := mx_entry (m := m) [.ref (ad 0)] (n := 2) (Nat.le_of_ble_eq_true rfl)
  have hl : lv_has ls 2 [(0, .ref (ad 0))] := hl
  rw [show entryFrame m args 2 = F0 m 0 ls [] by rw [hav]; exact hE]
  subst hsz
  have hD := hD0.self (sz := s.heap.size)
  generalize hAe : va_A (wPla ad cI cJ cZ sl ho nu fa ou sp fn co fo ro po pn rd st tw od rn x y u sn) s.heap.size = A at hD ⊢
  have hA : ∀ q : Nat, s.heap.size ≤ q → A q := fun q h => by rw [← hAe]; exact Or.inr h
  have hS : va_S A s.heap s.heap [] := va_S.rf
  obtain ⟨Q, hQ⟩ : ∃ Q, MQ below (va_Qi (fun (r : Int32) (uu : Int32 × (Nat → Int32) × Int32) => post r uu.1 uu.2.1 uu.2.2) (fun (uu : Int32 × (Nat → Int32) × Int32) (t : State) => va_P (dC, dI) vwCl (wPla ad cI cJ cZ uu.1 ho nu fa ou sp fn co fo ro po pn rd st tw od rn x y uu.2.1 uu.2.2) t.heap ∧ va_D A (wPla ad cI cJ cZ uu.1 ho nu fa ou sp fn co fo ro po pn rd st tw od rn x y uu.2.1 uu.2.2)) A) args s 0 0 A = Q := ⟨_, rfl⟩
  rw [hQ]
  obtain ⟨H, hH⟩ : ∃ H, s.heap = H := ⟨_, rfl⟩
  have hS : va_S A s.heap H [] := by rw [← hH]; exact hS
  rw [hH] at hP
  show W p l e rm_X3_clear s m args below meth c s.heap [] 0 0 Q (F0 m 0 ls [])
  suffices hg : W p l e rm_X3_clear s m args below meth c H [] 0 0 Q (F0 m 0 ls []) by rw [hH]; exact hg
  clear hH
  generalize hlo : ([] : List Loc) = locs at hS ⊢
  refine lv_aload_n hx hb dX3_clear_0 rfl (lv_at hl 0 rfl) ?_
  refine va_get (D := (dC, dI)) (ci := 3) (v := .ref (ad 16)) (C := RX3) (T := TX3) (N := 4) hx hb hts f_X3_clear_1 hown hK hP 0 rfl rfl 0 (by decide) (hts _ f_X3_clear_0) (fun _ h9 => h9) rfl dX3_clear_1 ?_
  refine va_get (D := (dC, dI)) (ci := 2) (v := .int sn) (C := RX2) (T := TX2) (N := 4) hx hb hts f_X3_clear_3 hown hK hP 16 rfl rfl 3 (by decide) (hts _ f_X3_clear_2) (fun _ h9 => h9) rfl dX3_clear_4 ?_
  refine lv_istore_n (lv' := [(1, .int sn), (0, .ref (ad 0))]) hx hb dX3_clear_7 rfl hl (by decide) rfl (fun ls hl => ?_)
  refine lv_aload_n hx hb dX3_clear_8 rfl (lv_at hl 1 rfl) ?_
  refine va_get (D := (dC, dI)) (ci := 3) (v := .ref (ad 16)) (C := RX3) (T := TX3) (N := 4) hx hb hts f_X3_clear_1 hown hK hP 0 rfl rfl 0 (by decide) (hts _ f_X3_clear_0) (fun _ h9 => h9) rfl dX3_clear_9 ?_
  have hPc := hP.sub (ws' := (wSeg ad cI cJ cZ x y u sn)) [16, 17, 18, 19] rfl
  have hDc := hD.sub (ws' := (wSeg ad cI cJ cZ x y u sn)) [16, 17, 18, 19] (by decide) rfl
  have hFc := va_free (wc := (wSeg ad cI cJ cZ x y u sn)) hD hS hA [16, 17, 18, 19] rfl
  refine va_callv (va_runV (As := []) (rest := []) C (c_X2_dropAll l dC dI cI cJ cZ ad _ x y u sn  hw) (cwV 0 hts gX3_clear_X2_dropAll rfl rfl rfl (by decide +kernel) ⟨Nat.le_of_ble_eq_true rfl, Nat.le_of_ble_eq_true rfl⟩) ⟨fb_rw, va_recv hK hPc (ci := 2) (q0 := 0) rfl rfl, fun U hU hW => ⟨rfl, by rw [hU], by rw [hU]; exact hPc, va_K.moved hW.alike hK, hDc.weaken (fun _ _ _ _ => trivial)⟩⟩ rfl rfl hl.1 rfl (lv_room (Nat.le_of_ble_eq_true rfl)) dX3_clear_12 ⟨Nat.zero_le _, Nat.zero_le _⟩) hS (fun q _ h => hFc q h) hFc (fun uu t H1 locs ht hvm hw hB hz1 hk1 hS => ?_)
  obtain ⟨u_1, sn_2⟩ := uu
  obtain ⟨hP1, hD1⟩ := hB
  rw [ht] at hP1
  try dsimp only at hw hP1 hD1
  obtain ⟨hP, hD⟩ := va_join (wr := [(ad 0, .inr (3, [.ref (ad 16), .ref (ad 7), .ref (ad 1), .int sl])), (ad 1, .inr (0, [.ref (ad 7), .ref (ad 16), .ref (ad 2), .ref (ad 3), .ref (ad 4), .ref (ad 5), .ref (ad 6), .int fn])), (ad 2, .inl (cI, 120, .inl ho)), (ad 3, .inl (cI, 120, .inl nu)), (ad 4, .inl (cI, 120, .inl fa)), (ad 5, .inl (cI, 60, .inl ou)), (ad 6, .inl (cI, 121, .inl sp)), (ad 7, .inr (1, [.ref (ad 16), .ref (ad 8), .ref (ad 9), .ref (ad 10), .ref (ad 11), .int pn, .ref (ad 12), .ref (ad 13), .ref (ad 14), .ref (ad 15), .int rn])), (ad 8, .inl (cI, 120, .inl co)), (ad 9, .inl (cI, 120, .inl fo)), (ad 10, .inl (cI, 60, .inl ro)), (ad 11, .inl (cI, 60, .inl po)), (ad 12, .inl (cI, 120, .inl rd)), (ad 13, .inl (cI, 120, .inl st)), (ad 14, .inl (cJ, 120, .inr (.inl tw))), (ad 15, .inl (cI, 120, .inl od))]) (w1 := (wSeg ad cI cJ cZ x y u_1 sn_2)) hP hD [16, 17, 18, 19] [0, 1, 2, 3, 4, 5, 6, 7, 8, 9, 10, 11, 12, 13, 14, 15] rfl rfl (by decide) (by decide) hk1 hFc hP1 hD1
  generalize H1 = H at hP hS ⊢
  have hP : va_P (dC, dI) vwCl (wPla ad cI cJ cZ sl ho nu fa ou sp fn co fo ro po pn rd st tw od rn x y u_1 sn_2) H := hP
  have hD : va_D A (wPla ad cI cJ cZ sl ho nu fa ou sp fn co fo ro po pn rd st tw od rn x y u_1 sn_2) := hD
  refine lv_aload_n hx hb dX3_clear_15 rfl (lv_at hl 1 rfl) ?_
  refine lv_iconst (v := 1) hx hb dX3_clear_16 (by decide) ?_
  refine va_put (D := (dC, dI)) (ci := 3) (v := .int (1 : Int32)) (ty := .boolean) (C := RX3) (T := TX3) (N := 4) hx hb hts f_X3_clear_1 tyX3 tyX3_ok nmX3 hown hK hP hD hS 0 rfl rfl 3 (by decide) (hts _ f_X3_clear_4) (fun _ h9 => h9) rfl (by decide +kernel) (by decide) rfl (Nat.le_of_ble_eq_true rfl) dX3_clear_17 (fun H locs hP hD hS => ?_)
  have hP : va_P (dC, dI) vwCl (wPla ad cI cJ cZ (1 : Int32) ho nu fa ou sp fn co fo ro po pn rd st tw od rn x y u_1 sn_2) H := hP
  have hD : va_D A (wPla ad cI cJ cZ (1 : Int32) ho nu fa ou sp fn co fo ro po pn rd st tw od rn x y u_1 sn_2) := hD
  refine lv_iload_n hx hb dX3_clear_20 rfl (lv_at hl 0 rfl) ?_
  rw [← hQ]
  exact W.iret (v := sn) hx hb hr (fun t ht hW => ⟨⟨_, ((1 : Int32), u_1, sn_2), rfl, hw, by rw [ht]; exact hP, hD⟩, hS.F ht⟩) hS.2.2 dX3_clear_21
-- X3_count
abbrev rm_X3_count : Room := { frames := 6, cells := 0, slots := 0, locals := 142 }
theorem f_X3_count_0 : (Cond.fieldLink RX3 27 "PlaneFaces" "segments" "LPlaneFaces$Segments;") ∈ wsX3_count := by decide +kernel
theorem f_X3_count_1 : ∀ w ∈ wsX30, w ∈ wsX3_count := by decide +kernel
theorem f_X3_count_2 : (Cond.fieldLink RX3 72 "PlaneFaces$Segments" "size" "I") ∈ wsX3_count := by decide +kernel
theorem f_X3_count_3 : ∀ w ∈ wsX20, w ∈ wsX3_count := by decide +kernel
theorem f_X3_count_4 : (Cond.fieldLink RX3 20 "PlaneFaces" "rounds" "LPlaneFaces$Rounds;") ∈ wsX3_count := by decide +kernel
theorem f_X3_count_5 : (Cond.fieldLink RX3 12 "PlaneFaces" "faces" "LPlaneFaces$Faces;") ∈ wsX3_count := by decide +kernel
theorem f_X3_count_6 : (Cond.fieldLink RX3 85 "PlaneFaces$Faces" "size" "I") ∈ wsX3_count := by decide +kernel
theorem f_X3_count_7 : ∀ w ∈ wsX00, w ∈ wsX3_count := by decide +kernel
theorem f_X3_count_8 : (Cond.fieldLink RX3 86 "PlaneFaces$Rounds" "pieces" "I") ∈ wsX3_count := by decide +kernel
theorem f_X3_count_9 : ∀ w ∈ wsX10, w ∈ wsX3_count := by decide +kernel
theorem f_X3_count_10 : (Cond.fieldLink RX3 92 "PlaneFaces$Rounds" "size" "I") ∈ wsX3_count := by decide +kernel
set_option maxRecDepth 100000 in
set_option maxHeartbeats 4000000 in
theorem c_X3_count (l : Launch) (dC : Nat → ClassId) (dI : Nat → Nat → Nat) (cI cJ cZ : ClassId) (ad : Nat → Nat) (sz : Nat) (sl : Int32) (ho : Nat → Int32) (nu : Nat → Int32) (fa : Nat → Int32) (ou : Nat → Int32) (sp : Nat → Int32) (fn : Int32) (co : Nat → Int32) (fo : Nat → Int32) (ro : Nat → Int32) (po : Nat → Int32) (pn : Int32) (rd : Nat → Int32) (st : Nat → Int32) (tw : Nat → Int64) (od : Nat → Int32) (rn : Int32) (x : Nat → Int32) (y : Nat → Int32) (u : Nat → Int32) (sn : Int32) (v1 : Int32) {post : Int32 → Int32 → (Nat → Int32) → (Nat → Int32) → (Nat → Int32) → (Nat → Int32) → Int32 → (Nat → Int32) → (Nat → Int32) → (Nat → Int32) → (Nat → Int32) → Int32 → (Nat → Int32) → (Nat → Int32) → (Nat → Int64) → (Nat → Int32) → Int32 → Prop} (hw : wp_X3_count sl ho nu fa ou fn co fo ro po pn rd st tw od rn x y u sn v1 post) : Met l yX3_count wsX3_count rm_X3_count (va_Pc [.ref (ad 0), .int v1] (fun U => U.heap.size = sz ∧ va_P (dC, dI) vwCl (wPla ad cI cJ cZ sl ho nu fa ou sp fn co fo ro po pn rd st tw od rn x y u sn) U.heap ∧ va_K (dC, dI) vwCl (tyL cI cJ cZ) U ∧ va_D (fun _ => True) (wPla ad cI cJ cZ sl ho nu fa ou sp fn co fo ro po pn rd st tw od rn x y u sn))) (va_Qi (fun (r : Int32) (uu : Int32 × (Nat → Int32) × (Nat → Int32) × (Nat → Int32) × (Nat → Int32) × Int32 × (Nat → Int32) × (Nat → Int32) × (Nat → Int32) × (Nat → Int32) × Int32 × (Nat → Int32) × (Nat → Int32) × (Nat → Int64) × (Nat → Int32) × Int32) => post r uu.1 uu.2.1 uu.2.2.1 uu.2.2.2.1 uu.2.2.2.2.1 uu.2.2.2.2.2.1 uu.2.2.2.2.2.2.1 uu.2.2.2.2.2.2.2.1 uu.2.2.2.2.2.2.2.2.1 uu.2.2.2.2.2.2.2.2.2.1 uu.2.2.2.2.2.2.2.2.2.2.1 uu.2.2.2.2.2.2.2.2.2.2.2.1 uu.2.2.2.2.2.2.2.2.2.2.2.2.1 uu.2.2.2.2.2.2.2.2.2.2.2.2.2.1 uu.2.2.2.2.2.2.2.2.2.2.2.2.2.2.1 uu.2.2.2.2.2.2.2.2.2.2.2.2.2.2.2) (fun (uu : Int32 × (Nat → Int32) × (Nat → Int32) × (Nat → Int32) × (Nat → Int32) × Int32 × (Nat → Int32) × (Nat → Int32) × (Nat → Int32) × (Nat → Int32) × Int32 × (Nat → Int32) × (Nat → Int32) × (Nat → Int64) × (Nat → Int32) × Int32) (t : State) => va_P (dC, dI) vwCl (wPla ad cI cJ cZ uu.1 uu.2.1 uu.2.2.1 uu.2.2.2.1 uu.2.2.2.2.1 sp uu.2.2.2.2.2.1 uu.2.2.2.2.2.2.1 uu.2.2.2.2.2.2.2.1 uu.2.2.2.2.2.2.2.2.1 uu.2.2.2.2.2.2.2.2.2.1 uu.2.2.2.2.2.2.2.2.2.2.1 uu.2.2.2.2.2.2.2.2.2.2.2.1 uu.2.2.2.2.2.2.2.2.2.2.2.2.1 uu.2.2.2.2.2.2.2.2.2.2.2.2.2.1 uu.2.2.2.2.2.2.2.2.2.2.2.2.2.2.1 uu.2.2.2.2.2.2.2.2.2.2.2.2.2.2.2 x y u sn) t.heap ∧ va_D (va_A (wPla ad cI cJ cZ sl ho nu fa ou sp fn co fo ro po pn rd st tw od rn x y u sn) sz) (wPla ad cI cJ cZ uu.1 uu.2.1 uu.2.2.1 uu.2.2.2.1 uu.2.2.2.2.1 sp uu.2.2.2.2.2.1 uu.2.2.2.2.2.2.1 uu.2.2.2.2.2.2.2.1 uu.2.2.2.2.2.2.2.2.1 uu.2.2.2.2.2.2.2.2.2.1 uu.2.2.2.2.2.2.2.2.2.2.1 uu.2.2.2.2.2.2.2.2.2.2.2.1 uu.2.2.2.2.2.2.2.2.2.2.2.2.1 uu.2.2.2.2.2.2.2.2.2.2.2.2.2.1 uu.2.2.2.2.2.2.2.2.2.2.2.2.2.2.1 uu.2.2.2.2.2.2.2.2.2.2.2.2.2.2.2 x y u sn)) (va_A (wPla ad cI cJ cZ sl ho nu fa ou sp fn co fo ro po pn rd st tw od rn x y u sn) sz)) 0 0 (va_A (wPla ad cI cJ cZ sl ho nu fa ou sp fn co fo ro po pn rd st tw od rn x y u sn) sz) := by
  unfold wp_X3_count at hw
  refine Met.ofW (cc := cX3_count) (maxL := 2) (ret := (some .int)) (by decide) rfl ?_
  intro p e s m args below meth c s₁ B hml hv
  obtain ⟨hav, hsz, hP, hK, hD0⟩ := hv
  have hx := B.exec
  have hb := B.bytes
  have hr := B.returns
  have hts := atoms_spec (ws := wsX3_count) B.pre
  have hown : s.vm.findClass RX3 = some m.cls := findClass_of_methodNamed B.named
  have hlocks := B.notSynchronized
  have C : CallFix p m c cX3_count 2 s args wsX3_count RX3 := ⟨hx, hb, hml, hown, hts⟩
  obtain ⟨ls, hE, hl⟩ := mx_entry (m := m) [.ref (ad 0), .int v1] (n := 2) (Nat.le_of_ble_eq_true rfl)
  have hl : lv_has ls 2 [(0, .ref (ad 0)), (1, .int v1)] := hl
  rw [show entryFrame m args 2 = F0 m 0 ls [] by rw [hav]; exact hE]
  subst hsz
  have hD := hD0.self (sz := s.heap.size)
  generalize hAe : va_A (wPla ad cI cJ cZ sl ho nu fa ou sp fn co fo ro po pn rd st tw od rn x y u sn) s.heap.size = A at hD ⊢
  have hA : ∀ q : Nat, s.heap.size ≤ q → A q := fun q h => by rw [← hAe]; exact Or.inr h
  have hS : va_S A s.heap s.heap [] := va_S.rf
  obtain ⟨Q, hQ⟩ : ∃ Q, MQ below (va_Qi (fun (r : Int32) (uu : Int32 × (Nat → Int32) × (Nat → Int32) × (Nat → Int32) × (Nat → Int32) × Int32 × (Nat → Int32) × (Nat → Int32) × (Nat → Int32) × (Nat → Int32) × Int32 × (Nat → Int32) × (Nat → Int32) × (Nat → Int64) × (Nat → Int32) × Int32) => post r uu.1 uu.2.1 uu.2.2.1 uu.2.2.2.1 uu.2.2.2.2.1 uu.2.2.2.2.2.1 uu.2.2.2.2.2.2.1 uu.2.2.2.2.2.2.2.1 uu.2.2.2.2.2.2.2.2.1 uu.2.2.2.2.2.2.2.2.2.1 uu.2.2.2.2.2.2.2.2.2.2.1 uu.2.2.2.2.2.2.2.2.2.2.2.1 uu.2.2.2.2.2.2.2.2.2.2.2.2.1 uu.2.2.2.2.2.2.2.2.2.2.2.2.2.1 uu.2.2.2.2.2.2.2.2.2.2.2.2.2.2.1 uu.2.2.2.2.2.2.2.2.2.2.2.2.2.2.2) (fun (uu : Int32 × (Nat → Int32) × (Nat → Int32) × (Nat → Int32) × (Nat → Int32) × Int32 × (Nat → Int32) × (Nat → Int32) × (Nat → Int32) × (Nat → Int32) × Int32 × (Nat → Int32) × (Nat → Int32) × (Nat → Int64) × (Nat → Int32) × Int32) (t : State) => va_P (dC, dI) vwCl (wPla ad cI cJ cZ uu.1 uu.2.1 uu.2.2.1 uu.2.2.2.1 uu.2.2.2.2.1 sp uu.2.2.2.2.2.1 uu.2.2.2.2.2.2.1 uu.2.2.2.2.2.2.2.1 uu.2.2.2.2.2.2.2.2.1 uu.2.2.2.2.2.2.2.2.2.1 uu.2.2.2.2.2.2.2.2.2.2.1 uu.2.2.2.2.2.2.2.2.2.2.2.1 uu.2.2.2.2.2.2.2.2.2.2.2.2.1 uu.2.2.2.2.2.2.2.2.2.2.2.2.2.1 uu.2.2.2.2.2.2.2.2.2.2.2.2.2.2.1 uu.2.2.2.2.2.2.2.2.2.2.2.2.2.2.2 x y u sn) t.heap ∧ va_D A (wPla ad cI cJ cZ uu.1 uu.2.1 uu.2.2.1 uu.2.2.2.1 uu.2.2.2.2.1 sp uu.2.2.2.2.2.1 uu.2.2.2.2.2.2.1 uu.2.2.2.2.2.2.2.1 uu.2.2.2.2.2.2.2.2.1 uu.2.2.2.2.2.2.2.2.2.1 uu.2.2.2.2.2.2.2.2.2.2.1 uu.2.2.2.2.2.2.2.2.2.2.2.1 uu.2.2.2.2.2.2.2.2.2.2.2.2.1 uu.2.2.2.2.2.2.2.2.2.2.2.2.2.1 uu.2.2.2.2.2.2.2.2.2.2.2.2.2.2.1 uu.2.2.2.2.2.2.2.2.2.2.2.2.2.2.2 x y u sn)) A) args s 0 0 A = Q := ⟨_, rfl⟩
  rw [hQ]
  obtain ⟨H, hH⟩ : ∃ H, s.heap = H := ⟨_, rfl⟩
  have hS : va_S A s.heap H [] := by rw [← hH]; exact hS
  rw [hH] at hP
  show W p l e rm_X3_count s m args below meth c s.heap [] 0 0 Q (F0 m 0 ls [])
  suffices hg : W p l e rm_X3_count s m args below meth c H [] 0 0 Q (F0 m 0 ls []) by rw [hH]; exact hg
  clear hH
  generalize hlo : ([] : List Loc) = locs at hS ⊢
  refine lv_aload_n hx hb dX3_count_0 rfl (lv_at hl 0 rfl) ?_
  have hPc := hP.sub (ws' := (wPla ad cI cJ cZ sl ho nu fa ou sp fn co fo ro po pn rd st tw od rn x y u sn)) [0, 1, 2, 3, 4, 5, 6, 7, 8, 9, 10, 11, 12, 13, 14, 15, 16, 17, 18, 19] rfl
  have hDc := hD.sub (ws' := (wPla ad cI cJ cZ sl ho nu fa ou sp fn co fo ro po pn rd st tw od rn x y u sn)) [0, 1, 2, 3, 4, 5, 6, 7, 8, 9, 10, 11, 12, 13, 14, 15, 16, 17, 18, 19] (by decide) rfl
  have hFc := va_free (wc := (wPla ad cI cJ cZ sl ho nu fa ou sp fn co fo ro po pn rd st tw od rn x y u sn)) hD hS hA [0, 1, 2, 3, 4, 5, 6, 7, 8, 9, 10, 11, 12, 13, 14, 15, 16, 17, 18, 19] rfl
  refine va_callv (va_runV (As := []) (rest := []) C (c_X3_refresh l dC dI cI cJ cZ ad _ sl ho nu fa ou sp fn co fo ro po pn rd st tw od rn x y u sn  hw) (cwV 0 hts gX3_count_X3_refresh rfl rfl rfl (by decide +kernel) ⟨Nat.le_of_ble_eq_true rfl, Nat.le_of_ble_eq_true rfl⟩) ⟨fb_rw, va_recv hK hPc (ci := 3) (q0 := 0) rfl rfl, fun U hU hW => ⟨rfl, by rw [hU], by rw [hU]; exact hPc, va_K.moved hW.alike hK, hDc.weaken (fun _ _ _ _ => trivial)⟩⟩ rfl rfl hl.1 rfl (lv_room (Nat.le_of_ble_eq_true rfl)) dX3_count_1 ⟨Nat.zero_le _, Nat.zero_le _⟩) hS (fun q _ h => hFc q h) hFc (fun uu t H1 locs ht hvm hw hB hz1 hk1 hS => ?_)
  obtain ⟨sl_1, ho_2, nu_3, fa_4, ou_5, fn_6, co_7, fo_8, ro_9, po_10, pn_11, rd_12, st_13, tw_14, od_15, rn_16⟩ := uu
  obtain ⟨hP1, hD1⟩ := hB
  rw [ht] at hP1
  try dsimp only at hw hP1 hD1
  obtain ⟨hP, hD⟩ := va_join (wr := []) (w1 := (wPla ad cI cJ cZ sl_1 ho_2 nu_3 fa_4 ou_5 sp fn_6 co_7 fo_8 ro_9 po_10 pn_11 rd_12 st_13 tw_14 od_15 rn_16 x y u sn)) hP hD [0, 1, 2, 3, 4, 5, 6, 7, 8, 9, 10, 11, 12, 13, 14, 15, 16, 17, 18, 19] [] rfl rfl (by decide) (by decide) hk1 hFc hP1 hD1
  generalize H1 = H at hP hS ⊢
  have hP : va_P (dC, dI) vwCl (wPla ad cI cJ cZ sl_1 ho_2 nu_3 fa_4 ou_5 sp fn_6 co_7 fo_8 ro_9 po_10 pn_11 rd_12 st_13 tw_14 od_15 rn_16 x y u sn) H := hP
  have hD : va_D A (wPla ad cI cJ cZ sl_1 ho_2 nu_3 fa_4 ou_5 sp fn_6 co_7 fo_8 ro_9 po_10 pn_11 rd_12 st_13 tw_14 od_15 rn_16 x y u sn) := hD
  refine lv_iload_n hx hb dX3_count_4 rfl (lv_at hl 1 rfl) ?_
  rcases sw_5 v1 with hc | hc | hc | hc | hc | hc | hc
  · have hw := hw.1 hc
    refine lv_tableOut (tgt := 92) hx hb dX3_count_5 hc (by decide) ?_
    refine lv_iconst (v := -1) hx hb dX3_count_92 (by decide) ?_
    rw [← hQ]
    exact W.iret (v := (-1 : Int32)) hx hb hr (fun t ht hW => ⟨⟨_, (sl_1, ho_2, nu_3, fa_4, ou_5, fn_6, co_7, fo_8, ro_9, po_10, pn_11, rd_12, st_13, tw_14, od_15, rn_16), rfl, hw, by rw [ht]; exact hP, hD⟩, hS.F ht⟩) hS.2.2 dX3_count_93
  · have hw := hw.2.1 hc
    rw [hc]
    refine lv_tableIn (tgt := 44) hx hb dX3_count_5 (by decide) (by decide) rfl (by decide) ?_
    refine lv_aload_n hx hb dX3_count_44 rfl (lv_at hl 0 rfl) ?_
    refine va_get (D := (dC, dI)) (ci := 3) (v := .ref (ad 16)) (C := RX3) (T := TX3) (N := 4) hx hb hts f_X3_count_1 hown hK hP 0 rfl rfl 0 (by decide) (hts _ f_X3_count_0) (fun _ h9 => h9) rfl dX3_count_45 ?_
    refine va_get (D := (dC, dI)) (ci := 2) (v := .int sn) (C := RX2) (T := TX2) (N := 4) hx hb hts f_X3_count_3 hown hK hP 16 rfl rfl 3 (by decide) (hts _ f_X3_count_2) (fun _ h9 => h9) rfl dX3_count_48 ?_
    rw [← hQ]
    exact W.iret (v := sn) hx hb hr (fun t ht hW => ⟨⟨_, (sl_1, ho_2, nu_3, fa_4, ou_5, fn_6, co_7, fo_8, ro_9, po_10, pn_11, rd_12, st_13, tw_14, od_15, rn_16), rfl, hw, by rw [ht]; exact hP, hD⟩, hS.F ht⟩) hS.2.2 dX3_count_51
  · have hw := hw.2.2.1 hc
    rw [hc]
    refine lv_tableIn (tgt := 52) hx hb dX3_count_5 (by decide) (by decide) rfl (by decide) ?_
    refine lv_aload_n hx hb dX3_count_52 rfl (lv_at hl 0 rfl) ?_
    refine va_get (D := (dC, dI)) (ci := 3) (v := .ref (ad 7)) (C := RX3) (T := TX3) (N := 4) hx hb hts f_X3_count_1 hown hK hP 0 rfl rfl 1 (by decide) (hts _ f_X3_count_4) (fun _ h9 => h9) rfl dX3_count_53 ?_
    have hPc := hP.sub (ws' := (wRnd ad cI cJ cZ co_7 fo_8 ro_9 po_10 pn_11 rd_12 st_13 tw_14 od_15 rn_16 x y u sn)) [7, 8, 9, 10, 11, 12, 13, 14, 15, 16, 17, 18, 19] rfl
    refine vp_callSi (W.runV (As := []) (rest := []) C (c_X1_corners l dC dI cI cJ cZ ad co_7 fo_8 ro_9 po_10 pn_11 rd_12 st_13 tw_14 od_15 rn_16 x y u sn  hw) (cwV 0 hts gX3_count_X1_corners rfl rfl rfl (by decide +kernel) ⟨Nat.le_of_ble_eq_true rfl, Nat.le_of_ble_eq_true rfl⟩) ⟨fb_ro, va_recv hK hPc (ci := 1) (q0 := 0) rfl rfl, fun U hU hW => ⟨rfl, by rw [hU]; exact hPc, va_K.moved hW.alike hK⟩⟩ rfl rfl hl.1 rfl (lv_room (Nat.le_of_ble_eq_true rfl)) dX3_count_56 ⟨Nat.zero_le _, Nat.zero_le _⟩) (fun r17 hw => ?_)
    rw [← hQ]
    exact W.iret (v := r17) hx hb hr (fun t ht hW => ⟨⟨_, (sl_1, ho_2, nu_3, fa_4, ou_5, fn_6, co_7, fo_8, ro_9, po_10, pn_11, rd_12, st_13, tw_14, od_15, rn_16), rfl, hw, by rw [ht]; exact hP, hD⟩, hS.F ht⟩) hS.2.2 dX3_count_59
  · have hw := hw.2.2.2.1 hc
    rw [hc]
    refine lv_tableIn (tgt := 60) hx hb dX3_count_5 (by decide) (by decide) rfl (by decide) ?_
    refine lv_aload_n hx hb dX3_count_60 rfl (lv_at hl 0 rfl) ?_
    refine va_get (D := (dC, dI)) (ci := 3) (v := .ref (ad 1)) (C := RX3) (T := TX3) (N := 4) hx hb hts f_X3_count_1 hown hK hP 0 rfl rfl 2 (by decide) (hts _ f_X3_count_5) (fun _ h9 => h9) rfl dX3_count_61 ?_
    refine va_get (D := (dC, dI)) (ci := 0) (v := .int fn_6) (C := RX0) (T := TX0) (N := 8) hx hb hts f_X3_count_7 hown hK hP 1 rfl rfl 7 (by decide) (hts _ f_X3_count_6) (fun _ h9 => h9) rfl dX3_count_64 ?_
    rw [← hQ]
    exact W.iret (v := fn_6) hx hb hr (fun t ht hW => ⟨⟨_, (sl_1, ho_2, nu_3, fa_4, ou_5, fn_6, co_7, fo_8, ro_9, po_10, pn_11, rd_12, st_13, tw_14, od_15, rn_16), rfl, hw, by rw [ht]; exact hP, hD⟩, hS.F ht⟩) hS.2.2 dX3_count_67
  · have hw := hw.2.2.2.2.1 hc
    rw [hc]
    refine lv_tableIn (tgt := 68) hx hb dX3_count_5 (by decide) (by decide) rfl (by decide) ?_
    refine lv_aload_n hx hb dX3_count_68 rfl (lv_at hl 0 rfl) ?_
    refine va_get (D := (dC, dI)) (ci := 3) (v := .ref (ad 7)) (C := RX3) (T := TX3) (N := 4) hx hb hts f_X3_count_1 hown hK hP 0 rfl rfl 1 (by decide) (hts _ f_X3_count_4) (fun _ h9 => h9) rfl dX3_count_69 ?_
    refine va_get (D := (dC, dI)) (ci := 1) (v := .int pn_11) (C := RX1) (T := TX1) (N := 11) hx hb hts f_X3_count_9 hown hK hP 7 rfl rfl 5 (by decide) (hts _ f_X3_count_8) (fun _ h9 => h9) rfl dX3_count_72 ?_
    rw [← hQ]
    exact W.iret (v := pn_11) hx hb hr (fun t ht hW => ⟨⟨_, (sl_1, ho_2, nu_3, fa_4, ou_5, fn_6, co_7, fo_8, ro_9, po_10, pn_11, rd_12, st_13, tw_14, od_15, rn_16), rfl, hw, by rw [ht]; exact hP, hD⟩, hS.F ht⟩) hS.2.2 dX3_count_75
  · have hw := hw.2.2.2.2.2.1 hc
    rw [hc]
    refine lv_tableIn (tgt := 76) hx hb dX3_count_5 (by decide) (by decide) rfl (by decide) ?_
    refine lv_aload_n hx hb dX3_count_76 rfl (lv_at hl 0 rfl) ?_
    refine va_get (D := (dC, dI)) (ci := 3) (v := .ref (ad 1)) (C := RX3) (T := TX3) (N := 4) hx hb hts f_X3_count_1 hown hK hP 0 rfl rfl 2 (by decide) (hts _ f_X3_count_5) (fun _ h9 => h9) rfl dX3_count_77 ?_
    have hPc := hP.sub (ws' := (wFac ad cI cJ cZ ho_2 nu_3 fa_4 ou_5 sp fn_6 co_7 fo_8 ro_9 po_10 pn_11 rd_12 st_13 tw_14 od_15 rn_16 x y u sn)) [1, 2, 3, 4, 5, 6, 7, 8, 9, 10, 11, 12, 13, 14, 15, 16, 17, 18, 19] rfl
    refine vp_callSi (W.runV (As := []) (rest := []) C (c_X0_bridges l dC dI cI cJ cZ ad ho_2 nu_3 fa_4 ou_5 sp fn_6 co_7 fo_8 ro_9 po_10 pn_11 rd_12 st_13 tw_14 od_15 rn_16 x y u sn  hw) (cwV 0 hts gX3_count_X0_bridges rfl rfl rfl (by decide +kernel) ⟨Nat.le_of_ble_eq_true rfl, Nat.le_of_ble_eq_true rfl⟩) ⟨fb_ro, va_recv hK hPc (ci := 0) (q0 := 0) rfl rfl, fun U hU hW => ⟨rfl, by rw [hU]; exact hPc, va_K.moved hW.alike hK⟩⟩ rfl rfl hl.1 rfl (lv_room (Nat.le_of_ble_eq_true rfl)) dX3_count_80 ⟨Nat.zero_le _, Nat.zero_le _⟩) (fun r18 hw => ?_)
    rw [← hQ]
    exact W.iret (v := r18) hx hb hr (fun t ht hW => ⟨⟨_, (sl_1, ho_2, nu_3, fa_4, ou_5, fn_6, co_7, fo_8, ro_9, po_10, pn_11, rd_12, st_13, tw_14, od_15, rn_16), rfl, hw, by rw [ht]; exact hP, hD⟩, hS.F ht⟩) hS.2.2 dX3_count_83
  · have hw := hw.2.2.2.2.2.2 hc
    rw [hc]
    refine lv_tableIn (tgt := 84) hx hb dX3_count_5 (by decide) (by decide) rfl (by decide) ?_
    refine lv_aload_n hx hb dX3_count_84 rfl (lv_at hl 0 rfl) ?_
    refine va_get (D := (dC, dI)) (ci := 3) (v := .ref (ad 7)) (C := RX3) (T := TX3) (N := 4) hx hb hts f_X3_count_1 hown hK hP 0 rfl rfl 1 (by decide) (hts _ f_X3_count_4) (fun _ h9 => h9) rfl dX3_count_85 ?_
    refine va_get (D := (dC, dI)) (ci := 1) (v := .int rn_16) (C := RX1) (T := TX1) (N := 11) hx hb hts f_X3_count_9 hown hK hP 7 rfl rfl 10 (by decide) (hts _ f_X3_count_10) (fun _ h9 => h9) rfl dX3_count_88 ?_
    rw [← hQ]
    exact W.iret (v := rn_16) hx hb hr (fun t ht hW => ⟨⟨_, (sl_1, ho_2, nu_3, fa_4, ou_5, fn_6, co_7, fo_8, ro_9, po_10, pn_11, rd_12, st_13, tw_14, od_15, rn_16), rfl, hw, by rw [ht]; exact hP, hD⟩, hS.F ht⟩) hS.2.2 dX3_count_91
