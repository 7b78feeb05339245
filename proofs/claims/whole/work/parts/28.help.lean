abbrev rm_L_add : Room := { frames := 8, cells := 1, slots := 6, locals := 138 }
theorem f_L_add_0 : (Cond.classLink RL 13 "java/lang/IllegalArgumentException") ∈ wsL_add := by decide +kernel
theorem f_L_add_1 : (Cond.classLink RL 15 "java/lang/IllegalStateException") ∈ wsL_add := by decide +kernel
set_option maxRecDepth 100000 in
set_option maxHeartbeats 4000000 in
theorem c_L_add (l : Launch) (hst : l.stackTraces = false) (dC : Nat → ClassId) (dI : Nat → Nat → Nat) (cI cJ cZ : ClassId) (ad : Nat → Nat) (sz : Nat) (sl : Int32) (ho : Nat → Int32) (nu : Nat → Int32) (fa : Nat → Int32) (ou : Nat → Int32) (sp : Nat → Int32) (fn : Int32) (co : Nat → Int32) (fo : Nat → Int32) (ro : Nat → Int32) (po : Nat → Int32) (pn : Int32) (rd : Nat → Int32) (st : Nat → Int32) (tw : Nat → Int64) (od : Nat → Int32) (rn : Int32) (x : Nat → Int32) (y : Nat → Int32) (u : Nat → Int32) (sn : Int32) (ao : Nat) (o : Nat → Int64) (v1 : Int32) (v2 : Int32) (v3 : Int32) (v4 : Int32) {post : Int32 → Int32 → (Nat → Int32) → (Nat → Int32) → (Nat → Int32) → Int32 → (Nat → Int64) → Prop} (hw : wp_L_add sl x y u sn o v1 v2 v3 v4 post) : Met l yL_add wsL_add rm_L_add (va_Pc [.ref (ad 0), .int v1, .int v2, .int v3, .int v4, .ref ao] (fun U => U.heap.size = sz ∧ va_P (dC, dI) vwCl (wLx ad cI cJ cZ sl ho nu fa ou sp fn co fo ro po pn rd st tw od rn x y u sn ao o) U.heap ∧ va_K (dC, dI) vwCl (tyL cI cJ cZ) U ∧ va_D (fun _ => True) (wLx ad cI cJ cZ sl ho nu fa ou sp fn co fo ro po pn rd st tw od rn x y u sn ao o) ∧ xe (va_A (wLx ad cI cJ cZ sl ho nu fa ou sp fn co fo ro po pn rd st tw od rn x y u sn ao o) sz) U U.heap)) (va_Qi (fun (r : Int32) (uu : Int32 × (Nat → Int32) × (Nat → Int32) × (Nat → Int32) × Int32 × (Nat → Int64)) => post r uu.1 uu.2.1 uu.2.2.1 uu.2.2.2.1 uu.2.2.2.2.1 uu.2.2.2.2.2) (fun (uu : Int32 × (Nat → Int32) × (Nat → Int32) × (Nat → Int32) × Int32 × (Nat → Int64)) (t : State) => va_P (dC, dI) vwCl (wLx ad cI cJ cZ uu.1 ho nu fa ou sp fn co fo ro po pn rd st tw od rn uu.2.1 uu.2.2.1 uu.2.2.2.1 uu.2.2.2.2.1 ao uu.2.2.2.2.2) t.heap ∧ va_D (va_A (wLx ad cI cJ cZ sl ho nu fa ou sp fn co fo ro po pn rd st tw od rn x y u sn ao o) sz) (wLx ad cI cJ cZ uu.1 ho nu fa ou sp fn co fo ro po pn rd st tw od rn uu.2.1 uu.2.2.1 uu.2.2.2.1 uu.2.2.2.2.1 ao uu.2.2.2.2.2)) (va_A (wLx ad cI cJ cZ sl ho nu fa ou sp fn co fo ro po pn rd st tw od rn x y u sn ao o) sz)) 1 6 (va_A (wLx ad cI cJ cZ sl ho nu fa ou sp fn co fo ro po pn rd st tw od rn x y u sn ao o) sz) := by
  unfold wp_L_add at hw
  refine va_MetW (cc := cL_add) (maxL := 7) (ret := (some .int)) (hh := [(0, 14, 17, 13), (0, 14, 21, 15)]) (by decide) rfl ?_
  intro p e s m args below meth c s₁ B hml hv
  obtain ⟨hav, hsz, hP, hK, hD0, hxe⟩ := hv
  have hx := B.exec
  have hb := B.bytes
  have hr := B.returns
  have hts := atoms_spec (ws := wsL_add) B.pre
  have hT := vx_table (x := yL_add) B (hts (.codeWith yL_add cL_add 7 (some .int) [(0, 14, 17, 13), (0, 14, 21, 15)]) List.mem_cons_self)
  have hown : s.vm.findClass RL = some m.cls := findClass_of_methodNamed B.named
  have hlocks := B.notSynchronized
  have C : CallFix p m c cL_add 7 s args wsL_add RL := ⟨hx, hb, hml, hown, hts⟩
  obtain ⟨ls, hE, hl⟩ := mx_entry (m := m) [.ref (ad 0), .int v1, .int v2, .int v3, .int v4, .ref ao] (n := 7) (Nat.le_of_ble_eq_true rfl)
  have hl : lv_has ls 7 [(0, .ref (ad 0)), (1, .int v1), (2, .int v2), (3, .int v3), (4, .int v4), (5, .ref ao)] := hl
  rw [show entryFrame m args 7 = F0 m 0 ls [] by rw [hav]; exact hE]
  subst hsz
  have hD := hD0.self (sz := s.heap.size)
  generalize hAe : va_A (wLx ad cI cJ cZ sl ho nu fa ou sp fn co fo ro po pn rd st tw od rn x y u sn ao o) s.heap.size = A at hD hxe ⊢
  have hA : ∀ q : Nat, s.heap.size ≤ q → A q := fun q h => by rw [← hAe]; exact Or.inr h
  have hS : va_S A s.heap s.heap [] := va_S.rf
  obtain ⟨Q, hQ⟩ : ∃ Q, MQ below (va_Qi (fun (r : Int32) (uu : Int32 × (Nat → Int32) × (Nat → Int32) × (Nat → Int32) × Int32 × (Nat → Int64)) => post r uu.1 uu.2.1 uu.2.2.1 uu.2.2.2.1 uu.2.2.2.2.1 uu.2.2.2.2.2) (fun (uu : Int32 × (Nat → Int32) × (Nat → Int32) × (Nat → Int32) × Int32 × (Nat → Int64)) (t : State) => va_P (dC, dI) vwCl (wLx ad cI cJ cZ uu.1 ho nu fa ou sp fn co fo ro po pn rd st tw od rn uu.2.1 uu.2.2.1 uu.2.2.2.1 uu.2.2.2.2.1 ao uu.2.2.2.2.2) t.heap ∧ va_D A (wLx ad cI cJ cZ uu.1 ho nu fa ou sp fn co fo ro po pn rd st tw od rn uu.2.1 uu.2.2.1 uu.2.2.2.1 uu.2.2.2.2.1 ao uu.2.2.2.2.2)) A) args s 1 6 A = Q := ⟨_, rfl⟩
  rw [hQ]
  obtain ⟨H, hH⟩ : ∃ H, s.heap = H := ⟨_, rfl⟩
  have hS : va_S A s.heap H [] := by rw [← hH]; exact hS
  rw [hH] at hP
  show W p l e rm_L_add s m args below meth c s.heap [] 0 0 Q (F0 m 0 ls [])
  suffices hg : W p l e rm_L_add s m args below meth c H [] 0 0 Q (F0 m 0 ls []) by rw [hH]; exact hg
  clear hH
  generalize hlo : ([] : List Loc) = locs at hS ⊢
  refine lv_aload hx hb dL_add_0 (lv_at hl 5 rfl) ?_
  refine lv_iconst (v := 0) hx hb dL_add_2 (by decide) ?_
  refine lv_aload_n hx hb dL_add_3 rfl (lv_at hl 0 rfl) ?_
  refine lv_iload_n hx hb dL_add_4 rfl (lv_at hl 1 rfl) ?_
  refine lv_iload_n hx hb dL_add_5 rfl (lv_at hl 2 rfl) ?_
  refine lv_iload_n hx hb dL_add_6 rfl (lv_at hl 3 rfl) ?_
  refine lv_iload hx hb dL_add_7 (lv_at hl 4 rfl) ?_
  have hPc := hP.sub (ws' := (wPla ad cI cJ cZ sl ho nu fa ou sp fn co fo ro po pn rd st tw od rn x y u sn)) [0, 1, 2, 3, 4, 5, 6, 7, 8, 9, 10, 11, 12, 13, 14, 15, 16, 17, 18, 19] rfl
  have hDc := hD.sub (ws' := (wPla ad cI cJ cZ sl ho nu fa ou sp fn co fo ro po pn rd st tw od rn x y u sn)) [0, 1, 2, 3, 4, 5, 6, 7, 8, 9, 10, 11, 12, 13, 14, 15, 16, 17, 18, 19] (by decide) rfl
  have hFc := va_free (wc := (wPla ad cI cJ cZ sl ho nu fa ou sp fn co fo ro po pn rd st tw od rn x y u sn)) hD hS hA [0, 1, 2, 3, 4, 5, 6, 7, 8, 9, 10, 11, 12, 13, 14, 15, 16, 17, 18, 19] rfl
  rcases hw with hw | hw
  · refine vx_calli (vx_runV (As := [.int v1, .int v2, .int v3, .int v4]) (rest := [.int 0, .ref ao]) C (cx_X3_add l hst dC dI cI cJ cZ ad _ sl ho nu fa ou sp fn co fo ro po pn rd st tw od rn x y u sn v1 v2 v3 v4 hw) (cwV 4 hts gL_add_X3_add rfl rfl rfl (by decide +kernel) ⟨Nat.le_of_ble_eq_true rfl, Nat.le_of_ble_eq_true rfl⟩) ⟨fb_x, va_recv hK hPc (ci := 3) (q0 := 0) rfl rfl, fun U hU hW => ⟨rfl, by rw [hU], by rw [hU]; exact hPc, va_K.moved hW.alike hK, hDc.weaken (fun _ _ _ _ => trivial), hxe.step hS hFc hU hW⟩⟩ rfl rfl hl.1 rfl (lv_room (Nat.le_of_ble_eq_true rfl)) dL_add_9 ⟨Nat.le_of_ble_eq_true rfl, Nat.le_of_ble_eq_true rfl⟩) hS (fun q _ h => hFc q h) hFc (fun q _ h => hFc q h) (fun E9 ce q9 uu t H1 locs ht hvm hpx hB hz1 hk1 hS hce hcv hcl => ?_) (fun r9 uu t H1 locs ht hvm hpost hB hz1 hk1 hS => hpost.elim)
    obtain ⟨sl_x, x_x, y_x, u_x, sn_x⟩ := uu
    obtain ⟨hw, hP1, hD1⟩ := hB
    rw [ht] at hP1
    try dsimp only at hw hP1 hD1
    obtain ⟨hP, hD⟩ := va_join (wr := [(ao, .inl (cJ, 1, .inr (.inl o)))]) (w1 := (wPla ad cI cJ cZ sl_x ho nu fa ou sp fn co fo ro po pn rd st tw od rn x_x y_x u_x sn_x)) hP hD [0, 1, 2, 3, 4, 5, 6, 7, 8, 9, 10, 11, 12, 13, 14, 15, 16, 17, 18, 19] [20] rfl rfl (by decide) (by decide) hk1 hFc hP1 hD1
    have hP := hP.sub (ws' := (wLx ad cI cJ cZ sl_x ho nu fa ou sp fn co fo ro po pn rd st tw od rn x_x y_x u_x sn_x ao o)) [1, 2, 3, 4, 5, 6, 7, 8, 9, 10, 11, 12, 13, 14, 15, 16, 17, 18, 19, 20, 0] rfl
    have hD := hD.sub (ws' := (wLx ad cI cJ cZ sl_x ho nu fa ou sp fn co fo ro po pn rd st tw od rn x_x y_x u_x sn_x ao o)) [1, 2, 3, 4, 5, 6, 7, 8, 9, 10, 11, 12, 13, 14, 15, 16, 17, 18, 19, 20, 0] (by decide) rfl
    rcases hw with ⟨rfl, hw⟩ | ⟨rfl, hw⟩
    · refine vx_catch (E := "java/lang/IllegalArgumentException") (name := "java/lang/IllegalArgumentException") hown [] ⟨0, 14, 17, 13⟩ [⟨0, 14, 21, 15⟩] (by rw [hT]; rfl) (fun z hz => absurd hz List.not_mem_nil) (by decide) (by decide) (hts _ f_L_add_0) (hxe.2.2.2.1.use rfl) hce hcv hcl ?_
      refine lv_astore (lv' := [(6, .ref q9), (0, .ref (ad 0)), (1, .int v1), (2, .int v2), (3, .int v3), (4, .int v4), (5, .ref ao)]) hx hb dL_add_17 hl (by decide) rfl (fun ls hl => ?_)
      refine lv_iconst (v := 1) hx hb dL_add_19 (by decide) ?_
      refine W.widen (k := 1) (n := 6) (Nat.le_of_ble_eq_true rfl) (Nat.le_of_ble_eq_true rfl) ?_
      rw [← hQ]
      exact W.iret (v := 1) hx hb hr (fun t ht hW => ⟨⟨_, (sl_x, x_x, y_x, u_x, sn_x, o), rfl, hw, by rw [ht]; exact hP, hD⟩, hS.F ht⟩) hS.2.2 dL_add_20
    · refine vx_catch (E := "java/lang/IllegalStateException") (name := "java/lang/IllegalStateException") hown [⟨0, 14, 17, 13⟩] ⟨0, 14, 21, 15⟩ [] (by rw [hT]; rfl) (fun z hz => by rw [List.mem_singleton.mp hz]; exact Or.inr ⟨by decide, "java/lang/IllegalArgumentException", (hts _ f_L_add_0), hxe.2.2.2.2.2.2.2.2.2⟩) (by decide) (by decide) (hts _ f_L_add_1) (hxe.2.2.2.2.1.use rfl) hce hcv hcl ?_
      refine lv_astore (lv' := [(6, .ref q9), (0, .ref (ad 0)), (1, .int v1), (2, .int v2), (3, .int v3), (4, .int v4), (5, .ref ao)]) hx hb dL_add_21 hl (by decide) rfl (fun ls hl => ?_)
      refine lv_iconst (v := 2) hx hb dL_add_23 (by decide) ?_
      refine W.widen (k := 1) (n := 6) (Nat.le_of_ble_eq_true rfl) (Nat.le_of_ble_eq_true rfl) ?_
      rw [← hQ]
      exact W.iret (v := 2) hx hb hr (fun t ht hW => ⟨⟨_, (sl_x, x_x, y_x, u_x, sn_x, o), rfl, hw, by rw [ht]; exact hP, hD⟩, hS.F ht⟩) hS.2.2 dL_add_24
  · refine va_calli (va_runV (As := [.int v1, .int v2, .int v3, .int v4]) (rest := [.int 0, .ref ao]) C (c_X3_add l dC dI cI cJ cZ ad _ sl ho nu fa ou sp fn co fo ro po pn rd st tw od rn x y u sn v1 v2 v3 v4 hw) (cwV 4 hts gL_add_X3_add rfl rfl rfl (by decide +kernel) ⟨Nat.le_of_ble_eq_true rfl, Nat.le_of_ble_eq_true rfl⟩) ⟨fb_rw, va_recv hK hPc (ci := 3) (q0 := 0) rfl rfl, fun U hU hW => ⟨rfl, by rw [hU], by rw [hU]; exact hPc, va_K.moved hW.alike hK, hDc.weaken (fun _ _ _ _ => trivial)⟩⟩ rfl rfl hl.1 rfl (lv_room (Nat.le_of_ble_eq_true rfl)) dL_add_9 ⟨Nat.zero_le _, Nat.zero_le _⟩) hS (fun q _ h => hFc q h) hFc (fun r uu t H1 locs ht hvm hw hB hz1 hk1 hS => ?_)
    obtain ⟨sl_r, x_r, y_r, u_r, sn_r⟩ := uu
    obtain ⟨hP1, hD1⟩ := hB
    rw [ht] at hP1
    try dsimp only at hw hP1 hD1
    obtain ⟨hP, hD⟩ := va_join (wr := [(ao, .inl (cJ, 1, .inr (.inl o)))]) (w1 := (wPla ad cI cJ cZ sl_r ho nu fa ou sp fn co fo ro po pn rd st tw od rn x_r y_r u_r sn_r)) hP hD [0, 1, 2, 3, 4, 5, 6, 7, 8, 9, 10, 11, 12, 13, 14, 15, 16, 17, 18, 19] [20] rfl rfl (by decide) (by decide) hk1 hFc hP1 hD1
    have hP := hP.sub (ws' := (wLx ad cI cJ cZ sl_r ho nu fa ou sp fn co fo ro po pn rd st tw od rn x_r y_r u_r sn_r ao o)) [1, 2, 3, 4, 5, 6, 7, 8, 9, 10, 11, 12, 13, 14, 15, 16, 17, 18, 19, 20, 0] rfl
    have hD := hD.sub (ws' := (wLx ad cI cJ cZ sl_r ho nu fa ou sp fn co fo ro po pn rd st tw od rn x_r y_r u_r sn_r ao o)) [1, 2, 3, 4, 5, 6, 7, 8, 9, 10, 11, 12, 13, 14, 15, 16, 17, 18, 19, 20, 0] (by decide) rfl
    refine lv_i2l hx hb dL_add_12 rfl ?_
    refine va_last hx hb hK hP hD hS 20 1 rfl rfl (by unfold vp_in; decide) dL_add_13 (fun H locs hP hD hS => ?_)
    have hP : va_P (dC, dI) vwCl (wLx ad cI cJ cZ sl_r ho nu fa ou sp fn co fo ro po pn rd st tw od rn x_r y_r u_r sn_r ao (vp_updL o (0 : Int32).toNatClampNeg r.toInt64)) H := hP
    have hD : va_D A (wLx ad cI cJ cZ sl_r ho nu fa ou sp fn co fo ro po pn rd st tw od rn x_r y_r u_r sn_r ao (vp_updL o (0 : Int32).toNatClampNeg r.toInt64)) := hD
    refine lv_goto (tgt := 25) hx hb dL_add_14 (by decide) ?_
    refine lv_iconst (v := 0) hx hb dL_add_25 (by decide) ?_
    refine W.widen (k := 1) (n := 6) (Nat.le_of_ble_eq_true rfl) (Nat.le_of_ble_eq_true rfl) ?_
    rw [← hQ]
    exact W.iret (v := 0) hx hb hr (fun t ht hW => ⟨⟨_, (sl_r, x_r, y_r, u_r, sn_r, (vp_updL o (0 : Int32).toNatClampNeg r.toInt64)), rfl, hw, by rw [ht]; exact hP, hD⟩, hS.F ht⟩) hS.2.2 dL_add_26
abbrev rm_L_begins : Room := { frames := 8, cells := 1, slots := 6, locals := 135 }
theorem f_L_begins_0 : (Cond.classLink RL 21 "java/lang/IndexOutOfBoundsException") ∈ wsL_begins := by decide +kernel
set_option maxRecDepth 100000 in
set_option maxHeartbeats 4000000 in
theorem c_L_begins (l : Launch) (hst : l.stackTraces = false) (dC : Nat → ClassId) (dI : Nat → Nat → Nat) (cI cJ cZ : ClassId) (ad : Nat → Nat) (sz : Nat) (sl : Int32) (ho : Nat → Int32) (nu : Nat → Int32) (fa : Nat → Int32) (ou : Nat → Int32) (sp : Nat → Int32) (fn : Int32) (co : Nat → Int32) (fo : Nat → Int32) (ro : Nat → Int32) (po : Nat → Int32) (pn : Int32) (rd : Nat → Int32) (st : Nat → Int32) (tw : Nat → Int64) (od : Nat → Int32) (rn : Int32) (x : Nat → Int32) (y : Nat → Int32) (u : Nat → Int32) (sn : Int32) (ao : Nat) (o : Nat → Int64) (v1 : Int32) (v2 : Int32) {post : Int32 → (Nat → Int64) → Prop} (hw : wp_L_begins x y u o v1 v2 post) : Met l yL_begins wsL_begins rm_L_begins (va_Pc [.ref (ad 0), .int v1, .int v2, .ref ao] (fun U => U.heap.size = sz ∧ va_P (dC, dI) vwCl (wLx ad cI cJ cZ sl ho nu fa ou sp fn co fo ro po pn rd st tw od rn x y u sn ao o) U.heap ∧ va_K (dC, dI) vwCl (tyL cI cJ cZ) U ∧ va_D (fun _ => True) (wLx ad cI cJ cZ sl ho nu fa ou sp fn co fo ro po pn rd st tw od rn x y u sn ao o) ∧ xe (va_A (wLx ad cI cJ cZ sl ho nu fa ou sp fn co fo ro po pn rd st tw od rn x y u sn ao o) sz) U U.heap)) (va_Qi (fun (r : Int32) (uu : (Nat → Int64)) => post r uu) (fun (uu : (Nat → Int64)) (t : State) => va_P (dC, dI) vwCl (wLx ad cI cJ cZ sl ho nu fa ou sp fn co fo ro po pn rd st tw od rn x y u sn ao uu) t.heap ∧ va_D (va_A (wLx ad cI cJ cZ sl ho nu fa ou sp fn co fo ro po pn rd st tw od rn x y u sn ao o) sz) (wLx ad cI cJ cZ sl ho nu fa ou sp fn co fo ro po pn rd st tw od rn x y u sn ao uu)) (va_A (wLx ad cI cJ cZ sl ho nu fa ou sp fn co fo ro po pn rd st tw od rn x y u sn ao o) sz)) 1 6 (va_A (wLx ad cI cJ cZ sl ho nu fa ou sp fn co fo ro po pn rd st tw od rn x y u sn ao o) sz) := by
  unfold wp_L_begins at hw
  refine va_MetW (cc := cL_begins) (maxL := 5) (ret := (some .int)) (hh := [(0, 10, 13, 21)]) (by decide) rfl ?_
  intro p e s m args below meth c s₁ B hml hv
  obtain ⟨hav, hsz, hP, hK, hD0, hxe⟩ := hv
  have hx := B.exec
  have hb := B.bytes
  have hr := B.returns
  have hts := atoms_spec (ws := wsL_begins) B.pre
  have hT := vx_table (x := yL_begins) B (hts (.codeWith yL_begins cL_begins 5 (some .int) [(0, 10, 13, 21)]) List.mem_cons_self)
  have hown : s.vm.findClass RL = some m.cls := findClass_of_methodNamed B.named
  have hlocks := B.notSynchronized
  have C : CallFix p m c cL_begins 5 s args wsL_begins RL := ⟨hx, hb, hml, hown, hts⟩
  obtain ⟨ls, hE, hl⟩ := mx_entry (m := m) [.ref (ad 0), .int v1, .int v2, .ref ao] (n := 5) (Nat.le_of_ble_eq_true rfl)
  have hl : lv_has ls 5 [(0, .ref (ad 0)), (1, .int v1), (2, .int v2), (3, .ref ao)] := hl
  rw [show entryFrame m args 5 = F0 m 0 ls [] by rw [hav]; exact hE]
  subst hsz
  have hD := hD0.self (sz := s.heap.size)
  generalize hAe : va_A (wLx ad cI cJ cZ sl ho nu fa ou sp fn co fo ro po pn rd st tw od rn x y u sn ao o) s.heap.size = A at hD hxe ⊢
  have hA : ∀ q : Nat, s.heap.size ≤ q → A q := fun q h => by rw [← hAe]; exact Or.inr h
  have hS : va_S A s.heap s.heap [] := va_S.rf
  obtain ⟨Q, hQ⟩ : ∃ Q, MQ below (va_Qi (fun (r : Int32) (uu : (Nat → Int64)) => post r uu) (fun (uu : (Nat → Int64)) (t : State) => va_P (dC, dI) vwCl (wLx ad cI cJ cZ sl ho nu fa ou sp fn co fo ro po pn rd st tw od rn x y u sn ao uu) t.heap ∧ va_D A (wLx ad cI cJ cZ sl ho nu fa ou sp fn co fo ro po pn rd st tw od rn x y u sn ao uu)) A) args s 1 6 A = Q := ⟨_, rfl⟩
  rw [hQ]
  obtain ⟨H, hH⟩ : ∃ H, s.heap = H := ⟨_, rfl⟩
  have hS : va_S A s.heap H [] := by rw [← hH]; exact hS
  rw [hH] at hP
  show W p l e rm_L_begins s m args below meth c s.heap [] 0 0 Q (F0 m 0 ls [])
  suffices hg : W p l e rm_L_begins s m args below meth c H [] 0 0 Q (F0 m 0 ls []) by rw [hH]; exact hg
  clear hH
  generalize hlo : ([] : List Loc) = locs at hS ⊢
  refine lv_aload_n hx hb dL_begins_0 rfl (lv_at hl 3 rfl) ?_
  refine lv_iconst (v := 0) hx hb dL_begins_1 (by decide) ?_
  refine lv_aload_n hx hb dL_begins_2 rfl (lv_at hl 0 rfl) ?_
  refine lv_iload_n hx hb dL_begins_3 rfl (lv_at hl 1 rfl) ?_
  refine lv_iload_n hx hb dL_begins_4 rfl (lv_at hl 2 rfl) ?_
  have hPc := hP.sub (ws' := (wPla ad cI cJ cZ sl ho nu fa ou sp fn co fo ro po pn rd st tw od rn x y u sn)) [0, 1, 2, 3, 4, 5, 6, 7, 8, 9, 10, 11, 12, 13, 14, 15, 16, 17, 18, 19] rfl
  have hDc := hD.sub (ws' := (wPla ad cI cJ cZ sl ho nu fa ou sp fn co fo ro po pn rd st tw od rn x y u sn)) [0, 1, 2, 3, 4, 5, 6, 7, 8, 9, 10, 11, 12, 13, 14, 15, 16, 17, 18, 19] (by decide) rfl
  have hFc := va_free (wc := (wPla ad cI cJ cZ sl ho nu fa ou sp fn co fo ro po pn rd st tw od rn x y u sn)) hD hS hA [0, 1, 2, 3, 4, 5, 6, 7, 8, 9, 10, 11, 12, 13, 14, 15, 16, 17, 18, 19] rfl
  rcases hw with hw | hw
  · refine vx_calli (vx_runV (As := [.int v1, .int v2]) (rest := [.int 0, .ref ao]) C (cx_X3_begins l hst dC dI cI cJ cZ ad _ sl ho nu fa ou sp fn co fo ro po pn rd st tw od rn x y u sn v1 v2 hw) (cwV 2 hts gL_begins_X3_begins rfl rfl rfl (by decide +kernel) ⟨Nat.le_of_ble_eq_true rfl, Nat.le_of_ble_eq_true rfl⟩) ⟨fb_x, va_recv hK hPc (ci := 3) (q0 := 0) rfl rfl, fun U hU hW => ⟨rfl, by rw [hU], by rw [hU]; exact hPc, va_K.moved hW.alike hK, hDc.weaken (fun _ _ _ _ => trivial), hxe.step hS hFc hU hW⟩⟩ rfl rfl hl.1 rfl (lv_room (Nat.le_of_ble_eq_true rfl)) dL_begins_5 ⟨Nat.le_of_ble_eq_true rfl, Nat.le_of_ble_eq_true rfl⟩) hS (fun q _ h => hFc q h) hFc (fun q _ h => hFc q h) (fun E9 ce q9 uu t H1 locs ht hvm hpx hB hz1 hk1 hS hce hcv hcl => ?_) (fun r9 uu t H1 locs ht hvm hpost hB hz1 hk1 hS => hpost.elim)
    obtain ⟨hw, hP1, hD1⟩ := hB
    rw [ht] at hP1
    try dsimp only at hw hP1 hD1
    obtain ⟨hP, hD⟩ := va_join (wr := [(ao, .inl (cJ, 1, .inr (.inl o)))]) (w1 := (wPla ad cI cJ cZ sl ho nu fa ou sp fn co fo ro po pn rd st tw od rn x y u sn)) hP hD [0, 1, 2, 3, 4, 5, 6, 7, 8, 9, 10, 11, 12, 13, 14, 15, 16, 17, 18, 19] [20] rfl rfl (by decide) (by decide) hk1 hFc hP1 hD1
    have hP := hP.sub (ws' := (wLx ad cI cJ cZ sl ho nu fa ou sp fn co fo ro po pn rd st tw od rn x y u sn ao o)) [1, 2, 3, 4, 5, 6, 7, 8, 9, 10, 11, 12, 13, 14, 15, 16, 17, 18, 19, 20, 0] rfl
    have hD := hD.sub (ws' := (wLx ad cI cJ cZ sl ho nu fa ou sp fn co fo ro po pn rd st tw od rn x y u sn ao o)) [1, 2, 3, 4, 5, 6, 7, 8, 9, 10, 11, 12, 13, 14, 15, 16, 17, 18, 19, 20, 0] (by decide) rfl
    obtain ⟨rfl, hw⟩ := hw
    refine vx_catch (E := "java/lang/IndexOutOfBoundsException") (name := "java/lang/IndexOutOfBoundsException") hown [] ⟨0, 10, 13, 21⟩ [] (by rw [hT]; rfl) (fun z hz => absurd hz List.not_mem_nil) (by decide) (by decide) (hts _ f_L_begins_0) (hxe.2.2.2.2.2.1.use rfl) hce hcv hcl ?_
    refine lv_astore (lv' := [(4, .ref q9), (0, .ref (ad 0)), (1, .int v1), (2, .int v2), (3, .ref ao)]) hx hb dL_begins_13 hl (by decide) rfl (fun ls hl => ?_)
    refine lv_iconst (v := 1) hx hb dL_begins_15 (by decide) ?_
    refine W.widen (k := 1) (n := 6) (Nat.le_of_ble_eq_true rfl) (Nat.le_of_ble_eq_true rfl) ?_
    rw [← hQ]
    exact W.iret (v := 1) hx hb hr (fun t ht hW => ⟨⟨_, (o), rfl, hw, by rw [ht]; exact hP, hD⟩, hS.F ht⟩) hS.2.2 dL_begins_16
  · refine vp_callSi (W.runV (As := [.int v1, .int v2]) (rest := [.int 0, .ref ao]) C (c_X3_begins l dC dI cI cJ cZ ad sl ho nu fa ou sp fn co fo ro po pn rd st tw od rn x y u sn v1 v2 hw) (cwV 2 hts gL_begins_X3_begins rfl rfl rfl (by decide +kernel) ⟨Nat.le_of_ble_eq_true rfl, Nat.le_of_ble_eq_true rfl⟩) ⟨fb_ro, va_recv hK hPc (ci := 3) (q0 := 0) rfl rfl, fun U hU hW => ⟨rfl, by rw [hU]; exact hPc, va_K.moved hW.alike hK⟩⟩ rfl rfl hl.1 rfl (lv_room (Nat.le_of_ble_eq_true rfl)) dL_begins_5 ⟨Nat.zero_le _, Nat.zero_le _⟩) (fun r hw => ?_)
    refine lv_i2l hx hb dL_begins_8 rfl ?_
    refine va_last hx hb hK hP hD hS 20 1 rfl rfl (by unfold vp_in; decide) dL_begins_9 (fun H locs hP hD hS => ?_)
    have hP : va_P (dC, dI) vwCl (wLx ad cI cJ cZ sl ho nu fa ou sp fn co fo ro po pn rd st tw od rn x y u sn ao (vp_updL o (0 : Int32).toNatClampNeg r.toInt64)) H := hP
    have hD : va_D A (wLx ad cI cJ cZ sl ho nu fa ou sp fn co fo ro po pn rd st tw od rn x y u sn ao (vp_updL o (0 : Int32).toNatClampNeg r.toInt64)) := hD
    refine lv_goto (tgt := 17) hx hb dL_begins_10 (by decide) ?_
    refine lv_iconst (v := 0) hx hb dL_begins_17 (by decide) ?_
    refine W.widen (k := 1) (n := 6) (Nat.le_of_ble_eq_true rfl) (Nat.le_of_ble_eq_true rfl) ?_
    rw [← hQ]
    exact W.iret (v := 0) hx hb hr (fun t ht hW => ⟨⟨_, ((vp_updL o (0 : Int32).toNatClampNeg r.toInt64)), rfl, hw, by rw [ht]; exact hP, hD⟩, hS.F ht⟩) hS.2.2 dL_begins_18
abbrev rm_L_next : Room := { frames := 8, cells := 1, slots := 6, locals := 163 }
theorem f_L_next_0 : (Cond.classLink RL 21 "java/lang/IndexOutOfBoundsException") ∈ wsL_next := by decide +kernel
set_option maxRecDepth 100000 in
set_option maxHeartbeats 4000000 in
theorem c_L_next (l : Launch) (hst : l.stackTraces = false) (dC : Nat → ClassId) (dI : Nat → Nat → Nat) (cI cJ cZ : ClassId) (ad : Nat → Nat) (sz : Nat) (sl : Int32) (ho : Nat → Int32) (nu : Nat → Int32) (fa : Nat → Int32) (ou : Nat → Int32) (sp : Nat → Int32) (fn : Int32) (co : Nat → Int32) (fo : Nat → Int32) (ro : Nat → Int32) (po : Nat → Int32) (pn : Int32) (rd : Nat → Int32) (st : Nat → Int32) (tw : Nat → Int64) (od : Nat → Int32) (rn : Int32) (x : Nat → Int32) (y : Nat → Int32) (u : Nat → Int32) (sn : Int32) (ao : Nat) (o : Nat → Int64) (v1 : Int32) {post : Int32 → Int32 → (Nat → Int32) → (Nat → Int32) → (Nat → Int32) → (Nat → Int32) → Int32 → (Nat → Int32) → (Nat → Int32) → (Nat → Int32) → (Nat → Int32) → Int32 → (Nat → Int32) → (Nat → Int32) → (Nat → Int64) → (Nat → Int32) → Int32 → (Nat → Int64) → Prop} (hw : wp_L_next sl ho nu fa ou fn co fo ro po pn rd st tw od rn x y u o v1 post) : Met l yL_next wsL_next rm_L_next (va_Pc [.ref (ad 0), .int v1, .ref ao] (fun U => U.heap.size = sz ∧ va_P (dC, dI) vwCl (wLx ad cI cJ cZ sl ho nu fa ou sp fn co fo ro po pn rd st tw od rn x y u sn ao o) U.heap ∧ va_K (dC, dI) vwCl (tyL cI cJ cZ) U ∧ va_D (fun _ => True) (wLx ad cI cJ cZ sl ho nu fa ou sp fn co fo ro po pn rd st tw od rn x y u sn ao o) ∧ xe (va_A (wLx ad cI cJ cZ sl ho nu fa ou sp fn co fo ro po pn rd st tw od rn x y u sn ao o) sz) U U.heap)) (va_Qi (fun (r : Int32) (uu : Int32 × (Nat → Int32) × (Nat → Int32) × (Nat → Int32) × (Nat → Int32) × Int32 × (Nat → Int32) × (Nat → Int32) × (Nat → Int32) × (Nat → Int32) × Int32 × (Nat → Int32) × (Nat → Int32) × (Nat → Int64) × (Nat → Int32) × Int32 × (Nat → Int64)) => post r uu.1 uu.2.1 uu.2.2.1 uu.2.2.2.1 uu.2.2.2.2.1 uu.2.2.2.2.2.1 uu.2.2.2.2.2.2.1 uu.2.2.2.2.2.2.2.1 uu.2.2.2.2.2.2.2.2.1 uu.2.2.2.2.2.2.2.2.2.1 uu.2.2.2.2.2.2.2.2.2.2.1 uu.2.2.2.2.2.2.2.2.2.2.2.1 uu.2.2.2.2.2.2.2.2.2.2.2.2.1 uu.2.2.2.2.2.2.2.2.2.2.2.2.2.1 uu.2.2.2.2.2.2.2.2.2.2.2.2.2.2.1 uu.2.2.2.2.2.2.2.2.2.2.2.2.2.2.2.1 uu.2.2.2.2.2.2.2.2.2.2.2.2.2.2.2.2) (fun (uu : Int32 × (Nat → Int32) × (Nat → Int32) × (Nat → Int32) × (Nat → Int32) × Int32 × (Nat → Int32) × (Nat → Int32) × (Nat → Int32) × (Nat → Int32) × Int32 × (Nat → Int32) × (Nat → Int32) × (Nat → Int64) × (Nat → Int32) × Int32 × (Nat → Int64)) (t : State) => va_P (dC, dI) vwCl (wLx ad cI cJ cZ uu.1 uu.2.1 uu.2.2.1 uu.2.2.2.1 uu.2.2.2.2.1 sp uu.2.2.2.2.2.1 uu.2.2.2.2.2.2.1 uu.2.2.2.2.2.2.2.1 uu.2.2.2.2.2.2.2.2.1 uu.2.2.2.2.2.2.2.2.2.1 uu.2.2.2.2.2.2.2.2.2.2.1 uu.2.2.2.2.2.2.2.2.2.2.2.1 uu.2.2.2.2.2.2.2.2.2.2.2.2.1 uu.2.2.2.2.2.2.2.2.2.2.2.2.2.1 uu.2.2.2.2.2.2.2.2.2.2.2.2.2.2.1 uu.2.2.2.2.2.2.2.2.2.2.2.2.2.2.2.1 x y u sn ao uu.2.2.2.2.2.2.2.2.2.2.2.2.2.2.2.2) t.heap ∧ va_D (va_A (wLx ad cI cJ cZ sl ho nu fa ou sp fn co fo ro po pn rd st tw od rn x y u sn ao o) sz) (wLx ad cI cJ cZ uu.1 uu.2.1 uu.2.2.1 uu.2.2.2.1 uu.2.2.2.2.1 sp uu.2.2.2.2.2.1 uu.2.2.2.2.2.2.1 uu.2.2.2.2.2.2.2.1 uu.2.2.2.2.2.2.2.2.1 uu.2.2.2.2.2.2.2.2.2.1 uu.2.2.2.2.2.2.2.2.2.2.1 uu.2.2.2.2.2.2.2.2.2.2.2.1 uu.2.2.2.2.2.2.2.2.2.2.2.2.1 uu.2.2.2.2.2.2.2.2.2.2.2.2.2.1 uu.2.2.2.2.2.2.2.2.2.2.2.2.2.2.1 uu.2.2.2.2.2.2.2.2.2.2.2.2.2.2.2.1 x y u sn ao uu.2.2.2.2.2.2.2.2.2.2.2.2.2.2.2.2)) (va_A (wLx ad cI cJ cZ sl ho nu fa ou sp fn co fo ro po pn rd st tw od rn x y u sn ao o) sz)) 1 6 (va_A (wLx ad cI cJ cZ sl ho nu fa ou sp fn co fo ro po pn rd st tw od rn x y u sn ao o) sz) := by
  unfold wp_L_next at hw
  refine va_MetW (cc := cL_next) (maxL := 4) (ret := (some .int)) (hh := [(0, 9, 12, 21)]) (by decide) rfl ?_
  intro p e s m args below meth c s₁ B hml hv
  obtain ⟨hav, hsz, hP, hK, hD0, hxe⟩ := hv
  have hx := B.exec
  have hb := B.bytes
  have hr := B.returns
  have hts := atoms_spec (ws := wsL_next) B.pre
  have hT := vx_table (x := yL_next) B (hts (.codeWith yL_next cL_next 4 (some .int) [(0, 9, 12, 21)]) List.mem_cons_self)
  have hown : s.vm.findClass RL = some m.cls := findClass_of_methodNamed B.named
  have hlocks := B.notSynchronized
  have C : CallFix p m c cL_next 4 s args wsL_next RL := ⟨hx, hb, hml, hown, hts⟩
  obtain ⟨ls, hE, hl⟩ := mx_entry (m := m) [.ref (ad 0), .int v1, .ref ao] (n := 4) (Nat.le_of_ble_eq_true rfl)
  have hl : lv_has ls 4 [(0, .ref (ad 0)), (1, .int v1), (2, .ref ao)] := hl
  rw [show entryFrame m args 4 = F0 m 0 ls [] by rw [hav]; exact hE]
  subst hsz
  have hD := hD0.self (sz := s.heap.size)
  generalize hAe : va_A (wLx ad cI cJ cZ sl ho nu fa ou sp fn co fo ro po pn rd st tw od rn x y u sn ao o) s.heap.size = A at hD hxe ⊢
  have hA : ∀ q : Nat, s.heap.size ≤ q → A q := fun q h => by rw [← hAe]; exact Or.inr h
  have hS : va_S A s.heap s.heap [] := va_S.rf
  obtain ⟨Q, hQ⟩ : ∃ Q, MQ below (va_Qi (fun (r : Int32) (uu : Int32 × (Nat → Int32) × (Nat → Int32) × (Nat → Int32) × (Nat → Int32) × Int32 × (Nat → Int32) × (Nat → Int32) × (Nat → Int32) × (Nat → Int32) × Int32 × (Nat → Int32) × (Nat → Int32) × (Nat → Int64) × (Nat → Int32) × Int32 × (Nat → Int64)) => post r uu.1 uu.2.1 uu.2.2.1 uu.2.2.2.1 uu.2.2.2.2.1 uu.2.2.2.2.2.1 uu.2.2.2.2.2.2.1 uu.2.2.2.2.2.2.2.1 uu.2.2.2.2.2.2.2.2.1 uu.2.2.2.2.2.2.2.2.2.1 uu.2.2.2.2.2.2.2.2.2.2.1 uu.2.2.2.2.2.2.2.2.2.2.2.1 uu.2.2.2.2.2.2.2.2.2.2.2.2.1 uu.2.2.2.2.2.2.2.2.2.2.2.2.2.1 uu.2.2.2.2.2.2.2.2.2.2.2.2.2.2.1 uu.2.2.2.2.2.2.2.2.2.2.2.2.2.2.2.1 uu.2.2.2.2.2.2.2.2.2.2.2.2.2.2.2.2) (fun (uu : Int32 × (Nat → Int32) × (Nat → Int32) × (Nat → Int32) × (Nat → Int32) × Int32 × (Nat → Int32) × (Nat → Int32) × (Nat → Int32) × (Nat → Int32) × Int32 × (Nat → Int32) × (Nat → Int32) × (Nat → Int64) × (Nat → Int32) × Int32 × (Nat → Int64)) (t : State) => va_P (dC, dI) vwCl (wLx ad cI cJ cZ uu.1 uu.2.1 uu.2.2.1 uu.2.2.2.1 uu.2.2.2.2.1 sp uu.2.2.2.2.2.1 uu.2.2.2.2.2.2.1 uu.2.2.2.2.2.2.2.1 uu.2.2.2.2.2.2.2.2.1 uu.2.2.2.2.2.2.2.2.2.1 uu.2.2.2.2.2.2.2.2.2.2.1 uu.2.2.2.2.2.2.2.2.2.2.2.1 uu.2.2.2.2.2.2.2.2.2.2.2.2.1 uu.2.2.2.2.2.2.2.2.2.2.2.2.2.1 uu.2.2.2.2.2.2.2.2.2.2.2.2.2.2.1 uu.2.2.2.2.2.2.2.2.2.2.2.2.2.2.2.1 x y u sn ao uu.2.2.2.2.2.2.2.2.2.2.2.2.2.2.2.2) t.heap ∧ va_D A (wLx ad cI cJ cZ uu.1 uu.2.1 uu.2.2.1 uu.2.2.2.1 uu.2.2.2.2.1 sp uu.2.2.2.2.2.1 uu.2.2.2.2.2.2.1 uu.2.2.2.2.2.2.2.1 uu.2.2.2.2.2.2.2.2.1 uu.2.2.2.2.2.2.2.2.2.1 uu.2.2.2.2.2.2.2.2.2.2.1 uu.2.2.2.2.2.2.2.2.2.2.2.1 uu.2.2.2.2.2.2.2.2.2.2.2.2.1 uu.2.2.2.2.2.2.2.2.2.2.2.2.2.1 uu.2.2.2.2.2.2.2.2.2.2.2.2.2.2.1 uu.2.2.2.2.2.2.2.2.2.2.2.2.2.2.2.1 x y u sn ao uu.2.2.2.2.2.2.2.2.2.2.2.2.2.2.2.2)) A) args s 1 6 A = Q := ⟨_, rfl⟩
  rw [hQ]
  obtain ⟨H, hH⟩ : ∃ H, s.heap = H := ⟨_, rfl⟩
  have hS : va_S A s.heap H [] := by rw [← hH]; exact hS
  rw [hH] at hP
  show W p l e rm_L_next s m args below meth c s.heap [] 0 0 Q (F0 m 0 ls [])
  suffices hg : W p l e rm_L_next s m args below meth c H [] 0 0 Q (F0 m 0 ls []) by rw [hH]; exact hg
  clear hH
  generalize hlo : ([] : List Loc) = locs at hS ⊢
  refine lv_aload_n hx hb dL_next_0 rfl (lv_at hl 2 rfl) ?_
  refine lv_iconst (v := 0) hx hb dL_next_1 (by decide) ?_
  refine lv_aload_n hx hb dL_next_2 rfl (lv_at hl 0 rfl) ?_
  refine lv_iload_n hx hb dL_next_3 rfl (lv_at hl 1 rfl) ?_
  have hPc := hP.sub (ws' := (wPla ad cI cJ cZ sl ho nu fa ou sp fn co fo ro po pn rd st tw od rn x y u sn)) [0, 1, 2, 3, 4, 5, 6, 7, 8, 9, 10, 11, 12, 13, 14, 15, 16, 17, 18, 19] rfl
  have hDc := hD.sub (ws' := (wPla ad cI cJ cZ sl ho nu fa ou sp fn co fo ro po pn rd st tw od rn x y u sn)) [0, 1, 2, 3, 4, 5, 6, 7, 8, 9, 10, 11, 12, 13, 14, 15, 16, 17, 18, 19] (by decide) rfl
  have hFc := va_free (wc := (wPla ad cI cJ cZ sl ho nu fa ou sp fn co fo ro po pn rd st tw od rn x y u sn)) hD hS hA [0, 1, 2, 3, 4, 5, 6, 7, 8, 9, 10, 11, 12, 13, 14, 15, 16, 17, 18, 19] rfl
  rcases hw with hw | hw
  · refine vx_calli (vx_runV (As := [.int v1]) (rest := [.int 0, .ref ao]) C (cx_X3_next l hst dC dI cI cJ cZ ad _ sl ho nu fa ou sp fn co fo ro po pn rd st tw od rn x y u sn v1 hw) (cwV 1 hts gL_next_X3_next rfl rfl rfl (by decide +kernel) ⟨Nat.le_of_ble_eq_true rfl, Nat.le_of_ble_eq_true rfl⟩) ⟨fb_x, va_recv hK hPc (ci := 3) (q0 := 0) rfl rfl, fun U hU hW => ⟨rfl, by rw [hU], by rw [hU]; exact hPc, va_K.moved hW.alike hK, hDc.weaken (fun _ _ _ _ => trivial), hxe.step hS hFc hU hW⟩⟩ rfl rfl hl.1 rfl (lv_room (Nat.le_of_ble_eq_true rfl)) dL_next_4 ⟨Nat.le_of_ble_eq_true rfl, Nat.le_of_ble_eq_true rfl⟩) hS (fun q _ h => hFc q h) hFc (fun q _ h => hFc q h) (fun E9 ce q9 uu t H1 locs ht hvm hpx hB hz1 hk1 hS hce hcv hcl => ?_) (fun r9 uu t H1 locs ht hvm hpost hB hz1 hk1 hS => hpost.elim)
    obtain ⟨sl_x, ho_x, nu_x, fa_x, ou_x, fn_x, co_x, fo_x, ro_x, po_x, pn_x, rd_x, st_x, tw_x, od_x, rn_x⟩ := uu
    obtain ⟨hw, hP1, hD1⟩ := hB
    rw [ht] at hP1
    try dsimp only at hw hP1 hD1
    obtain ⟨hP, hD⟩ := va_join (wr := [(ao, .inl (cJ, 1, .inr (.inl o)))]) (w1 := (wPla ad cI cJ cZ sl_x ho_x nu_x fa_x ou_x sp fn_x co_x fo_x ro_x po_x pn_x rd_x st_x tw_x od_x rn_x x y u sn)) hP hD [0, 1, 2, 3, 4, 5, 6, 7, 8, 9, 10, 11, 12, 13, 14, 15, 16, 17, 18, 19] [20] rfl rfl (by decide) (by decide) hk1 hFc hP1 hD1
    have hP := hP.sub (ws' := (wLx ad cI cJ cZ sl_x ho_x nu_x fa_x ou_x sp fn_x co_x fo_x ro_x po_x pn_x rd_x st_x tw_x od_x rn_x x y u sn ao o)) [1, 2, 3, 4, 5, 6, 7, 8, 9, 10, 11, 12, 13, 14, 15, 16, 17, 18, 19, 20, 0] rfl
    have hD := hD.sub (ws' := (wLx ad cI cJ cZ sl_x ho_x nu_x fa_x ou_x sp fn_x co_x fo_x ro_x po_x pn_x rd_x st_x tw_x od_x rn_x x y u sn ao o)) [1, 2, 3, 4, 5, 6, 7, 8, 9, 10, 11, 12, 13, 14, 15, 16, 17, 18, 19, 20, 0] (by decide) rfl
    obtain ⟨rfl, hw⟩ := hw
    refine vx_catch (E := "java/lang/IndexOutOfBoundsException") (name := "java/lang/IndexOutOfBoundsException") hown [] ⟨0, 9, 12, 21⟩ [] (by rw [hT]; rfl) (fun z hz => absurd hz List.not_mem_nil) (by decide) (by decide) (hts _ f_L_next_0) (hxe.2.2.2.2.2.1.use rfl) hce hcv hcl ?_
    refine lv_astore_n (lv' := [(3, .ref q9), (0, .ref (ad 0)), (1, .int v1), (2, .ref ao)]) hx hb dL_next_12 rfl hl (by decide) rfl (fun ls hl => ?_)
    refine lv_iconst (v := 1) hx hb dL_next_13 (by decide) ?_
    refine W.widen (k := 1) (n := 6) (Nat.le_of_ble_eq_true rfl) (Nat.le_of_ble_eq_true rfl) ?_
    rw [← hQ]
    exact W.iret (v := 1) hx hb hr (fun t ht hW => ⟨⟨_, (sl_x, ho_x, nu_x, fa_x, ou_x, fn_x, co_x, fo_x, ro_x, po_x, pn_x, rd_x, st_x, tw_x, od_x, rn_x, o), rfl, hw, by rw [ht]; exact hP, hD⟩, hS.F ht⟩) hS.2.2 dL_next_14
  · refine va_calli (va_runV (As := [.int v1]) (rest := [.int 0, .ref ao]) C (c_X3_next l dC dI cI cJ cZ ad _ sl ho nu fa ou sp fn co fo ro po pn rd st tw od rn x y u sn v1 hw) (cwV 1 hts gL_next_X3_next rfl rfl rfl (by decide +kernel) ⟨Nat.le_of_ble_eq_true rfl, Nat.le_of_ble_eq_true rfl⟩) ⟨fb_rw, va_recv hK hPc (ci := 3) (q0 := 0) rfl rfl, fun U hU hW => ⟨rfl, by rw [hU], by rw [hU]; exact hPc, va_K.moved hW.alike hK, hDc.weaken (fun _ _ _ _ => trivial)⟩⟩ rfl rfl hl.1 rfl (lv_room (Nat.le_of_ble_eq_true rfl)) dL_next_4 ⟨Nat.zero_le _, Nat.zero_le _⟩) hS (fun q _ h => hFc q h) hFc (fun r uu t H1 locs ht hvm hw hB hz1 hk1 hS => ?_)
    obtain ⟨sl_r, ho_r, nu_r, fa_r, ou_r, fn_r, co_r, fo_r, ro_r, po_r, pn_r, rd_r, st_r, tw_r, od_r, rn_r⟩ := uu
    obtain ⟨hP1, hD1⟩ := hB
    rw [ht] at hP1
    try dsimp only at hw hP1 hD1
    obtain ⟨hP, hD⟩ := va_join (wr := [(ao, .inl (cJ, 1, .inr (.inl o)))]) (w1 := (wPla ad cI cJ cZ sl_r ho_r nu_r fa_r ou_r sp fn_r co_r fo_r ro_r po_r pn_r rd_r st_r tw_r od_r rn_r x y u sn)) hP hD [0, 1, 2, 3, 4, 5, 6, 7, 8, 9, 10, 11, 12, 13, 14, 15, 16, 17, 18, 19] [20] rfl rfl (by decide) (by decide) hk1 hFc hP1 hD1
    have hP := hP.sub (ws' := (wLx ad cI cJ cZ sl_r ho_r nu_r fa_r ou_r sp fn_r co_r fo_r ro_r po_r pn_r rd_r st_r tw_r od_r rn_r x y u sn ao o)) [1, 2, 3, 4, 5, 6, 7, 8, 9, 10, 11, 12, 13, 14, 15, 16, 17, 18, 19, 20, 0] rfl
    have hD := hD.sub (ws' := (wLx ad cI cJ cZ sl_r ho_r nu_r fa_r ou_r sp fn_r co_r fo_r ro_r po_r pn_r rd_r st_r tw_r od_r rn_r x y u sn ao o)) [1, 2, 3, 4, 5, 6, 7, 8, 9, 10, 11, 12, 13, 14, 15, 16, 17, 18, 19, 20, 0] (by decide) rfl
    refine lv_i2l hx hb dL_next_7 rfl ?_
    refine va_last hx hb hK hP hD hS 20 1 rfl rfl (by unfold vp_in; decide) dL_next_8 (fun H locs hP hD hS => ?_)
    have hP : va_P (dC, dI) vwCl (wLx ad cI cJ cZ sl_r ho_r nu_r fa_r ou_r sp fn_r co_r fo_r ro_r po_r pn_r rd_r st_r tw_r od_r rn_r x y u sn ao (vp_updL o (0 : Int32).toNatClampNeg r.toInt64)) H := hP
    have hD : va_D A (wLx ad cI cJ cZ sl_r ho_r nu_r fa_r ou_r sp fn_r co_r fo_r ro_r po_r pn_r rd_r st_r tw_r od_r rn_r x y u sn ao (vp_updL o (0 : Int32).toNatClampNeg r.toInt64)) := hD
    refine lv_goto (tgt := 15) hx hb dL_next_9 (by decide) ?_
    refine lv_iconst (v := 0) hx hb dL_next_15 (by decide) ?_
    refine W.widen (k := 1) (n := 6) (Nat.le_of_ble_eq_true rfl) (Nat.le_of_ble_eq_true rfl) ?_
    rw [← hQ]
    exact W.iret (v := 0) hx hb hr (fun t ht hW => ⟨⟨_, (sl_r, ho_r, nu_r, fa_r, ou_r, fn_r, co_r, fo_r, ro_r, po_r, pn_r, rd_r, st_r, tw_r, od_r, rn_r, (vp_updL o (0 : Int32).toNatClampNeg r.toInt64)), rfl, hw, by rw [ht]; exact hP, hD⟩, hS.F ht⟩) hS.2.2 dL_next_16
abbrev rm_L_face : Room := { frames := 8, cells := 1, slots := 6, locals := 163 }
theorem f_L_face_0 : (Cond.classLink RL 21 "java/lang/IndexOutOfBoundsException") ∈ wsL_face := by decide +kernel
set_option maxRecDepth 100000 in
set_option maxHeartbeats 4000000 in
theorem c_L_face (l : Launch) (hst : l.stackTraces = false) (dC : Nat → ClassId) (dI : Nat → Nat → Nat) (cI cJ cZ : ClassId) (ad : Nat → Nat) (sz : Nat) (sl : Int32) (ho : Nat → Int32) (nu : Nat → Int32) (fa : Nat → Int32) (ou : Nat → Int32) (sp : Nat → Int32) (fn : Int32) (co : Nat → Int32) (fo : Nat → Int32) (ro : Nat → Int32) (po : Nat → Int32) (pn : Int32) (rd : Nat → Int32) (st : Nat → Int32) (tw : Nat → Int64) (od : Nat → Int32) (rn : Int32) (x : Nat → Int32) (y : Nat → Int32) (u : Nat → Int32) (sn : Int32) (ao : Nat) (o : Nat → Int64) (v1 : Int32) {post : Int32 → Int32 → (Nat → Int32) → (Nat → Int32) → (Nat → Int32) → (Nat → Int32) → Int32 → (Nat → Int32) → (Nat → Int32) → (Nat → Int32) → (Nat → Int32) → Int32 → (Nat → Int32) → (Nat → Int32) → (Nat → Int64) → (Nat → Int32) → Int32 → (Nat → Int64) → Prop} (hw : wp_L_face sl ho nu fa ou fn co fo ro po pn rd st tw od rn x y u o v1 post) : Met l yL_face wsL_face rm_L_face (va_Pc [.ref (ad 0), .int v1, .ref ao] (fun U => U.heap.size = sz ∧ va_P (dC, dI) vwCl (wLx ad cI cJ cZ sl ho nu fa ou sp fn co fo ro po pn rd st tw od rn x y u sn ao o) U.heap ∧ va_K (dC, dI) vwCl (tyL cI cJ cZ) U ∧ va_D (fun _ => True) (wLx ad cI cJ cZ sl ho nu fa ou sp fn co fo ro po pn rd st tw od rn x y u sn ao o) ∧ xe (va_A (wLx ad cI cJ cZ sl ho nu fa ou sp fn co fo ro po pn rd st tw od rn x y u sn ao o) sz) U U.heap)) (va_Qi (fun (r : Int32) (uu : Int32 × (Nat → Int32) × (Nat → Int32) × (Nat → Int32) × (Nat → Int32) × Int32 × (Nat → Int32) × (Nat → Int32) × (Nat → Int32) × (Nat → Int32) × Int32 × (Nat → Int32) × (Nat → Int32) × (Nat → Int64) × (Nat → Int32) × Int32 × (Nat → Int64)) => post r uu.1 uu.2.1 uu.2.2.1 uu.2.2.2.1 uu.2.2.2.2.1 uu.2.2.2.2.2.1 uu.2.2.2.2.2.2.1 uu.2.2.2.2.2.2.2.1 uu.2.2.2.2.2.2.2.2.1 uu.2.2.2.2.2.2.2.2.2.1 uu.2.2.2.2.2.2.2.2.2.2.1 uu.2.2.2.2.2.2.2.2.2.2.2.1 uu.2.2.2.2.2.2.2.2.2.2.2.2.1 uu.2.2.2.2.2.2.2.2.2.2.2.2.2.1 uu.2.2.2.2.2.2.2.2.2.2.2.2.2.2.1 uu.2.2.2.2.2.2.2.2.2.2.2.2.2.2.2.1 uu.2.2.2.2.2.2.2.2.2.2.2.2.2.2.2.2) (fun (uu : Int32 × (Nat → Int32) × (Nat → Int32) × (Nat → Int32) × (Nat → Int32) × Int32 × (Nat → Int32) × (Nat → Int32) × (Nat → Int32) × (Nat → Int32) × Int32 × (Nat → Int32) × (Nat → Int32) × (Nat → Int64) × (Nat → Int32) × Int32 × (Nat → Int64)) (t : State) => va_P (dC, dI) vwCl (wLx ad cI cJ cZ uu.1 uu.2.1 uu.2.2.1 uu.2.2.2.1 uu.2.2.2.2.1 sp uu.2.2.2.2.2.1 uu.2.2.2.2.2.2.1 uu.2.2.2.2.2.2.2.1 uu.2.2.2.2.2.2.2.2.1 uu.2.2.2.2.2.2.2.2.2.1 uu.2.2.2.2.2.2.2.2.2.2.1 uu.2.2.2.2.2.2.2.2.2.2.2.1 uu.2.2.2.2.2.2.2.2.2.2.2.2.1 uu.2.2.2.2.2.2.2.2.2.2.2.2.2.1 uu.2.2.2.2.2.2.2.2.2.2.2.2.2.2.1 uu.2.2.2.2.2.2.2.2.2.2.2.2.2.2.2.1 x y u sn ao uu.2.2.2.2.2.2.2.2.2.2.2.2.2.2.2.2) t.heap ∧ va_D (va_A (wLx ad cI cJ cZ sl ho nu fa ou sp fn co fo ro po pn rd st tw od rn x y u sn ao o) sz) (wLx ad cI cJ cZ uu.1 uu.2.1 uu.2.2.1 uu.2.2.2.1 uu.2.2.2.2.1 sp uu.2.2.2.2.2.1 uu.2.2.2.2.2.2.1 uu.2.2.2.2.2.2.2.1 uu.2.2.2.2.2.2.2.2.1 uu.2.2.2.2.2.2.2.2.2.1 uu.2.2.2.2.2.2.2.2.2.2.1 uu.2.2.2.2.2.2.2.2.2.2.2.1 uu.2.2.2.2.2.2.2.2.2.2.2.2.1 uu.2.2.2.2.2.2.2.2.2.2.2.2.2.1 uu.2.2.2.2.2.2.2.2.2.2.2.2.2.2.1 uu.2.2.2.2.2.2.2.2.2.2.2.2.2.2.2.1 x y u sn ao uu.2.2.2.2.2.2.2.2.2.2.2.2.2.2.2.2)) (va_A (wLx ad cI cJ cZ sl ho nu fa ou sp fn co fo ro po pn rd st tw od rn x y u sn ao o) sz)) 1 6 (va_A (wLx ad cI cJ cZ sl ho nu fa ou sp fn co fo ro po pn rd st tw od rn x y u sn ao o) sz) := by
  unfold wp_L_face at hw
  refine va_MetW (cc := cL_face) (maxL := 4) (ret := (some .int)) (hh := [(0, 9, 12, 21)]) (by decide) rfl ?_
  intro p e s m args below meth c s₁ B hml hv
  obtain ⟨hav, hsz, hP, hK, hD0, hxe⟩ := hv
  have hx := B.exec
  have hb := B.bytes
  have hr := B.returns
  have hts := atoms_spec (ws := wsL_face) B.pre
  have hT := vx_table (x := yL_face) B (hts (.codeWith yL_face cL_face 4 (some .int) [(0, 9, 12, 21)]) List.mem_cons_self)
  have hown : s.vm.findClass RL = some m.cls := findClass_of_methodNamed B.named
  have hlocks := B.notSynchronized
  have C : CallFix p m c cL_face 4 s args wsL_face RL := ⟨hx, hb, hml, hown, hts⟩
  obtain ⟨ls, hE, hl⟩ := mx_entry (m := m) [.ref (ad 0), .int v1, .ref ao] (n := 4) (Nat.le_of_ble_eq_true rfl)
  have hl : lv_has ls 4 [(0, .ref (ad 0)), (1, .int v1), (2, .ref ao)] := hl
  rw [show entryFrame m args 4 = F0 m 0 ls [] by rw [hav]; exact hE]
  subst hsz
  have hD := hD0.self (sz := s.heap.size)
  generalize hAe : va_A (wLx ad cI cJ cZ sl ho nu fa ou sp fn co fo ro po pn rd st tw od rn x y u sn ao o) s.heap.size = A at hD hxe ⊢
  have hA : ∀ q : Nat, s.heap.size ≤ q → A q := fun q h => by rw [← hAe]; exact Or.inr h
  have hS : va_S A s.heap s.heap [] := va_S.rf
  obtain ⟨Q, hQ⟩ : ∃ Q, MQ below (va_Qi (fun (r : Int32) (uu : Int32 × (Nat → Int32) × (Nat → Int32) × (Nat → Int32) × (Nat → Int32) × Int32 × (Nat → Int32) × (Nat → Int32) × (Nat → Int32) × (Nat → Int32) × Int32 × (Nat → Int32) × (Nat → Int32) × (Nat → Int64) × (Nat → Int32) × Int32 × (Nat → Int64)) => post r uu.1 uu.2.1 uu.2.2.1 uu.2.2.2.1 uu.2.2.2.2.1 uu.2.2.2.2.2.1 uu.2.2.2.2.2.2.1 uu.2.2.2.2.2.2.2.1 uu.2.2.2.2.2.2.2.2.1 uu.2.2.2.2.2.2.2.2.2.1 uu.2.2.2.2.2.2.2.2.2.2.1 uu.2.2.2.2.2.2.2.2.2.2.2.1 uu.2.2.2.2.2.2.2.2.2.2.2.2.1 uu.2.2.2.2.2.2.2.2.2.2.2.2.2.1 uu.2.2.2.2.2.2.2.2.2.2.2.2.2.2.1 uu.2.2.2.2.2.2.2.2.2.2.2.2.2.2.2.1 uu.2.2.2.2.2.2.2.2.2.2.2.2.2.2.2.2) (fun (uu : Int32 × (Nat → Int32) × (Nat → Int32) × (Nat → Int32) × (Nat → Int32) × Int32 × (Nat → Int32) × (Nat → Int32) × (Nat → Int32) × (Nat → Int32) × Int32 × (Nat → Int32) × (Nat → Int32) × (Nat → Int64) × (Nat → Int32) × Int32 × (Nat → Int64)) (t : State) => va_P (dC, dI) vwCl (wLx ad cI cJ cZ uu.1 uu.2.1 uu.2.2.1 uu.2.2.2.1 uu.2.2.2.2.1 sp uu.2.2.2.2.2.1 uu.2.2.2.2.2.2.1 uu.2.2.2.2.2.2.2.1 uu.2.2.2.2.2.2.2.2.1 uu.2.2.2.2.2.2.2.2.2.1 uu.2.2.2.2.2.2.2.2.2.2.1 uu.2.2.2.2.2.2.2.2.2.2.2.1 uu.2.2.2.2.2.2.2.2.2.2.2.2.1 uu.2.2.2.2.2.2.2.2.2.2.2.2.2.1 uu.2.2.2.2.2.2.2.2.2.2.2.2.2.2.1 uu.2.2.2.2.2.2.2.2.2.2.2.2.2.2.2.1 x y u sn ao uu.2.2.2.2.2.2.2.2.2.2.2.2.2.2.2.2) t.heap ∧ va_D A (wLx ad cI cJ cZ uu.1 uu.2.1 uu.2.2.1 uu.2.2.2.1 uu.2.2.2.2.1 sp uu.2.2.2.2.2.1 uu.2.2.2.2.2.2.1 uu.2.2.2.2.2.2.2.1 uu.2.2.2.2.2.2.2.2.1 uu.2.2.2.2.2.2.2.2.2.1 uu.2.2.2.2.2.2.2.2.2.2.1 uu.2.2.2.2.2.2.2.2.2.2.2.1 uu.2.2.2.2.2.2.2.2.2.2.2.2.1 uu.2.2.2.2.2.2.2.2.2.2.2.2.2.1 uu.2.2.2.2.2.2.2.2.2.2.2.2.2.2.1 uu.2.2.2.2.2.2.2.2.2.2.2.2.2.2.2.1 x y u sn ao uu.2.2.2.2.2.2.2.2.2.2.2.2.2.2.2.2)) A) args s 1 6 A = Q := ⟨_, rfl⟩
  rw [hQ]
  obtain ⟨H, hH⟩ : ∃ H, s.heap = H := ⟨_, rfl⟩
  have hS : va_S A s.heap H [] := by rw [← hH]; exact hS
  rw [hH] at hP
  show W p l e rm_L_face s m args below meth c s.heap [] 0 0 Q (F0 m 0 ls [])
  suffices hg : W p l e rm_L_face s m args below meth c H [] 0 0 Q (F0 m 0 ls []) by rw [hH]; exact hg
  clear hH
  generalize hlo : ([] : List Loc) = locs at hS ⊢
  refine lv_aload_n hx hb dL_face_0 rfl (lv_at hl 2 rfl) ?_
  refine lv_iconst (v := 0) hx hb dL_face_1 (by decide) ?_
  refine lv_aload_n hx hb dL_face_2 rfl (lv_at hl 0 rfl) ?_
  refine lv_iload_n hx hb dL_face_3 rfl (lv_at hl 1 rfl) ?_
  have hPc := hP.sub (ws' := (wPla ad cI cJ cZ sl ho nu fa ou sp fn co fo ro po pn rd st tw od rn x y u sn)) [0, 1, 2, 3, 4, 5, 6, 7, 8, 9, 10, 11, 12, 13, 14, 15, 16, 17, 18, 19] rfl
  have hDc := hD.sub (ws' := (wPla ad cI cJ cZ sl ho nu fa ou sp fn co fo ro po pn rd st tw od rn x y u sn)) [0, 1, 2, 3, 4, 5, 6, 7, 8, 9, 10, 11, 12, 13, 14, 15, 16, 17, 18, 19] (by decide) rfl
  have hFc := va_free (wc := (wPla ad cI cJ cZ sl ho nu fa ou sp fn co fo ro po pn rd st tw od rn x y u sn)) hD hS hA [0, 1, 2, 3, 4, 5, 6, 7, 8, 9, 10, 11, 12, 13, 14, 15, 16, 17, 18, 19] rfl
  rcases hw with hw | hw
  · refine vx_calli (vx_runV (As := [.int v1]) (rest := [.int 0, .ref ao]) C (cx_X3_face l hst dC dI cI cJ cZ ad _ sl ho nu fa ou sp fn co fo ro po pn rd st tw od rn x y u sn v1 hw) (cwV 1 hts gL_face_X3_face rfl rfl rfl (by decide +kernel) ⟨Nat.le_of_ble_eq_true rfl, Nat.le_of_ble_eq_true rfl⟩) ⟨fb_x, va_recv hK hPc (ci := 3) (q0 := 0) rfl rfl, fun U hU hW => ⟨rfl, by rw [hU], by rw [hU]; exact hPc, va_K.moved hW.alike hK, hDc.weaken (fun _ _ _ _ => trivial), hxe.step hS hFc hU hW⟩⟩ rfl rfl hl.1 rfl (lv_room (Nat.le_of_ble_eq_true rfl)) dL_face_4 ⟨Nat.le_of_ble_eq_true rfl, Nat.le_of_ble_eq_true rfl⟩) hS (fun q _ h => hFc q h) hFc (fun q _ h => hFc q h) (fun E9 ce q9 uu t H1 locs ht hvm hpx hB hz1 hk1 hS hce hcv hcl => ?_) (fun r9 uu t H1 locs ht hvm hpost hB hz1 hk1 hS => hpost.elim)
    obtain ⟨sl_x, ho_x, nu_x, fa_x, ou_x, fn_x, co_x, fo_x, ro_x, po_x, pn_x, rd_x, st_x, tw_x, od_x, rn_x⟩ := uu
    obtain ⟨hw, hP1, hD1⟩ := hB
    rw [ht] at hP1
    try dsimp only at hw hP1 hD1
    obtain ⟨hP, hD⟩ := va_join (wr := [(ao, .inl (cJ, 1, .inr (.inl o)))]) (w1 := (wPla ad cI cJ cZ sl_x ho_x nu_x fa_x ou_x sp fn_x co_x fo_x ro_x po_x pn_x rd_x st_x tw_x od_x rn_x x y u sn)) hP hD [0, 1, 2, 3, 4, 5, 6, 7, 8, 9, 10, 11, 12, 13, 14, 15, 16, 17, 18, 19] [20] rfl rfl (by decide) (by decide) hk1 hFc hP1 hD1
    have hP := hP.sub (ws' := (wLx ad cI cJ cZ sl_x ho_x nu_x fa_x ou_x sp fn_x co_x fo_x ro_x po_x pn_x rd_x st_x tw_x od_x rn_x x y u sn ao o)) [1, 2, 3, 4, 5, 6, 7, 8, 9, 10, 11, 12, 13, 14, 15, 16, 17, 18, 19, 20, 0] rfl
    have hD := hD.sub (ws' := (wLx ad cI cJ cZ sl_x ho_x nu_x fa_x ou_x sp fn_x co_x fo_x ro_x po_x pn_x rd_x st_x tw_x od_x rn_x x y u sn ao o)) [1, 2, 3, 4, 5, 6, 7, 8, 9, 10, 11, 12, 13, 14, 15, 16, 17, 18, 19, 20, 0] (by decide) rfl
    obtain ⟨rfl, hw⟩ := hw
    refine vx_catch (E := "java/lang/IndexOutOfBoundsException") (name := "java/lang/IndexOutOfBoundsException") hown [] ⟨0, 9, 12, 21⟩ [] (by rw [hT]; rfl) (fun z hz => absurd hz List.not_mem_nil) (by decide) (by decide) (hts _ f_L_face_0) (hxe.2.2.2.2.2.1.use rfl) hce hcv hcl ?_
    refine lv_astore_n (lv' := [(3, .ref q9), (0, .ref (ad 0)), (1, .int v1), (2, .ref ao)]) hx hb dL_face_12 rfl hl (by decide) rfl (fun ls hl => ?_)
    refine lv_iconst (v := 1) hx hb dL_face_13 (by decide) ?_
    refine W.widen (k := 1) (n := 6) (Nat.le_of_ble_eq_true rfl) (Nat.le_of_ble_eq_true rfl) ?_
    rw [← hQ]
    exact W.iret (v := 1) hx hb hr (fun t ht hW => ⟨⟨_, (sl_x, ho_x, nu_x, fa_x, ou_x, fn_x, co_x, fo_x, ro_x, po_x, pn_x, rd_x, st_x, tw_x, od_x, rn_x, o), rfl, hw, by rw [ht]; exact hP, hD⟩, hS.F ht⟩) hS.2.2 dL_face_14
  · refine va_calli (va_runV (As := [.int v1]) (rest := [.int 0, .ref ao]) C (c_X3_face l dC dI cI cJ cZ ad _ sl ho nu fa ou sp fn co fo ro po pn rd st tw od rn x y u sn v1 hw) (cwV 1 hts gL_face_X3_face rfl rfl rfl (by decide +kernel) ⟨Nat.le_of_ble_eq_true rfl, Nat.le_of_ble_eq_true rfl⟩) ⟨fb_rw, va_recv hK hPc (ci := 3) (q0 := 0) rfl rfl, fun U hU hW => ⟨rfl, by rw [hU], by rw [hU]; exact hPc, va_K.moved hW.alike hK, hDc.weaken (fun _ _ _ _ => trivial)⟩⟩ rfl rfl hl.1 rfl (lv_room (Nat.le_of_ble_eq_true rfl)) dL_face_4 ⟨Nat.zero_le _, Nat.zero_le _⟩) hS (fun q _ h => hFc q h) hFc (fun r uu t H1 locs ht hvm hw hB hz1 hk1 hS => ?_)
    obtain ⟨sl_r, ho_r, nu_r, fa_r, ou_r, fn_r, co_r, fo_r, ro_r, po_r, pn_r, rd_r, st_r, tw_r, od_r, rn_r⟩ := uu
    obtain ⟨hP1, hD1⟩ := hB
    rw [ht] at hP1
    try dsimp only at hw hP1 hD1
    obtain ⟨hP, hD⟩ := va_join (wr := [(ao, .inl (cJ, 1, .inr (.inl o)))]) (w1 := (wPla ad cI cJ cZ sl_r ho_r nu_r fa_r ou_r sp fn_r co_r fo_r ro_r po_r pn_r rd_r st_r tw_r od_r rn_r x y u sn)) hP hD [0, 1, 2, 3, 4, 5, 6, 7, 8, 9, 10, 11, 12, 13, 14, 15, 16, 17, 18, 19] [20] rfl rfl (by decide) (by decide) hk1 hFc hP1 hD1
    have hP := hP.sub (ws' := (wLx ad cI cJ cZ sl_r ho_r nu_r fa_r ou_r sp fn_r co_r fo_r ro_r po_r pn_r rd_r st_r tw_r od_r rn_r x y u sn ao o)) [1, 2, 3, 4, 5, 6, 7, 8, 9, 10, 11, 12, 13, 14, 15, 16, 17, 18, 19, 20, 0] rfl
    have hD := hD.sub (ws' := (wLx ad cI cJ cZ sl_r ho_r nu_r fa_r ou_r sp fn_r co_r fo_r ro_r po_r pn_r rd_r st_r tw_r od_r rn_r x y u sn ao o)) [1, 2, 3, 4, 5, 6, 7, 8, 9, 10, 11, 12, 13, 14, 15, 16, 17, 18, 19, 20, 0] (by decide) rfl
    refine lv_i2l hx hb dL_face_7 rfl ?_
    refine va_last hx hb hK hP hD hS 20 1 rfl rfl (by unfold vp_in; decide) dL_face_8 (fun H locs hP hD hS => ?_)
    have hP : va_P (dC, dI) vwCl (wLx ad cI cJ cZ sl_r ho_r nu_r fa_r ou_r sp fn_r co_r fo_r ro_r po_r pn_r rd_r st_r tw_r od_r rn_r x y u sn ao (vp_updL o (0 : Int32).toNatClampNeg r.toInt64)) H := hP
    have hD : va_D A (wLx ad cI cJ cZ sl_r ho_r nu_r fa_r ou_r sp fn_r co_r fo_r ro_r po_r pn_r rd_r st_r tw_r od_r rn_r x y u sn ao (vp_updL o (0 : Int32).toNatClampNeg r.toInt64)) := hD
    refine lv_goto (tgt := 15) hx hb dL_face_9 (by decide) ?_
    refine lv_iconst (v := 0) hx hb dL_face_15 (by decide) ?_
    refine W.widen (k := 1) (n := 6) (Nat.le_of_ble_eq_true rfl) (Nat.le_of_ble_eq_true rfl) ?_
    rw [← hQ]
    exact W.iret (v := 0) hx hb hr (fun t ht hW => ⟨⟨_, (sl_r, ho_r, nu_r, fa_r, ou_r, fn_r, co_r, fo_r, ro_r, po_r, pn_r, rd_r, st_r, tw_r, od_r, rn_r, (vp_updL o (0 : Int32).toNatClampNeg r.toInt64)), rfl, hw, by rw [ht]; exact hP, hD⟩, hS.F ht⟩) hS.2.2 dL_face_16
abbrev rm_L_piece : Room := { frames := 8, cells := 1, slots := 6, locals := 163 }
theorem f_L_piece_0 : (Cond.classLink RL 21 "java/lang/IndexOutOfBoundsException") ∈ wsL_piece := by decide +kernel
set_option maxRecDepth 100000 in
set_option maxHeartbeats 4000000 in
theorem c_L_piece (l : Launch) (hst : l.stackTraces = false) (dC : Nat → ClassId) (dI : Nat → Nat → Nat) (cI cJ cZ : ClassId) (ad : Nat → Nat) (sz : Nat) (sl : Int32) (ho : Nat → Int32) (nu : Nat → Int32) (fa : Nat → Int32) (ou : Nat → Int32) (sp : Nat → Int32) (fn : Int32) (co : Nat → Int32) (fo : Nat → Int32) (ro : Nat → Int32) (po : Nat → Int32) (pn : Int32) (rd : Nat → Int32) (st : Nat → Int32) (tw : Nat → Int64) (od : Nat → Int32) (rn : Int32) (x : Nat → Int32) (y : Nat → Int32) (u : Nat → Int32) (sn : Int32) (ao : Nat) (o : Nat → Int64) (v1 : Int32) {post : Int32 → Int32 → (Nat → Int32) → (Nat → Int32) → (Nat → Int32) → (Nat → Int32) → Int32 → (Nat → Int32) → (Nat → Int32) → (Nat → Int32) → (Nat → Int32) → Int32 → (Nat → Int32) → (Nat → Int32) → (Nat → Int64) → (Nat → Int32) → Int32 → (Nat → Int64) → Prop} (hw : wp_L_piece sl ho nu fa ou fn co fo ro po pn rd st tw od rn x y u o v1 post) : Met l yL_piece wsL_piece rm_L_piece (va_Pc [.ref (ad 0), .int v1, .ref ao] (fun U => U.heap.size = sz ∧ va_P (dC, dI) vwCl (wLx ad cI cJ cZ sl ho nu fa ou sp fn co fo ro po pn rd st tw od rn x y u sn ao o) U.heap ∧ va_K (dC, dI) vwCl (tyL cI cJ cZ) U ∧ va_D (fun _ => True) (wLx ad cI cJ cZ sl ho nu fa ou sp fn co fo ro po pn rd st tw od rn x y u sn ao o) ∧ xe (va_A (wLx ad cI cJ cZ sl ho nu fa ou sp fn co fo ro po pn rd st tw od rn x y u sn ao o) sz) U U.heap)) (va_Qi (fun (r : Int32) (uu : Int32 × (Nat → Int32) × (Nat → Int32) × (Nat → Int32) × (Nat → Int32) × Int32 × (Nat → Int32) × (Nat → Int32) × (Nat → Int32) × (Nat → Int32) × Int32 × (Nat → Int32) × (Nat → Int32) × (Nat → Int64) × (Nat → Int32) × Int32 × (Nat → Int64)) => post r uu.1 uu.2.1 uu.2.2.1 uu.2.2.2.1 uu.2.2.2.2.1 uu.2.2.2.2.2.1 uu.2.2.2.2.2.2.1 uu.2.2.2.2.2.2.2.1 uu.2.2.2.2.2.2.2.2.1 uu.2.2.2.2.2.2.2.2.2.1 uu.2.2.2.2.2.2.2.2.2.2.1 uu.2.2.2.2.2.2.2.2.2.2.2.1 uu.2.2.2.2.2.2.2.2.2.2.2.2.1 uu.2.2.2.2.2.2.2.2.2.2.2.2.2.1 uu.2.2.2.2.2.2.2.2.2.2.2.2.2.2.1 uu.2.2.2.2.2.2.2.2.2.2.2.2.2.2.2.1 uu.2.2.2.2.2.2.2.2.2.2.2.2.2.2.2.2) (fun (uu : Int32 × (Nat → Int32) × (Nat → Int32) × (Nat → Int32) × (Nat → Int32) × Int32 × (Nat → Int32) × (Nat → Int32) × (Nat → Int32) × (Nat → Int32) × Int32 × (Nat → Int32) × (Nat → Int32) × (Nat → Int64) × (Nat → Int32) × Int32 × (Nat → Int64)) (t : State) => va_P (dC, dI) vwCl (wLx ad cI cJ cZ uu.1 uu.2.1 uu.2.2.1 uu.2.2.2.1 uu.2.2.2.2.1 sp uu.2.2.2.2.2.1 uu.2.2.2.2.2.2.1 uu.2.2.2.2.2.2.2.1 uu.2.2.2.2.2.2.2.2.1 uu.2.2.2.2.2.2.2.2.2.1 uu.2.2.2.2.2.2.2.2.2.2.1 uu.2.2.2.2.2.2.2.2.2.2.2.1 uu.2.2.2.2.2.2.2.2.2.2.2.2.1 uu.2.2.2.2.2.2.2.2.2.2.2.2.2.1 uu.2.2.2.2.2.2.2.2.2.2.2.2.2.2.1 uu.2.2.2.2.2.2.2.2.2.2.2.2.2.2.2.1 x y u sn ao uu.2.2.2.2.2.2.2.2.2.2.2.2.2.2.2.2) t.heap ∧ va_D (va_A (wLx ad cI cJ cZ sl ho nu fa ou sp fn co fo ro po pn rd st tw od rn x y u sn ao o) sz) (wLx ad cI cJ cZ uu.1 uu.2.1 uu.2.2.1 uu.2.2.2.1 uu.2.2.2.2.1 sp uu.2.2.2.2.2.1 uu.2.2.2.2.2.2.1 uu.2.2.2.2.2.2.2.1 uu.2.2.2.2.2.2.2.2.1 uu.2.2.2.2.2.2.2.2.2.1 uu.2.2.2.2.2.2.2.2.2.2.1 uu.2.2.2.2.2.2.2.2.2.2.2.1 uu.2.2.2.2.2.2.2.2.2.2.2.2.1 uu.2.2.2.2.2.2.2.2.2.2.2.2.2.1 uu.2.2.2.2.2.2.2.2.2.2.2.2.2.2.1 uu.2.2.2.2.2.2.2.2.2.2.2.2.2.2.2.1 x y u sn ao uu.2.2.2.2.2.2.2.2.2.2.2.2.2.2.2.2)) (va_A (wLx ad cI cJ cZ sl ho nu fa ou sp fn co fo ro po pn rd st tw od rn x y u sn ao o) sz)) 1 6 (va_A (wLx ad cI cJ cZ sl ho nu fa ou sp fn co fo ro po pn rd st tw od rn x y u sn ao o) sz) := by
  unfold wp_L_piece at hw
  refine va_MetW (cc := cL_piece) (maxL := 4) (ret := (some .int)) (hh := [(0, 9, 12, 21)]) (by decide) rfl ?_
  intro p e s m args below meth c s₁ B hml hv
  obtain ⟨hav, hsz, hP, hK, hD0, hxe⟩ := hv
  have hx := B.exec
  have hb := B.bytes
  have hr := B.returns
  have hts := atoms_spec (ws := wsL_piece) B.pre
  have hT := vx_table (x := yL_piece) B (hts (.codeWith yL_piece cL_piece 4 (some .int) [(0, 9, 12, 21)]) List.mem_cons_self)
  have hown : s.vm.findClass RL = some m.cls := findClass_of_methodNamed B.named
  have hlocks := B.notSynchronized
  have C : CallFix p m c cL_piece 4 s args wsL_piece RL := ⟨hx, hb, hml, hown, hts⟩
  obtain ⟨ls, hE, hl⟩ := mx_entry (m := m) [.ref (ad 0), .int v1, .ref ao] (n := 4) (Nat.le_of_ble_eq_true rfl)
  have hl : lv_has ls 4 [(0, .ref (ad 0)), (1, .int v1), (2, .ref ao)] := hl
  rw [show entryFrame m args 4 = F0 m 0 ls [] by rw [hav]; exact hE]
  subst hsz
  have hD := hD0.self (sz := s.heap.size)
  generalize hAe : va_A (wLx ad cI cJ cZ sl ho nu fa ou sp fn co fo ro po pn rd st tw od rn x y u sn ao o) s.heap.size = A at hD hxe ⊢
  have hA : ∀ q : Nat, s.heap.size ≤ q → A q := fun q h => by rw [← hAe]; exact Or.inr h
  have hS : va_S A s.heap s.heap [] := va_S.rf
  obtain ⟨Q, hQ⟩ : ∃ Q, MQ below (va_Qi (fun (r : Int32) (uu : Int32 × (Nat → Int32) × (Nat → Int32) × (Nat → Int32) × (Nat → Int32) × Int32 × (Nat → Int32) × (Nat → Int32) × (Nat → Int32) × (Nat → Int32) × Int32 × (Nat → Int32) × (Nat → Int32) × (Nat → Int64) × (Nat → Int32) × Int32 × (Nat → Int64)) => post r uu.1 uu.2.1 uu.2.2.1 uu.2.2.2.1 uu.2.2.2.2.1 uu.2.2.2.2.2.1 uu.2.2.2.2.2.2.1 uu.2.2.2.2.2.2.2.1 uu.2.2.2.2.2.2.2.2.1 uu.2.2.2.2.2.2.2.2.2.1 uu.2.2.2.2.2.2.2.2.2.2.1 uu.2.2.2.2.2.2.2.2.2.2.2.1 uu.2.2.2.2.2.2.2.2.2.2.2.2.1 uu.2.2.2.2.2.2.2.2.2.2.2.2.2.1 uu.2.2.2.2.2.2.2.2.2.2.2.2.2.2.1 uu.2.2.2.2.2.2.2.2.2.2.2.2.2.2.2.1 uu.2.2.2.2.2.2.2.2.2.2.2.2.2.2.2.2) (fun (uu : Int32 × (Nat → Int32) × (Nat → Int32) × (Nat → Int32) × (Nat → Int32) × Int32 × (Nat → Int32) × (Nat → Int32) × (Nat → Int32) × (Nat → Int32) × Int32 × (Nat → Int32) × (Nat → Int32) × (Nat → Int64) × (Nat → Int32) × Int32 × (Nat → Int64)) (t : State) => va_P (dC, dI) vwCl (wLx ad cI cJ cZ uu.1 uu.2.1 uu.2.2.1 uu.2.2.2.1 uu.2.2.2.2.1 sp uu.2.2.2.2.2.1 uu.2.2.2.2.2.2.1 uu.2.2.2.2.2.2.2.1 uu.2.2.2.2.2.2.2.2.1 uu.2.2.2.2.2.2.2.2.2.1 uu.2.2.2.2.2.2.2.2.2.2.1 uu.2.2.2.2.2.2.2.2.2.2.2.1 uu.2.2.2.2.2.2.2.2.2.2.2.2.1 uu.2.2.2.2.2.2.2.2.2.2.2.2.2.1 uu.2.2.2.2.2.2.2.2.2.2.2.2.2.2.1 uu.2.2.2.2.2.2.2.2.2.2.2.2.2.2.2.1 x y u sn ao uu.2.2.2.2.2.2.2.2.2.2.2.2.2.2.2.2) t.heap ∧ va_D A (wLx ad cI cJ cZ uu.1 uu.2.1 uu.2.2.1 uu.2.2.2.1 uu.2.2.2.2.1 sp uu.2.2.2.2.2.1 uu.2.2.2.2.2.2.1 uu.2.2.2.2.2.2.2.1 uu.2.2.2.2.2.2.2.2.1 uu.2.2.2.2.2.2.2.2.2.1 uu.2.2.2.2.2.2.2.2.2.2.1 uu.2.2.2.2.2.2.2.2.2.2.2.1 uu.2.2.2.2.2.2.2.2.2.2.2.2.1 uu.2.2.2.2.2.2.2.2.2.2.2.2.2.1 uu.2.2.2.2.2.2.2.2.2.2.2.2.2.2.1 uu.2.2.2.2.2.2.2.2.2.2.2.2.2.2.2.1 x y u sn ao uu.2.2.2.2.2.2.2.2.2.2.2.2.2.2.2.2)) A) args s 1 6 A = Q := ⟨_, rfl⟩
  rw [hQ]
  obtain ⟨H, hH⟩ : ∃ H, s.heap = H := ⟨_, rfl⟩
  have hS : va_S A s.heap H [] := by rw [← hH]; exact hS
  rw [hH] at hP
  show W p l e rm_L_piece s m args below meth c s.heap [] 0 0 Q (F0 m 0 ls [])
  suffices hg : W p l e rm_L_piece s m args below meth c H [] 0 0 Q (F0 m 0 ls []) by rw [hH]; exact hg
  clear hH
  generalize hlo : ([] : List Loc) = locs at hS ⊢
  refine lv_aload_n hx hb dL_piece_0 rfl (lv_at hl 2 rfl) ?_
  refine lv_iconst (v := 0) hx hb dL_piece_1 (by decide) ?_
  refine lv_aload_n hx hb dL_piece_2 rfl (lv_at hl 0 rfl) ?_
  refine lv_iload_n hx hb dL_piece_3 rfl (lv_at hl 1 rfl) ?_
  have hPc := hP.sub (ws' := (wPla ad cI cJ cZ sl ho nu fa ou sp fn co fo ro po pn rd st tw od rn x y u sn)) [0, 1, 2, 3, 4, 5, 6, 7, 8, 9, 10, 11, 12, 13, 14, 15, 16, 17, 18, 19] rfl
  have hDc := hD.sub (ws' := (wPla ad cI cJ cZ sl ho nu fa ou sp fn co fo ro po pn rd st tw od rn x y u sn)) [0, 1, 2, 3, 4, 5, 6, 7, 8, 9, 10, 11, 12, 13, 14, 15, 16, 17, 18, 19] (by decide) rfl
  have hFc := va_free (wc := (wPla ad cI cJ cZ sl ho nu fa ou sp fn co fo ro po pn rd st tw od rn x y u sn)) hD hS hA [0, 1, 2, 3, 4, 5, 6, 7, 8, 9, 10, 11, 12, 13, 14, 15, 16, 17, 18, 19] rfl
  rcases hw with hw | hw
  · refine vx_calli (vx_runV (As := [.int v1]) (rest := [.int 0, .ref ao]) C (cx_X3_piece l hst dC dI cI cJ cZ ad _ sl ho nu fa ou sp fn co fo ro po pn rd st tw od rn x y u sn v1 hw) (cwV 1 hts gL_piece_X3_piece rfl rfl rfl (by decide +kernel) ⟨Nat.le_of_ble_eq_true rfl, Nat.le_of_ble_eq_true rfl⟩) ⟨fb_x, va_recv hK hPc (ci := 3) (q0 := 0) rfl rfl, fun U hU hW => ⟨rfl, by rw [hU], by rw [hU]; exact hPc, va_K.moved hW.alike hK, hDc.weaken (fun _ _ _ _ => trivial), hxe.step hS hFc hU hW⟩⟩ rfl rfl hl.1 rfl (lv_room (Nat.le_of_ble_eq_true rfl)) dL_piece_4 ⟨Nat.le_of_ble_eq_true rfl, Nat.le_of_ble_eq_true rfl⟩) hS (fun q _ h => hFc q h) hFc (fun q _ h => hFc q h) (fun E9 ce q9 uu t H1 locs ht hvm hpx hB hz1 hk1 hS hce hcv hcl => ?_) (fun r9 uu t H1 locs ht hvm hpost hB hz1 hk1 hS => hpost.elim)
    obtain ⟨sl_x, ho_x, nu_x, fa_x, ou_x, fn_x, co_x, fo_x, ro_x, po_x, pn_x, rd_x, st_x, tw_x, od_x, rn_x⟩ := uu
    obtain ⟨hw, hP1, hD1⟩ := hB
    rw [ht] at hP1
    try dsimp only at hw hP1 hD1
    obtain ⟨hP, hD⟩ := va_join (wr := [(ao, .inl (cJ, 1, .inr (.inl o)))]) (w1 := (wPla ad cI cJ cZ sl_x ho_x nu_x fa_x ou_x sp fn_x co_x fo_x ro_x po_x pn_x rd_x st_x tw_x od_x rn_x x y u sn)) hP hD [0, 1, 2, 3, 4, 5, 6, 7, 8, 9, 10, 11, 12, 13, 14, 15, 16, 17, 18, 19] [20] rfl rfl (by decide) (by decide) hk1 hFc hP1 hD1
    have hP := hP.sub (ws' := (wLx ad cI cJ cZ sl_x ho_x nu_x fa_x ou_x sp fn_x co_x fo_x ro_x po_x pn_x rd_x st_x tw_x od_x rn_x x y u sn ao o)) [1, 2, 3, 4, 5, 6, 7, 8, 9, 10, 11, 12, 13, 14, 15, 16, 17, 18, 19, 20, 0] rfl
    have hD := hD.sub (ws' := (wLx ad cI cJ cZ sl_x ho_x nu_x fa_x ou_x sp fn_x co_x fo_x ro_x po_x pn_x rd_x st_x tw_x od_x rn_x x y u sn ao o)) [1, 2, 3, 4, 5, 6, 7, 8, 9, 10, 11, 12, 13, 14, 15, 16, 17, 18, 19, 20, 0] (by decide) rfl
    obtain ⟨rfl, hw⟩ := hw
    refine vx_catch (E := "java/lang/IndexOutOfBoundsException") (name := "java/lang/IndexOutOfBoundsException") hown [] ⟨0, 9, 12, 21⟩ [] (by rw [hT]; rfl) (fun z hz => absurd hz List.not_mem_nil) (by decide) (by decide) (hts _ f_L_piece_0) (hxe.2.2.2.2.2.1.use rfl) hce hcv hcl ?_
    refine lv_astore_n (lv' := [(3, .ref q9), (0, .ref (ad 0)), (1, .int v1), (2, .ref ao)]) hx hb dL_piece_12 rfl hl (by decide) rfl (fun ls hl => ?_)
    refine lv_iconst (v := 1) hx hb dL_piece_13 (by decide) ?_
    refine W.widen (k := 1) (n := 6) (Nat.le_of_ble_eq_true rfl) (Nat.le_of_ble_eq_true rfl) ?_
    rw [← hQ]
    exact W.iret (v := 1) hx hb hr (fun t ht hW => ⟨⟨_, (sl_x, ho_x, nu_x, fa_x, ou_x, fn_x, co_x, fo_x, ro_x, po_x, pn_x, rd_x, st_x, tw_x, od_x, rn_x, o), rfl, hw, by rw [ht]; exact hP, hD⟩, hS.F ht⟩) hS.2.2 dL_piece_14
  · refine va_calli (va_runV (As := [.int v1]) (rest := [.int 0, .ref ao]) C (c_X3_piece l dC dI cI cJ cZ ad _ sl ho nu fa ou sp fn co fo ro po pn rd st tw od rn x y u sn v1 hw) (cwV 1 hts gL_piece_X3_piece rfl rfl rfl (by decide +kernel) ⟨Nat.le_of_ble_eq_true rfl, Nat.le_of_ble_eq_true rfl⟩) ⟨fb_rw, va_recv hK hPc (ci := 3) (q0 := 0) rfl rfl, fun U hU hW => ⟨rfl, by rw [hU], by rw [hU]; exact hPc, va_K.moved hW.alike hK, hDc.weaken (fun _ _ _ _ => trivial)⟩⟩ rfl rfl hl.1 rfl (lv_room (Nat.le_of_ble_eq_true rfl)) dL_piece_4 ⟨Nat.zero_le _, Nat.zero_le _⟩) hS (fun q _ h => hFc q h) hFc (fun r uu t H1 locs ht hvm hw hB hz1 hk1 hS => ?_)
    obtain ⟨sl_r, ho_r, nu_r, fa_r, ou_r, fn_r, co_r, fo_r, ro_r, po_r, pn_r, rd_r, st_r, tw_r, od_r, rn_r⟩ := uu
    obtain ⟨hP1, hD1⟩ := hB
    rw [ht] at hP1
    try dsimp only at hw hP1 hD1
    obtain ⟨hP, hD⟩ := va_join (wr := [(ao, .inl (cJ, 1, .inr (.inl o)))]) (w1 := (wPla ad cI cJ cZ sl_r ho_r nu_r fa_r ou_r sp fn_r co_r fo_r ro_r po_r pn_r rd_r st_r tw_r od_r rn_r x y u sn)) hP hD [0, 1, 2, 3, 4, 5, 6, 7, 8, 9, 10, 11, 12, 13, 14, 15, 16, 17, 18, 19] [20] rfl rfl (by decide) (by decide) hk1 hFc hP1 hD1
    have hP := hP.sub (ws' := (wLx ad cI cJ cZ sl_r ho_r nu_r fa_r ou_r sp fn_r co_r fo_r ro_r po_r pn_r rd_r st_r tw_r od_r rn_r x y u sn ao o)) [1, 2, 3, 4, 5, 6, 7, 8, 9, 10, 11, 12, 13, 14, 15, 16, 17, 18, 19, 20, 0] rfl
    have hD := hD.sub (ws' := (wLx ad cI cJ cZ sl_r ho_r nu_r fa_r ou_r sp fn_r co_r fo_r ro_r po_r pn_r rd_r st_r tw_r od_r rn_r x y u sn ao o)) [1, 2, 3, 4, 5, 6, 7, 8, 9, 10, 11, 12, 13, 14, 15, 16, 17, 18, 19, 20, 0] (by decide) rfl
    refine lv_i2l hx hb dL_piece_7 rfl ?_
    refine va_last hx hb hK hP hD hS 20 1 rfl rfl (by unfold vp_in; decide) dL_piece_8 (fun H locs hP hD hS => ?_)
    have hP : va_P (dC, dI) vwCl (wLx ad cI cJ cZ sl_r ho_r nu_r fa_r ou_r sp fn_r co_r fo_r ro_r po_r pn_r rd_r st_r tw_r od_r rn_r x y u sn ao (vp_updL o (0 : Int32).toNatClampNeg r.toInt64)) H := hP
    have hD : va_D A (wLx ad cI cJ cZ sl_r ho_r nu_r fa_r ou_r sp fn_r co_r fo_r ro_r po_r pn_r rd_r st_r tw_r od_r rn_r x y u sn ao (vp_updL o (0 : Int32).toNatClampNeg r.toInt64)) := hD
    refine lv_goto (tgt := 15) hx hb dL_piece_9 (by decide) ?_
    refine lv_iconst (v := 0) hx hb dL_piece_15 (by decide) ?_
    refine W.widen (k := 1) (n := 6) (Nat.le_of_ble_eq_true rfl) (Nat.le_of_ble_eq_true rfl) ?_
    rw [← hQ]
    exact W.iret (v := 0) hx hb hr (fun t ht hW => ⟨⟨_, (sl_r, ho_r, nu_r, fa_r, ou_r, fn_r, co_r, fo_r, ro_r, po_r, pn_r, rd_r, st_r, tw_r, od_r, rn_r, (vp_updL o (0 : Int32).toNatClampNeg r.toInt64)), rfl, hw, by rw [ht]; exact hP, hD⟩, hS.F ht⟩) hS.2.2 dL_piece_16
abbrev rm_L_around : Room := { frames := 7, cells := 1, slots := 6, locals := 163 }
theorem f_L_around_0 : (Cond.classLink RL 21 "java/lang/IndexOutOfBoundsException") ∈ wsL_around := by decide +kernel
set_option maxRecDepth 100000 in
set_option maxHeartbeats 4000000 in
theorem c_L_around (l : Launch) (hst : l.stackTraces = false) (dC : Nat → ClassId) (dI : Nat → Nat → Nat) (cI cJ cZ : ClassId) (ad : Nat → Nat) (sz : Nat) (sl : Int32) (ho : Nat → Int32) (nu : Nat → Int32) (fa : Nat → Int32) (ou : Nat → Int32) (sp : Nat → Int32) (fn : Int32) (co : Nat → Int32) (fo : Nat → Int32) (ro : Nat → Int32) (po : Nat → Int32) (pn : Int32) (rd : Nat → Int32) (st : Nat → Int32) (tw : Nat → Int64) (od : Nat → Int32) (rn : Int32) (x : Nat → Int32) (y : Nat → Int32) (u : Nat → Int32) (sn : Int32) (ao : Nat) (o : Nat → Int64) (v1 : Int32) {post : Int32 → Int32 → (Nat → Int32) → (Nat → Int32) → (Nat → Int32) → (Nat → Int32) → Int32 → (Nat → Int32) → (Nat → Int32) → (Nat → Int32) → (Nat → Int32) → Int32 → (Nat → Int32) → (Nat → Int32) → (Nat → Int64) → (Nat → Int32) → Int32 → (Nat → Int64) → Prop} (hw : wp_L_around sl ho nu fa ou fn co fo ro po pn rd st tw od rn x y u o v1 post) : Met l yL_around wsL_around rm_L_around (va_Pc [.ref (ad 0), .int v1, .ref ao] (fun U => U.heap.size = sz ∧ va_P (dC, dI) vwCl (wLx ad cI cJ cZ sl ho nu fa ou sp fn co fo ro po pn rd st tw od rn x y u sn ao o) U.heap ∧ va_K (dC, dI) vwCl (tyL cI cJ cZ) U ∧ va_D (fun _ => True) (wLx ad cI cJ cZ sl ho nu fa ou sp fn co fo ro po pn rd st tw od rn x y u sn ao o) ∧ xe (va_A (wLx ad cI cJ cZ sl ho nu fa ou sp fn co fo ro po pn rd st tw od rn x y u sn ao o) sz) U U.heap)) (va_Qi (fun (r : Int32) (uu : Int32 × (Nat → Int32) × (Nat → Int32) × (Nat → Int32) × (Nat → Int32) × Int32 × (Nat → Int32) × (Nat → Int32) × (Nat → Int32) × (Nat → Int32) × Int32 × (Nat → Int32) × (Nat → Int32) × (Nat → Int64) × (Nat → Int32) × Int32 × (Nat → Int64)) => post r uu.1 uu.2.1 uu.2.2.1 uu.2.2.2.1 uu.2.2.2.2.1 uu.2.2.2.2.2.1 uu.2.2.2.2.2.2.1 uu.2.2.2.2.2.2.2.1 uu.2.2.2.2.2.2.2.2.1 uu.2.2.2.2.2.2.2.2.2.1 uu.2.2.2.2.2.2.2.2.2.2.1 uu.2.2.2.2.2.2.2.2.2.2.2.1 uu.2.2.2.2.2.2.2.2.2.2.2.2.1 uu.2.2.2.2.2.2.2.2.2.2.2.2.2.1 uu.2.2.2.2.2.2.2.2.2.2.2.2.2.2.1 uu.2.2.2.2.2.2.2.2.2.2.2.2.2.2.2.1 uu.2.2.2.2.2.2.2.2.2.2.2.2.2.2.2.2) (fun (uu : Int32 × (Nat → Int32) × (Nat → Int32) × (Nat → Int32) × (Nat → Int32) × Int32 × (Nat → Int32) × (Nat → Int32) × (Nat → Int32) × (Nat → Int32) × Int32 × (Nat → Int32) × (Nat → Int32) × (Nat → Int64) × (Nat → Int32) × Int32 × (Nat → Int64)) (t : State) => va_P (dC, dI) vwCl (wLx ad cI cJ cZ uu.1 uu.2.1 uu.2.2.1 uu.2.2.2.1 uu.2.2.2.2.1 sp uu.2.2.2.2.2.1 uu.2.2.2.2.2.2.1 uu.2.2.2.2.2.2.2.1 uu.2.2.2.2.2.2.2.2.1 uu.2.2.2.2.2.2.2.2.2.1 uu.2.2.2.2.2.2.2.2.2.2.1 uu.2.2.2.2.2.2.2.2.2.2.2.1 uu.2.2.2.2.2.2.2.2.2.2.2.2.1 uu.2.2.2.2.2.2.2.2.2.2.2.2.2.1 uu.2.2.2.2.2.2.2.2.2.2.2.2.2.2.1 uu.2.2.2.2.2.2.2.2.2.2.2.2.2.2.2.1 x y u sn ao uu.2.2.2.2.2.2.2.2.2.2.2.2.2.2.2.2) t.heap ∧ va_D (va_A (wLx ad cI cJ cZ sl ho nu fa ou sp fn co fo ro po pn rd st tw od rn x y u sn ao o) sz) (wLx ad cI cJ cZ uu.1 uu.2.1 uu.2.2.1 uu.2.2.2.1 uu.2.2.2.2.1 sp uu.2.2.2.2.2.1 uu.2.2.2.2.2.2.1 uu.2.2.2.2.2.2.2.1 uu.2.2.2.2.2.2.2.2.1 uu.2.2.2.2.2.2.2.2.2.1 uu.2.2.2.2.2.2.2.2.2.2.1 uu.2.2.2.2.2.2.2.2.2.2.2.1 uu.2.2.2.2.2.2.2.2.2.2.2.2.1 uu.2.2.2.2.2.2.2.2.2.2.2.2.2.1 uu.2.2.2.2.2.2.2.2.2.2.2.2.2.2.1 uu.2.2.2.2.2.2.2.2.2.2.2.2.2.2.2.1 x y u sn ao uu.2.2.2.2.2.2.2.2.2.2.2.2.2.2.2.2)) (va_A (wLx ad cI cJ cZ sl ho nu fa ou sp fn co fo ro po pn rd st tw od rn x y u sn ao o) sz)) 1 6 (va_A (wLx ad cI cJ cZ sl ho nu fa ou sp fn co fo ro po pn rd st tw od rn x y u sn ao o) sz) := by
  unfold wp_L_around at hw
  refine va_MetW (cc := cL_around) (maxL := 4) (ret := (some .int)) (hh := [(0, 9, 12, 21)]) (by decide) rfl ?_
  intro p e s m args below meth c s₁ B hml hv
  obtain ⟨hav, hsz, hP, hK, hD0, hxe⟩ := hv
  have hx := B.exec
  have hb := B.bytes
  have hr := B.returns
  have hts := atoms_spec (ws := wsL_around) B.pre
  have hT := vx_table (x := yL_around) B (hts (.codeWith yL_around cL_around 4 (some .int) [(0, 9, 12, 21)]) List.mem_cons_self)
  have hown : s.vm.findClass RL = some m.cls := findClass_of_methodNamed B.named
  have hlocks := B.notSynchronized
  have C : CallFix p m c cL_around 4 s args wsL_around RL := ⟨hx, hb, hml, hown, hts⟩
  obtain ⟨ls, hE, hl⟩ := mx_entry (m := m) [.ref (ad 0), .int v1, .ref ao] (n := 4) (Nat.le_of_ble_eq_true rfl)
  have hl : lv_has ls 4 [(0, .ref (ad 0)), (1, .int v1), (2, .ref ao)] := hl
  rw [show entryFrame m args 4 = F0 m 0 ls [] by rw [hav]; exact hE]
  subst hsz
  have hD := hD0.self (sz := s.heap.size)
  generalize hAe : va_A (wLx ad cI cJ cZ sl ho nu fa ou sp fn co fo ro po pn rd st tw od rn x y u sn ao o) s.heap.size = A at hD hxe ⊢
  have hA : ∀ q : Nat, s.heap.size ≤ q → A q := fun q h => by rw [← hAe]; exact Or.inr h
  have hS : va_S A s.heap s.heap [] := va_S.rf
  obtain ⟨Q, hQ⟩ : ∃ Q, MQ below (va_Qi (fun (r : Int32) (uu : Int32 × (Nat → Int32) × (Nat → Int32) × (Nat → Int32) × (Nat → Int32) × Int32 × (Nat → Int32) × (Nat → Int32) × (Nat → Int32) × (Nat → Int32) × Int32 × (Nat → Int32) × (Nat → Int32) × (Nat → Int64) × (Nat → Int32) × Int32 × (Nat → Int64)) => post r uu.1 uu.2.1 uu.2.2.1 uu.2.2.2.1 uu.2.2.2.2.1 uu.2.2.2.2.2.1 uu.2.2.2.2.2.2.1 uu.2.2.2.2.2.2.2.1 uu.2.2.2.2.2.2.2.2.1 uu.2.2.2.2.2.2.2.2.2.1 uu.2.2.2.2.2.2.2.2.2.2.1 uu.2.2.2.2.2.2.2.2.2.2.2.1 uu.2.2.2.2.2.2.2.2.2.2.2.2.1 uu.2.2.2.2.2.2.2.2.2.2.2.2.2.1 uu.2.2.2.2.2.2.2.2.2.2.2.2.2.2.1 uu.2.2.2.2.2.2.2.2.2.2.2.2.2.2.2.1 uu.2.2.2.2.2.2.2.2.2.2.2.2.2.2.2.2) (fun (uu : Int32 × (Nat → Int32) × (Nat → Int32) × (Nat → Int32) × (Nat → Int32) × Int32 × (Nat → Int32) × (Nat → Int32) × (Nat → Int32) × (Nat → Int32) × Int32 × (Nat → Int32) × (Nat → Int32) × (Nat → Int64) × (Nat → Int32) × Int32 × (Nat → Int64)) (t : State) => va_P (dC, dI) vwCl (wLx ad cI cJ cZ uu.1 uu.2.1 uu.2.2.1 uu.2.2.2.1 uu.2.2.2.2.1 sp uu.2.2.2.2.2.1 uu.2.2.2.2.2.2.1 uu.2.2.2.2.2.2.2.1 uu.2.2.2.2.2.2.2.2.1 uu.2.2.2.2.2.2.2.2.2.1 uu.2.2.2.2.2.2.2.2.2.2.1 uu.2.2.2.2.2.2.2.2.2.2.2.1 uu.2.2.2.2.2.2.2.2.2.2.2.2.1 uu.2.2.2.2.2.2.2.2.2.2.2.2.2.1 uu.2.2.2.2.2.2.2.2.2.2.2.2.2.2.1 uu.2.2.2.2.2.2.2.2.2.2.2.2.2.2.2.1 x y u sn ao uu.2.2.2.2.2.2.2.2.2.2.2.2.2.2.2.2) t.heap ∧ va_D A (wLx ad cI cJ cZ uu.1 uu.2.1 uu.2.2.1 uu.2.2.2.1 uu.2.2.2.2.1 sp uu.2.2.2.2.2.1 uu.2.2.2.2.2.2.1 uu.2.2.2.2.2.2.2.1 uu.2.2.2.2.2.2.2.2.1 uu.2.2.2.2.2.2.2.2.2.1 uu.2.2.2.2.2.2.2.2.2.2.1 uu.2.2.2.2.2.2.2.2.2.2.2.1 uu.2.2.2.2.2.2.2.2.2.2.2.2.1 uu.2.2.2.2.2.2.2.2.2.2.2.2.2.1 uu.2.2.2.2.2.2.2.2.2.2.2.2.2.2.1 uu.2.2.2.2.2.2.2.2.2.2.2.2.2.2.2.1 x y u sn ao uu.2.2.2.2.2.2.2.2.2.2.2.2.2.2.2.2)) A) args s 1 6 A = Q := ⟨_, rfl⟩
  rw [hQ]
  obtain ⟨H, hH⟩ : ∃ H, s.heap = H := ⟨_, rfl⟩
  have hS : va_S A s.heap H [] := by rw [← hH]; exact hS
  rw [hH] at hP
  show W p l e rm_L_around s m args below meth c s.heap [] 0 0 Q (F0 m 0 ls [])
  suffices hg : W p l e rm_L_around s m args below meth c H [] 0 0 Q (F0 m 0 ls []) by rw [hH]; exact hg
  clear hH
  generalize hlo : ([] : List Loc) = locs at hS ⊢
  refine lv_aload_n hx hb dL_around_0 rfl (lv_at hl 2 rfl) ?_
  refine lv_iconst (v := 0) hx hb dL_around_1 (by decide) ?_
  refine lv_aload_n hx hb dL_around_2 rfl (lv_at hl 0 rfl) ?_
  refine lv_iload_n hx hb dL_around_3 rfl (lv_at hl 1 rfl) ?_
  have hPc := hP.sub (ws' := (wPla ad cI cJ cZ sl ho nu fa ou sp fn co fo ro po pn rd st tw od rn x y u sn)) [0, 1, 2, 3, 4, 5, 6, 7, 8, 9, 10, 11, 12, 13, 14, 15, 16, 17, 18, 19] rfl
  have hDc := hD.sub (ws' := (wPla ad cI cJ cZ sl ho nu fa ou sp fn co fo ro po pn rd st tw od rn x y u sn)) [0, 1, 2, 3, 4, 5, 6, 7, 8, 9, 10, 11, 12, 13, 14, 15, 16, 17, 18, 19] (by decide) rfl
  have hFc := va_free (wc := (wPla ad cI cJ cZ sl ho nu fa ou sp fn co fo ro po pn rd st tw od rn x y u sn)) hD hS hA [0, 1, 2, 3, 4, 5, 6, 7, 8, 9, 10, 11, 12, 13, 14, 15, 16, 17, 18, 19] rfl
  rcases hw with hw | hw
  · refine vx_calli (vx_runV (As := [.int v1]) (rest := [.int 0, .ref ao]) C (cx_X3_around l hst dC dI cI cJ cZ ad _ sl ho nu fa ou sp fn co fo ro po pn rd st tw od rn x y u sn v1 hw) (cwV 1 hts gL_around_X3_around rfl rfl rfl (by decide +kernel) ⟨Nat.le_of_ble_eq_true rfl, Nat.le_of_ble_eq_true rfl⟩) ⟨fb_x, va_recv hK hPc (ci := 3) (q0 := 0) rfl rfl, fun U hU hW => ⟨rfl, by rw [hU], by rw [hU]; exact hPc, va_K.moved hW.alike hK, hDc.weaken (fun _ _ _ _ => trivial), hxe.step hS hFc hU hW⟩⟩ rfl rfl hl.1 rfl (lv_room (Nat.le_of_ble_eq_true rfl)) dL_around_4 ⟨Nat.le_of_ble_eq_true rfl, Nat.le_of_ble_eq_true rfl⟩) hS (fun q _ h => hFc q h) hFc (fun q _ h => hFc q h) (fun E9 ce q9 uu t H1 locs ht hvm hpx hB hz1 hk1 hS hce hcv hcl => ?_) (fun r9 uu t H1 locs ht hvm hpost hB hz1 hk1 hS => hpost.elim)
    obtain ⟨sl_x, ho_x, nu_x, fa_x, ou_x, fn_x, co_x, fo_x, ro_x, po_x, pn_x, rd_x, st_x, tw_x, od_x, rn_x⟩ := uu
    obtain ⟨hw, hP1, hD1⟩ := hB
    rw [ht] at hP1
    try dsimp only at hw hP1 hD1
    obtain ⟨hP, hD⟩ := va_join (wr := [(ao, .inl (cJ, 1, .inr (.inl o)))]) (w1 := (wPla ad cI cJ cZ sl_x ho_x nu_x fa_x ou_x sp fn_x co_x fo_x ro_x po_x pn_x rd_x st_x tw_x od_x rn_x x y u sn)) hP hD [0, 1, 2, 3, 4, 5, 6, 7, 8, 9, 10, 11, 12, 13, 14, 15, 16, 17, 18, 19] [20] rfl rfl (by decide) (by decide) hk1 hFc hP1 hD1
    have hP := hP.sub (ws' := (wLx ad cI cJ cZ sl_x ho_x nu_x fa_x ou_x sp fn_x co_x fo_x ro_x po_x pn_x rd_x st_x tw_x od_x rn_x x y u sn ao o)) [1, 2, 3, 4, 5, 6, 7, 8, 9, 10, 11, 12, 13, 14, 15, 16, 17, 18, 19, 20, 0] rfl
    have hD := hD.sub (ws' := (wLx ad cI cJ cZ sl_x ho_x nu_x fa_x ou_x sp fn_x co_x fo_x ro_x po_x pn_x rd_x st_x tw_x od_x rn_x x y u sn ao o)) [1, 2, 3, 4, 5, 6, 7, 8, 9, 10, 11, 12, 13, 14, 15, 16, 17, 18, 19, 20, 0] (by decide) rfl
    obtain ⟨rfl, hw⟩ := hw
    refine vx_catch (E := "java/lang/IndexOutOfBoundsException") (name := "java/lang/IndexOutOfBoundsException") hown [] ⟨0, 9, 12, 21⟩ [] (by rw [hT]; rfl) (fun z hz => absurd hz List.not_mem_nil) (by decide) (by decide) (hts _ f_L_around_0) (hxe.2.2.2.2.2.1.use rfl) hce hcv hcl ?_
    refine lv_astore_n (lv' := [(3, .ref q9), (0, .ref (ad 0)), (1, .int v1), (2, .ref ao)]) hx hb dL_around_12 rfl hl (by decide) rfl (fun ls hl => ?_)
    refine lv_iconst (v := 1) hx hb dL_around_13 (by decide) ?_
    refine W.widen (k := 1) (n := 6) (Nat.le_of_ble_eq_true rfl) (Nat.le_of_ble_eq_true rfl) ?_
    rw [← hQ]
    exact W.iret (v := 1) hx hb hr (fun t ht hW => ⟨⟨_, (sl_x, ho_x, nu_x, fa_x, ou_x, fn_x, co_x, fo_x, ro_x, po_x, pn_x, rd_x, st_x, tw_x, od_x, rn_x, o), rfl, hw, by rw [ht]; exact hP, hD⟩, hS.F ht⟩) hS.2.2 dL_around_14
  · refine va_calli (va_runV (As := [.int v1]) (rest := [.int 0, .ref ao]) C (c_X3_around l dC dI cI cJ cZ ad _ sl ho nu fa ou sp fn co fo ro po pn rd st tw od rn x y u sn v1 hw) (cwV 1 hts gL_around_X3_around rfl rfl rfl (by decide +kernel) ⟨Nat.le_of_ble_eq_true rfl, Nat.le_of_ble_eq_true rfl⟩) ⟨fb_rw, va_recv hK hPc (ci := 3) (q0 := 0) rfl rfl, fun U hU hW => ⟨rfl, by rw [hU], by rw [hU]; exact hPc, va_K.moved hW.alike hK, hDc.weaken (fun _ _ _ _ => trivial)⟩⟩ rfl rfl hl.1 rfl (lv_room (Nat.le_of_ble_eq_true rfl)) dL_around_4 ⟨Nat.zero_le _, Nat.zero_le _⟩) hS (fun q _ h => hFc q h) hFc (fun r uu t H1 locs ht hvm hw hB hz1 hk1 hS => ?_)
    obtain ⟨sl_r, ho_r, nu_r, fa_r, ou_r, fn_r, co_r, fo_r, ro_r, po_r, pn_r, rd_r, st_r, tw_r, od_r, rn_r⟩ := uu
    obtain ⟨hP1, hD1⟩ := hB
    rw [ht] at hP1
    try dsimp only at hw hP1 hD1
    obtain ⟨hP, hD⟩ := va_join (wr := [(ao, .inl (cJ, 1, .inr (.inl o)))]) (w1 := (wPla ad cI cJ cZ sl_r ho_r nu_r fa_r ou_r sp fn_r co_r fo_r ro_r po_r pn_r rd_r st_r tw_r od_r rn_r x y u sn)) hP hD [0, 1, 2, 3, 4, 5, 6, 7, 8, 9, 10, 11, 12, 13, 14, 15, 16, 17, 18, 19] [20] rfl rfl (by decide) (by decide) hk1 hFc hP1 hD1
    have hP := hP.sub (ws' := (wLx ad cI cJ cZ sl_r ho_r nu_r fa_r ou_r sp fn_r co_r fo_r ro_r po_r pn_r rd_r st_r tw_r od_r rn_r x y u sn ao o)) [1, 2, 3, 4, 5, 6, 7, 8, 9, 10, 11, 12, 13, 14, 15, 16, 17, 18, 19, 20, 0] rfl
    have hD := hD.sub (ws' := (wLx ad cI cJ cZ sl_r ho_r nu_r fa_r ou_r sp fn_r co_r fo_r ro_r po_r pn_r rd_r st_r tw_r od_r rn_r x y u sn ao o)) [1, 2, 3, 4, 5, 6, 7, 8, 9, 10, 11, 12, 13, 14, 15, 16, 17, 18, 19, 20, 0] (by decide) rfl
    refine lv_i2l hx hb dL_around_7 rfl ?_
    refine va_last hx hb hK hP hD hS 20 1 rfl rfl (by unfold vp_in; decide) dL_around_8 (fun H locs hP hD hS => ?_)
    have hP : va_P (dC, dI) vwCl (wLx ad cI cJ cZ sl_r ho_r nu_r fa_r ou_r sp fn_r co_r fo_r ro_r po_r pn_r rd_r st_r tw_r od_r rn_r x y u sn ao (vp_updL o (0 : Int32).toNatClampNeg r.toInt64)) H := hP
    have hD : va_D A (wLx ad cI cJ cZ sl_r ho_r nu_r fa_r ou_r sp fn_r co_r fo_r ro_r po_r pn_r rd_r st_r tw_r od_r rn_r x y u sn ao (vp_updL o (0 : Int32).toNatClampNeg r.toInt64)) := hD
    refine lv_goto (tgt := 15) hx hb dL_around_9 (by decide) ?_
    refine lv_iconst (v := 0) hx hb dL_around_15 (by decide) ?_
    refine W.widen (k := 1) (n := 6) (Nat.le_of_ble_eq_true rfl) (Nat.le_of_ble_eq_true rfl) ?_
    rw [← hQ]
    exact W.iret (v := 0) hx hb hr (fun t ht hW => ⟨⟨_, (sl_r, ho_r, nu_r, fa_r, ou_r, fn_r, co_r, fo_r, ro_r, po_r, pn_r, rd_r, st_r, tw_r, od_r, rn_r, (vp_updL o (0 : Int32).toNatClampNeg r.toInt64)), rfl, hw, by rw [ht]; exact hP, hD⟩, hS.F ht⟩) hS.2.2 dL_around_16
abbrev rm_L_area : Room := { frames := 8, cells := 1, slots := 6, locals := 163 }
theorem f_L_area_0 : (Cond.classLink RL 21 "java/lang/IndexOutOfBoundsException") ∈ wsL_area := by decide +kernel
set_option maxRecDepth 100000 in
set_option maxHeartbeats 4000000 in
theorem c_L_area (l : Launch) (hst : l.stackTraces = false) (dC : Nat → ClassId) (dI : Nat → Nat → Nat) (cI cJ cZ : ClassId) (ad : Nat → Nat) (sz : Nat) (sl : Int32) (ho : Nat → Int32) (nu : Nat → Int32) (fa : Nat → Int32) (ou : Nat → Int32) (sp : Nat → Int32) (fn : Int32) (co : Nat → Int32) (fo : Nat → Int32) (ro : Nat → Int32) (po : Nat → Int32) (pn : Int32) (rd : Nat → Int32) (st : Nat → Int32) (tw : Nat → Int64) (od : Nat → Int32) (rn : Int32) (x : Nat → Int32) (y : Nat → Int32) (u : Nat → Int32) (sn : Int32) (ao : Nat) (o : Nat → Int64) (v1 : Int32) {post : Int32 → Int32 → (Nat → Int32) → (Nat → Int32) → (Nat → Int32) → (Nat → Int32) → Int32 → (Nat → Int32) → (Nat → Int32) → (Nat → Int32) → (Nat → Int32) → Int32 → (Nat → Int32) → (Nat → Int32) → (Nat → Int64) → (Nat → Int32) → Int32 → (Nat → Int64) → Prop} (hw : wp_L_area sl ho nu fa ou fn co fo ro po pn rd st tw od rn x y u o v1 post) : Met l yL_area wsL_area rm_L_area (va_Pc [.ref (ad 0), .int v1, .ref ao] (fun U => U.heap.size = sz ∧ va_P (dC, dI) vwCl (wLx ad cI cJ cZ sl ho nu fa ou sp fn co fo ro po pn rd st tw od rn x y u sn ao o) U.heap ∧ va_K (dC, dI) vwCl (tyL cI cJ cZ) U ∧ va_D (fun _ => True) (wLx ad cI cJ cZ sl ho nu fa ou sp fn co fo ro po pn rd st tw od rn x y u sn ao o) ∧ xe (va_A (wLx ad cI cJ cZ sl ho nu fa ou sp fn co fo ro po pn rd st tw od rn x y u sn ao o) sz) U U.heap)) (va_Qi (fun (r : Int32) (uu : Int32 × (Nat → Int32) × (Nat → Int32) × (Nat → Int32) × (Nat → Int32) × Int32 × (Nat → Int32) × (Nat → Int32) × (Nat → Int32) × (Nat → Int32) × Int32 × (Nat → Int32) × (Nat → Int32) × (Nat → Int64) × (Nat → Int32) × Int32 × (Nat → Int64)) => post r uu.1 uu.2.1 uu.2.2.1 uu.2.2.2.1 uu.2.2.2.2.1 uu.2.2.2.2.2.1 uu.2.2.2.2.2.2.1 uu.2.2.2.2.2.2.2.1 uu.2.2.2.2.2.2.2.2.1 uu.2.2.2.2.2.2.2.2.2.1 uu.2.2.2.2.2.2.2.2.2.2.1 uu.2.2.2.2.2.2.2.2.2.2.2.1 uu.2.2.2.2.2.2.2.2.2.2.2.2.1 uu.2.2.2.2.2.2.2.2.2.2.2.2.2.1 uu.2.2.2.2.2.2.2.2.2.2.2.2.2.2.1 uu.2.2.2.2.2.2.2.2.2.2.2.2.2.2.2.1 uu.2.2.2.2.2.2.2.2.2.2.2.2.2.2.2.2) (fun (uu : Int32 × (Nat → Int32) × (Nat → Int32) × (Nat → Int32) × (Nat → Int32) × Int32 × (Nat → Int32) × (Nat → Int32) × (Nat → Int32) × (Nat → Int32) × Int32 × (Nat → Int32) × (Nat → Int32) × (Nat → Int64) × (Nat → Int32) × Int32 × (Nat → Int64)) (t : State) => va_P (dC, dI) vwCl (wLx ad cI cJ cZ uu.1 uu.2.1 uu.2.2.1 uu.2.2.2.1 uu.2.2.2.2.1 sp uu.2.2.2.2.2.1 uu.2.2.2.2.2.2.1 uu.2.2.2.2.2.2.2.1 uu.2.2.2.2.2.2.2.2.1 uu.2.2.2.2.2.2.2.2.2.1 uu.2.2.2.2.2.2.2.2.2.2.1 uu.2.2.2.2.2.2.2.2.2.2.2.1 uu.2.2.2.2.2.2.2.2.2.2.2.2.1 uu.2.2.2.2.2.2.2.2.2.2.2.2.2.1 uu.2.2.2.2.2.2.2.2.2.2.2.2.2.2.1 uu.2.2.2.2.2.2.2.2.2.2.2.2.2.2.2.1 x y u sn ao uu.2.2.2.2.2.2.2.2.2.2.2.2.2.2.2.2) t.heap ∧ va_D (va_A (wLx ad cI cJ cZ sl ho nu fa ou sp fn co fo ro po pn rd st tw od rn x y u sn ao o) sz) (wLx ad cI cJ cZ uu.1 uu.2.1 uu.2.2.1 uu.2.2.2.1 uu.2.2.2.2.1 sp uu.2.2.2.2.2.1 uu.2.2.2.2.2.2.1 uu.2.2.2.2.2.2.2.1 uu.2.2.2.2.2.2.2.2.1 uu.2.2.2.2.2.2.2.2.2.1 uu.2.2.2.2.2.2.2.2.2.2.1 uu.2.2.2.2.2.2.2.2.2.2.2.1 uu.2.2.2.2.2.2.2.2.2.2.2.2.1 uu.2.2.2.2.2.2.2.2.2.2.2.2.2.1 uu.2.2.2.2.2.2.2.2.2.2.2.2.2.2.1 uu.2.2.2.2.2.2.2.2.2.2.2.2.2.2.2.1 x y u sn ao uu.2.2.2.2.2.2.2.2.2.2.2.2.2.2.2.2)) (va_A (wLx ad cI cJ cZ sl ho nu fa ou sp fn co fo ro po pn rd st tw od rn x y u sn ao o) sz)) 1 6 (va_A (wLx ad cI cJ cZ sl ho nu fa ou sp fn co fo ro po pn rd st tw od rn x y u sn ao o) sz) := by
  unfold wp_L_area at hw
  refine va_MetW (cc := cL_area) (maxL := 4) (ret := (some .int)) (hh := [(0, 9, 12, 21)]) (by decide) rfl ?_
  intro p e s m args below meth c s₁ B hml hv
  obtain ⟨hav, hsz, hP, hK, hD0, hxe⟩ := hv
  have hx := B.exec
  have hb := B.bytes
  have hr := B.returns
  have hts := atoms_spec (ws := wsL_area) B.pre
  have hT := vx_table (x := yL_area) B (hts (.codeWith yL_area cL_area 4 (some .int) [(0, 9, 12, 21)]) List.mem_cons_self)
  have hown : s.vm.findClass RL = some m.cls := findClass_of_methodNamed B.named
  have hlocks := B.notSynchronized
  have C : CallFix p m c cL_area 4 s args wsL_area RL := ⟨hx, hb, hml, hown, hts⟩
  obtain ⟨ls, hE, hl⟩ := mx_entry (m := m) [.ref (ad 0), .int v1, .ref ao] (n := 4) (Nat.le_of_ble_eq_true rfl)
  have hl : lv_has ls 4 [(0, .ref (ad 0)), (1, .int v1), (2, .ref ao)] := hl
  rw [show entryFrame m args 4 = F0 m 0 ls [] by rw [hav]; exact hE]
  subst hsz
  have hD := hD0.self (sz := s.heap.size)
  generalize hAe : va_A (wLx ad cI cJ cZ sl ho nu fa ou sp fn co fo ro po pn rd st tw od rn x y u sn ao o) s.heap.size = A at hD hxe ⊢
  have hA : ∀ q : Nat, s.heap.size ≤ q → A q := fun q h => by rw [← hAe]; exact Or.inr h
  have hS : va_S A s.heap s.heap [] := va_S.rf
  obtain ⟨Q, hQ⟩ : ∃ Q, MQ below (va_Qi (fun (r : Int32) (uu : Int32 × (Nat → Int32) × (Nat → Int32) × (Nat → Int32) × (Nat → Int32) × Int32 × (Nat → Int32) × (Nat → Int32) × (Nat → Int32) × (Nat → Int32) × Int32 × (Nat → Int32) × (Nat → Int32) × (Nat → Int64) × (Nat → Int32) × Int32 × (Nat → Int64)) => post r uu.1 uu.2.1 uu.2.2.1 uu.2.2.2.1 uu.2.2.2.2.1 uu.2.2.2.2.2.1 uu.2.2.2.2.2.2.1 uu.2.2.2.2.2.2.2.1 uu.2.2.2.2.2.2.2.2.1 uu.2.2.2.2.2.2.2.2.2.1 uu.2.2.2.2.2.2.2.2.2.2.1 uu.2.2.2.2.2.2.2.2.2.2.2.1 uu.2.2.2.2.2.2.2.2.2.2.2.2.1 uu.2.2.2.2.2.2.2.2.2.2.2.2.2.1 uu.2.2.2.2.2.2.2.2.2.2.2.2.2.2.1 uu.2.2.2.2.2.2.2.2.2.2.2.2.2.2.2.1 uu.2.2.2.2.2.2.2.2.2.2.2.2.2.2.2.2) (fun (uu : Int32 × (Nat → Int32) × (Nat → Int32) × (Nat → Int32) × (Nat → Int32) × Int32 × (Nat → Int32) × (Nat → Int32) × (Nat → Int32) × (Nat → Int32) × Int32 × (Nat → Int32) × (Nat → Int32) × (Nat → Int64) × (Nat → Int32) × Int32 × (Nat → Int64)) (t : State) => va_P (dC, dI) vwCl (wLx ad cI cJ cZ uu.1 uu.2.1 uu.2.2.1 uu.2.2.2.1 uu.2.2.2.2.1 sp uu.2.2.2.2.2.1 uu.2.2.2.2.2.2.1 uu.2.2.2.2.2.2.2.1 uu.2.2.2.2.2.2.2.2.1 uu.2.2.2.2.2.2.2.2.2.1 uu.2.2.2.2.2.2.2.2.2.2.1 uu.2.2.2.2.2.2.2.2.2.2.2.1 uu.2.2.2.2.2.2.2.2.2.2.2.2.1 uu.2.2.2.2.2.2.2.2.2.2.2.2.2.1 uu.2.2.2.2.2.2.2.2.2.2.2.2.2.2.1 uu.2.2.2.2.2.2.2.2.2.2.2.2.2.2.2.1 x y u sn ao uu.2.2.2.2.2.2.2.2.2.2.2.2.2.2.2.2) t.heap ∧ va_D A (wLx ad cI cJ cZ uu.1 uu.2.1 uu.2.2.1 uu.2.2.2.1 uu.2.2.2.2.1 sp uu.2.2.2.2.2.1 uu.2.2.2.2.2.2.1 uu.2.2.2.2.2.2.2.1 uu.2.2.2.2.2.2.2.2.1 uu.2.2.2.2.2.2.2.2.2.1 uu.2.2.2.2.2.2.2.2.2.2.1 uu.2.2.2.2.2.2.2.2.2.2.2.1 uu.2.2.2.2.2.2.2.2.2.2.2.2.1 uu.2.2.2.2.2.2.2.2.2.2.2.2.2.1 uu.2.2.2.2.2.2.2.2.2.2.2.2.2.2.1 uu.2.2.2.2.2.2.2.2.2.2.2.2.2.2.2.1 x y u sn ao uu.2.2.2.2.2.2.2.2.2.2.2.2.2.2.2.2)) A) args s 1 6 A = Q := ⟨_, rfl⟩
  rw [hQ]
  obtain ⟨H, hH⟩ : ∃ H, s.heap = H := ⟨_, rfl⟩
  have hS : va_S A s.heap H [] := by rw [← hH]; exact hS
  rw [hH] at hP
  show W p l e rm_L_area s m args below meth c s.heap [] 0 0 Q (F0 m 0 ls [])
  suffices hg : W p l e rm_L_area s m args below meth c H [] 0 0 Q (F0 m 0 ls []) by rw [hH]; exact hg
  clear hH
  generalize hlo : ([] : List Loc) = locs at hS ⊢
  refine lv_aload_n hx hb dL_area_0 rfl (lv_at hl 2 rfl) ?_
  refine lv_iconst (v := 0) hx hb dL_area_1 (by decide) ?_
  refine lv_aload_n hx hb dL_area_2 rfl (lv_at hl 0 rfl) ?_
  refine lv_iload_n hx hb dL_area_3 rfl (lv_at hl 1 rfl) ?_
  have hPc := hP.sub (ws' := (wPla ad cI cJ cZ sl ho nu fa ou sp fn co fo ro po pn rd st tw od rn x y u sn)) [0, 1, 2, 3, 4, 5, 6, 7, 8, 9, 10, 11, 12, 13, 14, 15, 16, 17, 18, 19] rfl
  have hDc := hD.sub (ws' := (wPla ad cI cJ cZ sl ho nu fa ou sp fn co fo ro po pn rd st tw od rn x y u sn)) [0, 1, 2, 3, 4, 5, 6, 7, 8, 9, 10, 11, 12, 13, 14, 15, 16, 17, 18, 19] (by decide) rfl
  have hFc := va_free (wc := (wPla ad cI cJ cZ sl ho nu fa ou sp fn co fo ro po pn rd st tw od rn x y u sn)) hD hS hA [0, 1, 2, 3, 4, 5, 6, 7, 8, 9, 10, 11, 12, 13, 14, 15, 16, 17, 18, 19] rfl
  rcases hw with hw | hw
  · refine vx_calli (vx_runV (As := [.int v1]) (rest := [.int 0, .ref ao]) C (cx_X3_area l hst dC dI cI cJ cZ ad _ sl ho nu fa ou sp fn co fo ro po pn rd st tw od rn x y u sn v1 hw) (cwV 1 hts gL_area_X3_area rfl rfl rfl (by decide +kernel) ⟨Nat.le_of_ble_eq_true rfl, Nat.le_of_ble_eq_true rfl⟩) ⟨fb_x, va_recv hK hPc (ci := 3) (q0 := 0) rfl rfl, fun U hU hW => ⟨rfl, by rw [hU], by rw [hU]; exact hPc, va_K.moved hW.alike hK, hDc.weaken (fun _ _ _ _ => trivial), hxe.step hS hFc hU hW⟩⟩ rfl rfl hl.1 rfl (lv_room (Nat.le_of_ble_eq_true rfl)) dL_area_4 ⟨Nat.le_of_ble_eq_true rfl, Nat.le_of_ble_eq_true rfl⟩) hS (fun q _ h => hFc q h) hFc (fun q _ h => hFc q h) (fun E9 ce q9 uu t H1 locs ht hvm hpx hB hz1 hk1 hS hce hcv hcl => ?_) (fun r9 uu t H1 locs ht hvm hpost hB hz1 hk1 hS => hpost.elim)
    obtain ⟨sl_x, ho_x, nu_x, fa_x, ou_x, fn_x, co_x, fo_x, ro_x, po_x, pn_x, rd_x, st_x, tw_x, od_x, rn_x⟩ := uu
    obtain ⟨hw, hP1, hD1⟩ := hB
    rw [ht] at hP1
    try dsimp only at hw hP1 hD1
    obtain ⟨hP, hD⟩ := va_join (wr := [(ao, .inl (cJ, 1, .inr (.inl o)))]) (w1 := (wPla ad cI cJ cZ sl_x ho_x nu_x fa_x ou_x sp fn_x co_x fo_x ro_x po_x pn_x rd_x st_x tw_x od_x rn_x x y u sn)) hP hD [0, 1, 2, 3, 4, 5, 6, 7, 8, 9, 10, 11, 12, 13, 14, 15, 16, 17, 18, 19] [20] rfl rfl (by decide) (by decide) hk1 hFc hP1 hD1
    have hP := hP.sub (ws' := (wLx ad cI cJ cZ sl_x ho_x nu_x fa_x ou_x sp fn_x co_x fo_x ro_x po_x pn_x rd_x st_x tw_x od_x rn_x x y u sn ao o)) [1, 2, 3, 4, 5, 6, 7, 8, 9, 10, 11, 12, 13, 14, 15, 16, 17, 18, 19, 20, 0] rfl
    have hD := hD.sub (ws' := (wLx ad cI cJ cZ sl_x ho_x nu_x fa_x ou_x sp fn_x co_x fo_x ro_x po_x pn_x rd_x st_x tw_x od_x rn_x x y u sn ao o)) [1, 2, 3, 4, 5, 6, 7, 8, 9, 10, 11, 12, 13, 14, 15, 16, 17, 18, 19, 20, 0] (by decide) rfl
    obtain ⟨rfl, hw⟩ := hw
    refine vx_catch (E := "java/lang/IndexOutOfBoundsException") (name := "java/lang/IndexOutOfBoundsException") hown [] ⟨0, 9, 12, 21⟩ [] (by rw [hT]; rfl) (fun z hz => absurd hz List.not_mem_nil) (by decide) (by decide) (hts _ f_L_area_0) (hxe.2.2.2.2.2.1.use rfl) hce hcv hcl ?_
    refine lv_astore_n (lv' := [(3, .ref q9), (0, .ref (ad 0)), (1, .int v1), (2, .ref ao)]) hx hb dL_area_12 rfl hl (by decide) rfl (fun ls hl => ?_)
    refine lv_iconst (v := 1) hx hb dL_area_13 (by decide) ?_
    refine W.widen (k := 1) (n := 6) (Nat.le_of_ble_eq_true rfl) (Nat.le_of_ble_eq_true rfl) ?_
    rw [← hQ]
    exact W.iret (v := 1) hx hb hr (fun t ht hW => ⟨⟨_, (sl_x, ho_x, nu_x, fa_x, ou_x, fn_x, co_x, fo_x, ro_x, po_x, pn_x, rd_x, st_x, tw_x, od_x, rn_x, o), rfl, hw, by rw [ht]; exact hP, hD⟩, hS.F ht⟩) hS.2.2 dL_area_14
  · refine va_calli (va_runV (As := [.int v1]) (rest := [.int 0, .ref ao]) C (c_X3_area l dC dI cI cJ cZ ad _ sl ho nu fa ou sp fn co fo ro po pn rd st tw od rn x y u sn v1 hw) (cwV 1 hts gL_area_X3_area rfl rfl rfl (by decide +kernel) ⟨Nat.le_of_ble_eq_true rfl, Nat.le_of_ble_eq_true rfl⟩) ⟨fb_rw, va_recv hK hPc (ci := 3) (q0 := 0) rfl rfl, fun U hU hW => ⟨rfl, by rw [hU], by rw [hU]; exact hPc, va_K.moved hW.alike hK, hDc.weaken (fun _ _ _ _ => trivial)⟩⟩ rfl rfl hl.1 rfl (lv_room (Nat.le_of_ble_eq_true rfl)) dL_area_4 ⟨Nat.zero_le _, Nat.zero_le _⟩) hS (fun q _ h => hFc q h) hFc (fun r uu t H1 locs ht hvm hw hB hz1 hk1 hS => ?_)
    obtain ⟨sl_r, ho_r, nu_r, fa_r, ou_r, fn_r, co_r, fo_r, ro_r, po_r, pn_r, rd_r, st_r, tw_r, od_r, rn_r⟩ := uu
    obtain ⟨hP1, hD1⟩ := hB
    rw [ht] at hP1
    try dsimp only at hw hP1 hD1
    obtain ⟨hP, hD⟩ := va_join (wr := [(ao, .inl (cJ, 1, .inr (.inl o)))]) (w1 := (wPla ad cI cJ cZ sl_r ho_r nu_r fa_r ou_r sp fn_r co_r fo_r ro_r po_r pn_r rd_r st_r tw_r od_r rn_r x y u sn)) hP hD [0, 1, 2, 3, 4, 5, 6, 7, 8, 9, 10, 11, 12, 13, 14, 15, 16, 17, 18, 19] [20] rfl rfl (by decide) (by decide) hk1 hFc hP1 hD1
    have hP := hP.sub (ws' := (wLx ad cI cJ cZ sl_r ho_r nu_r fa_r ou_r sp fn_r co_r fo_r ro_r po_r pn_r rd_r st_r tw_r od_r rn_r x y u sn ao o)) [1, 2, 3, 4, 5, 6, 7, 8, 9, 10, 11, 12, 13, 14, 15, 16, 17, 18, 19, 20, 0] rfl
    have hD := hD.sub (ws' := (wLx ad cI cJ cZ sl_r ho_r nu_r fa_r ou_r sp fn_r co_r fo_r ro_r po_r pn_r rd_r st_r tw_r od_r rn_r x y u sn ao o)) [1, 2, 3, 4, 5, 6, 7, 8, 9, 10, 11, 12, 13, 14, 15, 16, 17, 18, 19, 20, 0] (by decide) rfl
    refine lv_i2l hx hb dL_area_7 rfl ?_
    refine va_last hx hb hK hP hD hS 20 1 rfl rfl (by unfold vp_in; decide) dL_area_8 (fun H locs hP hD hS => ?_)
    have hP : va_P (dC, dI) vwCl (wLx ad cI cJ cZ sl_r ho_r nu_r fa_r ou_r sp fn_r co_r fo_r ro_r po_r pn_r rd_r st_r tw_r od_r rn_r x y u sn ao (vp_updL o (0 : Int32).toNatClampNeg r.toInt64)) H := hP
    have hD : va_D A (wLx ad cI cJ cZ sl_r ho_r nu_r fa_r ou_r sp fn_r co_r fo_r ro_r po_r pn_r rd_r st_r tw_r od_r rn_r x y u sn ao (vp_updL o (0 : Int32).toNatClampNeg r.toInt64)) := hD
    refine lv_goto (tgt := 15) hx hb dL_area_9 (by decide) ?_
    refine lv_iconst (v := 0) hx hb dL_area_15 (by decide) ?_
    refine W.widen (k := 1) (n := 6) (Nat.le_of_ble_eq_true rfl) (Nat.le_of_ble_eq_true rfl) ?_
    rw [← hQ]
    exact W.iret (v := 0) hx hb hr (fun t ht hW => ⟨⟨_, (sl_r, ho_r, nu_r, fa_r, ou_r, fn_r, co_r, fo_r, ro_r, po_r, pn_r, rd_r, st_r, tw_r, od_r, rn_r, (vp_updL o (0 : Int32).toNatClampNeg r.toInt64)), rfl, hw, by rw [ht]; exact hP, hD⟩, hS.F ht⟩) hS.2.2 dL_area_16
abbrev rm_L_border : Room := { frames := 8, cells := 1, slots := 6, locals := 164 }
theorem f_L_border_0 : (Cond.classLink RL 21 "java/lang/IndexOutOfBoundsException") ∈ wsL_border := by decide +kernel
set_option maxRecDepth 100000 in
set_option maxHeartbeats 4000000 in
theorem c_L_border (l : Launch) (hst : l.stackTraces = false) (dC : Nat → ClassId) (dI : Nat → Nat → Nat) (cI cJ cZ : ClassId) (ad : Nat → Nat) (sz : Nat) (sl : Int32) (ho : Nat → Int32) (nu : Nat → Int32) (fa : Nat → Int32) (ou : Nat → Int32) (sp : Nat → Int32) (fn : Int32) (co : Nat → Int32) (fo : Nat → Int32) (ro : Nat → Int32) (po : Nat → Int32) (pn : Int32) (rd : Nat → Int32) (st : Nat → Int32) (tw : Nat → Int64) (od : Nat → Int32) (rn : Int32) (x : Nat → Int32) (y : Nat → Int32) (u : Nat → Int32) (sn : Int32) (ao : Nat) (o : Nat → Int64) (v1 : Int32) (v2 : Int32) {post : Int32 → Int32 → (Nat → Int32) → (Nat → Int32) → (Nat → Int32) → (Nat → Int32) → Int32 → (Nat → Int32) → (Nat → Int32) → (Nat → Int32) → (Nat → Int32) → Int32 → (Nat → Int32) → (Nat → Int32) → (Nat → Int64) → (Nat → Int32) → Int32 → (Nat → Int64) → Prop} (hw : wp_L_border sl ho nu fa ou fn co fo ro po pn rd st tw od rn x y u o v1 v2 post) : Met l yL_border wsL_border rm_L_border (va_Pc [.ref (ad 0), .int v1, .int v2, .ref ao] (fun U => U.heap.size = sz ∧ va_P (dC, dI) vwCl (wLx ad cI cJ cZ sl ho nu fa ou sp fn co fo ro po pn rd st tw od rn x y u sn ao o) U.heap ∧ va_K (dC, dI) vwCl (tyL cI cJ cZ) U ∧ va_D (fun _ => True) (wLx ad cI cJ cZ sl ho nu fa ou sp fn co fo ro po pn rd st tw od rn x y u sn ao o) ∧ xe (va_A (wLx ad cI cJ cZ sl ho nu fa ou sp fn co fo ro po pn rd st tw od rn x y u sn ao o) sz) U U.heap)) (va_Qi (fun (r : Int32) (uu : Int32 × (Nat → Int32) × (Nat → Int32) × (Nat → Int32) × (Nat → Int32) × Int32 × (Nat → Int32) × (Nat → Int32) × (Nat → Int32) × (Nat → Int32) × Int32 × (Nat → Int32) × (Nat → Int32) × (Nat → Int64) × (Nat → Int32) × Int32 × (Nat → Int64)) => post r uu.1 uu.2.1 uu.2.2.1 uu.2.2.2.1 uu.2.2.2.2.1 uu.2.2.2.2.2.1 uu.2.2.2.2.2.2.1 uu.2.2.2.2.2.2.2.1 uu.2.2.2.2.2.2.2.2.1 uu.2.2.2.2.2.2.2.2.2.1 uu.2.2.2.2.2.2.2.2.2.2.1 uu.2.2.2.2.2.2.2.2.2.2.2.1 uu.2.2.2.2.2.2.2.2.2.2.2.2.1 uu.2.2.2.2.2.2.2.2.2.2.2.2.2.1 uu.2.2.2.2.2.2.2.2.2.2.2.2.2.2.1 uu.2.2.2.2.2.2.2.2.2.2.2.2.2.2.2.1 uu.2.2.2.2.2.2.2.2.2.2.2.2.2.2.2.2) (fun (uu : Int32 × (Nat → Int32) × (Nat → Int32) × (Nat → Int32) × (Nat → Int32) × Int32 × (Nat → Int32) × (Nat → Int32) × (Nat → Int32) × (Nat → Int32) × Int32 × (Nat → Int32) × (Nat → Int32) × (Nat → Int64) × (Nat → Int32) × Int32 × (Nat → Int64)) (t : State) => va_P (dC, dI) vwCl (wLx ad cI cJ cZ uu.1 uu.2.1 uu.2.2.1 uu.2.2.2.1 uu.2.2.2.2.1 sp uu.2.2.2.2.2.1 uu.2.2.2.2.2.2.1 uu.2.2.2.2.2.2.2.1 uu.2.2.2.2.2.2.2.2.1 uu.2.2.2.2.2.2.2.2.2.1 uu.2.2.2.2.2.2.2.2.2.2.1 uu.2.2.2.2.2.2.2.2.2.2.2.1 uu.2.2.2.2.2.2.2.2.2.2.2.2.1 uu.2.2.2.2.2.2.2.2.2.2.2.2.2.1 uu.2.2.2.2.2.2.2.2.2.2.2.2.2.2.1 uu.2.2.2.2.2.2.2.2.2.2.2.2.2.2.2.1 x y u sn ao uu.2.2.2.2.2.2.2.2.2.2.2.2.2.2.2.2) t.heap ∧ va_D (va_A (wLx ad cI cJ cZ sl ho nu fa ou sp fn co fo ro po pn rd st tw od rn x y u sn ao o) sz) (wLx ad cI cJ cZ uu.1 uu.2.1 uu.2.2.1 uu.2.2.2.1 uu.2.2.2.2.1 sp uu.2.2.2.2.2.1 uu.2.2.2.2.2.2.1 uu.2.2.2.2.2.2.2.1 uu.2.2.2.2.2.2.2.2.1 uu.2.2.2.2.2.2.2.2.2.1 uu.2.2.2.2.2.2.2.2.2.2.1 uu.2.2.2.2.2.2.2.2.2.2.2.1 uu.2.2.2.2.2.2.2.2.2.2.2.2.1 uu.2.2.2.2.2.2.2.2.2.2.2.2.2.1 uu.2.2.2.2.2.2.2.2.2.2.2.2.2.2.1 uu.2.2.2.2.2.2.2.2.2.2.2.2.2.2.2.1 x y u sn ao uu.2.2.2.2.2.2.2.2.2.2.2.2.2.2.2.2)) (va_A (wLx ad cI cJ cZ sl ho nu fa ou sp fn co fo ro po pn rd st tw od rn x y u sn ao o) sz)) 1 6 (va_A (wLx ad cI cJ cZ sl ho nu fa ou sp fn co fo ro po pn rd st tw od rn x y u sn ao o) sz) := by
  unfold wp_L_border at hw
  refine va_MetW (cc := cL_border) (maxL := 5) (ret := (some .int)) (hh := [(0, 10, 13, 21)]) (by decide) rfl ?_
  intro p e s m args below meth c s₁ B hml hv
  obtain ⟨hav, hsz, hP, hK, hD0, hxe⟩ := hv
  have hx := B.exec
  have hb := B.bytes
  have hr := B.returns
  have hts := atoms_spec (ws := wsL_border) B.pre
  have hT := vx_table (x := yL_border) B (hts (.codeWith yL_border cL_border 5 (some .int) [(0, 10, 13, 21)]) List.mem_cons_self)
  have hown : s.vm.findClass RL = some m.cls := findClass_of_methodNamed B.named
  have hlocks := B.notSynchronized
  have C : CallFix p m c cL_border 5 s args wsL_border RL := ⟨hx, hb, hml, hown, hts⟩
  obtain ⟨ls, hE, hl⟩ := mx_entry (m := m) [.ref (ad 0), .int v1, .int v2, .ref ao] (n := 5) (Nat.le_of_ble_eq_true rfl)
  have hl : lv_has ls 5 [(0, .ref (ad 0)), (1, .int v1), (2, .int v2), (3, .ref ao)] := hl
  rw [show entryFrame m args 5 = F0 m 0 ls [] by rw [hav]; exact hE]
  subst hsz
  have hD := hD0.self (sz := s.heap.size)
  generalize hAe : va_A (wLx ad cI cJ cZ sl ho nu fa ou sp fn co fo ro po pn rd st tw od rn x y u sn ao o) s.heap.size = A at hD hxe ⊢
  have hA : ∀ q : Nat, s.heap.size ≤ q → A q := fun q h => by rw [← hAe]; exact Or.inr h
  have hS : va_S A s.heap s.heap [] := va_S.rf
  obtain ⟨Q, hQ⟩ : ∃ Q, MQ below (va_Qi (fun (r : Int32) (uu : Int32 × (Nat → Int32) × (Nat → Int32) × (Nat → Int32) × (Nat → Int32) × Int32 × (Nat → Int32) × (Nat → Int32) × (Nat → Int32) × (Nat → Int32) × Int32 × (Nat → Int32) × (Nat → Int32) × (Nat → Int64) × (Nat → Int32) × Int32 × (Nat → Int64)) => post r uu.1 uu.2.1 uu.2.2.1 uu.2.2.2.1 uu.2.2.2.2.1 uu.2.2.2.2.2.1 uu.2.2.2.2.2.2.1 uu.2.2.2.2.2.2.2.1 uu.2.2.2.2.2.2.2.2.1 uu.2.2.2.2.2.2.2.2.2.1 uu.2.2.2.2.2.2.2.2.2.2.1 uu.2.2.2.2.2.2.2.2.2.2.2.1 uu.2.2.2.2.2.2.2.2.2.2.2.2.1 uu.2.2.2.2.2.2.2.2.2.2.2.2.2.1 uu.2.2.2.2.2.2.2.2.2.2.2.2.2.2.1 uu.2.2.2.2.2.2.2.2.2.2.2.2.2.2.2.1 uu.2.2.2.2.2.2.2.2.2.2.2.2.2.2.2.2) (fun (uu : Int32 × (Nat → Int32) × (Nat → Int32) × (Nat → Int32) × (Nat → Int32) × Int32 × (Nat → Int32) × (Nat → Int32) × (Nat → Int32) × (Nat → Int32) × Int32 × (Nat → Int32) × (Nat → Int32) × (Nat → Int64) × (Nat → Int32) × Int32 × (Nat → Int64)) (t : State) => va_P (dC, dI) vwCl (wLx ad cI cJ cZ uu.1 uu.2.1 uu.2.2.1 uu.2.2.2.1 uu.2.2.2.2.1 sp uu.2.2.2.2.2.1 uu.2.2.2.2.2.2.1 uu.2.2.2.2.2.2.2.1 uu.2.2.2.2.2.2.2.2.1 uu.2.2.2.2.2.2.2.2.2.1 uu.2.2.2.2.2.2.2.2.2.2.1 uu.2.2.2.2.2.2.2.2.2.2.2.1 uu.2.2.2.2.2.2.2.2.2.2.2.2.1 uu.2.2.2.2.2.2.2.2.2.2.2.2.2.1 uu.2.2.2.2.2.2.2.2.2.2.2.2.2.2.1 uu.2.2.2.2.2.2.2.2.2.2.2.2.2.2.2.1 x y u sn ao uu.2.2.2.2.2.2.2.2.2.2.2.2.2.2.2.2) t.heap ∧ va_D A (wLx ad cI cJ cZ uu.1 uu.2.1 uu.2.2.1 uu.2.2.2.1 uu.2.2.2.2.1 sp uu.2.2.2.2.2.1 uu.2.2.2.2.2.2.1 uu.2.2.2.2.2.2.2.1 uu.2.2.2.2.2.2.2.2.1 uu.2.2.2.2.2.2.2.2.2.1 uu.2.2.2.2.2.2.2.2.2.2.1 uu.2.2.2.2.2.2.2.2.2.2.2.1 uu.2.2.2.2.2.2.2.2.2.2.2.2.1 uu.2.2.2.2.2.2.2.2.2.2.2.2.2.1 uu.2.2.2.2.2.2.2.2.2.2.2.2.2.2.1 uu.2.2.2.2.2.2.2.2.2.2.2.2.2.2.2.1 x y u sn ao uu.2.2.2.2.2.2.2.2.2.2.2.2.2.2.2.2)) A) args s 1 6 A = Q := ⟨_, rfl⟩
  rw [hQ]
  obtain ⟨H, hH⟩ : ∃ H, s.heap = H := ⟨_, rfl⟩
  have hS : va_S A s.heap H [] := by rw [← hH]; exact hS
  rw [hH] at hP
  show W p l e rm_L_border s m args below meth c s.heap [] 0 0 Q (F0 m 0 ls [])
  suffices hg : W p l e rm_L_border s m args below meth c H [] 0 0 Q (F0 m 0 ls []) by rw [hH]; exact hg
  clear hH
  generalize hlo : ([] : List Loc) = locs at hS ⊢
  refine lv_aload_n hx hb dL_border_0 rfl (lv_at hl 3 rfl) ?_
  refine lv_iconst (v := 0) hx hb dL_border_1 (by decide) ?_
  refine lv_aload_n hx hb dL_border_2 rfl (lv_at hl 0 rfl) ?_
  refine lv_iload_n hx hb dL_border_3 rfl (lv_at hl 1 rfl) ?_
  refine lv_iload_n hx hb dL_border_4 rfl (lv_at hl 2 rfl) ?_
  have hPc := hP.sub (ws' := (wPla ad cI cJ cZ sl ho nu fa ou sp fn co fo ro po pn rd st tw od rn x y u sn)) [0, 1, 2, 3, 4, 5, 6, 7, 8, 9, 10, 11, 12, 13, 14, 15, 16, 17, 18, 19] rfl
  have hDc := hD.sub (ws' := (wPla ad cI cJ cZ sl ho nu fa ou sp fn co fo ro po pn rd st tw od rn x y u sn)) [0, 1, 2, 3, 4, 5, 6, 7, 8, 9, 10, 11, 12, 13, 14, 15, 16, 17, 18, 19] (by decide) rfl
  have hFc := va_free (wc := (wPla ad cI cJ cZ sl ho nu fa ou sp fn co fo ro po pn rd st tw od rn x y u sn)) hD hS hA [0, 1, 2, 3, 4, 5, 6, 7, 8, 9, 10, 11, 12, 13, 14, 15, 16, 17, 18, 19] rfl
  rcases hw with hw | hw
  · refine vx_calli (vx_runV (As := [.int v1, .int v2]) (rest := [.int 0, .ref ao]) C (cx_X3_border l hst dC dI cI cJ cZ ad _ sl ho nu fa ou sp fn co fo ro po pn rd st tw od rn x y u sn v1 v2 hw) (cwV 2 hts gL_border_X3_border rfl rfl rfl (by decide +kernel) ⟨Nat.le_of_ble_eq_true rfl, Nat.le_of_ble_eq_true rfl⟩) ⟨fb_x, va_recv hK hPc (ci := 3) (q0 := 0) rfl rfl, fun U hU hW => ⟨rfl, by rw [hU], by rw [hU]; exact hPc, va_K.moved hW.alike hK, hDc.weaken (fun _ _ _ _ => trivial), hxe.step hS hFc hU hW⟩⟩ rfl rfl hl.1 rfl (lv_room (Nat.le_of_ble_eq_true rfl)) dL_border_5 ⟨Nat.le_of_ble_eq_true rfl, Nat.le_of_ble_eq_true rfl⟩) hS (fun q _ h => hFc q h) hFc (fun q _ h => hFc q h) (fun E9 ce q9 uu t H1 locs ht hvm hpx hB hz1 hk1 hS hce hcv hcl => ?_) (fun r9 uu t H1 locs ht hvm hpost hB hz1 hk1 hS => hpost.elim)
    obtain ⟨sl_x, ho_x, nu_x, fa_x, ou_x, fn_x, co_x, fo_x, ro_x, po_x, pn_x, rd_x, st_x, tw_x, od_x, rn_x⟩ := uu
    obtain ⟨hw, hP1, hD1⟩ := hB
    rw [ht] at hP1
    try dsimp only at hw hP1 hD1
    obtain ⟨hP, hD⟩ := va_join (wr := [(ao, .inl (cJ, 1, .inr (.inl o)))]) (w1 := (wPla ad cI cJ cZ sl_x ho_x nu_x fa_x ou_x sp fn_x co_x fo_x ro_x po_x pn_x rd_x st_x tw_x od_x rn_x x y u sn)) hP hD [0, 1, 2, 3, 4, 5, 6, 7, 8, 9, 10, 11, 12, 13, 14, 15, 16, 17, 18, 19] [20] rfl rfl (by decide) (by decide) hk1 hFc hP1 hD1
    have hP := hP.sub (ws' := (wLx ad cI cJ cZ sl_x ho_x nu_x fa_x ou_x sp fn_x co_x fo_x ro_x po_x pn_x rd_x st_x tw_x od_x rn_x x y u sn ao o)) [1, 2, 3, 4, 5, 6, 7, 8, 9, 10, 11, 12, 13, 14, 15, 16, 17, 18, 19, 20, 0] rfl
    have hD := hD.sub (ws' := (wLx ad cI cJ cZ sl_x ho_x nu_x fa_x ou_x sp fn_x co_x fo_x ro_x po_x pn_x rd_x st_x tw_x od_x rn_x x y u sn ao o)) [1, 2, 3, 4, 5, 6, 7, 8, 9, 10, 11, 12, 13, 14, 15, 16, 17, 18, 19, 20, 0] (by decide) rfl
    obtain ⟨rfl, hw⟩ := hw
    refine vx_catch (E := "java/lang/IndexOutOfBoundsException") (name := "java/lang/IndexOutOfBoundsException") hown [] ⟨0, 10, 13, 21⟩ [] (by rw [hT]; rfl) (fun z hz => absurd hz List.not_mem_nil) (by decide) (by decide) (hts _ f_L_border_0) (hxe.2.2.2.2.2.1.use rfl) hce hcv hcl ?_
    refine lv_astore (lv' := [(4, .ref q9), (0, .ref (ad 0)), (1, .int v1), (2, .int v2), (3, .ref ao)]) hx hb dL_border_13 hl (by decide) rfl (fun ls hl => ?_)
    refine lv_iconst (v := 1) hx hb dL_border_15 (by decide) ?_
    refine W.widen (k := 1) (n := 6) (Nat.le_of_ble_eq_true rfl) (Nat.le_of_ble_eq_true rfl) ?_
    rw [← hQ]
    exact W.iret (v := 1) hx hb hr (fun t ht hW => ⟨⟨_, (sl_x, ho_x, nu_x, fa_x, ou_x, fn_x, co_x, fo_x, ro_x, po_x, pn_x, rd_x, st_x, tw_x, od_x, rn_x, o), rfl, hw, by rw [ht]; exact hP, hD⟩, hS.F ht⟩) hS.2.2 dL_border_16
  · refine va_calli (va_runV (As := [.int v1, .int v2]) (rest := [.int 0, .ref ao]) C (c_X3_border l dC dI cI cJ cZ ad _ sl ho nu fa ou sp fn co fo ro po pn rd st tw od rn x y u sn v1 v2 hw) (cwV 2 hts gL_border_X3_border rfl rfl rfl (by decide +kernel) ⟨Nat.le_of_ble_eq_true rfl, Nat.le_of_ble_eq_true rfl⟩) ⟨fb_rw, va_recv hK hPc (ci := 3) (q0 := 0) rfl rfl, fun U hU hW => ⟨rfl, by rw [hU], by rw [hU]; exact hPc, va_K.moved hW.alike hK, hDc.weaken (fun _ _ _ _ => trivial)⟩⟩ rfl rfl hl.1 rfl (lv_room (Nat.le_of_ble_eq_true rfl)) dL_border_5 ⟨Nat.zero_le _, Nat.zero_le _⟩) hS (fun q _ h => hFc q h) hFc (fun r uu t H1 locs ht hvm hw hB hz1 hk1 hS => ?_)
    obtain ⟨sl_r, ho_r, nu_r, fa_r, ou_r, fn_r, co_r, fo_r, ro_r, po_r, pn_r, rd_r, st_r, tw_r, od_r, rn_r⟩ := uu
    obtain ⟨hP1, hD1⟩ := hB
    rw [ht] at hP1
    try dsimp only at hw hP1 hD1
    obtain ⟨hP, hD⟩ := va_join (wr := [(ao, .inl (cJ, 1, .inr (.inl o)))]) (w1 := (wPla ad cI cJ cZ sl_r ho_r nu_r fa_r ou_r sp fn_r co_r fo_r ro_r po_r pn_r rd_r st_r tw_r od_r rn_r x y u sn)) hP hD [0, 1, 2, 3, 4, 5, 6, 7, 8, 9, 10, 11, 12, 13, 14, 15, 16, 17, 18, 19] [20] rfl rfl (by decide) (by decide) hk1 hFc hP1 hD1
    have hP := hP.sub (ws' := (wLx ad cI cJ cZ sl_r ho_r nu_r fa_r ou_r sp fn_r co_r fo_r ro_r po_r pn_r rd_r st_r tw_r od_r rn_r x y u sn ao o)) [1, 2, 3, 4, 5, 6, 7, 8, 9, 10, 11, 12, 13, 14, 15, 16, 17, 18, 19, 20, 0] rfl
    have hD := hD.sub (ws' := (wLx ad cI cJ cZ sl_r ho_r nu_r fa_r ou_r sp fn_r co_r fo_r ro_r po_r pn_r rd_r st_r tw_r od_r rn_r x y u sn ao o)) [1, 2, 3, 4, 5, 6, 7, 8, 9, 10, 11, 12, 13, 14, 15, 16, 17, 18, 19, 20, 0] (by decide) rfl
    refine lv_i2l hx hb dL_border_8 rfl ?_
    refine va_last hx hb hK hP hD hS 20 1 rfl rfl (by unfold vp_in; decide) dL_border_9 (fun H locs hP hD hS => ?_)
    have hP : va_P (dC, dI) vwCl (wLx ad cI cJ cZ sl_r ho_r nu_r fa_r ou_r sp fn_r co_r fo_r ro_r po_r pn_r rd_r st_r tw_r od_r rn_r x y u sn ao (vp_updL o (0 : Int32).toNatClampNeg r.toInt64)) H := hP
    have hD : va_D A (wLx ad cI cJ cZ sl_r ho_r nu_r fa_r ou_r sp fn_r co_r fo_r ro_r po_r pn_r rd_r st_r tw_r od_r rn_r x y u sn ao (vp_updL o (0 : Int32).toNatClampNeg r.toInt64)) := hD
    refine lv_goto (tgt := 17) hx hb dL_border_10 (by decide) ?_
    refine lv_iconst (v := 0) hx hb dL_border_17 (by decide) ?_
    refine W.widen (k := 1) (n := 6) (Nat.le_of_ble_eq_true rfl) (Nat.le_of_ble_eq_true rfl) ?_
    rw [← hQ]
    exact W.iret (v := 0) hx hb hr (fun t ht hW => ⟨⟨_, (sl_r, ho_r, nu_r, fa_r, ou_r, fn_r, co_r, fo_r, ro_r, po_r, pn_r, rd_r, st_r, tw_r, od_r, rn_r, (vp_updL o (0 : Int32).toNatClampNeg r.toInt64)), rfl, hw, by rw [ht]; exact hP, hD⟩, hS.F ht⟩) hS.2.2 dL_border_18
abbrev rm_L_locate : Room := { frames := 8, cells := 1, slots := 6, locals := 166 }
theorem f_L_locate_0 : (Cond.classLink RL 13 "java/lang/IllegalArgumentException") ∈ wsL_locate := by decide +kernel
set_option maxRecDepth 100000 in
set_option maxHeartbeats 4000000 in
theorem c_L_locate (l : Launch) (hst : l.stackTraces = false) (dC : Nat → ClassId) (dI : Nat → Nat → Nat) (cI cJ cZ : ClassId) (ad : Nat → Nat) (sz : Nat) (sl : Int32) (ho : Nat → Int32) (nu : Nat → Int32) (fa : Nat → Int32) (ou : Nat → Int32) (sp : Nat → Int32) (fn : Int32) (co : Nat → Int32) (fo : Nat → Int32) (ro : Nat → Int32) (po : Nat → Int32) (pn : Int32) (rd : Nat → Int32) (st : Nat → Int32) (tw : Nat → Int64) (od : Nat → Int32) (rn : Int32) (x : Nat → Int32) (y : Nat → Int32) (u : Nat → Int32) (sn : Int32) (ao : Nat) (o : Nat → Int64) (v1 : Int32) (v2 : Int32) {post : Int32 → Int32 → (Nat → Int32) → (Nat → Int32) → (Nat → Int32) → (Nat → Int32) → Int32 → (Nat → Int32) → (Nat → Int32) → (Nat → Int32) → (Nat → Int32) → Int32 → (Nat → Int32) → (Nat → Int32) → (Nat → Int64) → (Nat → Int32) → Int32 → (Nat → Int64) → Prop} (hw : wp_L_locate sl ho nu fa ou fn co fo ro po pn rd st tw od rn x y u o v1 v2 post) : Met l yL_locate wsL_locate rm_L_locate (va_Pc [.ref (ad 0), .int v1, .int v2, .ref ao] (fun U => U.heap.size = sz ∧ va_P (dC, dI) vwCl (wLx ad cI cJ cZ sl ho nu fa ou sp fn co fo ro po pn rd st tw od rn x y u sn ao o) U.heap ∧ va_K (dC, dI) vwCl (tyL cI cJ cZ) U ∧ va_D (fun _ => True) (wLx ad cI cJ cZ sl ho nu fa ou sp fn co fo ro po pn rd st tw od rn x y u sn ao o) ∧ xe (va_A (wLx ad cI cJ cZ sl ho nu fa ou sp fn co fo ro po pn rd st tw od rn x y u sn ao o) sz) U U.heap)) (va_Qi (fun (r : Int32) (uu : Int32 × (Nat → Int32) × (Nat → Int32) × (Nat → Int32) × (Nat → Int32) × Int32 × (Nat → Int32) × (Nat → Int32) × (Nat → Int32) × (Nat → Int32) × Int32 × (Nat → Int32) × (Nat → Int32) × (Nat → Int64) × (Nat → Int32) × Int32 × (Nat → Int64)) => post r uu.1 uu.2.1 uu.2.2.1 uu.2.2.2.1 uu.2.2.2.2.1 uu.2.2.2.2.2.1 uu.2.2.2.2.2.2.1 uu.2.2.2.2.2.2.2.1 uu.2.2.2.2.2.2.2.2.1 uu.2.2.2.2.2.2.2.2.2.1 uu.2.2.2.2.2.2.2.2.2.2.1 uu.2.2.2.2.2.2.2.2.2.2.2.1 uu.2.2.2.2.2.2.2.2.2.2.2.2.1 uu.2.2.2.2.2.2.2.2.2.2.2.2.2.1 uu.2.2.2.2.2.2.2.2.2.2.2.2.2.2.1 uu.2.2.2.2.2.2.2.2.2.2.2.2.2.2.2.1 uu.2.2.2.2.2.2.2.2.2.2.2.2.2.2.2.2) (fun (uu : Int32 × (Nat → Int32) × (Nat → Int32) × (Nat → Int32) × (Nat → Int32) × Int32 × (Nat → Int32) × (Nat → Int32) × (Nat → Int32) × (Nat → Int32) × Int32 × (Nat → Int32) × (Nat → Int32) × (Nat → Int64) × (Nat → Int32) × Int32 × (Nat → Int64)) (t : State) => va_P (dC, dI) vwCl (wLx ad cI cJ cZ uu.1 uu.2.1 uu.2.2.1 uu.2.2.2.1 uu.2.2.2.2.1 sp uu.2.2.2.2.2.1 uu.2.2.2.2.2.2.1 uu.2.2.2.2.2.2.2.1 uu.2.2.2.2.2.2.2.2.1 uu.2.2.2.2.2.2.2.2.2.1 uu.2.2.2.2.2.2.2.2.2.2.1 uu.2.2.2.2.2.2.2.2.2.2.2.1 uu.2.2.2.2.2.2.2.2.2.2.2.2.1 uu.2.2.2.2.2.2.2.2.2.2.2.2.2.1 uu.2.2.2.2.2.2.2.2.2.2.2.2.2.2.1 uu.2.2.2.2.2.2.2.2.2.2.2.2.2.2.2.1 x y u sn ao uu.2.2.2.2.2.2.2.2.2.2.2.2.2.2.2.2) t.heap ∧ va_D (va_A (wLx ad cI cJ cZ sl ho nu fa ou sp fn co fo ro po pn rd st tw od rn x y u sn ao o) sz) (wLx ad cI cJ cZ uu.1 uu.2.1 uu.2.2.1 uu.2.2.2.1 uu.2.2.2.2.1 sp uu.2.2.2.2.2.1 uu.2.2.2.2.2.2.1 uu.2.2.2.2.2.2.2.1 uu.2.2.2.2.2.2.2.2.1 uu.2.2.2.2.2.2.2.2.2.1 uu.2.2.2.2.2.2.2.2.2.2.1 uu.2.2.2.2.2.2.2.2.2.2.2.1 uu.2.2.2.2.2.2.2.2.2.2.2.2.1 uu.2.2.2.2.2.2.2.2.2.2.2.2.2.1 uu.2.2.2.2.2.2.2.2.2.2.2.2.2.2.1 uu.2.2.2.2.2.2.2.2.2.2.2.2.2.2.2.1 x y u sn ao uu.2.2.2.2.2.2.2.2.2.2.2.2.2.2.2.2)) (va_A (wLx ad cI cJ cZ sl ho nu fa ou sp fn co fo ro po pn rd st tw od rn x y u sn ao o) sz)) 1 6 (va_A (wLx ad cI cJ cZ sl ho nu fa ou sp fn co fo ro po pn rd st tw od rn x y u sn ao o) sz) := by
  unfold wp_L_locate at hw
  refine va_MetW (cc := cL_locate) (maxL := 5) (ret := (some .int)) (hh := [(0, 10, 13, 13)]) (by decide) rfl ?_
  intro p e s m args below meth c s₁ B hml hv
  obtain ⟨hav, hsz, hP, hK, hD0, hxe⟩ := hv
  have hx := B.exec
  have hb := B.bytes
  have hr := B.returns
  have hts := atoms_spec (ws := wsL_locate) B.pre
  have hT := vx_table (x := yL_locate) B (hts (.codeWith yL_locate cL_locate 5 (some .int) [(0, 10, 13, 13)]) List.mem_cons_self)
  have hown : s.vm.findClass RL = some m.cls := findClass_of_methodNamed B.named
  have hlocks := B.notSynchronized
  have C : CallFix p m c cL_locate 5 s args wsL_locate RL := ⟨hx, hb, hml, hown, hts⟩
  obtain ⟨ls, hE, hl⟩ := mx_entry (m := m) [.ref (ad 0), .int v1, .int v2, .ref ao] (n := 5) (Nat.le_of_ble_eq_true rfl)
  have hl : lv_has ls 5 [(0, .ref (ad 0)), (1, .int v1), (2, .int v2), (3, .ref ao)] := hl
  rw [show entryFrame m args 5 = F0 m 0 ls [] by rw [hav]; exact hE]
  subst hsz
  have hD := hD0.self (sz := s.heap.size)
  generalize hAe : va_A (wLx ad cI cJ cZ sl ho nu fa ou sp fn co fo ro po pn rd st tw od rn x y u sn ao o) s.heap.size = A at hD hxe ⊢
  have hA : ∀ q : Nat, s.heap.size ≤ q → A q := fun q h => by rw [← hAe]; exact Or.inr h
  have hS : va_S A s.heap s.heap [] := va_S.rf
  obtain ⟨Q, hQ⟩ : ∃ Q, MQ below (va_Qi (fun (r : Int32) (uu : Int32 × (Nat → Int32) × (Nat → Int32) × (Nat → Int32) × (Nat → Int32) × Int32 × (Nat → Int32) × (Nat → Int32) × (Nat → Int32) × (Nat → Int32) × Int32 × (Nat → Int32) × (Nat → Int32) × (Nat → Int64) × (Nat → Int32) × Int32 × (Nat → Int64)) => post r uu.1 uu.2.1 uu.2.2.1 uu.2.2.2.1 uu.2.2.2.2.1 uu.2.2.2.2.2.1 uu.2.2.2.2.2.2.1 uu.2.2.2.2.2.2.2.1 uu.2.2.2.2.2.2.2.2.1 uu.2.2.2.2.2.2.2.2.2.1 uu.2.2.2.2.2.2.2.2.2.2.1 uu.2.2.2.2.2.2.2.2.2.2.2.1 uu.2.2.2.2.2.2.2.2.2.2.2.2.1 uu.2.2.2.2.2.2.2.2.2.2.2.2.2.1 uu.2.2.2.2.2.2.2.2.2.2.2.2.2.2.1 uu.2.2.2.2.2.2.2.2.2.2.2.2.2.2.2.1 uu.2.2.2.2.2.2.2.2.2.2.2.2.2.2.2.2) (fun (uu : Int32 × (Nat → Int32) × (Nat → Int32) × (Nat → Int32) × (Nat → Int32) × Int32 × (Nat → Int32) × (Nat → Int32) × (Nat → Int32) × (Nat → Int32) × Int32 × (Nat → Int32) × (Nat → Int32) × (Nat → Int64) × (Nat → Int32) × Int32 × (Nat → Int64)) (t : State) => va_P (dC, dI) vwCl (wLx ad cI cJ cZ uu.1 uu.2.1 uu.2.2.1 uu.2.2.2.1 uu.2.2.2.2.1 sp uu.2.2.2.2.2.1 uu.2.2.2.2.2.2.1 uu.2.2.2.2.2.2.2.1 uu.2.2.2.2.2.2.2.2.1 uu.2.2.2.2.2.2.2.2.2.1 uu.2.2.2.2.2.2.2.2.2.2.1 uu.2.2.2.2.2.2.2.2.2.2.2.1 uu.2.2.2.2.2.2.2.2.2.2.2.2.1 uu.2.2.2.2.2.2.2.2.2.2.2.2.2.1 uu.2.2.2.2.2.2.2.2.2.2.2.2.2.2.1 uu.2.2.2.2.2.2.2.2.2.2.2.2.2.2.2.1 x y u sn ao uu.2.2.2.2.2.2.2.2.2.2.2.2.2.2.2.2) t.heap ∧ va_D A (wLx ad cI cJ cZ uu.1 uu.2.1 uu.2.2.1 uu.2.2.2.1 uu.2.2.2.2.1 sp uu.2.2.2.2.2.1 uu.2.2.2.2.2.2.1 uu.2.2.2.2.2.2.2.1 uu.2.2.2.2.2.2.2.2.1 uu.2.2.2.2.2.2.2.2.2.1 uu.2.2.2.2.2.2.2.2.2.2.1 uu.2.2.2.2.2.2.2.2.2.2.2.1 uu.2.2.2.2.2.2.2.2.2.2.2.2.1 uu.2.2.2.2.2.2.2.2.2.2.2.2.2.1 uu.2.2.2.2.2.2.2.2.2.2.2.2.2.2.1 uu.2.2.2.2.2.2.2.2.2.2.2.2.2.2.2.1 x y u sn ao uu.2.2.2.2.2.2.2.2.2.2.2.2.2.2.2.2)) A) args s 1 6 A = Q := ⟨_, rfl⟩
  rw [hQ]
  obtain ⟨H, hH⟩ : ∃ H, s.heap = H := ⟨_, rfl⟩
  have hS : va_S A s.heap H [] := by rw [← hH]; exact hS
  rw [hH] at hP
  show W p l e rm_L_locate s m args below meth c s.heap [] 0 0 Q (F0 m 0 ls [])
  suffices hg : W p l e rm_L_locate s m args below meth c H [] 0 0 Q (F0 m 0 ls []) by rw [hH]; exact hg
  clear hH
  generalize hlo : ([] : List Loc) = locs at hS ⊢
  refine lv_aload_n hx hb dL_locate_0 rfl (lv_at hl 3 rfl) ?_
  refine lv_iconst (v := 0) hx hb dL_locate_1 (by decide) ?_
  refine lv_aload_n hx hb dL_locate_2 rfl (lv_at hl 0 rfl) ?_
  refine lv_iload_n hx hb dL_locate_3 rfl (lv_at hl 1 rfl) ?_
  refine lv_iload_n hx hb dL_locate_4 rfl (lv_at hl 2 rfl) ?_
  have hPc := hP.sub (ws' := (wPla ad cI cJ cZ sl ho nu fa ou sp fn co fo ro po pn rd st tw od rn x y u sn)) [0, 1, 2, 3, 4, 5, 6, 7, 8, 9, 10, 11, 12, 13, 14, 15, 16, 17, 18, 19] rfl
  have hDc := hD.sub (ws' := (wPla ad cI cJ cZ sl ho nu fa ou sp fn co fo ro po pn rd st tw od rn x y u sn)) [0, 1, 2, 3, 4, 5, 6, 7, 8, 9, 10, 11, 12, 13, 14, 15, 16, 17, 18, 19] (by decide) rfl
  have hFc := va_free (wc := (wPla ad cI cJ cZ sl ho nu fa ou sp fn co fo ro po pn rd st tw od rn x y u sn)) hD hS hA [0, 1, 2, 3, 4, 5, 6, 7, 8, 9, 10, 11, 12, 13, 14, 15, 16, 17, 18, 19] rfl
  rcases hw with hw | hw
  · refine vx_calli (vx_runV (As := [.int v1, .int v2]) (rest := [.int 0, .ref ao]) C (cx_X3_locate l hst dC dI cI cJ cZ ad _ sl ho nu fa ou sp fn co fo ro po pn rd st tw od rn x y u sn v1 v2 hw) (cwV 2 hts gL_locate_X3_locate rfl rfl rfl (by decide +kernel) ⟨Nat.le_of_ble_eq_true rfl, Nat.le_of_ble_eq_true rfl⟩) ⟨fb_x, va_recv hK hPc (ci := 3) (q0 := 0) rfl rfl, fun U hU hW => ⟨rfl, by rw [hU], by rw [hU]; exact hPc, va_K.moved hW.alike hK, hDc.weaken (fun _ _ _ _ => trivial), hxe.step hS hFc hU hW⟩⟩ rfl rfl hl.1 rfl (lv_room (Nat.le_of_ble_eq_true rfl)) dL_locate_5 ⟨Nat.le_of_ble_eq_true rfl, Nat.le_of_ble_eq_true rfl⟩) hS (fun q _ h => hFc q h) hFc (fun q _ h => hFc q h) (fun E9 ce q9 uu t H1 locs ht hvm hpx hB hz1 hk1 hS hce hcv hcl => ?_) (fun r9 uu t H1 locs ht hvm hpost hB hz1 hk1 hS => hpost.elim)
    obtain ⟨sl_x, ho_x, nu_x, fa_x, ou_x, fn_x, co_x, fo_x, ro_x, po_x, pn_x, rd_x, st_x, tw_x, od_x, rn_x⟩ := uu
    obtain ⟨hw, hP1, hD1⟩ := hB
    rw [ht] at hP1
    try dsimp only at hw hP1 hD1
    obtain ⟨hP, hD⟩ := va_join (wr := [(ao, .inl (cJ, 1, .inr (.inl o)))]) (w1 := (wPla ad cI cJ cZ sl_x ho_x nu_x fa_x ou_x sp fn_x co_x fo_x ro_x po_x pn_x rd_x st_x tw_x od_x rn_x x y u sn)) hP hD [0, 1, 2, 3, 4, 5, 6, 7, 8, 9, 10, 11, 12, 13, 14, 15, 16, 17, 18, 19] [20] rfl rfl (by decide) (by decide) hk1 hFc hP1 hD1
    have hP := hP.sub (ws' := (wLx ad cI cJ cZ sl_x ho_x nu_x fa_x ou_x sp fn_x co_x fo_x ro_x po_x pn_x rd_x st_x tw_x od_x rn_x x y u sn ao o)) [1, 2, 3, 4, 5, 6, 7, 8, 9, 10, 11, 12, 13, 14, 15, 16, 17, 18, 19, 20, 0] rfl
    have hD := hD.sub (ws' := (wLx ad cI cJ cZ sl_x ho_x nu_x fa_x ou_x sp fn_x co_x fo_x ro_x po_x pn_x rd_x st_x tw_x od_x rn_x x y u sn ao o)) [1, 2, 3, 4, 5, 6, 7, 8, 9, 10, 11, 12, 13, 14, 15, 16, 17, 18, 19, 20, 0] (by decide) rfl
    obtain ⟨rfl, hw⟩ := hw
    refine vx_catch (E := "java/lang/IllegalArgumentException") (name := "java/lang/IllegalArgumentException") hown [] ⟨0, 10, 13, 13⟩ [] (by rw [hT]; rfl) (fun z hz => absurd hz List.not_mem_nil) (by decide) (by decide) (hts _ f_L_locate_0) (hxe.2.2.2.1.use rfl) hce hcv hcl ?_
    refine lv_astore (lv' := [(4, .ref q9), (0, .ref (ad 0)), (1, .int v1), (2, .int v2), (3, .ref ao)]) hx hb dL_locate_13 hl (by decide) rfl (fun ls hl => ?_)
    refine lv_iconst (v := 1) hx hb dL_locate_15 (by decide) ?_
    refine W.widen (k := 1) (n := 6) (Nat.le_of_ble_eq_true rfl) (Nat.le_of_ble_eq_true rfl) ?_
    rw [← hQ]
    exact W.iret (v := 1) hx hb hr (fun t ht hW => ⟨⟨_, (sl_x, ho_x, nu_x, fa_x, ou_x, fn_x, co_x, fo_x, ro_x, po_x, pn_x, rd_x, st_x, tw_x, od_x, rn_x, o), rfl, hw, by rw [ht]; exact hP, hD⟩, hS.F ht⟩) hS.2.2 dL_locate_16
  · refine va_calli (va_runV (As := [.int v1, .int v2]) (rest := [.int 0, .ref ao]) C (c_X3_locate l dC dI cI cJ cZ ad _ sl ho nu fa ou sp fn co fo ro po pn rd st tw od rn x y u sn v1 v2 hw) (cwV 2 hts gL_locate_X3_locate rfl rfl rfl (by decide +kernel) ⟨Nat.le_of_ble_eq_true rfl, Nat.le_of_ble_eq_true rfl⟩) ⟨fb_rw, va_recv hK hPc (ci := 3) (q0 := 0) rfl rfl, fun U hU hW => ⟨rfl, by rw [hU], by rw [hU]; exact hPc, va_K.moved hW.alike hK, hDc.weaken (fun _ _ _ _ => trivial)⟩⟩ rfl rfl hl.1 rfl (lv_room (Nat.le_of_ble_eq_true rfl)) dL_locate_5 ⟨Nat.zero_le _, Nat.zero_le _⟩) hS (fun q _ h => hFc q h) hFc (fun r uu t H1 locs ht hvm hw hB hz1 hk1 hS => ?_)
    obtain ⟨sl_r, ho_r, nu_r, fa_r, ou_r, fn_r, co_r, fo_r, ro_r, po_r, pn_r, rd_r, st_r, tw_r, od_r, rn_r⟩ := uu
    obtain ⟨hP1, hD1⟩ := hB
    rw [ht] at hP1
    try dsimp only at hw hP1 hD1
    obtain ⟨hP, hD⟩ := va_join (wr := [(ao, .inl (cJ, 1, .inr (.inl o)))]) (w1 := (wPla ad cI cJ cZ sl_r ho_r nu_r fa_r ou_r sp fn_r co_r fo_r ro_r po_r pn_r rd_r st_r tw_r od_r rn_r x y u sn)) hP hD [0, 1, 2, 3, 4, 5, 6, 7, 8, 9, 10, 11, 12, 13, 14, 15, 16, 17, 18, 19] [20] rfl rfl (by decide) (by decide) hk1 hFc hP1 hD1
    have hP := hP.sub (ws' := (wLx ad cI cJ cZ sl_r ho_r nu_r fa_r ou_r sp fn_r co_r fo_r ro_r po_r pn_r rd_r st_r tw_r od_r rn_r x y u sn ao o)) [1, 2, 3, 4, 5, 6, 7, 8, 9, 10, 11, 12, 13, 14, 15, 16, 17, 18, 19, 20, 0] rfl
    have hD := hD.sub (ws' := (wLx ad cI cJ cZ sl_r ho_r nu_r fa_r ou_r sp fn_r co_r fo_r ro_r po_r pn_r rd_r st_r tw_r od_r rn_r x y u sn ao o)) [1, 2, 3, 4, 5, 6, 7, 8, 9, 10, 11, 12, 13, 14, 15, 16, 17, 18, 19, 20, 0] (by decide) rfl
    refine lv_i2l hx hb dL_locate_8 rfl ?_
    refine va_last hx hb hK hP hD hS 20 1 rfl rfl (by unfold vp_in; decide) dL_locate_9 (fun H locs hP hD hS => ?_)
    have hP : va_P (dC, dI) vwCl (wLx ad cI cJ cZ sl_r ho_r nu_r fa_r ou_r sp fn_r co_r fo_r ro_r po_r pn_r rd_r st_r tw_r od_r rn_r x y u sn ao (vp_updL o (0 : Int32).toNatClampNeg r.toInt64)) H := hP
    have hD : va_D A (wLx ad cI cJ cZ sl_r ho_r nu_r fa_r ou_r sp fn_r co_r fo_r ro_r po_r pn_r rd_r st_r tw_r od_r rn_r x y u sn ao (vp_updL o (0 : Int32).toNatClampNeg r.toInt64)) := hD
    refine lv_goto (tgt := 17) hx hb dL_locate_10 (by decide) ?_
    refine lv_iconst (v := 0) hx hb dL_locate_17 (by decide) ?_
    refine W.widen (k := 1) (n := 6) (Nat.le_of_ble_eq_true rfl) (Nat.le_of_ble_eq_true rfl) ?_
    rw [← hQ]
    exact W.iret (v := 0) hx hb hr (fun t ht hW => ⟨⟨_, (sl_r, ho_r, nu_r, fa_r, ou_r, fn_r, co_r, fo_r, ro_r, po_r, pn_r, rd_r, st_r, tw_r, od_r, rn_r, (vp_updL o (0 : Int32).toNatClampNeg r.toInt64)), rfl, hw, by rw [ht]; exact hP, hD⟩, hS.F ht⟩) hS.2.2 dL_locate_18
abbrev rm_L_above : Room := { frames := 8, cells := 1, slots := 6, locals := 135 }
theorem f_L_above_0 : (Cond.classLink RL 13 "java/lang/IllegalArgumentException") ∈ wsL_above := by decide +kernel
set_option maxRecDepth 100000 in
set_option maxHeartbeats 4000000 in
theorem c_L_above (l : Launch) (hst : l.stackTraces = false) (dC : Nat → ClassId) (dI : Nat → Nat → Nat) (cI cJ cZ : ClassId) (ad : Nat → Nat) (sz : Nat) (sl : Int32) (ho : Nat → Int32) (nu : Nat → Int32) (fa : Nat → Int32) (ou : Nat → Int32) (sp : Nat → Int32) (fn : Int32) (co : Nat → Int32) (fo : Nat → Int32) (ro : Nat → Int32) (po : Nat → Int32) (pn : Int32) (rd : Nat → Int32) (st : Nat → Int32) (tw : Nat → Int64) (od : Nat → Int32) (rn : Int32) (x : Nat → Int32) (y : Nat → Int32) (u : Nat → Int32) (sn : Int32) (ao : Nat) (o : Nat → Int64) (v1 : Int32) (v2 : Int32) {post : Int32 → (Nat → Int64) → Prop} (hw : wp_L_above x y u o v1 v2 post) : Met l yL_above wsL_above rm_L_above (va_Pc [.ref (ad 0), .int v1, .int v2, .ref ao] (fun U => U.heap.size = sz ∧ va_P (dC, dI) vwCl (wLx ad cI cJ cZ sl ho nu fa ou sp fn co fo ro po pn rd st tw od rn x y u sn ao o) U.heap ∧ va_K (dC, dI) vwCl (tyL cI cJ cZ) U ∧ va_D (fun _ => True) (wLx ad cI cJ cZ sl ho nu fa ou sp fn co fo ro po pn rd st tw od rn x y u sn ao o) ∧ xe (va_A (wLx ad cI cJ cZ sl ho nu fa ou sp fn co fo ro po pn rd st tw od rn x y u sn ao o) sz) U U.heap)) (va_Qi (fun (r : Int32) (uu : (Nat → Int64)) => post r uu) (fun (uu : (Nat → Int64)) (t : State) => va_P (dC, dI) vwCl (wLx ad cI cJ cZ sl ho nu fa ou sp fn co fo ro po pn rd st tw od rn x y u sn ao uu) t.heap ∧ va_D (va_A (wLx ad cI cJ cZ sl ho nu fa ou sp fn co fo ro po pn rd st tw od rn x y u sn ao o) sz) (wLx ad cI cJ cZ sl ho nu fa ou sp fn co fo ro po pn rd st tw od rn x y u sn ao uu)) (va_A (wLx ad cI cJ cZ sl ho nu fa ou sp fn co fo ro po pn rd st tw od rn x y u sn ao o) sz)) 1 6 (va_A (wLx ad cI cJ cZ sl ho nu fa ou sp fn co fo ro po pn rd st tw od rn x y u sn ao o) sz) := by
  unfold wp_L_above at hw
  refine va_MetW (cc := cL_above) (maxL := 5) (ret := (some .int)) (hh := [(0, 10, 13, 13)]) (by decide) rfl ?_
  intro p e s m args below meth c s₁ B hml hv
  obtain ⟨hav, hsz, hP, hK, hD0, hxe⟩ := hv
  have hx := B.exec
  have hb := B.bytes
  have hr := B.returns
  have hts := atoms_spec (ws := wsL_above) B.pre
  have hT := vx_table (x := yL_above) B (hts (.codeWith yL_above cL_above 5 (some .int) [(0, 10, 13, 13)]) List.mem_cons_self)
  have hown : s.vm.findClass RL = some m.cls := findClass_of_methodNamed B.named
  have hlocks := B.notSynchronized
  have C : CallFix p m c cL_above 5 s args wsL_above RL := ⟨hx, hb, hml, hown, hts⟩
  obtain ⟨ls, hE, hl⟩ := mx_entry (m := m) [.ref (ad 0), .int v1, .int v2, .ref ao] (n := 5) (Nat.le_of_ble_eq_true rfl)
  have hl : lv_has ls 5 [(0, .ref (ad 0)), (1, .int v1), (2, .int v2), (3, .ref ao)] := hl
  rw [show entryFrame m args 5 = F0 m 0 ls [] by rw [hav]; exact hE]
  subst hsz
  have hD := hD0.self (sz := s.heap.size)
  generalize hAe : va_A (wLx ad cI cJ cZ sl ho nu fa ou sp fn co fo ro po pn rd st tw od rn x y u sn ao o) s.heap.size = A at hD hxe ⊢
  have hA : ∀ q : Nat, s.heap.size ≤ q → A q := fun q h => by rw [← hAe]; exact Or.inr h
  have hS : va_S A s.heap s.heap [] := va_S.rf
  obtain ⟨Q, hQ⟩ : ∃ Q, MQ below (va_Qi (fun (r : Int32) (uu : (Nat → Int64)) => post r uu) (fun (uu : (Nat → Int64)) (t : State) => va_P (dC, dI) vwCl (wLx ad cI cJ cZ sl ho nu fa ou sp fn co fo ro po pn rd st tw od rn x y u sn ao uu) t.heap ∧ va_D A (wLx ad cI cJ cZ sl ho nu fa ou sp fn co fo ro po pn rd st tw od rn x y u sn ao uu)) A) args s 1 6 A = Q := ⟨_, rfl⟩
  rw [hQ]
  obtain ⟨H, hH⟩ : ∃ H, s.heap = H := ⟨_, rfl⟩
  have hS : va_S A s.heap H [] := by rw [← hH]; exact hS
  rw [hH] at hP
  show W p l e rm_L_above s m args below meth c s.heap [] 0 0 Q (F0 m 0 ls [])
  suffices hg : W p l e rm_L_above s m args below meth c H [] 0 0 Q (F0 m 0 ls []) by rw [hH]; exact hg
  clear hH
  generalize hlo : ([] : List Loc) = locs at hS ⊢
  refine lv_aload_n hx hb dL_above_0 rfl (lv_at hl 3 rfl) ?_
  refine lv_iconst (v := 0) hx hb dL_above_1 (by decide) ?_
  refine lv_aload_n hx hb dL_above_2 rfl (lv_at hl 0 rfl) ?_
  refine lv_iload_n hx hb dL_above_3 rfl (lv_at hl 1 rfl) ?_
  refine lv_iload_n hx hb dL_above_4 rfl (lv_at hl 2 rfl) ?_
  have hPc := hP.sub (ws' := (wPla ad cI cJ cZ sl ho nu fa ou sp fn co fo ro po pn rd st tw od rn x y u sn)) [0, 1, 2, 3, 4, 5, 6, 7, 8, 9, 10, 11, 12, 13, 14, 15, 16, 17, 18, 19] rfl
  have hDc := hD.sub (ws' := (wPla ad cI cJ cZ sl ho nu fa ou sp fn co fo ro po pn rd st tw od rn x y u sn)) [0, 1, 2, 3, 4, 5, 6, 7, 8, 9, 10, 11, 12, 13, 14, 15, 16, 17, 18, 19] (by decide) rfl
  have hFc := va_free (wc := (wPla ad cI cJ cZ sl ho nu fa ou sp fn co fo ro po pn rd st tw od rn x y u sn)) hD hS hA [0, 1, 2, 3, 4, 5, 6, 7, 8, 9, 10, 11, 12, 13, 14, 15, 16, 17, 18, 19] rfl
  rcases hw with hw | hw
  · refine vx_calli (vx_runV (As := [.int v1, .int v2]) (rest := [.int 0, .ref ao]) C (cx_X3_above l hst dC dI cI cJ cZ ad _ sl ho nu fa ou sp fn co fo ro po pn rd st tw od rn x y u sn v1 v2 hw) (cwV 2 hts gL_above_X3_above rfl rfl rfl (by decide +kernel) ⟨Nat.le_of_ble_eq_true rfl, Nat.le_of_ble_eq_true rfl⟩) ⟨fb_x, va_recv hK hPc (ci := 3) (q0 := 0) rfl rfl, fun U hU hW => ⟨rfl, by rw [hU], by rw [hU]; exact hPc, va_K.moved hW.alike hK, hDc.weaken (fun _ _ _ _ => trivial), hxe.step hS hFc hU hW⟩⟩ rfl rfl hl.1 rfl (lv_room (Nat.le_of_ble_eq_true rfl)) dL_above_5 ⟨Nat.le_of_ble_eq_true rfl, Nat.le_of_ble_eq_true rfl⟩) hS (fun q _ h => hFc q h) hFc (fun q _ h => hFc q h) (fun E9 ce q9 uu t H1 locs ht hvm hpx hB hz1 hk1 hS hce hcv hcl => ?_) (fun r9 uu t H1 locs ht hvm hpost hB hz1 hk1 hS => hpost.elim)
    obtain ⟨hw, hP1, hD1⟩ := hB
    rw [ht] at hP1
    try dsimp only at hw hP1 hD1
    obtain ⟨hP, hD⟩ := va_join (wr := [(ao, .inl (cJ, 1, .inr (.inl o)))]) (w1 := (wPla ad cI cJ cZ sl ho nu fa ou sp fn co fo ro po pn rd st tw od rn x y u sn)) hP hD [0, 1, 2, 3, 4, 5, 6, 7, 8, 9, 10, 11, 12, 13, 14, 15, 16, 17, 18, 19] [20] rfl rfl (by decide) (by decide) hk1 hFc hP1 hD1
    have hP := hP.sub (ws' := (wLx ad cI cJ cZ sl ho nu fa ou sp fn co fo ro po pn rd st tw od rn x y u sn ao o)) [1, 2, 3, 4, 5, 6, 7, 8, 9, 10, 11, 12, 13, 14, 15, 16, 17, 18, 19, 20, 0] rfl
    have hD := hD.sub (ws' := (wLx ad cI cJ cZ sl ho nu fa ou sp fn co fo ro po pn rd st tw od rn x y u sn ao o)) [1, 2, 3, 4, 5, 6, 7, 8, 9, 10, 11, 12, 13, 14, 15, 16, 17, 18, 19, 20, 0] (by decide) rfl
    obtain ⟨rfl, hw⟩ := hw
    refine vx_catch (E := "java/lang/IllegalArgumentException") (name := "java/lang/IllegalArgumentException") hown [] ⟨0, 10, 13, 13⟩ [] (by rw [hT]; rfl) (fun z hz => absurd hz List.not_mem_nil) (by decide) (by decide) (hts _ f_L_above_0) (hxe.2.2.2.1.use rfl) hce hcv hcl ?_
    refine lv_astore (lv' := [(4, .ref q9), (0, .ref (ad 0)), (1, .int v1), (2, .int v2), (3, .ref ao)]) hx hb dL_above_13 hl (by decide) rfl (fun ls hl => ?_)
    refine lv_iconst (v := 1) hx hb dL_above_15 (by decide) ?_
    refine W.widen (k := 1) (n := 6) (Nat.le_of_ble_eq_true rfl) (Nat.le_of_ble_eq_true rfl) ?_
    rw [← hQ]
    exact W.iret (v := 1) hx hb hr (fun t ht hW => ⟨⟨_, (o), rfl, hw, by rw [ht]; exact hP, hD⟩, hS.F ht⟩) hS.2.2 dL_above_16
  · refine vp_callSi (W.runV (As := [.int v1, .int v2]) (rest := [.int 0, .ref ao]) C (c_X3_above l dC dI cI cJ cZ ad sl ho nu fa ou sp fn co fo ro po pn rd st tw od rn x y u sn v1 v2 hw) (cwV 2 hts gL_above_X3_above rfl rfl rfl (by decide +kernel) ⟨Nat.le_of_ble_eq_true rfl, Nat.le_of_ble_eq_true rfl⟩) ⟨fb_ro, va_recv hK hPc (ci := 3) (q0 := 0) rfl rfl, fun U hU hW => ⟨rfl, by rw [hU]; exact hPc, va_K.moved hW.alike hK⟩⟩ rfl rfl hl.1 rfl (lv_room (Nat.le_of_ble_eq_true rfl)) dL_above_5 ⟨Nat.zero_le _, Nat.zero_le _⟩) (fun r hw => ?_)
    refine lv_i2l hx hb dL_above_8 rfl ?_
    refine va_last hx hb hK hP hD hS 20 1 rfl rfl (by unfold vp_in; decide) dL_above_9 (fun H locs hP hD hS => ?_)
    have hP : va_P (dC, dI) vwCl (wLx ad cI cJ cZ sl ho nu fa ou sp fn co fo ro po pn rd st tw od rn x y u sn ao (vp_updL o (0 : Int32).toNatClampNeg r.toInt64)) H := hP
    have hD : va_D A (wLx ad cI cJ cZ sl ho nu fa ou sp fn co fo ro po pn rd st tw od rn x y u sn ao (vp_updL o (0 : Int32).toNatClampNeg r.toInt64)) := hD
    refine lv_goto (tgt := 17) hx hb dL_above_10 (by decide) ?_
    refine lv_iconst (v := 0) hx hb dL_above_17 (by decide) ?_
    refine W.widen (k := 1) (n := 6) (Nat.le_of_ble_eq_true rfl) (Nat.le_of_ble_eq_true rfl) ?_
    rw [← hQ]
    exact W.iret (v := 0) hx hb hr (fun t ht hW => ⟨⟨_, ((vp_updL o (0 : Int32).toNatClampNeg r.toInt64)), rfl, hw, by rw [ht]; exact hP, hD⟩, hS.F ht⟩) hS.2.2 dL_above_18
abbrev rm_L_across : Room := { frames := 8, cells := 1, slots := 6, locals := 164 }
theorem f_L_across_0 : (Cond.classLink RL 21 "java/lang/IndexOutOfBoundsException") ∈ wsL_across := by decide +kernel
set_option maxRecDepth 100000 in
set_option maxHeartbeats 4000000 in
theorem c_L_across (l : Launch) (hst : l.stackTraces = false) (dC : Nat → ClassId) (dI : Nat → Nat → Nat) (cI cJ cZ : ClassId) (ad : Nat → Nat) (sz : Nat) (sl : Int32) (ho : Nat → Int32) (nu : Nat → Int32) (fa : Nat → Int32) (ou : Nat → Int32) (sp : Nat → Int32) (fn : Int32) (co : Nat → Int32) (fo : Nat → Int32) (ro : Nat → Int32) (po : Nat → Int32) (pn : Int32) (rd : Nat → Int32) (st : Nat → Int32) (tw : Nat → Int64) (od : Nat → Int32) (rn : Int32) (x : Nat → Int32) (y : Nat → Int32) (u : Nat → Int32) (sn : Int32) (ao : Nat) (o : Nat → Int64) (v1 : Int32) (v2 : Int32) {post : Int32 → Int32 → (Nat → Int32) → (Nat → Int32) → (Nat → Int32) → (Nat → Int32) → (Nat → Int32) → Int32 → (Nat → Int32) → (Nat → Int32) → (Nat → Int32) → (Nat → Int32) → Int32 → (Nat → Int32) → (Nat → Int32) → (Nat → Int64) → (Nat → Int32) → Int32 → (Nat → Int64) → Prop} (hw : wp_L_across sl ho nu fa ou sp fn co fo ro po pn rd st tw od rn x y u o v1 v2 post) : Met l yL_across wsL_across rm_L_across (va_Pc [.ref (ad 0), .int v1, .int v2, .ref ao] (fun U => U.heap.size = sz ∧ va_P (dC, dI) vwCl (wLx ad cI cJ cZ sl ho nu fa ou sp fn co fo ro po pn rd st tw od rn x y u sn ao o) U.heap ∧ va_K (dC, dI) vwCl (tyL cI cJ cZ) U ∧ va_D (fun _ => True) (wLx ad cI cJ cZ sl ho nu fa ou sp fn co fo ro po pn rd st tw od rn x y u sn ao o) ∧ xe (va_A (wLx ad cI cJ cZ sl ho nu fa ou sp fn co fo ro po pn rd st tw od rn x y u sn ao o) sz) U U.heap)) (va_Qi (fun (r : Int32) (uu : Int32 × (Nat → Int32) × (Nat → Int32) × (Nat → Int32) × (Nat → Int32) × (Nat → Int32) × Int32 × (Nat → Int32) × (Nat → Int32) × (Nat → Int32) × (Nat → Int32) × Int32 × (Nat → Int32) × (Nat → Int32) × (Nat → Int64) × (Nat → Int32) × Int32 × (Nat → Int64)) => post r uu.1 uu.2.1 uu.2.2.1 uu.2.2.2.1 uu.2.2.2.2.1 uu.2.2.2.2.2.1 uu.2.2.2.2.2.2.1 uu.2.2.2.2.2.2.2.1 uu.2.2.2.2.2.2.2.2.1 uu.2.2.2.2.2.2.2.2.2.1 uu.2.2.2.2.2.2.2.2.2.2.1 uu.2.2.2.2.2.2.2.2.2.2.2.1 uu.2.2.2.2.2.2.2.2.2.2.2.2.1 uu.2.2.2.2.2.2.2.2.2.2.2.2.2.1 uu.2.2.2.2.2.2.2.2.2.2.2.2.2.2.1 uu.2.2.2.2.2.2.2.2.2.2.2.2.2.2.2.1 uu.2.2.2.2.2.2.2.2.2.2.2.2.2.2.2.2.1 uu.2.2.2.2.2.2.2.2.2.2.2.2.2.2.2.2.2) (fun (uu : Int32 × (Nat → Int32) × (Nat → Int32) × (Nat → Int32) × (Nat → Int32) × (Nat → Int32) × Int32 × (Nat → Int32) × (Nat → Int32) × (Nat → Int32) × (Nat → Int32) × Int32 × (Nat → Int32) × (Nat → Int32) × (Nat → Int64) × (Nat → Int32) × Int32 × (Nat → Int64)) (t : State) => va_P (dC, dI) vwCl (wLx ad cI cJ cZ uu.1 uu.2.1 uu.2.2.1 uu.2.2.2.1 uu.2.2.2.2.1 uu.2.2.2.2.2.1 uu.2.2.2.2.2.2.1 uu.2.2.2.2.2.2.2.1 uu.2.2.2.2.2.2.2.2.1 uu.2.2.2.2.2.2.2.2.2.1 uu.2.2.2.2.2.2.2.2.2.2.1 uu.2.2.2.2.2.2.2.2.2.2.2.1 uu.2.2.2.2.2.2.2.2.2.2.2.2.1 uu.2.2.2.2.2.2.2.2.2.2.2.2.2.1 uu.2.2.2.2.2.2.2.2.2.2.2.2.2.2.1 uu.2.2.2.2.2.2.2.2.2.2.2.2.2.2.2.1 uu.2.2.2.2.2.2.2.2.2.2.2.2.2.2.2.2.1 x y u sn ao uu.2.2.2.2.2.2.2.2.2.2.2.2.2.2.2.2.2) t.heap ∧ va_D (va_A (wLx ad cI cJ cZ sl ho nu fa ou sp fn co fo ro po pn rd st tw od rn x y u sn ao o) sz) (wLx ad cI cJ cZ uu.1 uu.2.1 uu.2.2.1 uu.2.2.2.1 uu.2.2.2.2.1 uu.2.2.2.2.2.1 uu.2.2.2.2.2.2.1 uu.2.2.2.2.2.2.2.1 uu.2.2.2.2.2.2.2.2.1 uu.2.2.2.2.2.2.2.2.2.1 uu.2.2.2.2.2.2.2.2.2.2.1 uu.2.2.2.2.2.2.2.2.2.2.2.1 uu.2.2.2.2.2.2.2.2.2.2.2.2.1 uu.2.2.2.2.2.2.2.2.2.2.2.2.2.1 uu.2.2.2.2.2.2.2.2.2.2.2.2.2.2.1 uu.2.2.2.2.2.2.2.2.2.2.2.2.2.2.2.1 uu.2.2.2.2.2.2.2.2.2.2.2.2.2.2.2.2.1 x y u sn ao uu.2.2.2.2.2.2.2.2.2.2.2.2.2.2.2.2.2)) (va_A (wLx ad cI cJ cZ sl ho nu fa ou sp fn co fo ro po pn rd st tw od rn x y u sn ao o) sz)) 1 6 (va_A (wLx ad cI cJ cZ sl ho nu fa ou sp fn co fo ro po pn rd st tw od rn x y u sn ao o) sz) := by
  unfold wp_L_across at hw
  refine va_MetW (cc := cL_across) (maxL := 5) (ret := (some .int)) (hh := [(0, 10, 13, 21)]) (by decide) rfl ?_
  intro p e s m args below meth c s₁ B hml hv
  obtain ⟨hav, hsz, hP, hK, hD0, hxe⟩ := hv
  have hx := B.exec
  have hb := B.bytes
  have hr := B.returns
  have hts := atoms_spec (ws := wsL_across) B.pre
  have hT := vx_table (x := yL_across) B (hts (.codeWith yL_across cL_across 5 (some .int) [(0, 10, 13, 21)]) List.mem_cons_self)
  have hown : s.vm.findClass RL = some m.cls := findClass_of_methodNamed B.named
  have hlocks := B.notSynchronized
  have C : CallFix p m c cL_across 5 s args wsL_across RL := ⟨hx, hb, hml, hown, hts⟩
  obtain ⟨ls, hE, hl⟩ := mx_entry (m := m) [.ref (ad 0), .int v1, .int v2, .ref ao] (n := 5) (Nat.le_of_ble_eq_true rfl)
  have hl : lv_has ls 5 [(0, .ref (ad 0)), (1, .int v1), (2, .int v2), (3, .ref ao)] := hl
  rw [show entryFrame m args 5 = F0 m 0 ls [] by rw [hav]; exact hE]
  subst hsz
  have hD := hD0.self (sz := s.heap.size)
  generalize hAe : va_A (wLx ad cI cJ cZ sl ho nu fa ou sp fn co fo ro po pn rd st tw od rn x y u sn ao o) s.heap.size = A at hD hxe ⊢
  have hA : ∀ q : Nat, s.heap.size ≤ q → A q := fun q h => by rw [← hAe]; exact Or.inr h
  have hS : va_S A s.heap s.heap [] := va_S.rf
  obtain ⟨Q, hQ⟩ : ∃ Q, MQ below (va_Qi (fun (r : Int32) (uu : Int32 × (Nat → Int32) × (Nat → Int32) × (Nat → Int32) × (Nat → Int32) × (Nat → Int32) × Int32 × (Nat → Int32) × (Nat → Int32) × (Nat → Int32) × (Nat → Int32) × Int32 × (Nat → Int32) × (Nat → Int32) × (Nat → Int64) × (Nat → Int32) × Int32 × (Nat → Int64)) => post r uu.1 uu.2.1 uu.2.2.1 uu.2.2.2.1 uu.2.2.2.2.1 uu.2.2.2.2.2.1 uu.2.2.2.2.2.2.1 uu.2.2.2.2.2.2.2.1 uu.2.2.2.2.2.2.2.2.1 uu.2.2.2.2.2.2.2.2.2.1 uu.2.2.2.2.2.2.2.2.2.2.1 uu.2.2.2.2.2.2.2.2.2.2.2.1 uu.2.2.2.2.2.2.2.2.2.2.2.2.1 uu.2.2.2.2.2.2.2.2.2.2.2.2.2.1 uu.2.2.2.2.2.2.2.2.2.2.2.2.2.2.1 uu.2.2.2.2.2.2.2.2.2.2.2.2.2.2.2.1 uu.2.2.2.2.2.2.2.2.2.2.2.2.2.2.2.2.1 uu.2.2.2.2.2.2.2.2.2.2.2.2.2.2.2.2.2) (fun (uu : Int32 × (Nat → Int32) × (Nat → Int32) × (Nat → Int32) × (Nat → Int32) × (Nat → Int32) × Int32 × (Nat → Int32) × (Nat → Int32) × (Nat → Int32) × (Nat → Int32) × Int32 × (Nat → Int32) × (Nat → Int32) × (Nat → Int64) × (Nat → Int32) × Int32 × (Nat → Int64)) (t : State) => va_P (dC, dI) vwCl (wLx ad cI cJ cZ uu.1 uu.2.1 uu.2.2.1 uu.2.2.2.1 uu.2.2.2.2.1 uu.2.2.2.2.2.1 uu.2.2.2.2.2.2.1 uu.2.2.2.2.2.2.2.1 uu.2.2.2.2.2.2.2.2.1 uu.2.2.2.2.2.2.2.2.2.1 uu.2.2.2.2.2.2.2.2.2.2.1 uu.2.2.2.2.2.2.2.2.2.2.2.1 uu.2.2.2.2.2.2.2.2.2.2.2.2.1 uu.2.2.2.2.2.2.2.2.2.2.2.2.2.1 uu.2.2.2.2.2.2.2.2.2.2.2.2.2.2.1 uu.2.2.2.2.2.2.2.2.2.2.2.2.2.2.2.1 uu.2.2.2.2.2.2.2.2.2.2.2.2.2.2.2.2.1 x y u sn ao uu.2.2.2.2.2.2.2.2.2.2.2.2.2.2.2.2.2) t.heap ∧ va_D A (wLx ad cI cJ cZ uu.1 uu.2.1 uu.2.2.1 uu.2.2.2.1 uu.2.2.2.2.1 uu.2.2.2.2.2.1 uu.2.2.2.2.2.2.1 uu.2.2.2.2.2.2.2.1 uu.2.2.2.2.2.2.2.2.1 uu.2.2.2.2.2.2.2.2.2.1 uu.2.2.2.2.2.2.2.2.2.2.1 uu.2.2.2.2.2.2.2.2.2.2.2.1 uu.2.2.2.2.2.2.2.2.2.2.2.2.1 uu.2.2.2.2.2.2.2.2.2.2.2.2.2.1 uu.2.2.2.2.2.2.2.2.2.2.2.2.2.2.1 uu.2.2.2.2.2.2.2.2.2.2.2.2.2.2.2.1 uu.2.2.2.2.2.2.2.2.2.2.2.2.2.2.2.2.1 x y u sn ao uu.2.2.2.2.2.2.2.2.2.2.2.2.2.2.2.2.2)) A) args s 1 6 A = Q := ⟨_, rfl⟩
  rw [hQ]
  obtain ⟨H, hH⟩ : ∃ H, s.heap = H := ⟨_, rfl⟩
  have hS : va_S A s.heap H [] := by rw [← hH]; exact hS
  rw [hH] at hP
  show W p l e rm_L_across s m args below meth c s.heap [] 0 0 Q (F0 m 0 ls [])
  suffices hg : W p l e rm_L_across s m args below meth c H [] 0 0 Q (F0 m 0 ls []) by rw [hH]; exact hg
  clear hH
  generalize hlo : ([] : List Loc) = locs at hS ⊢
  refine lv_aload_n hx hb dL_across_0 rfl (lv_at hl 3 rfl) ?_
  refine lv_iconst (v := 0) hx hb dL_across_1 (by decide) ?_
  refine lv_aload_n hx hb dL_across_2 rfl (lv_at hl 0 rfl) ?_
  refine lv_iload_n hx hb dL_across_3 rfl (lv_at hl 1 rfl) ?_
  refine lv_iload_n hx hb dL_across_4 rfl (lv_at hl 2 rfl) ?_
  have hPc := hP.sub (ws' := (wPla ad cI cJ cZ sl ho nu fa ou sp fn co fo ro po pn rd st tw od rn x y u sn)) [0, 1, 2, 3, 4, 5, 6, 7, 8, 9, 10, 11, 12, 13, 14, 15, 16, 17, 18, 19] rfl
  have hDc := hD.sub (ws' := (wPla ad cI cJ cZ sl ho nu fa ou sp fn co fo ro po pn rd st tw od rn x y u sn)) [0, 1, 2, 3, 4, 5, 6, 7, 8, 9, 10, 11, 12, 13, 14, 15, 16, 17, 18, 19] (by decide) rfl
  have hFc := va_free (wc := (wPla ad cI cJ cZ sl ho nu fa ou sp fn co fo ro po pn rd st tw od rn x y u sn)) hD hS hA [0, 1, 2, 3, 4, 5, 6, 7, 8, 9, 10, 11, 12, 13, 14, 15, 16, 17, 18, 19] rfl
  rcases hw with hw | hw
  · refine vx_calli (vx_runV (As := [.int v1, .int v2]) (rest := [.int 0, .ref ao]) C (cx_X3_across l hst dC dI cI cJ cZ ad _ sl ho nu fa ou sp fn co fo ro po pn rd st tw od rn x y u sn v1 v2 hw) (cwV 2 hts gL_across_X3_across rfl rfl rfl (by decide +kernel) ⟨Nat.le_of_ble_eq_true rfl, Nat.le_of_ble_eq_true rfl⟩) ⟨fb_x, va_recv hK hPc (ci := 3) (q0 := 0) rfl rfl, fun U hU hW => ⟨rfl, by rw [hU], by rw [hU]; exact hPc, va_K.moved hW.alike hK, hDc.weaken (fun _ _ _ _ => trivial), hxe.step hS hFc hU hW⟩⟩ rfl rfl hl.1 rfl (lv_room (Nat.le_of_ble_eq_true rfl)) dL_across_5 ⟨Nat.le_of_ble_eq_true rfl, Nat.le_of_ble_eq_true rfl⟩) hS (fun q _ h => hFc q h) hFc (fun q _ h => hFc q h) (fun E9 ce q9 uu t H1 locs ht hvm hpx hB hz1 hk1 hS hce hcv hcl => ?_) (fun r9 uu t H1 locs ht hvm hpost hB hz1 hk1 hS => hpost.elim)
    obtain ⟨sl_x, ho_x, nu_x, fa_x, ou_x, sp_x, fn_x, co_x, fo_x, ro_x, po_x, pn_x, rd_x, st_x, tw_x, od_x, rn_x⟩ := uu
    obtain ⟨hw, hP1, hD1⟩ := hB
    rw [ht] at hP1
    try dsimp only at hw hP1 hD1
    obtain ⟨hP, hD⟩ := va_join (wr := [(ao, .inl (cJ, 1, .inr (.inl o)))]) (w1 := (wPla ad cI cJ cZ sl_x ho_x nu_x fa_x ou_x sp_x fn_x co_x fo_x ro_x po_x pn_x rd_x st_x tw_x od_x rn_x x y u sn)) hP hD [0, 1, 2, 3, 4, 5, 6, 7, 8, 9, 10, 11, 12, 13, 14, 15, 16, 17, 18, 19] [20] rfl rfl (by decide) (by decide) hk1 hFc hP1 hD1
    have hP := hP.sub (ws' := (wLx ad cI cJ cZ sl_x ho_x nu_x fa_x ou_x sp_x fn_x co_x fo_x ro_x po_x pn_x rd_x st_x tw_x od_x rn_x x y u sn ao o)) [1, 2, 3, 4, 5, 6, 7, 8, 9, 10, 11, 12, 13, 14, 15, 16, 17, 18, 19, 20, 0] rfl
    have hD := hD.sub (ws' := (wLx ad cI cJ cZ sl_x ho_x nu_x fa_x ou_x sp_x fn_x co_x fo_x ro_x po_x pn_x rd_x st_x tw_x od_x rn_x x y u sn ao o)) [1, 2, 3, 4, 5, 6, 7, 8, 9, 10, 11, 12, 13, 14, 15, 16, 17, 18, 19, 20, 0] (by decide) rfl
    obtain ⟨rfl, hw⟩ := hw
    refine vx_catch (E := "java/lang/IndexOutOfBoundsException") (name := "java/lang/IndexOutOfBoundsException") hown [] ⟨0, 10, 13, 21⟩ [] (by rw [hT]; rfl) (fun z hz => absurd hz List.not_mem_nil) (by decide) (by decide) (hts _ f_L_across_0) (hxe.2.2.2.2.2.1.use rfl) hce hcv hcl ?_
    refine lv_astore (lv' := [(4, .ref q9), (0, .ref (ad 0)), (1, .int v1), (2, .int v2), (3, .ref ao)]) hx hb dL_across_13 hl (by decide) rfl (fun ls hl => ?_)
    refine lv_iconst (v := 1) hx hb dL_across_15 (by decide) ?_
    refine W.widen (k := 1) (n := 6) (Nat.le_of_ble_eq_true rfl) (Nat.le_of_ble_eq_true rfl) ?_
    rw [← hQ]
    exact W.iret (v := 1) hx hb hr (fun t ht hW => ⟨⟨_, (sl_x, ho_x, nu_x, fa_x, ou_x, sp_x, fn_x, co_x, fo_x, ro_x, po_x, pn_x, rd_x, st_x, tw_x, od_x, rn_x, o), rfl, hw, by rw [ht]; exact hP, hD⟩, hS.F ht⟩) hS.2.2 dL_across_16
  · refine va_calli (va_runV (As := [.int v1, .int v2]) (rest := [.int 0, .ref ao]) C (c_X3_across l dC dI cI cJ cZ ad _ sl ho nu fa ou sp fn co fo ro po pn rd st tw od rn x y u sn v1 v2 hw) (cwV 2 hts gL_across_X3_across rfl rfl rfl (by decide +kernel) ⟨Nat.le_of_ble_eq_true rfl, Nat.le_of_ble_eq_true rfl⟩) ⟨fb_rw, va_recv hK hPc (ci := 3) (q0 := 0) rfl rfl, fun U hU hW => ⟨rfl, by rw [hU], by rw [hU]; exact hPc, va_K.moved hW.alike hK, hDc.weaken (fun _ _ _ _ => trivial)⟩⟩ rfl rfl hl.1 rfl (lv_room (Nat.le_of_ble_eq_true rfl)) dL_across_5 ⟨Nat.zero_le _, Nat.zero_le _⟩) hS (fun q _ h => hFc q h) hFc (fun r uu t H1 locs ht hvm hw hB hz1 hk1 hS => ?_)
    obtain ⟨sl_r, ho_r, nu_r, fa_r, ou_r, sp_r, fn_r, co_r, fo_r, ro_r, po_r, pn_r, rd_r, st_r, tw_r, od_r, rn_r⟩ := uu
    obtain ⟨hP1, hD1⟩ := hB
    rw [ht] at hP1
    try dsimp only at hw hP1 hD1
    obtain ⟨hP, hD⟩ := va_join (wr := [(ao, .inl (cJ, 1, .inr (.inl o)))]) (w1 := (wPla ad cI cJ cZ sl_r ho_r nu_r fa_r ou_r sp_r fn_r co_r fo_r ro_r po_r pn_r rd_r st_r tw_r od_r rn_r x y u sn)) hP hD [0, 1, 2, 3, 4, 5, 6, 7, 8, 9, 10, 11, 12, 13, 14, 15, 16, 17, 18, 19] [20] rfl rfl (by decide) (by decide) hk1 hFc hP1 hD1
    have hP := hP.sub (ws' := (wLx ad cI cJ cZ sl_r ho_r nu_r fa_r ou_r sp_r fn_r co_r fo_r ro_r po_r pn_r rd_r st_r tw_r od_r rn_r x y u sn ao o)) [1, 2, 3, 4, 5, 6, 7, 8, 9, 10, 11, 12, 13, 14, 15, 16, 17, 18, 19, 20, 0] rfl
    have hD := hD.sub (ws' := (wLx ad cI cJ cZ sl_r ho_r nu_r fa_r ou_r sp_r fn_r co_r fo_r ro_r po_r pn_r rd_r st_r tw_r od_r rn_r x y u sn ao o)) [1, 2, 3, 4, 5, 6, 7, 8, 9, 10, 11, 12, 13, 14, 15, 16, 17, 18, 19, 20, 0] (by decide) rfl
    refine lv_i2l hx hb dL_across_8 rfl ?_
    refine va_last hx hb hK hP hD hS 20 1 rfl rfl (by unfold vp_in; decide) dL_across_9 (fun H locs hP hD hS => ?_)
    have hP : va_P (dC, dI) vwCl (wLx ad cI cJ cZ sl_r ho_r nu_r fa_r ou_r sp_r fn_r co_r fo_r ro_r po_r pn_r rd_r st_r tw_r od_r rn_r x y u sn ao (vp_updL o (0 : Int32).toNatClampNeg r.toInt64)) H := hP
    have hD : va_D A (wLx ad cI cJ cZ sl_r ho_r nu_r fa_r ou_r sp_r fn_r co_r fo_r ro_r po_r pn_r rd_r st_r tw_r od_r rn_r x y u sn ao (vp_updL o (0 : Int32).toNatClampNeg r.toInt64)) := hD
    refine lv_goto (tgt := 17) hx hb dL_across_10 (by decide) ?_
    refine lv_iconst (v := 0) hx hb dL_across_17 (by decide) ?_
    refine W.widen (k := 1) (n := 6) (Nat.le_of_ble_eq_true rfl) (Nat.le_of_ble_eq_true rfl) ?_
    rw [← hQ]
    exact W.iret (v := 0) hx hb hr (fun t ht hW => ⟨⟨_, (sl_r, ho_r, nu_r, fa_r, ou_r, sp_r, fn_r, co_r, fo_r, ro_r, po_r, pn_r, rd_r, st_r, tw_r, od_r, rn_r, (vp_updL o (0 : Int32).toNatClampNeg r.toInt64)), rfl, hw, by rw [ht]; exact hP, hD⟩, hS.F ht⟩) hS.2.2 dL_across_18
