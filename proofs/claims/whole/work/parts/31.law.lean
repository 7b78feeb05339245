set_option maxRecDepth 100000 in
set_option maxHeartbeats 40000000 in
theorem l_law {p : Program} {l : Launch} (hst : l.stackTraces = false) {e : Env} {s : State} {m : MethodId} {below : List Frame} {meth : Method} {c : Code} {dC : Nat → ClassId} {dI : Nat → Nat → Nat} {cI cJ cZ : ClassId} {ad am : Nat → Nat} {ao b L : Nat} {xs : Nat → Int32} (C : CallFix p m c cL_law 7 s #[Value.ref b] wsL_law RL) (hr : meth.sig.returnType = ret) (hlocks : meth.locks = false) (hK : va_K (dC, dI) vwCl (tyL cI cJ cZ) s) (hX : va_X b L xs s s.heap) (hbl : b < s.heap.size) (hxe : xe (fun q : Nat => s.heap.size ≤ q) s s.heap) : ∀ (n cells slots : Nat) (sl : Int32) (ho : Nat → Int32) (nu : Nat → Int32) (fa : Nat → Int32) (ou : Nat → Int32) (sp : Nat → Int32) (fn : Int32) (co : Nat → Int32) (fo : Nat → Int32) (ro : Nat → Int32) (po : Nat → Int32) (pn : Int32) (rd : Nat → Int32) (st : Nat → Int32) (tw : Nat → Int64) (od : Nat → Int32) (rn : Int32) (x : Nat → Int32) (y : Nat → Int32) (u : Nat → Int32) (sn : Int32) (mre : Int32) (mth : Nat → Int32) (mxs : Nat → Int32) (mys : Nat → Int32) (mcu : Int32) (mnx : Nat → Int32) (mpo : Nat → Int32) (mpn : Int32) (mrn : Int32) (mrd : Nat → Int32) (mfi : Nat → Int32) (mar : Nat → Int64) (mfn : Int32) (mfa : Nat → Int32) (mnu : Nat → Int32) (mst : Nat → Int32) (o : Nat → Int64) (v4 : Int32) (ls : Array Slot) (H : Heap) (locs : List Loc), cells + n ≤ 1063 → slots + 6 * n ≤ 11217 → lv_has ls 7 [(0, .ref (b)), (1, .ref (ad 0)), (2, .ref (am 0)), (3, .ref (ao)), (4, .int v4)] → va_P (dC, dI) vwCl (wLaw ad am ao cI cJ cZ sl ho nu fa ou sp fn co fo ro po pn rd st tw od rn x y u sn mre mth mxs mys mcu mnx mpo mpn mrn mrd mfi mar mfn mfa mnu mst o) H → va_D (fun q : Nat => s.heap.size ≤ q) (wLaw ad am ao cI cJ cZ sl ho nu fa ou sp fn co fo ro po pn rd st tw od rn x y u sn mre mth mxs mys mcu mnx mpo mpn mrn mrd mfi mar mfn mfa mnu mst o) → va_S (fun q : Nat => s.heap.size ≤ q) s.heap H locs → lp_law xs L n sl ho nu fa ou sp fn co fo ro po pn rd st tw od rn x y u sn mre mth mxs mys mcu mnx mpo mpn mrn mrd mfi mar mfn mfa mnu mst o v4 → W p l e room_1 s m #[Value.ref b] below meth c H locs cells slots (lw_Z below #[Value.ref b] s) (F0 m 23 ls []) := by
  obtain ⟨hx, hb, hml, hown, hts⟩ := id C
  have hbA : ¬ (fun q : Nat => s.heap.size ≤ q) b := Nat.not_le.mpr hbl
  intro n
  induction n with
  | zero =>
    intro cells slots sl ho nu fa ou sp fn co fo ro po pn rd st tw od rn x y u sn mre mth mxs mys mcu mnx mpo mpn mrn mrd mfi mar mfn mfa mnu mst o v4 ls H locs hcc hss hl hP hD hS hw
    rw [lp_law.eq_1] at hw
    exact hw.elim
  | succ n ih =>
    intro cells slots sl ho nu fa ou sp fn co fo ro po pn rd st tw od rn x y u sn mre mth mxs mys mcu mnx mpo mpn mrn mrd mfi mar mfn mfa mnu mst o v4 ls H locs hcc hss hl hP hD hS hw
    rw [lp_law.eq_2] at hw
    refine lv_iload hx hb dL_law_23 (lv_at hl 4 rfl) ?_
    refine lv_aload_n hx hb dL_law_25 rfl (lv_at hl 0 rfl) ?_
    refine va_slen hx hb hX hbl hbA hS dL_law_26 ?_
    refine lv_iconst (v := 5) hx hb dL_law_27 (by decide) ?_
    refine lv_isub hx hb dL_law_28 ?_
    refine lv_icmp_gt (tgt := 905) hx hb dL_law_29 (by decide) (fun hc => ?_) (fun hc => ?_)
    · have hw := hw.1 (hc)
      refine lv_iconst (v := 1) hx hb dL_law_905 (by decide) ?_
      refine va_forget (fun q hq => hS.2.2 q hq) ?_
      refine W.widen (k := 1063) (n := 11217) (by omega) (by omega) ?_
      exact lw_ret hx hb hr hlocks dL_law_906
    · have hw := hw.2 hc
      refine lv_aload_n hx hb dL_law_32 rfl (lv_at hl 0 rfl) ?_
      refine lv_iload hx hb dL_law_33 (lv_at hl 4 rfl) ?_
      have hi := hw.1
      have hw := hw.2
      refine va_sld hx hb hX hbl hbA hS hi dL_law_35 ?_
      refine lv_bipush (v := 15) hx hb dL_law_36 (by decide) ?_
      refine lv_iand hx hb dL_law_38 ?_
      rcases sw_13 ((xs v4.toNatClampNeg) &&& (15 : Int32)) with hc | hc | hc | hc | hc | hc | hc | hc | hc | hc | hc | hc | hc | hc | hc
      · have hw := hw.1 hc
        refine lv_tableOut (tgt := 899) hx hb dL_law_39 hc (by decide) ?_
        refine lv_iinc (v := (v4 + (5 : Int32))) (lv' := [(4, .int (v4 + (5 : Int32))), (0, .ref (b)), (1, .ref (ad 0)), (2, .ref (am 0)), (3, .ref (ao))]) hx hb dL_law_899 hl (k := 4) rfl rfl (by decide) rfl (fun ls hl => ?_)
        refine lv_goto (tgt := 23) hx hb dL_law_902 (by decide) ?_
        refine W.widen (k := cells + 1) (n := slots + 6) (by omega) (by omega) ?_
        exact ih (cells + 1) (slots + 6) sl ho nu fa ou sp fn co fo ro po pn rd st tw od rn x y u sn mre mth mxs mys mcu mnx mpo mpn mrn mrd mfi mar mfn mfa mnu mst o (v4 + (5 : Int32)) ls _ _ (by omega) (by omega) (lv_sub hl [1, 2, 3, 4, 0] rfl) hP hD hS hw
      · have hw := hw.2.1 hc
        rw [hc]
        refine lv_tableIn (tgt := 108) hx hb dL_law_39 (by decide) (by decide) rfl (by decide) ?_
        refine lv_aload_n hx hb dL_law_108 rfl (lv_at hl 1 rfl) ?_
        refine lv_aload_n hx hb dL_law_109 rfl (lv_at hl 0 rfl) ?_
        refine lv_iload hx hb dL_law_110 (lv_at hl 4 rfl) ?_
        refine lv_iconst (v := 1) hx hb dL_law_112 (by decide) ?_
        refine lv_iadd hx hb dL_law_113 ?_
        have hi := hw.1
        have hw := hw.2
        refine va_sld hx hb hX hbl hbA hS hi dL_law_114 ?_
        refine lv_aload_n hx hb dL_law_115 rfl (lv_at hl 0 rfl) ?_
        refine lv_iload hx hb dL_law_116 (lv_at hl 4 rfl) ?_
        refine lv_iconst (v := 2) hx hb dL_law_118 (by decide) ?_
        refine lv_iadd hx hb dL_law_119 ?_
        have hi := hw.1
        have hw := hw.2
        refine va_sld hx hb hX hbl hbA hS hi dL_law_120 ?_
        refine lv_aload_n hx hb dL_law_121 rfl (lv_at hl 0 rfl) ?_
        refine lv_iload hx hb dL_law_122 (lv_at hl 4 rfl) ?_
        refine lv_iconst (v := 3) hx hb dL_law_124 (by decide) ?_
        refine lv_iadd hx hb dL_law_125 ?_
        have hi := hw.1
        have hw := hw.2
        refine va_sld hx hb hX hbl hbA hS hi dL_law_126 ?_
        refine lv_aload_n hx hb dL_law_127 rfl (lv_at hl 0 rfl) ?_
        refine lv_iload hx hb dL_law_128 (lv_at hl 4 rfl) ?_
        refine lv_iconst (v := 4) hx hb dL_law_130 (by decide) ?_
        refine lv_iadd hx hb dL_law_131 ?_
        have hi := hw.1
        have hw := hw.2
        refine va_sld hx hb hX hbl hbA hS hi dL_law_132 ?_
        refine lv_aload_n hx hb dL_law_133 rfl (lv_at hl 3 rfl) ?_
        have hPc := hP.sub (ws' := (wLx ad cI cJ cZ sl ho nu fa ou sp fn co fo ro po pn rd st tw od rn x y u sn ao o)) [0, 1, 2, 3, 4, 5, 6, 7, 8, 9, 10, 11, 12, 13, 14, 15, 16, 17, 18, 19, 32] rfl
        have hDc := hD.sub (ws' := (wLx ad cI cJ cZ sl ho nu fa ou sp fn co fo ro po pn rd st tw od rn x y u sn ao o)) [0, 1, 2, 3, 4, 5, 6, 7, 8, 9, 10, 11, 12, 13, 14, 15, 16, 17, 18, 19, 32] (by decide) rfl
        have hFc := va_free (wc := (wLx ad cI cJ cZ sl ho nu fa ou sp fn co fo ro po pn rd st tw od rn x y u sn ao o)) hD hS (fun _ h => h) [0, 1, 2, 3, 4, 5, 6, 7, 8, 9, 10, 11, 12, 13, 14, 15, 16, 17, 18, 19, 32] rfl
        refine va_calli (vx_runSW (As := [.ref (ad 0), .int (xs (v4 + (1 : Int32)).toNatClampNeg), .int (xs (v4 + (2 : Int32)).toNatClampNeg), .int (xs (v4 + (3 : Int32)).toNatClampNeg), .int (xs (v4 + (4 : Int32)).toNatClampNeg), .ref (ao)]) (rest := []) C (c_L_add l hst dC dI cI cJ cZ ad _ sl ho nu fa ou sp fn co fo ro po pn rd st tw od rn x y u sn ao o (xs (v4 + (1 : Int32)).toNatClampNeg) (xs (v4 + (2 : Int32)).toNatClampNeg) (xs (v4 + (3 : Int32)).toNatClampNeg) (xs (v4 + (4 : Int32)).toNatClampNeg) hw) (vx_cwSW 6 hts gL_law_L_add rfl rfl rfl (by decide +kernel) ⟨Nat.le_of_ble_eq_true rfl, Nat.le_of_ble_eq_true rfl⟩) ⟨fb_x, fun U hU hW => ⟨rfl, by rw [hU], by rw [hU]; exact hPc, va_K.moved hW.alike hK, hDc.weaken (fun _ _ _ _ => trivial), hxe.step hS hFc hU hW⟩⟩ rfl rfl hl.1 rfl (lv_room (Nat.le_of_ble_eq_true rfl)) dL_law_134 ⟨by show _ ≤ 1063; omega, by show _ ≤ 11217; omega⟩) hS (fun q _ h => hFc q h) hFc (fun r1 uu t H1 locs ht hvm hw hB hz1 hk1 hS => ?_)
        obtain ⟨sl_2, x_3, y_4, u_5, sn_6, o_7⟩ := uu
        obtain ⟨hP1, hD1⟩ := hB
        rw [ht] at hP1
        try dsimp only at hw hP1 hD1
        obtain ⟨hP, hD⟩ := va_join (wr := [(am 0, .inr (4, [.int mre, .ref (am 1), .ref (am 2), .ref (am 3), .int mcu, .ref (am 4), .ref (am 5), .int mpn, .int mrn, .ref (am 6), .ref (am 7), .ref (am 8), .int mfn, .ref (am 9), .ref (am 10), .ref (am 11)])), (am 1, .inl (cZ, 60, .inl mth)), (am 2, .inl (cI, 120, .inl mxs)), (am 3, .inl (cI, 120, .inl mys)), (am 4, .inl (cI, 120, .inl mnx)), (am 5, .inl (cI, 120, .inl mpo)), (am 6, .inl (cI, 120, .inl mrd)), (am 7, .inl (cI, 120, .inl mfi)), (am 8, .inl (cJ, 120, .inr (.inl mar))), (am 9, .inl (cI, 120, .inl mfa)), (am 10, .inl (cI, 122, .inl mnu)), (am 11, .inl (cI, 122, .inl mst))]) (w1 := (wLx ad cI cJ cZ sl_2 ho nu fa ou sp fn co fo ro po pn rd st tw od rn x_3 y_4 u_5 sn_6 ao o_7)) hP hD [0, 1, 2, 3, 4, 5, 6, 7, 8, 9, 10, 11, 12, 13, 14, 15, 16, 17, 18, 19, 32] [20, 21, 22, 23, 24, 25, 26, 27, 28, 29, 30, 31] rfl rfl (by decide) (by decide) hk1 hFc hP1 hD1
        have hP := hP.sub (ws' := (wLaw ad am ao cI cJ cZ sl_2 ho nu fa ou sp fn co fo ro po pn rd st tw od rn x_3 y_4 u_5 sn_6 mre mth mxs mys mcu mnx mpo mpn mrn mrd mfi mar mfn mfa mnu mst o_7)) [12, 13, 14, 15, 16, 17, 18, 19, 20, 21, 22, 23, 24, 25, 26, 27, 28, 29, 30, 31, 0, 1, 2, 3, 4, 5, 6, 7, 8, 9, 10, 11, 32] rfl
        have hD := hD.sub (ws' := (wLaw ad am ao cI cJ cZ sl_2 ho nu fa ou sp fn co fo ro po pn rd st tw od rn x_3 y_4 u_5 sn_6 mre mth mxs mys mcu mnx mpo mpn mrn mrd mfi mar mfn mfa mnu mst o_7)) [12, 13, 14, 15, 16, 17, 18, 19, 20, 21, 22, 23, 24, 25, 26, 27, 28, 29, 30, 31, 0, 1, 2, 3, 4, 5, 6, 7, 8, 9, 10, 11, 32] (by decide) rfl
        clear hPc hDc hFc hk1 hz1 hP1 hD1 ht hvm
        generalize H1 = H at hP hS ⊢
        refine lv_istore (lv' := [(5, .int r1), (0, .ref (b)), (1, .ref (ad 0)), (2, .ref (am 0)), (3, .ref (ao)), (4, .int v4)]) hx hb dL_law_137 hl (by decide) rfl (fun ls hl => ?_)
        refine lv_aload_n hx hb dL_law_139 rfl (lv_at hl 3 rfl) ?_
        refine lv_aload_n hx hb dL_law_140 rfl (lv_at hl 1 rfl) ?_
        refine lv_iload hx hb dL_law_141 (lv_at hl 5 rfl) ?_
        refine lv_iconst (v := 1) hx hb dL_law_143 (by decide) ?_
        refine lv_iadd hx hb dL_law_144 ?_
        have hi := hw.1
        have hw := hw.2
        refine va_sld hx hb hX hbl hbA hS hi dL_law_145 ?_
        refine lv_aload_n hx hb dL_law_146 rfl (lv_at hl 1 rfl) ?_
        refine lv_iload hx hb dL_law_147 (lv_at hl 5 rfl) ?_
        refine lv_iconst (v := 2) hx hb dL_law_149 (by decide) ?_
        refine lv_iadd hx hb dL_law_150 ?_
        have hi := hw.1
        have hw := hw.2
        refine va_sld hx hb hX hbl hbA hS hi dL_law_151 ?_
        refine lv_aload_n hx hb dL_law_152 rfl (lv_at hl 1 rfl) ?_
        refine lv_iload hx hb dL_law_153 (lv_at hl 5 rfl) ?_
        refine lv_iconst (v := 3) hx hb dL_law_155 (by decide) ?_
        refine lv_iadd hx hb dL_law_156 ?_
        have hi := hw.1
        have hw := hw.2
        refine va_sld hx hb hX hbl hbA hS hi dL_law_157 ?_
        refine lv_aload_n hx hb dL_law_158 rfl (lv_at hl 1 rfl) ?_
        refine lv_iload hx hb dL_law_159 (lv_at hl 5 rfl) ?_
        refine lv_iconst (v := 4) hx hb dL_law_161 (by decide) ?_
        refine lv_iadd hx hb dL_law_162 ?_
        have hi := hw.1
        have hw := hw.2
        refine va_sld hx hb hX hbl hbA hS hi dL_law_163 ?_
        have hPc := hP.sub (ws' := (wMod am cI cJ cZ mre mth mxs mys mcu mnx mpo mpn mrn mrd mfi mar mfn mfa mnu mst)) [20, 21, 22, 23, 24, 25, 26, 27, 28, 29, 30, 31] rfl
        have hDc := hD.sub (ws' := (wMod am cI cJ cZ mre mth mxs mys mcu mnx mpo mpn mrn mrd mfi mar mfn mfa mnu mst)) [20, 21, 22, 23, 24, 25, 26, 27, 28, 29, 30, 31] (by decide) rfl
        have hFc := va_free (wc := (wMod am cI cJ cZ mre mth mxs mys mcu mnx mpo mpn mrn mrd mfi mar mfn mfa mnu mst)) hD hS (fun _ h => h) [20, 21, 22, 23, 24, 25, 26, 27, 28, 29, 30, 31] rfl
        refine va_calli (va_runV (As := [.int (xs (v4 + (1 : Int32)).toNatClampNeg), .int (xs (v4 + (2 : Int32)).toNatClampNeg), .int (xs (v4 + (3 : Int32)).toNatClampNeg), .int (xs (v4 + (4 : Int32)).toNatClampNeg)]) (rest := []) C (c_X4_add l dC dI cI cJ cZ am _ mre mth mxs mys mcu mnx mpo mpn mrn mrd mfi mar mfn mfa mnu mst (xs (v4 + (1 : Int32)).toNatClampNeg) (xs (v4 + (2 : Int32)).toNatClampNeg) (xs (v4 + (3 : Int32)).toNatClampNeg) (xs (v4 + (4 : Int32)).toNatClampNeg) hw) (cwV 4 hts gL_law_X4_add rfl rfl rfl (by decide +kernel) ⟨Nat.le_of_ble_eq_true rfl, Nat.le_of_ble_eq_true rfl⟩) ⟨fb_rw, va_recv hK hPc (ci := 4) (q0 := 0) rfl rfl, fun U hU hW => ⟨rfl, by rw [hU], by rw [hU]; exact hPc, va_K.moved hW.alike hK, hDc.weaken (fun _ _ _ _ => trivial)⟩⟩ rfl rfl hl.1 rfl (lv_room (Nat.le_of_ble_eq_true rfl)) dL_law_164 ⟨by show _ ≤ 1063; omega, by show _ ≤ 11217; omega⟩) hS (fun q _ h => hFc q h) hFc (fun r8 uu t H1 locs ht hvm hw hB hz1 hk1 hS => ?_)
        obtain ⟨mre_9, mth_10, mxs_11, mys_12, mcu_13⟩ := uu
        obtain ⟨hP1, hD1⟩ := hB
        rw [ht] at hP1
        try dsimp only at hw hP1 hD1
        obtain ⟨hP, hD⟩ := va_join (wr := [(ad 0, .inr (3, [.ref (ad 16), .ref (ad 7), .ref (ad 1), .int sl_2])), (ad 1, .inr (0, [.ref (ad 7), .ref (ad 16), .ref (ad 2), .ref (ad 3), .ref (ad 4), .ref (ad 5), .ref (ad 6), .int fn])), (ad 2, .inl (cI, 120, .inl ho)), (ad 3, .inl (cI, 120, .inl nu)), (ad 4, .inl (cI, 120, .inl fa)), (ad 5, .inl (cI, 60, .inl ou)), (ad 6, .inl (cI, 121, .inl sp)), (ad 7, .inr (1, [.ref (ad 16), .ref (ad 8), .ref (ad 9), .ref (ad 10), .ref (ad 11), .int pn, .ref (ad 12), .ref (ad 13), .ref (ad 14), .ref (ad 15), .int rn])), (ad 8, .inl (cI, 120, .inl co)), (ad 9, .inl (cI, 120, .inl fo)), (ad 10, .inl (cI, 60, .inl ro)), (ad 11, .inl (cI, 60, .inl po)), (ad 12, .inl (cI, 120, .inl rd)), (ad 13, .inl (cI, 120, .inl st)), (ad 14, .inl (cJ, 120, .inr (.inl tw))), (ad 15, .inl (cI, 120, .inl od)), (ad 16, .inr (2, [.ref (ad 17), .ref (ad 18), .ref (ad 19), .int sn_6])), (ad 17, .inl (cI, 120, .inl x_3)), (ad 18, .inl (cI, 120, .inl y_4)), (ad 19, .inl (cZ, 60, .inl u_5)), (ao, .inl (cJ, 1, .inr (.inl o_7)))]) (w1 := (wMod am cI cJ cZ mre_9 mth_10 mxs_11 mys_12 mcu_13 mnx mpo mpn mrn mrd mfi mar mfn mfa mnu mst)) hP hD [20, 21, 22, 23, 24, 25, 26, 27, 28, 29, 30, 31] [0, 1, 2, 3, 4, 5, 6, 7, 8, 9, 10, 11, 12, 13, 14, 15, 16, 17, 18, 19, 32] rfl rfl (by decide) (by decide) hk1 hFc hP1 hD1
        have hP := hP.sub (ws' := (wLaw ad am ao cI cJ cZ sl_2 ho nu fa ou sp fn co fo ro po pn rd st tw od rn x_3 y_4 u_5 sn_6 mre_9 mth_10 mxs_11 mys_12 mcu_13 mnx mpo mpn mrn mrd mfi mar mfn mfa mnu mst o_7)) [0, 1, 2, 3, 4, 5, 6, 7, 8, 9, 10, 11, 12, 13, 14, 15, 16, 17, 18, 19, 21, 22, 23, 24, 25, 26, 27, 28, 29, 30, 31, 32, 20] rfl
        have hD := hD.sub (ws' := (wLaw ad am ao cI cJ cZ sl_2 ho nu fa ou sp fn co fo ro po pn rd st tw od rn x_3 y_4 u_5 sn_6 mre_9 mth_10 mxs_11 mys_12 mcu_13 mnx mpo mpn mrn mrd mfi mar mfn mfa mnu mst o_7)) [0, 1, 2, 3, 4, 5, 6, 7, 8, 9, 10, 11, 12, 13, 14, 15, 16, 17, 18, 19, 21, 22, 23, 24, 25, 26, 27, 28, 29, 30, 31, 32, 20] (by decide) rfl
        clear hPc hDc hFc hk1 hz1 hP1 hD1 ht hvm
        generalize H1 = H at hP hS ⊢
        refine lv_istore (lv' := [(6, .int r8), (5, .int r1), (0, .ref (b)), (1, .ref (ad 0)), (2, .ref (am 0)), (3, .ref (ao)), (4, .int v4)]) hx hb dL_law_167 hl (by decide) rfl (fun ls hl => ?_)
        refine lv_aload_n hx hb dL_law_169 rfl (lv_at hl 4 rfl) ?_
        have hPc := hP.sub (ws' := (wMod am cI cJ cZ mre_9 mth_10 mxs_11 mys_12 mcu_13 mnx mpo mpn mrn mrd mfi mar mfn mfa mnu mst)) [20, 21, 22, 23, 24, 25, 26, 27, 28, 29, 30, 31] rfl
        refine vp_callSi (W.runV (As := []) (rest := []) C (c_X4_thrown l dC dI cI cJ cZ am mre_9 mth_10 mxs_11 mys_12 mcu_13 mnx mpo mpn mrn mrd mfi mar mfn mfa mnu mst  hw) (cwV 0 hts gL_law_X4_thrown rfl rfl rfl (by decide +kernel) ⟨Nat.le_of_ble_eq_true rfl, Nat.le_of_ble_eq_true rfl⟩) ⟨fb_ro, va_recv hK hPc (ci := 4) (q0 := 0) rfl rfl, fun U hU hW => ⟨rfl, by rw [hU]; exact hPc, va_K.moved hW.alike hK⟩⟩ rfl rfl hl.1 rfl (lv_room (Nat.le_of_ble_eq_true rfl)) dL_law_170 ⟨by show _ ≤ 1063; omega, by show _ ≤ 11217; omega⟩) (fun r14 hw => ?_)
        refine lv_iload hx hb dL_law_173 (lv_at hl 1 rfl) ?_
        refine lv_icmp_eq (tgt := 180) hx hb dL_law_175 (by decide) (fun hc => ?_) (fun hc => ?_)
        · have hw := hw.1 (hc)
          refine lv_iload hx hb dL_law_180 (lv_at hl 1 rfl) ?_
          refine jn0_use (J := ∀ (ls : Array Slot) (H : Heap) (locs : List Loc), lv_has ls 7 [(0, .ref (b)), (1, .ref (ad 0)), (2, .ref (am 0)), (3, .ref (ao)), (4, .int v4)] → va_P (dC, dI) vwCl (wLaw ad am ao cI cJ cZ sl_2 ho nu fa ou sp fn co fo ro po pn rd st tw od rn x_3 y_4 u_5 sn_6 mre_9 mth_10 mxs_11 mys_12 mcu_13 mnx mpo mpn mrn mrd mfi mar mfn mfa mnu mst o_7) H → va_D (fun q : Nat => s.heap.size ≤ q) (wLaw ad am ao cI cJ cZ sl_2 ho nu fa ou sp fn co fo ro po pn rd st tw od rn x_3 y_4 u_5 sn_6 mre_9 mth_10 mxs_11 mys_12 mcu_13 mnx mpo mpn mrn mrd mfi mar mfn mfa mnu mst o_7) → va_S (fun q : Nat => s.heap.size ≤ q) s.heap H locs → W p l e room_1 s m #[Value.ref b] below meth c H locs (cells + 1) (slots + 6) (lw_Z below #[Value.ref b] s) (F0 m 197 ls [])) hw (fun hw ls H locs hl hP hD hS => ?_) (fun hw hj0 => ?_)
          · refine lv_goto (tgt := 899) hx hb dL_law_197 (by decide) ?_
            refine lv_iinc (v := (v4 + (5 : Int32))) (lv' := [(4, .int (v4 + (5 : Int32))), (0, .ref (b)), (1, .ref (ad 0)), (2, .ref (am 0)), (3, .ref (ao))]) hx hb dL_law_899 hl (k := 4) rfl rfl (by decide) rfl (fun ls hl => ?_)
            refine lv_goto (tgt := 23) hx hb dL_law_902 (by decide) ?_
            exact ih (cells + 1) (slots + 6) sl_2 ho nu fa ou sp fn co fo ro po pn rd st tw od rn x_3 y_4 u_5 sn_6 mre_9 mth_10 mxs_11 mys_12 mcu_13 mnx mpo mpn mrn mrd mfi mar mfn mfa mnu mst o_7 (v4 + (5 : Int32)) ls _ _ (by omega) (by omega) (lv_sub hl [1, 2, 3, 4, 0] rfl) hP hD hS hw
          · have hj16 := hj0
            refine lv_if_ne (tgt := 197) hx hb dL_law_182 (by decide) (fun hc => ?_) (fun hc => ?_)
            · have hw := hw.2 hc
              exact hj16 hw ls _ _ (lv_sub hl [2, 3, 4, 5, 6] rfl) hP hD hS
            · have hw := hw.1 (hc)
              refine lv_aload_n hx hb dL_law_185 rfl (lv_at hl 5 rfl) ?_
              refine lv_iconst (v := 0) hx hb dL_law_186 (by decide) ?_
              have hi := hw.1
              have hw := hw.2
              refine va_lald hx hb hK hP 32 1 rfl rfl hi dL_law_187 ?_
              refine lv_iload hx hb dL_law_188 (lv_at hl 0 rfl) ?_
              refine lv_i2l hx hb dL_law_190 rfl ?_
              refine W.lcmp hx hb dL_law_191 ?_
              refine lv_if_eq (tgt := 197) hx hb dL_law_192 (by decide) (fun hc => ?_) (fun hc => ?_)
              · have hw := hw.1 ((lg_cmp_eq _ _).mp hc)
                exact hj16 hw ls _ _ (lv_sub hl [2, 3, 4, 5, 6] rfl) hP hD hS
              · have hw := hw.2 (fun h9 => hc ((lg_cmp_eq _ _).mpr h9))
                refine lv_iconst (v := 0) hx hb dL_law_195 (by decide) ?_
                exact hw.elim
        · have hw := hw.2 hc
          refine lv_iconst (v := 0) hx hb dL_law_178 (by decide) ?_
          exact hw.elim
      · have hw := hw.2.2.1 hc
        rw [hc]
        refine lv_tableIn (tgt := 200) hx hb dL_law_39 (by decide) (by decide) rfl (by decide) ?_
        refine lv_aload_n hx hb dL_law_200 rfl (lv_at hl 1 rfl) ?_
        refine lv_aload_n hx hb dL_law_201 rfl (lv_at hl 0 rfl) ?_
        refine lv_iload hx hb dL_law_202 (lv_at hl 4 rfl) ?_
        refine lv_iconst (v := 1) hx hb dL_law_204 (by decide) ?_
        refine lv_iadd hx hb dL_law_205 ?_
        have hi := hw.1
        have hw := hw.2
        refine va_sld hx hb hX hbl hbA hS hi dL_law_206 ?_
        have hPc := hP.sub (ws' := (wPla ad cI cJ cZ sl ho nu fa ou sp fn co fo ro po pn rd st tw od rn x y u sn)) [0, 1, 2, 3, 4, 5, 6, 7, 8, 9, 10, 11, 12, 13, 14, 15, 16, 17, 18, 19] rfl
        have hDc := hD.sub (ws' := (wPla ad cI cJ cZ sl ho nu fa ou sp fn co fo ro po pn rd st tw od rn x y u sn)) [0, 1, 2, 3, 4, 5, 6, 7, 8, 9, 10, 11, 12, 13, 14, 15, 16, 17, 18, 19] (by decide) rfl
        have hFc := va_free (wc := (wPla ad cI cJ cZ sl ho nu fa ou sp fn co fo ro po pn rd st tw od rn x y u sn)) hD hS (fun _ h => h) [0, 1, 2, 3, 4, 5, 6, 7, 8, 9, 10, 11, 12, 13, 14, 15, 16, 17, 18, 19] rfl
        refine va_calli (va_runV (As := [.int (xs (v4 + (1 : Int32)).toNatClampNeg)]) (rest := []) C (c_X3_remove l dC dI cI cJ cZ ad _ sl ho nu fa ou sp fn co fo ro po pn rd st tw od rn x y u sn (xs (v4 + (1 : Int32)).toNatClampNeg) hw) (cwV 1 hts gL_law_X3_remove rfl rfl rfl (by decide +kernel) ⟨Nat.le_of_ble_eq_true rfl, Nat.le_of_ble_eq_true rfl⟩) ⟨fb_rw, va_recv hK hPc (ci := 3) (q0 := 0) rfl rfl, fun U hU hW => ⟨rfl, by rw [hU], by rw [hU]; exact hPc, va_K.moved hW.alike hK, hDc.weaken (fun _ _ _ _ => trivial)⟩⟩ rfl rfl hl.1 rfl (lv_room (Nat.le_of_ble_eq_true rfl)) dL_law_207 ⟨by show _ ≤ 1063; omega, by show _ ≤ 11217; omega⟩) hS (fun q _ h => hFc q h) hFc (fun r17 uu t H1 locs ht hvm hw hB hz1 hk1 hS => ?_)
        obtain ⟨sl_18, u_19, sn_20⟩ := uu
        obtain ⟨hP1, hD1⟩ := hB
        rw [ht] at hP1
        try dsimp only at hw hP1 hD1
        obtain ⟨hP, hD⟩ := va_join (wr := [(am 0, .inr (4, [.int mre, .ref (am 1), .ref (am 2), .ref (am 3), .int mcu, .ref (am 4), .ref (am 5), .int mpn, .int mrn, .ref (am 6), .ref (am 7), .ref (am 8), .int mfn, .ref (am 9), .ref (am 10), .ref (am 11)])), (am 1, .inl (cZ, 60, .inl mth)), (am 2, .inl (cI, 120, .inl mxs)), (am 3, .inl (cI, 120, .inl mys)), (am 4, .inl (cI, 120, .inl mnx)), (am 5, .inl (cI, 120, .inl mpo)), (am 6, .inl (cI, 120, .inl mrd)), (am 7, .inl (cI, 120, .inl mfi)), (am 8, .inl (cJ, 120, .inr (.inl mar))), (am 9, .inl (cI, 120, .inl mfa)), (am 10, .inl (cI, 122, .inl mnu)), (am 11, .inl (cI, 122, .inl mst)), (ao, .inl (cJ, 1, .inr (.inl o)))]) (w1 := (wPla ad cI cJ cZ sl_18 ho nu fa ou sp fn co fo ro po pn rd st tw od rn x y u_19 sn_20)) hP hD [0, 1, 2, 3, 4, 5, 6, 7, 8, 9, 10, 11, 12, 13, 14, 15, 16, 17, 18, 19] [20, 21, 22, 23, 24, 25, 26, 27, 28, 29, 30, 31, 32] rfl rfl (by decide) (by decide) hk1 hFc hP1 hD1
        have hP := hP.sub (ws' := (wLaw ad am ao cI cJ cZ sl_18 ho nu fa ou sp fn co fo ro po pn rd st tw od rn x y u_19 sn_20 mre mth mxs mys mcu mnx mpo mpn mrn mrd mfi mar mfn mfa mnu mst o)) [13, 14, 15, 16, 17, 18, 19, 20, 21, 22, 23, 24, 25, 26, 27, 28, 29, 30, 31, 32, 0, 1, 2, 3, 4, 5, 6, 7, 8, 9, 10, 11, 12] rfl
        have hD := hD.sub (ws' := (wLaw ad am ao cI cJ cZ sl_18 ho nu fa ou sp fn co fo ro po pn rd st tw od rn x y u_19 sn_20 mre mth mxs mys mcu mnx mpo mpn mrn mrd mfi mar mfn mfa mnu mst o)) [13, 14, 15, 16, 17, 18, 19, 20, 21, 22, 23, 24, 25, 26, 27, 28, 29, 30, 31, 32, 0, 1, 2, 3, 4, 5, 6, 7, 8, 9, 10, 11, 12] (by decide) rfl
        clear hPc hDc hFc hk1 hz1 hP1 hD1 ht hvm
        generalize H1 = H at hP hS ⊢
        refine lv_aload_n hx hb dL_law_210 rfl (lv_at hl 2 rfl) ?_
        refine lv_aload_n hx hb dL_law_211 rfl (lv_at hl 0 rfl) ?_
        refine lv_iload hx hb dL_law_212 (lv_at hl 4 rfl) ?_
        refine lv_iconst (v := 1) hx hb dL_law_214 (by decide) ?_
        refine lv_iadd hx hb dL_law_215 ?_
        have hi := hw.1
        have hw := hw.2
        refine va_sld hx hb hX hbl hbA hS hi dL_law_216 ?_
        have hPc := hP.sub (ws' := (wMod am cI cJ cZ mre mth mxs mys mcu mnx mpo mpn mrn mrd mfi mar mfn mfa mnu mst)) [20, 21, 22, 23, 24, 25, 26, 27, 28, 29, 30, 31] rfl
        have hDc := hD.sub (ws' := (wMod am cI cJ cZ mre mth mxs mys mcu mnx mpo mpn mrn mrd mfi mar mfn mfa mnu mst)) [20, 21, 22, 23, 24, 25, 26, 27, 28, 29, 30, 31] (by decide) rfl
        have hFc := va_free (wc := (wMod am cI cJ cZ mre mth mxs mys mcu mnx mpo mpn mrn mrd mfi mar mfn mfa mnu mst)) hD hS (fun _ h => h) [20, 21, 22, 23, 24, 25, 26, 27, 28, 29, 30, 31] rfl
        refine va_calli (va_runV (As := [.int (xs (v4 + (1 : Int32)).toNatClampNeg)]) (rest := [.int r17]) C (c_X4_remove l dC dI cI cJ cZ am _ mre mth mxs mys mcu mnx mpo mpn mrn mrd mfi mar mfn mfa mnu mst (xs (v4 + (1 : Int32)).toNatClampNeg) hw) (cwV 1 hts gL_law_X4_remove rfl rfl rfl (by decide +kernel) ⟨Nat.le_of_ble_eq_true rfl, Nat.le_of_ble_eq_true rfl⟩) ⟨fb_rw, va_recv hK hPc (ci := 4) (q0 := 0) rfl rfl, fun U hU hW => ⟨rfl, by rw [hU], by rw [hU]; exact hPc, va_K.moved hW.alike hK, hDc.weaken (fun _ _ _ _ => trivial)⟩⟩ rfl rfl hl.1 rfl (lv_room (Nat.le_of_ble_eq_true rfl)) dL_law_217 ⟨by show _ ≤ 1063; omega, by show _ ≤ 11217; omega⟩) hS (fun q _ h => hFc q h) hFc (fun r21 uu t H1 locs ht hvm hw hB hz1 hk1 hS => ?_)
        obtain ⟨mre_22, mth_23, mcu_24⟩ := uu
        obtain ⟨hP1, hD1⟩ := hB
        rw [ht] at hP1
        try dsimp only at hw hP1 hD1
        obtain ⟨hP, hD⟩ := va_join (wr := [(ad 0, .inr (3, [.ref (ad 16), .ref (ad 7), .ref (ad 1), .int sl_18])), (ad 1, .inr (0, [.ref (ad 7), .ref (ad 16), .ref (ad 2), .ref (ad 3), .ref (ad 4), .ref (ad 5), .ref (ad 6), .int fn])), (ad 2, .inl (cI, 120, .inl ho)), (ad 3, .inl (cI, 120, .inl nu)), (ad 4, .inl (cI, 120, .inl fa)), (ad 5, .inl (cI, 60, .inl ou)), (ad 6, .inl (cI, 121, .inl sp)), (ad 7, .inr (1, [.ref (ad 16), .ref (ad 8), .ref (ad 9), .ref (ad 10), .ref (ad 11), .int pn, .ref (ad 12), .ref (ad 13), .ref (ad 14), .ref (ad 15), .int rn])), (ad 8, .inl (cI, 120, .inl co)), (ad 9, .inl (cI, 120, .inl fo)), (ad 10, .inl (cI, 60, .inl ro)), (ad 11, .inl (cI, 60, .inl po)), (ad 12, .inl (cI, 120, .inl rd)), (ad 13, .inl (cI, 120, .inl st)), (ad 14, .inl (cJ, 120, .inr (.inl tw))), (ad 15, .inl (cI, 120, .inl od)), (ad 16, .inr (2, [.ref (ad 17), .ref (ad 18), .ref (ad 19), .int sn_20])), (ad 17, .inl (cI, 120, .inl x)), (ad 18, .inl (cI, 120, .inl y)), (ad 19, .inl (cZ, 60, .inl u_19)), (ao, .inl (cJ, 1, .inr (.inl o)))]) (w1 := (wMod am cI cJ cZ mre_22 mth_23 mxs mys mcu_24 mnx mpo mpn mrn mrd mfi mar mfn mfa mnu mst)) hP hD [20, 21, 22, 23, 24, 25, 26, 27, 28, 29, 30, 31] [0, 1, 2, 3, 4, 5, 6, 7, 8, 9, 10, 11, 12, 13, 14, 15, 16, 17, 18, 19, 32] rfl rfl (by decide) (by decide) hk1 hFc hP1 hD1
        have hP := hP.sub (ws' := (wLaw ad am ao cI cJ cZ sl_18 ho nu fa ou sp fn co fo ro po pn rd st tw od rn x y u_19 sn_20 mre_22 mth_23 mxs mys mcu_24 mnx mpo mpn mrn mrd mfi mar mfn mfa mnu mst o)) [0, 1, 2, 3, 4, 5, 6, 7, 8, 9, 10, 11, 12, 13, 14, 15, 16, 17, 18, 19, 21, 22, 23, 24, 25, 26, 27, 28, 29, 30, 31, 32, 20] rfl
        have hD := hD.sub (ws' := (wLaw ad am ao cI cJ cZ sl_18 ho nu fa ou sp fn co fo ro po pn rd st tw od rn x y u_19 sn_20 mre_22 mth_23 mxs mys mcu_24 mnx mpo mpn mrn mrd mfi mar mfn mfa mnu mst o)) [0, 1, 2, 3, 4, 5, 6, 7, 8, 9, 10, 11, 12, 13, 14, 15, 16, 17, 18, 19, 21, 22, 23, 24, 25, 26, 27, 28, 29, 30, 31, 32, 20] (by decide) rfl
        clear hPc hDc hFc hk1 hz1 hP1 hD1 ht hvm
        generalize H1 = H at hP hS ⊢
        refine lv_icmp_eq (tgt := 899) hx hb dL_law_220 (by decide) (fun hc => ?_) (fun hc => ?_)
        · have hw := hw.1 (hc)
          refine lv_iinc (v := (v4 + (5 : Int32))) (lv' := [(4, .int (v4 + (5 : Int32))), (0, .ref (b)), (1, .ref (ad 0)), (2, .ref (am 0)), (3, .ref (ao))]) hx hb dL_law_899 hl (k := 4) rfl rfl (by decide) rfl (fun ls hl => ?_)
          refine lv_goto (tgt := 23) hx hb dL_law_902 (by decide) ?_
          refine W.widen (k := cells + 1) (n := slots + 6) (by omega) (by omega) ?_
          exact ih (cells + 1) (slots + 6) sl_18 ho nu fa ou sp fn co fo ro po pn rd st tw od rn x y u_19 sn_20 mre_22 mth_23 mxs mys mcu_24 mnx mpo mpn mrn mrd mfi mar mfn mfa mnu mst o (v4 + (5 : Int32)) ls _ _ (by omega) (by omega) (lv_sub hl [1, 2, 3, 4, 0] rfl) hP hD hS hw
        · have hw := hw.2 hc
          refine lv_iconst (v := 0) hx hb dL_law_223 (by decide) ?_
          exact hw.elim
      · have hw := hw.2.2.2.1 hc
        rw [hc]
        refine lv_tableIn (tgt := 225) hx hb dL_law_39 (by decide) (by decide) rfl (by decide) ?_
        refine lv_aload_n hx hb dL_law_225 rfl (lv_at hl 1 rfl) ?_
        have hPc := hP.sub (ws' := (wPla ad cI cJ cZ sl ho nu fa ou sp fn co fo ro po pn rd st tw od rn x y u sn)) [0, 1, 2, 3, 4, 5, 6, 7, 8, 9, 10, 11, 12, 13, 14, 15, 16, 17, 18, 19] rfl
        have hDc := hD.sub (ws' := (wPla ad cI cJ cZ sl ho nu fa ou sp fn co fo ro po pn rd st tw od rn x y u sn)) [0, 1, 2, 3, 4, 5, 6, 7, 8, 9, 10, 11, 12, 13, 14, 15, 16, 17, 18, 19] (by decide) rfl
        have hFc := va_free (wc := (wPla ad cI cJ cZ sl ho nu fa ou sp fn co fo ro po pn rd st tw od rn x y u sn)) hD hS (fun _ h => h) [0, 1, 2, 3, 4, 5, 6, 7, 8, 9, 10, 11, 12, 13, 14, 15, 16, 17, 18, 19] rfl
        refine va_calli (va_runV (As := []) (rest := []) C (c_X3_clear l dC dI cI cJ cZ ad _ sl ho nu fa ou sp fn co fo ro po pn rd st tw od rn x y u sn  hw) (cwV 0 hts gL_law_X3_clear rfl rfl rfl (by decide +kernel) ⟨Nat.le_of_ble_eq_true rfl, Nat.le_of_ble_eq_true rfl⟩) ⟨fb_rw, va_recv hK hPc (ci := 3) (q0 := 0) rfl rfl, fun U hU hW => ⟨rfl, by rw [hU], by rw [hU]; exact hPc, va_K.moved hW.alike hK, hDc.weaken (fun _ _ _ _ => trivial)⟩⟩ rfl rfl hl.1 rfl (lv_room (Nat.le_of_ble_eq_true rfl)) dL_law_226 ⟨by show _ ≤ 1063; omega, by show _ ≤ 11217; omega⟩) hS (fun q _ h => hFc q h) hFc (fun r25 uu t H1 locs ht hvm hw hB hz1 hk1 hS => ?_)
        obtain ⟨sl_26, u_27, sn_28⟩ := uu
        obtain ⟨hP1, hD1⟩ := hB
        rw [ht] at hP1
        try dsimp only at hw hP1 hD1
        obtain ⟨hP, hD⟩ := va_join (wr := [(am 0, .inr (4, [.int mre, .ref (am 1), .ref (am 2), .ref (am 3), .int mcu, .ref (am 4), .ref (am 5), .int mpn, .int mrn, .ref (am 6), .ref (am 7), .ref (am 8), .int mfn, .ref (am 9), .ref (am 10), .ref (am 11)])), (am 1, .inl (cZ, 60, .inl mth)), (am 2, .inl (cI, 120, .inl mxs)), (am 3, .inl (cI, 120, .inl mys)), (am 4, .inl (cI, 120, .inl mnx)), (am 5, .inl (cI, 120, .inl mpo)), (am 6, .inl (cI, 120, .inl mrd)), (am 7, .inl (cI, 120, .inl mfi)), (am 8, .inl (cJ, 120, .inr (.inl mar))), (am 9, .inl (cI, 120, .inl mfa)), (am 10, .inl (cI, 122, .inl mnu)), (am 11, .inl (cI, 122, .inl mst)), (ao, .inl (cJ, 1, .inr (.inl o)))]) (w1 := (wPla ad cI cJ cZ sl_26 ho nu fa ou sp fn co fo ro po pn rd st tw od rn x y u_27 sn_28)) hP hD [0, 1, 2, 3, 4, 5, 6, 7, 8, 9, 10, 11, 12, 13, 14, 15, 16, 17, 18, 19] [20, 21, 22, 23, 24, 25, 26, 27, 28, 29, 30, 31, 32] rfl rfl (by decide) (by decide) hk1 hFc hP1 hD1
        have hP := hP.sub (ws' := (wLaw ad am ao cI cJ cZ sl_26 ho nu fa ou sp fn co fo ro po pn rd st tw od rn x y u_27 sn_28 mre mth mxs mys mcu mnx mpo mpn mrn mrd mfi mar mfn mfa mnu mst o)) [13, 14, 15, 16, 17, 18, 19, 20, 21, 22, 23, 24, 25, 26, 27, 28, 29, 30, 31, 32, 0, 1, 2, 3, 4, 5, 6, 7, 8, 9, 10, 11, 12] rfl
        have hD := hD.sub (ws' := (wLaw ad am ao cI cJ cZ sl_26 ho nu fa ou sp fn co fo ro po pn rd st tw od rn x y u_27 sn_28 mre mth mxs mys mcu mnx mpo mpn mrn mrd mfi mar mfn mfa mnu mst o)) [13, 14, 15, 16, 17, 18, 19, 20, 21, 22, 23, 24, 25, 26, 27, 28, 29, 30, 31, 32, 0, 1, 2, 3, 4, 5, 6, 7, 8, 9, 10, 11, 12] (by decide) rfl
        clear hPc hDc hFc hk1 hz1 hP1 hD1 ht hvm
        generalize H1 = H at hP hS ⊢
        refine lv_aload_n hx hb dL_law_229 rfl (lv_at hl 2 rfl) ?_
        have hPc := hP.sub (ws' := (wMod am cI cJ cZ mre mth mxs mys mcu mnx mpo mpn mrn mrd mfi mar mfn mfa mnu mst)) [20, 21, 22, 23, 24, 25, 26, 27, 28, 29, 30, 31] rfl
        have hDc := hD.sub (ws' := (wMod am cI cJ cZ mre mth mxs mys mcu mnx mpo mpn mrn mrd mfi mar mfn mfa mnu mst)) [20, 21, 22, 23, 24, 25, 26, 27, 28, 29, 30, 31] (by decide) rfl
        have hFc := va_free (wc := (wMod am cI cJ cZ mre mth mxs mys mcu mnx mpo mpn mrn mrd mfi mar mfn mfa mnu mst)) hD hS (fun _ h => h) [20, 21, 22, 23, 24, 25, 26, 27, 28, 29, 30, 31] rfl
        refine va_calli (va_runV (As := []) (rest := [.int r25]) C (c_X4_clear l dC dI cI cJ cZ am _ mre mth mxs mys mcu mnx mpo mpn mrn mrd mfi mar mfn mfa mnu mst  hw) (cwV 0 hts gL_law_X4_clear rfl rfl rfl (by decide +kernel) ⟨Nat.le_of_ble_eq_true rfl, Nat.le_of_ble_eq_true rfl⟩) ⟨fb_rw, va_recv hK hPc (ci := 4) (q0 := 0) rfl rfl, fun U hU hW => ⟨rfl, by rw [hU], by rw [hU]; exact hPc, va_K.moved hW.alike hK, hDc.weaken (fun _ _ _ _ => trivial)⟩⟩ rfl rfl hl.1 rfl (lv_room (Nat.le_of_ble_eq_true rfl)) dL_law_230 ⟨by show _ ≤ 1063; omega, by show _ ≤ 11217; omega⟩) hS (fun q _ h => hFc q h) hFc (fun r29 uu t H1 locs ht hvm hw hB hz1 hk1 hS => ?_)
        obtain ⟨mre_30, mth_31, mcu_32⟩ := uu
        obtain ⟨hP1, hD1⟩ := hB
        rw [ht] at hP1
        try dsimp only at hw hP1 hD1
        obtain ⟨hP, hD⟩ := va_join (wr := [(ad 0, .inr (3, [.ref (ad 16), .ref (ad 7), .ref (ad 1), .int sl_26])), (ad 1, .inr (0, [.ref (ad 7), .ref (ad 16), .ref (ad 2), .ref (ad 3), .ref (ad 4), .ref (ad 5), .ref (ad 6), .int fn])), (ad 2, .inl (cI, 120, .inl ho)), (ad 3, .inl (cI, 120, .inl nu)), (ad 4, .inl (cI, 120, .inl fa)), (ad 5, .inl (cI, 60, .inl ou)), (ad 6, .inl (cI, 121, .inl sp)), (ad 7, .inr (1, [.ref (ad 16), .ref (ad 8), .ref (ad 9), .ref (ad 10), .ref (ad 11), .int pn, .ref (ad 12), .ref (ad 13), .ref (ad 14), .ref (ad 15), .int rn])), (ad 8, .inl (cI, 120, .inl co)), (ad 9, .inl (cI, 120, .inl fo)), (ad 10, .inl (cI, 60, .inl ro)), (ad 11, .inl (cI, 60, .inl po)), (ad 12, .inl (cI, 120, .inl rd)), (ad 13, .inl (cI, 120, .inl st)), (ad 14, .inl (cJ, 120, .inr (.inl tw))), (ad 15, .inl (cI, 120, .inl od)), (ad 16, .inr (2, [.ref (ad 17), .ref (ad 18), .ref (ad 19), .int sn_28])), (ad 17, .inl (cI, 120, .inl x)), (ad 18, .inl (cI, 120, .inl y)), (ad 19, .inl (cZ, 60, .inl u_27)), (ao, .inl (cJ, 1, .inr (.inl o)))]) (w1 := (wMod am cI cJ cZ mre_30 mth_31 mxs mys mcu_32 mnx mpo mpn mrn mrd mfi mar mfn mfa mnu mst)) hP hD [20, 21, 22, 23, 24, 25, 26, 27, 28, 29, 30, 31] [0, 1, 2, 3, 4, 5, 6, 7, 8, 9, 10, 11, 12, 13, 14, 15, 16, 17, 18, 19, 32] rfl rfl (by decide) (by decide) hk1 hFc hP1 hD1
        have hP := hP.sub (ws' := (wLaw ad am ao cI cJ cZ sl_26 ho nu fa ou sp fn co fo ro po pn rd st tw od rn x y u_27 sn_28 mre_30 mth_31 mxs mys mcu_32 mnx mpo mpn mrn mrd mfi mar mfn mfa mnu mst o)) [0, 1, 2, 3, 4, 5, 6, 7, 8, 9, 10, 11, 12, 13, 14, 15, 16, 17, 18, 19, 21, 22, 23, 24, 25, 26, 27, 28, 29, 30, 31, 32, 20] rfl
        have hD := hD.sub (ws' := (wLaw ad am ao cI cJ cZ sl_26 ho nu fa ou sp fn co fo ro po pn rd st tw od rn x y u_27 sn_28 mre_30 mth_31 mxs mys mcu_32 mnx mpo mpn mrn mrd mfi mar mfn mfa mnu mst o)) [0, 1, 2, 3, 4, 5, 6, 7, 8, 9, 10, 11, 12, 13, 14, 15, 16, 17, 18, 19, 21, 22, 23, 24, 25, 26, 27, 28, 29, 30, 31, 32, 20] (by decide) rfl
        clear hPc hDc hFc hk1 hz1 hP1 hD1 ht hvm
        generalize H1 = H at hP hS ⊢
        refine lv_icmp_eq (tgt := 899) hx hb dL_law_233 (by decide) (fun hc => ?_) (fun hc => ?_)
        · have hw := hw.1 (hc)
          refine lv_iinc (v := (v4 + (5 : Int32))) (lv' := [(4, .int (v4 + (5 : Int32))), (0, .ref (b)), (1, .ref (ad 0)), (2, .ref (am 0)), (3, .ref (ao))]) hx hb dL_law_899 hl (k := 4) rfl rfl (by decide) rfl (fun ls hl => ?_)
          refine lv_goto (tgt := 23) hx hb dL_law_902 (by decide) ?_
          refine W.widen (k := cells + 1) (n := slots + 6) (by omega) (by omega) ?_
          exact ih (cells + 1) (slots + 6) sl_26 ho nu fa ou sp fn co fo ro po pn rd st tw od rn x y u_27 sn_28 mre_30 mth_31 mxs mys mcu_32 mnx mpo mpn mrn mrd mfi mar mfn mfa mnu mst o (v4 + (5 : Int32)) ls _ _ (by omega) (by omega) (lv_sub hl [1, 2, 3, 4, 0] rfl) hP hD hS hw
        · have hw := hw.2 hc
          refine lv_iconst (v := 0) hx hb dL_law_236 (by decide) ?_
          exact hw.elim
      · have hw := hw.2.2.2.2.1 hc
        rw [hc]
        refine lv_tableIn (tgt := 238) hx hb dL_law_39 (by decide) (by decide) rfl (by decide) ?_
        refine lv_aload_n hx hb dL_law_238 rfl (lv_at hl 1 rfl) ?_
        refine lv_aload_n hx hb dL_law_239 rfl (lv_at hl 0 rfl) ?_
        refine lv_iload hx hb dL_law_240 (lv_at hl 4 rfl) ?_
        refine lv_iconst (v := 1) hx hb dL_law_242 (by decide) ?_
        refine lv_iadd hx hb dL_law_243 ?_
        have hi := hw.1
        have hw := hw.2
        refine va_sld hx hb hX hbl hbA hS hi dL_law_244 ?_
        have hPc := hP.sub (ws' := (wPla ad cI cJ cZ sl ho nu fa ou sp fn co fo ro po pn rd st tw od rn x y u sn)) [0, 1, 2, 3, 4, 5, 6, 7, 8, 9, 10, 11, 12, 13, 14, 15, 16, 17, 18, 19] rfl
        have hDc := hD.sub (ws' := (wPla ad cI cJ cZ sl ho nu fa ou sp fn co fo ro po pn rd st tw od rn x y u sn)) [0, 1, 2, 3, 4, 5, 6, 7, 8, 9, 10, 11, 12, 13, 14, 15, 16, 17, 18, 19] (by decide) rfl
        have hFc := va_free (wc := (wPla ad cI cJ cZ sl ho nu fa ou sp fn co fo ro po pn rd st tw od rn x y u sn)) hD hS (fun _ h => h) [0, 1, 2, 3, 4, 5, 6, 7, 8, 9, 10, 11, 12, 13, 14, 15, 16, 17, 18, 19] rfl
        refine va_calli (va_runV (As := [.int (xs (v4 + (1 : Int32)).toNatClampNeg)]) (rest := []) C (c_X3_count l dC dI cI cJ cZ ad _ sl ho nu fa ou sp fn co fo ro po pn rd st tw od rn x y u sn (xs (v4 + (1 : Int32)).toNatClampNeg) hw) (cwV 1 hts gL_law_X3_count rfl rfl rfl (by decide +kernel) ⟨Nat.le_of_ble_eq_true rfl, Nat.le_of_ble_eq_true rfl⟩) ⟨fb_rw, va_recv hK hPc (ci := 3) (q0 := 0) rfl rfl, fun U hU hW => ⟨rfl, by rw [hU], by rw [hU]; exact hPc, va_K.moved hW.alike hK, hDc.weaken (fun _ _ _ _ => trivial)⟩⟩ rfl rfl hl.1 rfl (lv_room (Nat.le_of_ble_eq_true rfl)) dL_law_245 ⟨by show _ ≤ 1063; omega, by show _ ≤ 11217; omega⟩) hS (fun q _ h => hFc q h) hFc (fun r33 uu t H1 locs ht hvm hw hB hz1 hk1 hS => ?_)
        obtain ⟨sl_34, ho_35, nu_36, fa_37, ou_38, fn_39, co_40, fo_41, ro_42, po_43, pn_44, rd_45, st_46, tw_47, od_48, rn_49⟩ := uu
        obtain ⟨hP1, hD1⟩ := hB
        rw [ht] at hP1
        try dsimp only at hw hP1 hD1
        obtain ⟨hP, hD⟩ := va_join (wr := [(am 0, .inr (4, [.int mre, .ref (am 1), .ref (am 2), .ref (am 3), .int mcu, .ref (am 4), .ref (am 5), .int mpn, .int mrn, .ref (am 6), .ref (am 7), .ref (am 8), .int mfn, .ref (am 9), .ref (am 10), .ref (am 11)])), (am 1, .inl (cZ, 60, .inl mth)), (am 2, .inl (cI, 120, .inl mxs)), (am 3, .inl (cI, 120, .inl mys)), (am 4, .inl (cI, 120, .inl mnx)), (am 5, .inl (cI, 120, .inl mpo)), (am 6, .inl (cI, 120, .inl mrd)), (am 7, .inl (cI, 120, .inl mfi)), (am 8, .inl (cJ, 120, .inr (.inl mar))), (am 9, .inl (cI, 120, .inl mfa)), (am 10, .inl (cI, 122, .inl mnu)), (am 11, .inl (cI, 122, .inl mst)), (ao, .inl (cJ, 1, .inr (.inl o)))]) (w1 := (wPla ad cI cJ cZ sl_34 ho_35 nu_36 fa_37 ou_38 sp fn_39 co_40 fo_41 ro_42 po_43 pn_44 rd_45 st_46 tw_47 od_48 rn_49 x y u sn)) hP hD [0, 1, 2, 3, 4, 5, 6, 7, 8, 9, 10, 11, 12, 13, 14, 15, 16, 17, 18, 19] [20, 21, 22, 23, 24, 25, 26, 27, 28, 29, 30, 31, 32] rfl rfl (by decide) (by decide) hk1 hFc hP1 hD1
        have hP := hP.sub (ws' := (wLaw ad am ao cI cJ cZ sl_34 ho_35 nu_36 fa_37 ou_38 sp fn_39 co_40 fo_41 ro_42 po_43 pn_44 rd_45 st_46 tw_47 od_48 rn_49 x y u sn mre mth mxs mys mcu mnx mpo mpn mrn mrd mfi mar mfn mfa mnu mst o)) [13, 14, 15, 16, 17, 18, 19, 20, 21, 22, 23, 24, 25, 26, 27, 28, 29, 30, 31, 32, 0, 1, 2, 3, 4, 5, 6, 7, 8, 9, 10, 11, 12] rfl
        have hD := hD.sub (ws' := (wLaw ad am ao cI cJ cZ sl_34 ho_35 nu_36 fa_37 ou_38 sp fn_39 co_40 fo_41 ro_42 po_43 pn_44 rd_45 st_46 tw_47 od_48 rn_49 x y u sn mre mth mxs mys mcu mnx mpo mpn mrn mrd mfi mar mfn mfa mnu mst o)) [13, 14, 15, 16, 17, 18, 19, 20, 21, 22, 23, 24, 25, 26, 27, 28, 29, 30, 31, 32, 0, 1, 2, 3, 4, 5, 6, 7, 8, 9, 10, 11, 12] (by decide) rfl
        clear hPc hDc hFc hk1 hz1 hP1 hD1 ht hvm
        generalize H1 = H at hP hS ⊢
        refine lv_aload_n hx hb dL_law_248 rfl (lv_at hl 2 rfl) ?_
        refine lv_aload_n hx hb dL_law_249 rfl (lv_at hl 0 rfl) ?_
        refine lv_iload hx hb dL_law_250 (lv_at hl 4 rfl) ?_
        refine lv_iconst (v := 1) hx hb dL_law_252 (by decide) ?_
        refine lv_iadd hx hb dL_law_253 ?_
        have hi := hw.1
        have hw := hw.2
        refine va_sld hx hb hX hbl hbA hS hi dL_law_254 ?_
        have hPc := hP.sub (ws' := (wMod am cI cJ cZ mre mth mxs mys mcu mnx mpo mpn mrn mrd mfi mar mfn mfa mnu mst)) [20, 21, 22, 23, 24, 25, 26, 27, 28, 29, 30, 31] rfl
        have hDc := hD.sub (ws' := (wMod am cI cJ cZ mre mth mxs mys mcu mnx mpo mpn mrn mrd mfi mar mfn mfa mnu mst)) [20, 21, 22, 23, 24, 25, 26, 27, 28, 29, 30, 31] (by decide) rfl
        have hFc := va_free (wc := (wMod am cI cJ cZ mre mth mxs mys mcu mnx mpo mpn mrn mrd mfi mar mfn mfa mnu mst)) hD hS (fun _ h => h) [20, 21, 22, 23, 24, 25, 26, 27, 28, 29, 30, 31] rfl
        refine va_calli (va_runV (As := [.int (xs (v4 + (1 : Int32)).toNatClampNeg)]) (rest := [.int r33]) C (c_X4_count l dC dI cI cJ cZ am _ mre mth mxs mys mcu mnx mpo mpn mrn mrd mfi mar mfn mfa mnu mst (xs (v4 + (1 : Int32)).toNatClampNeg) hw) (cwV 1 hts gL_law_X4_count rfl rfl rfl (by decide +kernel) ⟨Nat.le_of_ble_eq_true rfl, Nat.le_of_ble_eq_true rfl⟩) ⟨fb_rw, va_recv hK hPc (ci := 4) (q0 := 0) rfl rfl, fun U hU hW => ⟨rfl, by rw [hU], by rw [hU]; exact hPc, va_K.moved hW.alike hK, hDc.weaken (fun _ _ _ _ => trivial)⟩⟩ rfl rfl hl.1 rfl (lv_room (Nat.le_of_ble_eq_true rfl)) dL_law_255 ⟨by show _ ≤ 1063; omega, by show _ ≤ 11217; omega⟩) hS (fun q _ h => hFc q h) hFc (fun r50 uu t H1 locs ht hvm hw hB hz1 hk1 hS => ?_)
        obtain ⟨mre_51, mcu_52, mnx_53, mpo_54, mpn_55, mrn_56, mrd_57, mfi_58, mar_59, mfn_60, mfa_61, mnu_62⟩ := uu
        obtain ⟨hP1, hD1⟩ := hB
        rw [ht] at hP1
        try dsimp only at hw hP1 hD1
        obtain ⟨hP, hD⟩ := va_join (wr := [(ad 0, .inr (3, [.ref (ad 16), .ref (ad 7), .ref (ad 1), .int sl_34])), (ad 1, .inr (0, [.ref (ad 7), .ref (ad 16), .ref (ad 2), .ref (ad 3), .ref (ad 4), .ref (ad 5), .ref (ad 6), .int fn_39])), (ad 2, .inl (cI, 120, .inl ho_35)), (ad 3, .inl (cI, 120, .inl nu_36)), (ad 4, .inl (cI, 120, .inl fa_37)), (ad 5, .inl (cI, 60, .inl ou_38)), (ad 6, .inl (cI, 121, .inl sp)), (ad 7, .inr (1, [.ref (ad 16), .ref (ad 8), .ref (ad 9), .ref (ad 10), .ref (ad 11), .int pn_44, .ref (ad 12), .ref (ad 13), .ref (ad 14), .ref (ad 15), .int rn_49])), (ad 8, .inl (cI, 120, .inl co_40)), (ad 9, .inl (cI, 120, .inl fo_41)), (ad 10, .inl (cI, 60, .inl ro_42)), (ad 11, .inl (cI, 60, .inl po_43)), (ad 12, .inl (cI, 120, .inl rd_45)), (ad 13, .inl (cI, 120, .inl st_46)), (ad 14, .inl (cJ, 120, .inr (.inl tw_47))), (ad 15, .inl (cI, 120, .inl od_48)), (ad 16, .inr (2, [.ref (ad 17), .ref (ad 18), .ref (ad 19), .int sn])), (ad 17, .inl (cI, 120, .inl x)), (ad 18, .inl (cI, 120, .inl y)), (ad 19, .inl (cZ, 60, .inl u)), (ao, .inl (cJ, 1, .inr (.inl o)))]) (w1 := (wMod am cI cJ cZ mre_51 mth mxs mys mcu_52 mnx_53 mpo_54 mpn_55 mrn_56 mrd_57 mfi_58 mar_59 mfn_60 mfa_61 mnu_62 mst)) hP hD [20, 21, 22, 23, 24, 25, 26, 27, 28, 29, 30, 31] [0, 1, 2, 3, 4, 5, 6, 7, 8, 9, 10, 11, 12, 13, 14, 15, 16, 17, 18, 19, 32] rfl rfl (by decide) (by decide) hk1 hFc hP1 hD1
        have hP := hP.sub (ws' := (wLaw ad am ao cI cJ cZ sl_34 ho_35 nu_36 fa_37 ou_38 sp fn_39 co_40 fo_41 ro_42 po_43 pn_44 rd_45 st_46 tw_47 od_48 rn_49 x y u sn mre_51 mth mxs mys mcu_52 mnx_53 mpo_54 mpn_55 mrn_56 mrd_57 mfi_58 mar_59 mfn_60 mfa_61 mnu_62 mst o)) [0, 1, 2, 3, 4, 5, 6, 7, 8, 9, 10, 11, 12, 13, 14, 15, 16, 17, 18, 19, 21, 22, 23, 24, 25, 26, 27, 28, 29, 30, 31, 32, 20] rfl
        have hD := hD.sub (ws' := (wLaw ad am ao cI cJ cZ sl_34 ho_35 nu_36 fa_37 ou_38 sp fn_39 co_40 fo_41 ro_42 po_43 pn_44 rd_45 st_46 tw_47 od_48 rn_49 x y u sn mre_51 mth mxs mys mcu_52 mnx_53 mpo_54 mpn_55 mrn_56 mrd_57 mfi_58 mar_59 mfn_60 mfa_61 mnu_62 mst o)) [0, 1, 2, 3, 4, 5, 6, 7, 8, 9, 10, 11, 12, 13, 14, 15, 16, 17, 18, 19, 21, 22, 23, 24, 25, 26, 27, 28, 29, 30, 31, 32, 20] (by decide) rfl
        clear hPc hDc hFc hk1 hz1 hP1 hD1 ht hvm
        generalize H1 = H at hP hS ⊢
        refine lv_icmp_eq (tgt := 899) hx hb dL_law_258 (by decide) (fun hc => ?_) (fun hc => ?_)
        · have hw := hw.1 (hc)
          refine lv_iinc (v := (v4 + (5 : Int32))) (lv' := [(4, .int (v4 + (5 : Int32))), (0, .ref (b)), (1, .ref (ad 0)), (2, .ref (am 0)), (3, .ref (ao))]) hx hb dL_law_899 hl (k := 4) rfl rfl (by decide) rfl (fun ls hl => ?_)
          refine lv_goto (tgt := 23) hx hb dL_law_902 (by decide) ?_
          refine W.widen (k := cells + 1) (n := slots + 6) (by omega) (by omega) ?_
          exact ih (cells + 1) (slots + 6) sl_34 ho_35 nu_36 fa_37 ou_38 sp fn_39 co_40 fo_41 ro_42 po_43 pn_44 rd_45 st_46 tw_47 od_48 rn_49 x y u sn mre_51 mth mxs mys mcu_52 mnx_53 mpo_54 mpn_55 mrn_56 mrd_57 mfi_58 mar_59 mfn_60 mfa_61 mnu_62 mst o (v4 + (5 : Int32)) ls _ _ (by omega) (by omega) (lv_sub hl [1, 2, 3, 4, 0] rfl) hP hD hS hw
        · have hw := hw.2 hc
          refine lv_iconst (v := 0) hx hb dL_law_261 (by decide) ?_
          exact hw.elim
      · have hw := hw.2.2.2.2.2.1 hc
        rw [hc]
        refine lv_tableIn (tgt := 263) hx hb dL_law_39 (by decide) (by decide) rfl (by decide) ?_
        refine lv_aload_n hx hb dL_law_263 rfl (lv_at hl 1 rfl) ?_
        refine lv_aload_n hx hb dL_law_264 rfl (lv_at hl 0 rfl) ?_
        refine lv_iload hx hb dL_law_265 (lv_at hl 4 rfl) ?_
        refine lv_iconst (v := 1) hx hb dL_law_267 (by decide) ?_
        refine lv_iadd hx hb dL_law_268 ?_
        have hi := hw.1
        have hw := hw.2
        refine va_sld hx hb hX hbl hbA hS hi dL_law_269 ?_
        refine lv_aload_n hx hb dL_law_270 rfl (lv_at hl 0 rfl) ?_
        refine lv_iload hx hb dL_law_271 (lv_at hl 4 rfl) ?_
        refine lv_iconst (v := 2) hx hb dL_law_273 (by decide) ?_
        refine lv_iadd hx hb dL_law_274 ?_
        have hi := hw.1
        have hw := hw.2
        refine va_sld hx hb hX hbl hbA hS hi dL_law_275 ?_
        refine jn2_use (J := fun (k63 : Int32) (k64 : Int32) => ∀ (ls : Array Slot) (H : Heap) (locs : List Loc), lv_has ls 7 [(0, .ref (b)), (1, .ref (ad 0)), (2, .ref (am 0)), (3, .ref (ao)), (4, .int v4)] → va_P (dC, dI) vwCl (wLaw ad am ao cI cJ cZ sl ho nu fa ou sp fn co fo ro po pn rd st tw od rn x y u sn mre mth mxs mys mcu mnx mpo mpn mrn mrd mfi mar mfn mfa mnu mst o) H → va_D (fun q : Nat => s.heap.size ≤ q) (wLaw ad am ao cI cJ cZ sl ho nu fa ou sp fn co fo ro po pn rd st tw od rn x y u sn mre mth mxs mys mcu mnx mpo mpn mrn mrd mfi mar mfn mfa mnu mst o) → va_S (fun q : Nat => s.heap.size ≤ q) s.heap H locs → W p l e room_1 s m #[Value.ref b] below meth c H locs cells slots (lw_Z below #[Value.ref b] s) (F0 m 284 ls [.int k63, .int k64, .ref (ad 0)])) hw (fun k63 k64 hw ls H locs hl hP hD hS => ?_) (fun hw hj0 => ?_)
        · refine lv_aload_n hx hb dL_law_284 rfl (lv_at hl 3 rfl) ?_
          have hPc := hP.sub (ws' := (wLx ad cI cJ cZ sl ho nu fa ou sp fn co fo ro po pn rd st tw od rn x y u sn ao o)) [0, 1, 2, 3, 4, 5, 6, 7, 8, 9, 10, 11, 12, 13, 14, 15, 16, 17, 18, 19, 32] rfl
          have hDc := hD.sub (ws' := (wLx ad cI cJ cZ sl ho nu fa ou sp fn co fo ro po pn rd st tw od rn x y u sn ao o)) [0, 1, 2, 3, 4, 5, 6, 7, 8, 9, 10, 11, 12, 13, 14, 15, 16, 17, 18, 19, 32] (by decide) rfl
          have hFc := va_free (wc := (wLx ad cI cJ cZ sl ho nu fa ou sp fn co fo ro po pn rd st tw od rn x y u sn ao o)) hD hS (fun _ h => h) [0, 1, 2, 3, 4, 5, 6, 7, 8, 9, 10, 11, 12, 13, 14, 15, 16, 17, 18, 19, 32] rfl
          refine va_calli (vx_runSW (As := [.ref (ad 0), .int k64, .int k63, .ref (ao)]) (rest := []) C (c_L_begins l hst dC dI cI cJ cZ ad _ sl ho nu fa ou sp fn co fo ro po pn rd st tw od rn x y u sn ao o k64 k63 hw) (vx_cwSW 4 hts gL_law_L_begins rfl rfl rfl (by decide +kernel) ⟨Nat.le_of_ble_eq_true rfl, Nat.le_of_ble_eq_true rfl⟩) ⟨fb_x, fun U hU hW => ⟨rfl, by rw [hU], by rw [hU]; exact hPc, va_K.moved hW.alike hK, hDc.weaken (fun _ _ _ _ => trivial), hxe.step hS hFc hU hW⟩⟩ rfl rfl hl.1 rfl (lv_room (Nat.le_of_ble_eq_true rfl)) dL_law_285 ⟨by show _ ≤ 1063; omega, by show _ ≤ 11217; omega⟩) hS (fun q _ h => hFc q h) hFc (fun r67 uu t H1 locs ht hvm hw hB hz1 hk1 hS => ?_)
          obtain ⟨o_68, rfl⟩ : ∃ z, z = uu := ⟨_, rfl⟩
          obtain ⟨hP1, hD1⟩ := hB
          rw [ht] at hP1
          try dsimp only at hw hP1 hD1
          obtain ⟨hP, hD⟩ := va_join (wr := [(am 0, .inr (4, [.int mre, .ref (am 1), .ref (am 2), .ref (am 3), .int mcu, .ref (am 4), .ref (am 5), .int mpn, .int mrn, .ref (am 6), .ref (am 7), .ref (am 8), .int mfn, .ref (am 9), .ref (am 10), .ref (am 11)])), (am 1, .inl (cZ, 60, .inl mth)), (am 2, .inl (cI, 120, .inl mxs)), (am 3, .inl (cI, 120, .inl mys)), (am 4, .inl (cI, 120, .inl mnx)), (am 5, .inl (cI, 120, .inl mpo)), (am 6, .inl (cI, 120, .inl mrd)), (am 7, .inl (cI, 120, .inl mfi)), (am 8, .inl (cJ, 120, .inr (.inl mar))), (am 9, .inl (cI, 120, .inl mfa)), (am 10, .inl (cI, 122, .inl mnu)), (am 11, .inl (cI, 122, .inl mst))]) (w1 := (wLx ad cI cJ cZ sl ho nu fa ou sp fn co fo ro po pn rd st tw od rn x y u sn ao o_68)) hP hD [0, 1, 2, 3, 4, 5, 6, 7, 8, 9, 10, 11, 12, 13, 14, 15, 16, 17, 18, 19, 32] [20, 21, 22, 23, 24, 25, 26, 27, 28, 29, 30, 31] rfl rfl (by decide) (by decide) hk1 hFc hP1 hD1
          have hP := hP.sub (ws' := (wLaw ad am ao cI cJ cZ sl ho nu fa ou sp fn co fo ro po pn rd st tw od rn x y u sn mre mth mxs mys mcu mnx mpo mpn mrn mrd mfi mar mfn mfa mnu mst o_68)) [12, 13, 14, 15, 16, 17, 18, 19, 20, 21, 22, 23, 24, 25, 26, 27, 28, 29, 30, 31, 0, 1, 2, 3, 4, 5, 6, 7, 8, 9, 10, 11, 32] rfl
          have hD := hD.sub (ws' := (wLaw ad am ao cI cJ cZ sl ho nu fa ou sp fn co fo ro po pn rd st tw od rn x y u sn mre mth mxs mys mcu mnx mpo mpn mrn mrd mfi mar mfn mfa mnu mst o_68)) [12, 13, 14, 15, 16, 17, 18, 19, 20, 21, 22, 23, 24, 25, 26, 27, 28, 29, 30, 31, 0, 1, 2, 3, 4, 5, 6, 7, 8, 9, 10, 11, 32] (by decide) rfl
          clear hPc hDc hFc hk1 hz1 hP1 hD1 ht hvm
          generalize H1 = H at hP hS ⊢
          refine lv_istore (lv' := [(5, .int r67), (0, .ref (b)), (1, .ref (ad 0)), (2, .ref (am 0)), (3, .ref (ao)), (4, .int v4)]) hx hb dL_law_288 hl (by decide) rfl (fun ls hl => ?_)
          refine lv_aload_n hx hb dL_law_290 rfl (lv_at hl 3 rfl) ?_
          refine lv_aload_n hx hb dL_law_291 rfl (lv_at hl 1 rfl) ?_
          refine lv_iload hx hb dL_law_292 (lv_at hl 5 rfl) ?_
          refine lv_iconst (v := 1) hx hb dL_law_294 (by decide) ?_
          refine lv_iadd hx hb dL_law_295 ?_
          have hi := hw.1
          have hw := hw.2
          refine va_sld hx hb hX hbl hbA hS hi dL_law_296 ?_
          refine lv_aload_n hx hb dL_law_297 rfl (lv_at hl 1 rfl) ?_
          refine lv_iload hx hb dL_law_298 (lv_at hl 5 rfl) ?_
          refine lv_iconst (v := 2) hx hb dL_law_300 (by decide) ?_
          refine lv_iadd hx hb dL_law_301 ?_
          have hi := hw.1
          have hw := hw.2
          refine va_sld hx hb hX hbl hbA hS hi dL_law_302 ?_
          refine jn2_use (J := fun (k69 : Int32) (k70 : Int32) => ∀ (ls : Array Slot) (H : Heap) (locs : List Loc), lv_has ls 7 [(0, .ref (b)), (1, .ref (ad 0)), (2, .ref (am 0)), (3, .ref (ao)), (4, .int v4), (5, .int r67)] → va_P (dC, dI) vwCl (wLaw ad am ao cI cJ cZ sl ho nu fa ou sp fn co fo ro po pn rd st tw od rn x y u sn mre mth mxs mys mcu mnx mpo mpn mrn mrd mfi mar mfn mfa mnu mst o_68) H → va_D (fun q : Nat => s.heap.size ≤ q) (wLaw ad am ao cI cJ cZ sl ho nu fa ou sp fn co fo ro po pn rd st tw od rn x y u sn mre mth mxs mys mcu mnx mpo mpn mrn mrd mfi mar mfn mfa mnu mst o_68) → va_S (fun q : Nat => s.heap.size ≤ q) s.heap H locs → W p l e room_1 s m #[Value.ref b] below meth c H locs (cells + 1) (slots + 6) (lw_Z below #[Value.ref b] s) (F0 m 311 ls [.int k69, .int k70, .ref (am 0)])) hw (fun k69 k70 hw ls H locs hl hP hD hS => ?_) (fun hw hj0 => ?_)
          · have hPc := hP.sub (ws' := (wMod am cI cJ cZ mre mth mxs mys mcu mnx mpo mpn mrn mrd mfi mar mfn mfa mnu mst)) [20, 21, 22, 23, 24, 25, 26, 27, 28, 29, 30, 31] rfl
            have hDc := hD.sub (ws' := (wMod am cI cJ cZ mre mth mxs mys mcu mnx mpo mpn mrn mrd mfi mar mfn mfa mnu mst)) [20, 21, 22, 23, 24, 25, 26, 27, 28, 29, 30, 31] (by decide) rfl
            have hFc := va_free (wc := (wMod am cI cJ cZ mre mth mxs mys mcu mnx mpo mpn mrn mrd mfi mar mfn mfa mnu mst)) hD hS (fun _ h => h) [20, 21, 22, 23, 24, 25, 26, 27, 28, 29, 30, 31] rfl
            refine va_calli (va_runV (As := [.int k70, .int k69]) (rest := []) C (c_X4_begins l dC dI cI cJ cZ am _ mre mth mxs mys mcu mnx mpo mpn mrn mrd mfi mar mfn mfa mnu mst k70 k69 hw) (cwV 2 hts gL_law_X4_begins rfl rfl rfl (by decide +kernel) ⟨Nat.le_of_ble_eq_true rfl, Nat.le_of_ble_eq_true rfl⟩) ⟨fb_rw, va_recv hK hPc (ci := 4) (q0 := 0) rfl rfl, fun U hU hW => ⟨rfl, by rw [hU], by rw [hU]; exact hPc, va_K.moved hW.alike hK, hDc.weaken (fun _ _ _ _ => trivial)⟩⟩ rfl rfl hl.1 rfl (lv_room (Nat.le_of_ble_eq_true rfl)) dL_law_311 ⟨by show _ ≤ 1063; omega, by show _ ≤ 11217; omega⟩) hS (fun q _ h => hFc q h) hFc (fun r73 uu t H1 locs ht hvm hw hB hz1 hk1 hS => ?_)
            obtain ⟨mre_74, rfl⟩ : ∃ z, z = uu := ⟨_, rfl⟩
            obtain ⟨hP1, hD1⟩ := hB
            rw [ht] at hP1
            try dsimp only at hw hP1 hD1
            obtain ⟨hP, hD⟩ := va_join (wr := [(ad 0, .inr (3, [.ref (ad 16), .ref (ad 7), .ref (ad 1), .int sl])), (ad 1, .inr (0, [.ref (ad 7), .ref (ad 16), .ref (ad 2), .ref (ad 3), .ref (ad 4), .ref (ad 5), .ref (ad 6), .int fn])), (ad 2, .inl (cI, 120, .inl ho)), (ad 3, .inl (cI, 120, .inl nu)), (ad 4, .inl (cI, 120, .inl fa)), (ad 5, .inl (cI, 60, .inl ou)), (ad 6, .inl (cI, 121, .inl sp)), (ad 7, .inr (1, [.ref (ad 16), .ref (ad 8), .ref (ad 9), .ref (ad 10), .ref (ad 11), .int pn, .ref (ad 12), .ref (ad 13), .ref (ad 14), .ref (ad 15), .int rn])), (ad 8, .inl (cI, 120, .inl co)), (ad 9, .inl (cI, 120, .inl fo)), (ad 10, .inl (cI, 60, .inl ro)), (ad 11, .inl (cI, 60, .inl po)), (ad 12, .inl (cI, 120, .inl rd)), (ad 13, .inl (cI, 120, .inl st)), (ad 14, .inl (cJ, 120, .inr (.inl tw))), (ad 15, .inl (cI, 120, .inl od)), (ad 16, .inr (2, [.ref (ad 17), .ref (ad 18), .ref (ad 19), .int sn])), (ad 17, .inl (cI, 120, .inl x)), (ad 18, .inl (cI, 120, .inl y)), (ad 19, .inl (cZ, 60, .inl u)), (ao, .inl (cJ, 1, .inr (.inl o_68)))]) (w1 := (wMod am cI cJ cZ mre_74 mth mxs mys mcu mnx mpo mpn mrn mrd mfi mar mfn mfa mnu mst)) hP hD [20, 21, 22, 23, 24, 25, 26, 27, 28, 29, 30, 31] [0, 1, 2, 3, 4, 5, 6, 7, 8, 9, 10, 11, 12, 13, 14, 15, 16, 17, 18, 19, 32] rfl rfl (by decide) (by decide) hk1 hFc hP1 hD1
            have hP := hP.sub (ws' := (wLaw ad am ao cI cJ cZ sl ho nu fa ou sp fn co fo ro po pn rd st tw od rn x y u sn mre_74 mth mxs mys mcu mnx mpo mpn mrn mrd mfi mar mfn mfa mnu mst o_68)) [0, 1, 2, 3, 4, 5, 6, 7, 8, 9, 10, 11, 12, 13, 14, 15, 16, 17, 18, 19, 21, 22, 23, 24, 25, 26, 27, 28, 29, 30, 31, 32, 20] rfl
            have hD := hD.sub (ws' := (wLaw ad am ao cI cJ cZ sl ho nu fa ou sp fn co fo ro po pn rd st tw od rn x y u sn mre_74 mth mxs mys mcu mnx mpo mpn mrn mrd mfi mar mfn mfa mnu mst o_68)) [0, 1, 2, 3, 4, 5, 6, 7, 8, 9, 10, 11, 12, 13, 14, 15, 16, 17, 18, 19, 21, 22, 23, 24, 25, 26, 27, 28, 29, 30, 31, 32, 20] (by decide) rfl
            clear hPc hDc hFc hk1 hz1 hP1 hD1 ht hvm
            generalize H1 = H at hP hS ⊢
            refine lv_istore (lv' := [(6, .int r73), (0, .ref (b)), (1, .ref (ad 0)), (2, .ref (am 0)), (3, .ref (ao)), (4, .int v4), (5, .int r67)]) hx hb dL_law_314 hl (by decide) rfl (fun ls hl => ?_)
            refine lv_aload_n hx hb dL_law_316 rfl (lv_at hl 3 rfl) ?_
            have hPc := hP.sub (ws' := (wMod am cI cJ cZ mre_74 mth mxs mys mcu mnx mpo mpn mrn mrd mfi mar mfn mfa mnu mst)) [20, 21, 22, 23, 24, 25, 26, 27, 28, 29, 30, 31] rfl
            refine vp_callSi (W.runV (As := []) (rest := []) C (c_X4_thrown l dC dI cI cJ cZ am mre_74 mth mxs mys mcu mnx mpo mpn mrn mrd mfi mar mfn mfa mnu mst  hw) (cwV 0 hts gL_law_X4_thrown rfl rfl rfl (by decide +kernel) ⟨Nat.le_of_ble_eq_true rfl, Nat.le_of_ble_eq_true rfl⟩) ⟨fb_ro, va_recv hK hPc (ci := 4) (q0 := 0) rfl rfl, fun U hU hW => ⟨rfl, by rw [hU]; exact hPc, va_K.moved hW.alike hK⟩⟩ rfl rfl hl.1 rfl (lv_room (Nat.le_of_ble_eq_true rfl)) dL_law_317 ⟨by show _ ≤ 1063; omega, by show _ ≤ 11217; omega⟩) (fun r75 hw => ?_)
            refine lv_iload hx hb dL_law_320 (lv_at hl 6 rfl) ?_
            refine lv_icmp_eq (tgt := 327) hx hb dL_law_322 (by decide) (fun hc => ?_) (fun hc => ?_)
            · have hw := hw.1 (hc)
              refine lv_iload hx hb dL_law_327 (lv_at hl 6 rfl) ?_
              refine jn0_use (J := ∀ (ls : Array Slot) (H : Heap) (locs : List Loc), lv_has ls 7 [(0, .ref (b)), (1, .ref (ad 0)), (2, .ref (am 0)), (3, .ref (ao)), (4, .int v4)] → va_P (dC, dI) vwCl (wLaw ad am ao cI cJ cZ sl ho nu fa ou sp fn co fo ro po pn rd st tw od rn x y u sn mre_74 mth mxs mys mcu mnx mpo mpn mrn mrd mfi mar mfn mfa mnu mst o_68) H → va_D (fun q : Nat => s.heap.size ≤ q) (wLaw ad am ao cI cJ cZ sl ho nu fa ou sp fn co fo ro po pn rd st tw od rn x y u sn mre_74 mth mxs mys mcu mnx mpo mpn mrn mrd mfi mar mfn mfa mnu mst o_68) → va_S (fun q : Nat => s.heap.size ≤ q) s.heap H locs → W p l e room_1 s m #[Value.ref b] below meth c H locs (cells + 1) (slots + 6) (lw_Z below #[Value.ref b] s) (F0 m 344 ls [])) hw (fun hw ls H locs hl hP hD hS => ?_) (fun hw hj0 => ?_)
              · refine lv_goto (tgt := 899) hx hb dL_law_344 (by decide) ?_
                refine lv_iinc (v := (v4 + (5 : Int32))) (lv' := [(4, .int (v4 + (5 : Int32))), (0, .ref (b)), (1, .ref (ad 0)), (2, .ref (am 0)), (3, .ref (ao))]) hx hb dL_law_899 hl (k := 4) rfl rfl (by decide) rfl (fun ls hl => ?_)
                refine lv_goto (tgt := 23) hx hb dL_law_902 (by decide) ?_
                exact ih (cells + 1) (slots + 6) sl ho nu fa ou sp fn co fo ro po pn rd st tw od rn x y u sn mre_74 mth mxs mys mcu mnx mpo mpn mrn mrd mfi mar mfn mfa mnu mst o_68 (v4 + (5 : Int32)) ls _ _ (by omega) (by omega) (lv_sub hl [1, 2, 3, 4, 0] rfl) hP hD hS hw
              · have hj77 := hj0
                refine lv_if_ne (tgt := 344) hx hb dL_law_329 (by decide) (fun hc => ?_) (fun hc => ?_)
                · have hw := hw.2 hc
                  exact hj77 hw ls _ _ (lv_sub hl [1, 2, 3, 4, 5] rfl) hP hD hS
                · have hw := hw.1 (hc)
                  refine lv_aload_n hx hb dL_law_332 rfl (lv_at hl 4 rfl) ?_
                  refine lv_iconst (v := 0) hx hb dL_law_333 (by decide) ?_
                  have hi := hw.1
                  have hw := hw.2
                  refine va_lald hx hb hK hP 32 1 rfl rfl hi dL_law_334 ?_
                  refine lv_iload hx hb dL_law_335 (lv_at hl 0 rfl) ?_
                  refine lv_i2l hx hb dL_law_337 rfl ?_
                  refine W.lcmp hx hb dL_law_338 ?_
                  refine lv_if_eq (tgt := 344) hx hb dL_law_339 (by decide) (fun hc => ?_) (fun hc => ?_)
                  · have hw := hw.1 ((lg_cmp_eq _ _).mp hc)
                    exact hj77 hw ls _ _ (lv_sub hl [1, 2, 3, 4, 5] rfl) hP hD hS
                  · have hw := hw.2 (fun h9 => hc ((lg_cmp_eq _ _).mpr h9))
                    refine lv_iconst (v := 0) hx hb dL_law_342 (by decide) ?_
                    exact hw.elim
            · have hw := hw.2 hc
              refine lv_iconst (v := 0) hx hb dL_law_325 (by decide) ?_
              exact hw.elim
          · have hj72 := hj0
            refine lv_if_eq (tgt := 310) hx hb dL_law_303 (by decide) (fun hc => ?_) (fun hc => ?_)
            · have hw := hw.1 (hc)
              refine lv_iconst (v := 0) hx hb dL_law_310 (by decide) ?_
              exact hj72 (0 : Int32) (xs (v4 + (1 : Int32)).toNatClampNeg) hw ls _ _ (lv_sub hl [1, 2, 3, 4, 5, 0] rfl) hP hD hS
            · have hw := hw.2 hc
              refine lv_iconst (v := 1) hx hb dL_law_306 (by decide) ?_
              refine lv_goto (tgt := 311) hx hb dL_law_307 (by decide) ?_
              exact hj72 (1 : Int32) (xs (v4 + (1 : Int32)).toNatClampNeg) hw ls _ _ (lv_sub hl [1, 2, 3, 4, 5, 0] rfl) hP hD hS
        · have hj66 := hj0
          refine lv_if_eq (tgt := 283) hx hb dL_law_276 (by decide) (fun hc => ?_) (fun hc => ?_)
          · have hw := hw.1 (hc)
            refine lv_iconst (v := 0) hx hb dL_law_283 (by decide) ?_
            exact hj66 (0 : Int32) (xs (v4 + (1 : Int32)).toNatClampNeg) hw ls _ _ (lv_sub hl [0, 1, 2, 3, 4] rfl) hP hD hS
          · have hw := hw.2 hc
            refine lv_iconst (v := 1) hx hb dL_law_279 (by decide) ?_
            refine lv_goto (tgt := 284) hx hb dL_law_280 (by decide) ?_
            exact hj66 (1 : Int32) (xs (v4 + (1 : Int32)).toNatClampNeg) hw ls _ _ (lv_sub hl [0, 1, 2, 3, 4] rfl) hP hD hS
      · have hw := hw.2.2.2.2.2.2.1 hc
        rw [hc]
        refine lv_tableIn (tgt := 347) hx hb dL_law_39 (by decide) (by decide) rfl (by decide) ?_
        refine lv_aload_n hx hb dL_law_347 rfl (lv_at hl 1 rfl) ?_
        refine lv_aload_n hx hb dL_law_348 rfl (lv_at hl 0 rfl) ?_
        refine lv_iload hx hb dL_law_349 (lv_at hl 4 rfl) ?_
        refine lv_iconst (v := 1) hx hb dL_law_351 (by decide) ?_
        refine lv_iadd hx hb dL_law_352 ?_
        have hi := hw.1
        have hw := hw.2
        refine va_sld hx hb hX hbl hbA hS hi dL_law_353 ?_
        refine lv_aload_n hx hb dL_law_354 rfl (lv_at hl 3 rfl) ?_
        have hPc := hP.sub (ws' := (wLx ad cI cJ cZ sl ho nu fa ou sp fn co fo ro po pn rd st tw od rn x y u sn ao o)) [0, 1, 2, 3, 4, 5, 6, 7, 8, 9, 10, 11, 12, 13, 14, 15, 16, 17, 18, 19, 32] rfl
        have hDc := hD.sub (ws' := (wLx ad cI cJ cZ sl ho nu fa ou sp fn co fo ro po pn rd st tw od rn x y u sn ao o)) [0, 1, 2, 3, 4, 5, 6, 7, 8, 9, 10, 11, 12, 13, 14, 15, 16, 17, 18, 19, 32] (by decide) rfl
        have hFc := va_free (wc := (wLx ad cI cJ cZ sl ho nu fa ou sp fn co fo ro po pn rd st tw od rn x y u sn ao o)) hD hS (fun _ h => h) [0, 1, 2, 3, 4, 5, 6, 7, 8, 9, 10, 11, 12, 13, 14, 15, 16, 17, 18, 19, 32] rfl
        refine va_calli (vx_runSW (As := [.ref (ad 0), .int (xs (v4 + (1 : Int32)).toNatClampNeg), .ref (ao)]) (rest := []) C (c_L_next l hst dC dI cI cJ cZ ad _ sl ho nu fa ou sp fn co fo ro po pn rd st tw od rn x y u sn ao o (xs (v4 + (1 : Int32)).toNatClampNeg) hw) (vx_cwSW 3 hts gL_law_L_next rfl rfl rfl (by decide +kernel) ⟨Nat.le_of_ble_eq_true rfl, Nat.le_of_ble_eq_true rfl⟩) ⟨fb_x, fun U hU hW => ⟨rfl, by rw [hU], by rw [hU]; exact hPc, va_K.moved hW.alike hK, hDc.weaken (fun _ _ _ _ => trivial), hxe.step hS hFc hU hW⟩⟩ rfl rfl hl.1 rfl (lv_room (Nat.le_of_ble_eq_true rfl)) dL_law_355 ⟨by show _ ≤ 1063; omega, by show _ ≤ 11217; omega⟩) hS (fun q _ h => hFc q h) hFc (fun r78 uu t H1 locs ht hvm hw hB hz1 hk1 hS => ?_)
        obtain ⟨sl_79, ho_80, nu_81, fa_82, ou_83, fn_84, co_85, fo_86, ro_87, po_88, pn_89, rd_90, st_91, tw_92, od_93, rn_94, o_95⟩ := uu
        obtain ⟨hP1, hD1⟩ := hB
        rw [ht] at hP1
        try dsimp only at hw hP1 hD1
        obtain ⟨hP, hD⟩ := va_join (wr := [(am 0, .inr (4, [.int mre, .ref (am 1), .ref (am 2), .ref (am 3), .int mcu, .ref (am 4), .ref (am 5), .int mpn, .int mrn, .ref (am 6), .ref (am 7), .ref (am 8), .int mfn, .ref (am 9), .ref (am 10), .ref (am 11)])), (am 1, .inl (cZ, 60, .inl mth)), (am 2, .inl (cI, 120, .inl mxs)), (am 3, .inl (cI, 120, .inl mys)), (am 4, .inl (cI, 120, .inl mnx)), (am 5, .inl (cI, 120, .inl mpo)), (am 6, .inl (cI, 120, .inl mrd)), (am 7, .inl (cI, 120, .inl mfi)), (am 8, .inl (cJ, 120, .inr (.inl mar))), (am 9, .inl (cI, 120, .inl mfa)), (am 10, .inl (cI, 122, .inl mnu)), (am 11, .inl (cI, 122, .inl mst))]) (w1 := (wLx ad cI cJ cZ sl_79 ho_80 nu_81 fa_82 ou_83 sp fn_84 co_85 fo_86 ro_87 po_88 pn_89 rd_90 st_91 tw_92 od_93 rn_94 x y u sn ao o_95)) hP hD [0, 1, 2, 3, 4, 5, 6, 7, 8, 9, 10, 11, 12, 13, 14, 15, 16, 17, 18, 19, 32] [20, 21, 22, 23, 24, 25, 26, 27, 28, 29, 30, 31] rfl rfl (by decide) (by decide) hk1 hFc hP1 hD1
        have hP := hP.sub (ws' := (wLaw ad am ao cI cJ cZ sl_79 ho_80 nu_81 fa_82 ou_83 sp fn_84 co_85 fo_86 ro_87 po_88 pn_89 rd_90 st_91 tw_92 od_93 rn_94 x y u sn mre mth mxs mys mcu mnx mpo mpn mrn mrd mfi mar mfn mfa mnu mst o_95)) [12, 13, 14, 15, 16, 17, 18, 19, 20, 21, 22, 23, 24, 25, 26, 27, 28, 29, 30, 31, 0, 1, 2, 3, 4, 5, 6, 7, 8, 9, 10, 11, 32] rfl
        have hD := hD.sub (ws' := (wLaw ad am ao cI cJ cZ sl_79 ho_80 nu_81 fa_82 ou_83 sp fn_84 co_85 fo_86 ro_87 po_88 pn_89 rd_90 st_91 tw_92 od_93 rn_94 x y u sn mre mth mxs mys mcu mnx mpo mpn mrn mrd mfi mar mfn mfa mnu mst o_95)) [12, 13, 14, 15, 16, 17, 18, 19, 20, 21, 22, 23, 24, 25, 26, 27, 28, 29, 30, 31, 0, 1, 2, 3, 4, 5, 6, 7, 8, 9, 10, 11, 32] (by decide) rfl
        clear hPc hDc hFc hk1 hz1 hP1 hD1 ht hvm
        generalize H1 = H at hP hS ⊢
        refine lv_istore (lv' := [(5, .int r78), (0, .ref (b)), (1, .ref (ad 0)), (2, .ref (am 0)), (3, .ref (ao)), (4, .int v4)]) hx hb dL_law_358 hl (by decide) rfl (fun ls hl => ?_)
        refine lv_aload_n hx hb dL_law_360 rfl (lv_at hl 3 rfl) ?_
        refine lv_aload_n hx hb dL_law_361 rfl (lv_at hl 1 rfl) ?_
        refine lv_iload hx hb dL_law_362 (lv_at hl 5 rfl) ?_
        refine lv_iconst (v := 1) hx hb dL_law_364 (by decide) ?_
        refine lv_iadd hx hb dL_law_365 ?_
        have hi := hw.1
        have hw := hw.2
        refine va_sld hx hb hX hbl hbA hS hi dL_law_366 ?_
        have hPc := hP.sub (ws' := (wMod am cI cJ cZ mre mth mxs mys mcu mnx mpo mpn mrn mrd mfi mar mfn mfa mnu mst)) [20, 21, 22, 23, 24, 25, 26, 27, 28, 29, 30, 31] rfl
        have hDc := hD.sub (ws' := (wMod am cI cJ cZ mre mth mxs mys mcu mnx mpo mpn mrn mrd mfi mar mfn mfa mnu mst)) [20, 21, 22, 23, 24, 25, 26, 27, 28, 29, 30, 31] (by decide) rfl
        have hFc := va_free (wc := (wMod am cI cJ cZ mre mth mxs mys mcu mnx mpo mpn mrn mrd mfi mar mfn mfa mnu mst)) hD hS (fun _ h => h) [20, 21, 22, 23, 24, 25, 26, 27, 28, 29, 30, 31] rfl
        refine va_calli (va_runV (As := [.int (xs (v4 + (1 : Int32)).toNatClampNeg)]) (rest := []) C (c_X4_next l dC dI cI cJ cZ am _ mre mth mxs mys mcu mnx mpo mpn mrn mrd mfi mar mfn mfa mnu mst (xs (v4 + (1 : Int32)).toNatClampNeg) hw) (cwV 1 hts gL_law_X4_next rfl rfl rfl (by decide +kernel) ⟨Nat.le_of_ble_eq_true rfl, Nat.le_of_ble_eq_true rfl⟩) ⟨fb_rw, va_recv hK hPc (ci := 4) (q0 := 0) rfl rfl, fun U hU hW => ⟨rfl, by rw [hU], by rw [hU]; exact hPc, va_K.moved hW.alike hK, hDc.weaken (fun _ _ _ _ => trivial)⟩⟩ rfl rfl hl.1 rfl (lv_room (Nat.le_of_ble_eq_true rfl)) dL_law_367 ⟨by show _ ≤ 1063; omega, by show _ ≤ 11217; omega⟩) hS (fun q _ h => hFc q h) hFc (fun r96 uu t H1 locs ht hvm hw hB hz1 hk1 hS => ?_)
        obtain ⟨mre_97, mcu_98, mnx_99, mpo_100, mpn_101, mrn_102, mrd_103, mfi_104, mar_105, mfn_106, mfa_107, mnu_108⟩ := uu
        obtain ⟨hP1, hD1⟩ := hB
        rw [ht] at hP1
        try dsimp only at hw hP1 hD1
        obtain ⟨hP, hD⟩ := va_join (wr := [(ad 0, .inr (3, [.ref (ad 16), .ref (ad 7), .ref (ad 1), .int sl_79])), (ad 1, .inr (0, [.ref (ad 7), .ref (ad 16), .ref (ad 2), .ref (ad 3), .ref (ad 4), .ref (ad 5), .ref (ad 6), .int fn_84])), (ad 2, .inl (cI, 120, .inl ho_80)), (ad 3, .inl (cI, 120, .inl nu_81)), (ad 4, .inl (cI, 120, .inl fa_82)), (ad 5, .inl (cI, 60, .inl ou_83)), (ad 6, .inl (cI, 121, .inl sp)), (ad 7, .inr (1, [.ref (ad 16), .ref (ad 8), .ref (ad 9), .ref (ad 10), .ref (ad 11), .int pn_89, .ref (ad 12), .ref (ad 13), .ref (ad 14), .ref (ad 15), .int rn_94])), (ad 8, .inl (cI, 120, .inl co_85)), (ad 9, .inl (cI, 120, .inl fo_86)), (ad 10, .inl (cI, 60, .inl ro_87)), (ad 11, .inl (cI, 60, .inl po_88)), (ad 12, .inl (cI, 120, .inl rd_90)), (ad 13, .inl (cI, 120, .inl st_91)), (ad 14, .inl (cJ, 120, .inr (.inl tw_92))), (ad 15, .inl (cI, 120, .inl od_93)), (ad 16, .inr (2, [.ref (ad 17), .ref (ad 18), .ref (ad 19), .int sn])), (ad 17, .inl (cI, 120, .inl x)), (ad 18, .inl (cI, 120, .inl y)), (ad 19, .inl (cZ, 60, .inl u)), (ao, .inl (cJ, 1, .inr (.inl o_95)))]) (w1 := (wMod am cI cJ cZ mre_97 mth mxs mys mcu_98 mnx_99 mpo_100 mpn_101 mrn_102 mrd_103 mfi_104 mar_105 mfn_106 mfa_107 mnu_108 mst)) hP hD [20, 21, 22, 23, 24, 25, 26, 27, 28, 29, 30, 31] [0, 1, 2, 3, 4, 5, 6, 7, 8, 9, 10, 11, 12, 13, 14, 15, 16, 17, 18, 19, 32] rfl rfl (by decide) (by decide) hk1 hFc hP1 hD1
        have hP := hP.sub (ws' := (wLaw ad am ao cI cJ cZ sl_79 ho_80 nu_81 fa_82 ou_83 sp fn_84 co_85 fo_86 ro_87 po_88 pn_89 rd_90 st_91 tw_92 od_93 rn_94 x y u sn mre_97 mth mxs mys mcu_98 mnx_99 mpo_100 mpn_101 mrn_102 mrd_103 mfi_104 mar_105 mfn_106 mfa_107 mnu_108 mst o_95)) [0, 1, 2, 3, 4, 5, 6, 7, 8, 9, 10, 11, 12, 13, 14, 15, 16, 17, 18, 19, 21, 22, 23, 24, 25, 26, 27, 28, 29, 30, 31, 32, 20] rfl
        have hD := hD.sub (ws' := (wLaw ad am ao cI cJ cZ sl_79 ho_80 nu_81 fa_82 ou_83 sp fn_84 co_85 fo_86 ro_87 po_88 pn_89 rd_90 st_91 tw_92 od_93 rn_94 x y u sn mre_97 mth mxs mys mcu_98 mnx_99 mpo_100 mpn_101 mrn_102 mrd_103 mfi_104 mar_105 mfn_106 mfa_107 mnu_108 mst o_95)) [0, 1, 2, 3, 4, 5, 6, 7, 8, 9, 10, 11, 12, 13, 14, 15, 16, 17, 18, 19, 21, 22, 23, 24, 25, 26, 27, 28, 29, 30, 31, 32, 20] (by decide) rfl
        clear hPc hDc hFc hk1 hz1 hP1 hD1 ht hvm
        generalize H1 = H at hP hS ⊢
        refine lv_istore (lv' := [(6, .int r96), (5, .int r78), (0, .ref (b)), (1, .ref (ad 0)), (2, .ref (am 0)), (3, .ref (ao)), (4, .int v4)]) hx hb dL_law_370 hl (by decide) rfl (fun ls hl => ?_)
        refine lv_aload_n hx hb dL_law_372 rfl (lv_at hl 4 rfl) ?_
        have hPc := hP.sub (ws' := (wMod am cI cJ cZ mre_97 mth mxs mys mcu_98 mnx_99 mpo_100 mpn_101 mrn_102 mrd_103 mfi_104 mar_105 mfn_106 mfa_107 mnu_108 mst)) [20, 21, 22, 23, 24, 25, 26, 27, 28, 29, 30, 31] rfl
        refine vp_callSi (W.runV (As := []) (rest := []) C (c_X4_thrown l dC dI cI cJ cZ am mre_97 mth mxs mys mcu_98 mnx_99 mpo_100 mpn_101 mrn_102 mrd_103 mfi_104 mar_105 mfn_106 mfa_107 mnu_108 mst  hw) (cwV 0 hts gL_law_X4_thrown rfl rfl rfl (by decide +kernel) ⟨Nat.le_of_ble_eq_true rfl, Nat.le_of_ble_eq_true rfl⟩) ⟨fb_ro, va_recv hK hPc (ci := 4) (q0 := 0) rfl rfl, fun U hU hW => ⟨rfl, by rw [hU]; exact hPc, va_K.moved hW.alike hK⟩⟩ rfl rfl hl.1 rfl (lv_room (Nat.le_of_ble_eq_true rfl)) dL_law_373 ⟨by show _ ≤ 1063; omega, by show _ ≤ 11217; omega⟩) (fun r109 hw => ?_)
        refine lv_iload hx hb dL_law_376 (lv_at hl 1 rfl) ?_
        refine lv_icmp_eq (tgt := 383) hx hb dL_law_378 (by decide) (fun hc => ?_) (fun hc => ?_)
        · have hw := hw.1 (hc)
          refine lv_iload hx hb dL_law_383 (lv_at hl 1 rfl) ?_
          refine jn0_use (J := ∀ (ls : Array Slot) (H : Heap) (locs : List Loc), lv_has ls 7 [(0, .ref (b)), (1, .ref (ad 0)), (2, .ref (am 0)), (3, .ref (ao)), (4, .int v4)] → va_P (dC, dI) vwCl (wLaw ad am ao cI cJ cZ sl_79 ho_80 nu_81 fa_82 ou_83 sp fn_84 co_85 fo_86 ro_87 po_88 pn_89 rd_90 st_91 tw_92 od_93 rn_94 x y u sn mre_97 mth mxs mys mcu_98 mnx_99 mpo_100 mpn_101 mrn_102 mrd_103 mfi_104 mar_105 mfn_106 mfa_107 mnu_108 mst o_95) H → va_D (fun q : Nat => s.heap.size ≤ q) (wLaw ad am ao cI cJ cZ sl_79 ho_80 nu_81 fa_82 ou_83 sp fn_84 co_85 fo_86 ro_87 po_88 pn_89 rd_90 st_91 tw_92 od_93 rn_94 x y u sn mre_97 mth mxs mys mcu_98 mnx_99 mpo_100 mpn_101 mrn_102 mrd_103 mfi_104 mar_105 mfn_106 mfa_107 mnu_108 mst o_95) → va_S (fun q : Nat => s.heap.size ≤ q) s.heap H locs → W p l e room_1 s m #[Value.ref b] below meth c H locs (cells + 1) (slots + 6) (lw_Z below #[Value.ref b] s) (F0 m 400 ls [])) hw (fun hw ls H locs hl hP hD hS => ?_) (fun hw hj0 => ?_)
          · refine lv_goto (tgt := 899) hx hb dL_law_400 (by decide) ?_
            refine lv_iinc (v := (v4 + (5 : Int32))) (lv' := [(4, .int (v4 + (5 : Int32))), (0, .ref (b)), (1, .ref (ad 0)), (2, .ref (am 0)), (3, .ref (ao))]) hx hb dL_law_899 hl (k := 4) rfl rfl (by decide) rfl (fun ls hl => ?_)
            refine lv_goto (tgt := 23) hx hb dL_law_902 (by decide) ?_
            exact ih (cells + 1) (slots + 6) sl_79 ho_80 nu_81 fa_82 ou_83 sp fn_84 co_85 fo_86 ro_87 po_88 pn_89 rd_90 st_91 tw_92 od_93 rn_94 x y u sn mre_97 mth mxs mys mcu_98 mnx_99 mpo_100 mpn_101 mrn_102 mrd_103 mfi_104 mar_105 mfn_106 mfa_107 mnu_108 mst o_95 (v4 + (5 : Int32)) ls _ _ (by omega) (by omega) (lv_sub hl [1, 2, 3, 4, 0] rfl) hP hD hS hw
          · have hj111 := hj0
            refine lv_if_ne (tgt := 400) hx hb dL_law_385 (by decide) (fun hc => ?_) (fun hc => ?_)
            · have hw := hw.2 hc
              exact hj111 hw ls _ _ (lv_sub hl [2, 3, 4, 5, 6] rfl) hP hD hS
            · have hw := hw.1 (hc)
              refine lv_aload_n hx hb dL_law_388 rfl (lv_at hl 5 rfl) ?_
              refine lv_iconst (v := 0) hx hb dL_law_389 (by decide) ?_
              have hi := hw.1
              have hw := hw.2
              refine va_lald hx hb hK hP 32 1 rfl rfl hi dL_law_390 ?_
              refine lv_iload hx hb dL_law_391 (lv_at hl 0 rfl) ?_
              refine lv_i2l hx hb dL_law_393 rfl ?_
              refine W.lcmp hx hb dL_law_394 ?_
              refine lv_if_eq (tgt := 400) hx hb dL_law_395 (by decide) (fun hc => ?_) (fun hc => ?_)
              · have hw := hw.1 ((lg_cmp_eq _ _).mp hc)
                exact hj111 hw ls _ _ (lv_sub hl [2, 3, 4, 5, 6] rfl) hP hD hS
              · have hw := hw.2 (fun h9 => hc ((lg_cmp_eq _ _).mpr h9))
                refine lv_iconst (v := 0) hx hb dL_law_398 (by decide) ?_
                exact hw.elim
        · have hw := hw.2 hc
          refine lv_iconst (v := 0) hx hb dL_law_381 (by decide) ?_
          exact hw.elim
      · have hw := hw.2.2.2.2.2.2.2.1 hc
        rw [hc]
        refine lv_tableIn (tgt := 403) hx hb dL_law_39 (by decide) (by decide) rfl (by decide) ?_
        refine lv_aload_n hx hb dL_law_403 rfl (lv_at hl 1 rfl) ?_
        refine lv_aload_n hx hb dL_law_404 rfl (lv_at hl 0 rfl) ?_
        refine lv_iload hx hb dL_law_405 (lv_at hl 4 rfl) ?_
        refine lv_iconst (v := 1) hx hb dL_law_407 (by decide) ?_
        refine lv_iadd hx hb dL_law_408 ?_
        have hi := hw.1
        have hw := hw.2
        refine va_sld hx hb hX hbl hbA hS hi dL_law_409 ?_
        refine lv_aload_n hx hb dL_law_410 rfl (lv_at hl 3 rfl) ?_
        have hPc := hP.sub (ws' := (wLx ad cI cJ cZ sl ho nu fa ou sp fn co fo ro po pn rd st tw od rn x y u sn ao o)) [0, 1, 2, 3, 4, 5, 6, 7, 8, 9, 10, 11, 12, 13, 14, 15, 16, 17, 18, 19, 32] rfl
        have hDc := hD.sub (ws' := (wLx ad cI cJ cZ sl ho nu fa ou sp fn co fo ro po pn rd st tw od rn x y u sn ao o)) [0, 1, 2, 3, 4, 5, 6, 7, 8, 9, 10, 11, 12, 13, 14, 15, 16, 17, 18, 19, 32] (by decide) rfl
        have hFc := va_free (wc := (wLx ad cI cJ cZ sl ho nu fa ou sp fn co fo ro po pn rd st tw od rn x y u sn ao o)) hD hS (fun _ h => h) [0, 1, 2, 3, 4, 5, 6, 7, 8, 9, 10, 11, 12, 13, 14, 15, 16, 17, 18, 19, 32] rfl
        refine va_calli (vx_runSW (As := [.ref (ad 0), .int (xs (v4 + (1 : Int32)).toNatClampNeg), .ref (ao)]) (rest := []) C (c_L_face l hst dC dI cI cJ cZ ad _ sl ho nu fa ou sp fn co fo ro po pn rd st tw od rn x y u sn ao o (xs (v4 + (1 : Int32)).toNatClampNeg) hw) (vx_cwSW 3 hts gL_law_L_face rfl rfl rfl (by decide +kernel) ⟨Nat.le_of_ble_eq_true rfl, Nat.le_of_ble_eq_true rfl⟩) ⟨fb_x, fun U hU hW => ⟨rfl, by rw [hU], by rw [hU]; exact hPc, va_K.moved hW.alike hK, hDc.weaken (fun _ _ _ _ => trivial), hxe.step hS hFc hU hW⟩⟩ rfl rfl hl.1 rfl (lv_room (Nat.le_of_ble_eq_true rfl)) dL_law_411 ⟨by show _ ≤ 1063; omega, by show _ ≤ 11217; omega⟩) hS (fun q _ h => hFc q h) hFc (fun r112 uu t H1 locs ht hvm hw hB hz1 hk1 hS => ?_)
        obtain ⟨sl_113, ho_114, nu_115, fa_116, ou_117, fn_118, co_119, fo_120, ro_121, po_122, pn_123, rd_124, st_125, tw_126, od_127, rn_128, o_129⟩ := uu
        obtain ⟨hP1, hD1⟩ := hB
        rw [ht] at hP1
        try dsimp only at hw hP1 hD1
        obtain ⟨hP, hD⟩ := va_join (wr := [(am 0, .inr (4, [.int mre, .ref (am 1), .ref (am 2), .ref (am 3), .int mcu, .ref (am 4), .ref (am 5), .int mpn, .int mrn, .ref (am 6), .ref (am 7), .ref (am 8), .int mfn, .ref (am 9), .ref (am 10), .ref (am 11)])), (am 1, .inl (cZ, 60, .inl mth)), (am 2, .inl (cI, 120, .inl mxs)), (am 3, .inl (cI, 120, .inl mys)), (am 4, .inl (cI, 120, .inl mnx)), (am 5, .inl (cI, 120, .inl mpo)), (am 6, .inl (cI, 120, .inl mrd)), (am 7, .inl (cI, 120, .inl mfi)), (am 8, .inl (cJ, 120, .inr (.inl mar))), (am 9, .inl (cI, 120, .inl mfa)), (am 10, .inl (cI, 122, .inl mnu)), (am 11, .inl (cI, 122, .inl mst))]) (w1 := (wLx ad cI cJ cZ sl_113 ho_114 nu_115 fa_116 ou_117 sp fn_118 co_119 fo_120 ro_121 po_122 pn_123 rd_124 st_125 tw_126 od_127 rn_128 x y u sn ao o_129)) hP hD [0, 1, 2, 3, 4, 5, 6, 7, 8, 9, 10, 11, 12, 13, 14, 15, 16, 17, 18, 19, 32] [20, 21, 22, 23, 24, 25, 26, 27, 28, 29, 30, 31] rfl rfl (by decide) (by decide) hk1 hFc hP1 hD1
        have hP := hP.sub (ws' := (wLaw ad am ao cI cJ cZ sl_113 ho_114 nu_115 fa_116 ou_117 sp fn_118 co_119 fo_120 ro_121 po_122 pn_123 rd_124 st_125 tw_126 od_127 rn_128 x y u sn mre mth mxs mys mcu mnx mpo mpn mrn mrd mfi mar mfn mfa mnu mst o_129)) [12, 13, 14, 15, 16, 17, 18, 19, 20, 21, 22, 23, 24, 25, 26, 27, 28, 29, 30, 31, 0, 1, 2, 3, 4, 5, 6, 7, 8, 9, 10, 11, 32] rfl
        have hD := hD.sub (ws' := (wLaw ad am ao cI cJ cZ sl_113 ho_114 nu_115 fa_116 ou_117 sp fn_118 co_119 fo_120 ro_121 po_122 pn_123 rd_124 st_125 tw_126 od_127 rn_128 x y u sn mre mth mxs mys mcu mnx mpo mpn mrn mrd mfi mar mfn mfa mnu mst o_129)) [12, 13, 14, 15, 16, 17, 18, 19, 20, 21, 22, 23, 24, 25, 26, 27, 28, 29, 30, 31, 0, 1, 2, 3, 4, 5, 6, 7, 8, 9, 10, 11, 32] (by decide) rfl
        clear hPc hDc hFc hk1 hz1 hP1 hD1 ht hvm
        generalize H1 = H at hP hS ⊢
        refine lv_istore (lv' := [(5, .int r112), (0, .ref (b)), (1, .ref (ad 0)), (2, .ref (am 0)), (3, .ref (ao)), (4, .int v4)]) hx hb dL_law_414 hl (by decide) rfl (fun ls hl => ?_)
        refine lv_aload_n hx hb dL_law_416 rfl (lv_at hl 3 rfl) ?_
        refine lv_aload_n hx hb dL_law_417 rfl (lv_at hl 1 rfl) ?_
        refine lv_iload hx hb dL_law_418 (lv_at hl 5 rfl) ?_
        refine lv_iconst (v := 1) hx hb dL_law_420 (by decide) ?_
        refine lv_iadd hx hb dL_law_421 ?_
        have hi := hw.1
        have hw := hw.2
        refine va_sld hx hb hX hbl hbA hS hi dL_law_422 ?_
        have hPc := hP.sub (ws' := (wMod am cI cJ cZ mre mth mxs mys mcu mnx mpo mpn mrn mrd mfi mar mfn mfa mnu mst)) [20, 21, 22, 23, 24, 25, 26, 27, 28, 29, 30, 31] rfl
        have hDc := hD.sub (ws' := (wMod am cI cJ cZ mre mth mxs mys mcu mnx mpo mpn mrn mrd mfi mar mfn mfa mnu mst)) [20, 21, 22, 23, 24, 25, 26, 27, 28, 29, 30, 31] (by decide) rfl
        have hFc := va_free (wc := (wMod am cI cJ cZ mre mth mxs mys mcu mnx mpo mpn mrn mrd mfi mar mfn mfa mnu mst)) hD hS (fun _ h => h) [20, 21, 22, 23, 24, 25, 26, 27, 28, 29, 30, 31] rfl
        refine va_calli (va_runV (As := [.int (xs (v4 + (1 : Int32)).toNatClampNeg)]) (rest := []) C (c_X4_face l dC dI cI cJ cZ am _ mre mth mxs mys mcu mnx mpo mpn mrn mrd mfi mar mfn mfa mnu mst (xs (v4 + (1 : Int32)).toNatClampNeg) hw) (cwV 1 hts gL_law_X4_face rfl rfl rfl (by decide +kernel) ⟨Nat.le_of_ble_eq_true rfl, Nat.le_of_ble_eq_true rfl⟩) ⟨fb_rw, va_recv hK hPc (ci := 4) (q0 := 0) rfl rfl, fun U hU hW => ⟨rfl, by rw [hU], by rw [hU]; exact hPc, va_K.moved hW.alike hK, hDc.weaken (fun _ _ _ _ => trivial)⟩⟩ rfl rfl hl.1 rfl (lv_room (Nat.le_of_ble_eq_true rfl)) dL_law_423 ⟨by show _ ≤ 1063; omega, by show _ ≤ 11217; omega⟩) hS (fun q _ h => hFc q h) hFc (fun r130 uu t H1 locs ht hvm hw hB hz1 hk1 hS => ?_)
        obtain ⟨mre_131, mcu_132, mnx_133, mpo_134, mpn_135, mrn_136, mrd_137, mfi_138, mar_139, mfn_140, mfa_141, mnu_142⟩ := uu
        obtain ⟨hP1, hD1⟩ := hB
        rw [ht] at hP1
        try dsimp only at hw hP1 hD1
        obtain ⟨hP, hD⟩ := va_join (wr := [(ad 0, .inr (3, [.ref (ad 16), .ref (ad 7), .ref (ad 1), .int sl_113])), (ad 1, .inr (0, [.ref (ad 7), .ref (ad 16), .ref (ad 2), .ref (ad 3), .ref (ad 4), .ref (ad 5), .ref (ad 6), .int fn_118])), (ad 2, .inl (cI, 120, .inl ho_114)), (ad 3, .inl (cI, 120, .inl nu_115)), (ad 4, .inl (cI, 120, .inl fa_116)), (ad 5, .inl (cI, 60, .inl ou_117)), (ad 6, .inl (cI, 121, .inl sp)), (ad 7, .inr (1, [.ref (ad 16), .ref (ad 8), .ref (ad 9), .ref (ad 10), .ref (ad 11), .int pn_123, .ref (ad 12), .ref (ad 13), .ref (ad 14), .ref (ad 15), .int rn_128])), (ad 8, .inl (cI, 120, .inl co_119)), (ad 9, .inl (cI, 120, .inl fo_120)), (ad 10, .inl (cI, 60, .inl ro_121)), (ad 11, .inl (cI, 60, .inl po_122)), (ad 12, .inl (cI, 120, .inl rd_124)), (ad 13, .inl (cI, 120, .inl st_125)), (ad 14, .inl (cJ, 120, .inr (.inl tw_126))), (ad 15, .inl (cI, 120, .inl od_127)), (ad 16, .inr (2, [.ref (ad 17), .ref (ad 18), .ref (ad 19), .int sn])), (ad 17, .inl (cI, 120, .inl x)), (ad 18, .inl (cI, 120, .inl y)), (ad 19, .inl (cZ, 60, .inl u)), (ao, .inl (cJ, 1, .inr (.inl o_129)))]) (w1 := (wMod am cI cJ cZ mre_131 mth mxs mys mcu_132 mnx_133 mpo_134 mpn_135 mrn_136 mrd_137 mfi_138 mar_139 mfn_140 mfa_141 mnu_142 mst)) hP hD [20, 21, 22, 23, 24, 25, 26, 27, 28, 29, 30, 31] [0, 1, 2, 3, 4, 5, 6, 7, 8, 9, 10, 11, 12, 13, 14, 15, 16, 17, 18, 19, 32] rfl rfl (by decide) (by decide) hk1 hFc hP1 hD1
        have hP := hP.sub (ws' := (wLaw ad am ao cI cJ cZ sl_113 ho_114 nu_115 fa_116 ou_117 sp fn_118 co_119 fo_120 ro_121 po_122 pn_123 rd_124 st_125 tw_126 od_127 rn_128 x y u sn mre_131 mth mxs mys mcu_132 mnx_133 mpo_134 mpn_135 mrn_136 mrd_137 mfi_138 mar_139 mfn_140 mfa_141 mnu_142 mst o_129)) [0, 1, 2, 3, 4, 5, 6, 7, 8, 9, 10, 11, 12, 13, 14, 15, 16, 17, 18, 19, 21, 22, 23, 24, 25, 26, 27, 28, 29, 30, 31, 32, 20] rfl
        have hD := hD.sub (ws' := (wLaw ad am ao cI cJ cZ sl_113 ho_114 nu_115 fa_116 ou_117 sp fn_118 co_119 fo_120 ro_121 po_122 pn_123 rd_124 st_125 tw_126 od_127 rn_128 x y u sn mre_131 mth mxs mys mcu_132 mnx_133 mpo_134 mpn_135 mrn_136 mrd_137 mfi_138 mar_139 mfn_140 mfa_141 mnu_142 mst o_129)) [0, 1, 2, 3, 4, 5, 6, 7, 8, 9, 10, 11, 12, 13, 14, 15, 16, 17, 18, 19, 21, 22, 23, 24, 25, 26, 27, 28, 29, 30, 31, 32, 20] (by decide) rfl
        clear hPc hDc hFc hk1 hz1 hP1 hD1 ht hvm
        generalize H1 = H at hP hS ⊢
        refine lv_istore (lv' := [(6, .int r130), (5, .int r112), (0, .ref (b)), (1, .ref (ad 0)), (2, .ref (am 0)), (3, .ref (ao)), (4, .int v4)]) hx hb dL_law_426 hl (by decide) rfl (fun ls hl => ?_)
        refine lv_aload_n hx hb dL_law_428 rfl (lv_at hl 4 rfl) ?_
        have hPc := hP.sub (ws' := (wMod am cI cJ cZ mre_131 mth mxs mys mcu_132 mnx_133 mpo_134 mpn_135 mrn_136 mrd_137 mfi_138 mar_139 mfn_140 mfa_141 mnu_142 mst)) [20, 21, 22, 23, 24, 25, 26, 27, 28, 29, 30, 31] rfl
        refine vp_callSi (W.runV (As := []) (rest := []) C (c_X4_thrown l dC dI cI cJ cZ am mre_131 mth mxs mys mcu_132 mnx_133 mpo_134 mpn_135 mrn_136 mrd_137 mfi_138 mar_139 mfn_140 mfa_141 mnu_142 mst  hw) (cwV 0 hts gL_law_X4_thrown rfl rfl rfl (by decide +kernel) ⟨Nat.le_of_ble_eq_true rfl, Nat.le_of_ble_eq_true rfl⟩) ⟨fb_ro, va_recv hK hPc (ci := 4) (q0 := 0) rfl rfl, fun U hU hW => ⟨rfl, by rw [hU]; exact hPc, va_K.moved hW.alike hK⟩⟩ rfl rfl hl.1 rfl (lv_room (Nat.le_of_ble_eq_true rfl)) dL_law_429 ⟨by show _ ≤ 1063; omega, by show _ ≤ 11217; omega⟩) (fun r143 hw => ?_)
        refine lv_iload hx hb dL_law_432 (lv_at hl 1 rfl) ?_
        refine lv_icmp_eq (tgt := 439) hx hb dL_law_434 (by decide) (fun hc => ?_) (fun hc => ?_)
        · have hw := hw.1 (hc)
          refine lv_iload hx hb dL_law_439 (lv_at hl 1 rfl) ?_
          refine jn0_use (J := ∀ (ls : Array Slot) (H : Heap) (locs : List Loc), lv_has ls 7 [(0, .ref (b)), (1, .ref (ad 0)), (2, .ref (am 0)), (3, .ref (ao)), (4, .int v4)] → va_P (dC, dI) vwCl (wLaw ad am ao cI cJ cZ sl_113 ho_114 nu_115 fa_116 ou_117 sp fn_118 co_119 fo_120 ro_121 po_122 pn_123 rd_124 st_125 tw_126 od_127 rn_128 x y u sn mre_131 mth mxs mys mcu_132 mnx_133 mpo_134 mpn_135 mrn_136 mrd_137 mfi_138 mar_139 mfn_140 mfa_141 mnu_142 mst o_129) H → va_D (fun q : Nat => s.heap.size ≤ q) (wLaw ad am ao cI cJ cZ sl_113 ho_114 nu_115 fa_116 ou_117 sp fn_118 co_119 fo_120 ro_121 po_122 pn_123 rd_124 st_125 tw_126 od_127 rn_128 x y u sn mre_131 mth mxs mys mcu_132 mnx_133 mpo_134 mpn_135 mrn_136 mrd_137 mfi_138 mar_139 mfn_140 mfa_141 mnu_142 mst o_129) → va_S (fun q : Nat => s.heap.size ≤ q) s.heap H locs → W p l e room_1 s m #[Value.ref b] below meth c H locs (cells + 1) (slots + 6) (lw_Z below #[Value.ref b] s) (F0 m 456 ls [])) hw (fun hw ls H locs hl hP hD hS => ?_) (fun hw hj0 => ?_)
          · refine lv_goto (tgt := 899) hx hb dL_law_456 (by decide) ?_
            refine lv_iinc (v := (v4 + (5 : Int32))) (lv' := [(4, .int (v4 + (5 : Int32))), (0, .ref (b)), (1, .ref (ad 0)), (2, .ref (am 0)), (3, .ref (ao))]) hx hb dL_law_899 hl (k := 4) rfl rfl (by decide) rfl (fun ls hl => ?_)
            refine lv_goto (tgt := 23) hx hb dL_law_902 (by decide) ?_
            exact ih (cells + 1) (slots + 6) sl_113 ho_114 nu_115 fa_116 ou_117 sp fn_118 co_119 fo_120 ro_121 po_122 pn_123 rd_124 st_125 tw_126 od_127 rn_128 x y u sn mre_131 mth mxs mys mcu_132 mnx_133 mpo_134 mpn_135 mrn_136 mrd_137 mfi_138 mar_139 mfn_140 mfa_141 mnu_142 mst o_129 (v4 + (5 : Int32)) ls _ _ (by omega) (by omega) (lv_sub hl [1, 2, 3, 4, 0] rfl) hP hD hS hw
          · have hj145 := hj0
            refine lv_if_ne (tgt := 456) hx hb dL_law_441 (by decide) (fun hc => ?_) (fun hc => ?_)
            · have hw := hw.2 hc
              exact hj145 hw ls _ _ (lv_sub hl [2, 3, 4, 5, 6] rfl) hP hD hS
            · have hw := hw.1 (hc)
              refine lv_aload_n hx hb dL_law_444 rfl (lv_at hl 5 rfl) ?_
              refine lv_iconst (v := 0) hx hb dL_law_445 (by decide) ?_
              have hi := hw.1
              have hw := hw.2
              refine va_lald hx hb hK hP 32 1 rfl rfl hi dL_law_446 ?_
              refine lv_iload hx hb dL_law_447 (lv_at hl 0 rfl) ?_
              refine lv_i2l hx hb dL_law_449 rfl ?_
              refine W.lcmp hx hb dL_law_450 ?_
              refine lv_if_eq (tgt := 456) hx hb dL_law_451 (by decide) (fun hc => ?_) (fun hc => ?_)
              · have hw := hw.1 ((lg_cmp_eq _ _).mp hc)
                exact hj145 hw ls _ _ (lv_sub hl [2, 3, 4, 5, 6] rfl) hP hD hS
              · have hw := hw.2 (fun h9 => hc ((lg_cmp_eq _ _).mpr h9))
                refine lv_iconst (v := 0) hx hb dL_law_454 (by decide) ?_
                exact hw.elim
        · have hw := hw.2 hc
          refine lv_iconst (v := 0) hx hb dL_law_437 (by decide) ?_
          exact hw.elim
      · have hw := hw.2.2.2.2.2.2.2.2.1 hc
        rw [hc]
        refine lv_tableIn (tgt := 459) hx hb dL_law_39 (by decide) (by decide) rfl (by decide) ?_
        refine lv_aload_n hx hb dL_law_459 rfl (lv_at hl 1 rfl) ?_
        refine lv_aload_n hx hb dL_law_460 rfl (lv_at hl 0 rfl) ?_
        refine lv_iload hx hb dL_law_461 (lv_at hl 4 rfl) ?_
        refine lv_iconst (v := 1) hx hb dL_law_463 (by decide) ?_
        refine lv_iadd hx hb dL_law_464 ?_
        have hi := hw.1
        have hw := hw.2
        refine va_sld hx hb hX hbl hbA hS hi dL_law_465 ?_
        refine lv_aload_n hx hb dL_law_466 rfl (lv_at hl 3 rfl) ?_
        have hPc := hP.sub (ws' := (wLx ad cI cJ cZ sl ho nu fa ou sp fn co fo ro po pn rd st tw od rn x y u sn ao o)) [0, 1, 2, 3, 4, 5, 6, 7, 8, 9, 10, 11, 12, 13, 14, 15, 16, 17, 18, 19, 32] rfl
        have hDc := hD.sub (ws' := (wLx ad cI cJ cZ sl ho nu fa ou sp fn co fo ro po pn rd st tw od rn x y u sn ao o)) [0, 1, 2, 3, 4, 5, 6, 7, 8, 9, 10, 11, 12, 13, 14, 15, 16, 17, 18, 19, 32] (by decide) rfl
        have hFc := va_free (wc := (wLx ad cI cJ cZ sl ho nu fa ou sp fn co fo ro po pn rd st tw od rn x y u sn ao o)) hD hS (fun _ h => h) [0, 1, 2, 3, 4, 5, 6, 7, 8, 9, 10, 11, 12, 13, 14, 15, 16, 17, 18, 19, 32] rfl
        refine va_calli (vx_runSW (As := [.ref (ad 0), .int (xs (v4 + (1 : Int32)).toNatClampNeg), .ref (ao)]) (rest := []) C (c_L_piece l hst dC dI cI cJ cZ ad _ sl ho nu fa ou sp fn co fo ro po pn rd st tw od rn x y u sn ao o (xs (v4 + (1 : Int32)).toNatClampNeg) hw) (vx_cwSW 3 hts gL_law_L_piece rfl rfl rfl (by decide +kernel) ⟨Nat.le_of_ble_eq_true rfl, Nat.le_of_ble_eq_true rfl⟩) ⟨fb_x, fun U hU hW => ⟨rfl, by rw [hU], by rw [hU]; exact hPc, va_K.moved hW.alike hK, hDc.weaken (fun _ _ _ _ => trivial), hxe.step hS hFc hU hW⟩⟩ rfl rfl hl.1 rfl (lv_room (Nat.le_of_ble_eq_true rfl)) dL_law_467 ⟨by show _ ≤ 1063; omega, by show _ ≤ 11217; omega⟩) hS (fun q _ h => hFc q h) hFc (fun r146 uu t H1 locs ht hvm hw hB hz1 hk1 hS => ?_)
        obtain ⟨sl_147, ho_148, nu_149, fa_150, ou_151, fn_152, co_153, fo_154, ro_155, po_156, pn_157, rd_158, st_159, tw_160, od_161, rn_162, o_163⟩ := uu
        obtain ⟨hP1, hD1⟩ := hB
        rw [ht] at hP1
        try dsimp only at hw hP1 hD1
        obtain ⟨hP, hD⟩ := va_join (wr := [(am 0, .inr (4, [.int mre, .ref (am 1), .ref (am 2), .ref (am 3), .int mcu, .ref (am 4), .ref (am 5), .int mpn, .int mrn, .ref (am 6), .ref (am 7), .ref (am 8), .int mfn, .ref (am 9), .ref (am 10), .ref (am 11)])), (am 1, .inl (cZ, 60, .inl mth)), (am 2, .inl (cI, 120, .inl mxs)), (am 3, .inl (cI, 120, .inl mys)), (am 4, .inl (cI, 120, .inl mnx)), (am 5, .inl (cI, 120, .inl mpo)), (am 6, .inl (cI, 120, .inl mrd)), (am 7, .inl (cI, 120, .inl mfi)), (am 8, .inl (cJ, 120, .inr (.inl mar))), (am 9, .inl (cI, 120, .inl mfa)), (am 10, .inl (cI, 122, .inl mnu)), (am 11, .inl (cI, 122, .inl mst))]) (w1 := (wLx ad cI cJ cZ sl_147 ho_148 nu_149 fa_150 ou_151 sp fn_152 co_153 fo_154 ro_155 po_156 pn_157 rd_158 st_159 tw_160 od_161 rn_162 x y u sn ao o_163)) hP hD [0, 1, 2, 3, 4, 5, 6, 7, 8, 9, 10, 11, 12, 13, 14, 15, 16, 17, 18, 19, 32] [20, 21, 22, 23, 24, 25, 26, 27, 28, 29, 30, 31] rfl rfl (by decide) (by decide) hk1 hFc hP1 hD1
        have hP := hP.sub (ws' := (wLaw ad am ao cI cJ cZ sl_147 ho_148 nu_149 fa_150 ou_151 sp fn_152 co_153 fo_154 ro_155 po_156 pn_157 rd_158 st_159 tw_160 od_161 rn_162 x y u sn mre mth mxs mys mcu mnx mpo mpn mrn mrd mfi mar mfn mfa mnu mst o_163)) [12, 13, 14, 15, 16, 17, 18, 19, 20, 21, 22, 23, 24, 25, 26, 27, 28, 29, 30, 31, 0, 1, 2, 3, 4, 5, 6, 7, 8, 9, 10, 11, 32] rfl
        have hD := hD.sub (ws' := (wLaw ad am ao cI cJ cZ sl_147 ho_148 nu_149 fa_150 ou_151 sp fn_152 co_153 fo_154 ro_155 po_156 pn_157 rd_158 st_159 tw_160 od_161 rn_162 x y u sn mre mth mxs mys mcu mnx mpo mpn mrn mrd mfi mar mfn mfa mnu mst o_163)) [12, 13, 14, 15, 16, 17, 18, 19, 20, 21, 22, 23, 24, 25, 26, 27, 28, 29, 30, 31, 0, 1, 2, 3, 4, 5, 6, 7, 8, 9, 10, 11, 32] (by decide) rfl
        clear hPc hDc hFc hk1 hz1 hP1 hD1 ht hvm
        generalize H1 = H at hP hS ⊢
        refine lv_istore (lv' := [(5, .int r146), (0, .ref (b)), (1, .ref (ad 0)), (2, .ref (am 0)), (3, .ref (ao)), (4, .int v4)]) hx hb dL_law_470 hl (by decide) rfl (fun ls hl => ?_)
        refine lv_aload_n hx hb dL_law_472 rfl (lv_at hl 3 rfl) ?_
        refine lv_aload_n hx hb dL_law_473 rfl (lv_at hl 1 rfl) ?_
        refine lv_iload hx hb dL_law_474 (lv_at hl 5 rfl) ?_
        refine lv_iconst (v := 1) hx hb dL_law_476 (by decide) ?_
        refine lv_iadd hx hb dL_law_477 ?_
        have hi := hw.1
        have hw := hw.2
        refine va_sld hx hb hX hbl hbA hS hi dL_law_478 ?_
        have hPc := hP.sub (ws' := (wMod am cI cJ cZ mre mth mxs mys mcu mnx mpo mpn mrn mrd mfi mar mfn mfa mnu mst)) [20, 21, 22, 23, 24, 25, 26, 27, 28, 29, 30, 31] rfl
        have hDc := hD.sub (ws' := (wMod am cI cJ cZ mre mth mxs mys mcu mnx mpo mpn mrn mrd mfi mar mfn mfa mnu mst)) [20, 21, 22, 23, 24, 25, 26, 27, 28, 29, 30, 31] (by decide) rfl
        have hFc := va_free (wc := (wMod am cI cJ cZ mre mth mxs mys mcu mnx mpo mpn mrn mrd mfi mar mfn mfa mnu mst)) hD hS (fun _ h => h) [20, 21, 22, 23, 24, 25, 26, 27, 28, 29, 30, 31] rfl
        refine va_calli (va_runV (As := [.int (xs (v4 + (1 : Int32)).toNatClampNeg)]) (rest := []) C (c_X4_piece l dC dI cI cJ cZ am _ mre mth mxs mys mcu mnx mpo mpn mrn mrd mfi mar mfn mfa mnu mst (xs (v4 + (1 : Int32)).toNatClampNeg) hw) (cwV 1 hts gL_law_X4_piece rfl rfl rfl (by decide +kernel) ⟨Nat.le_of_ble_eq_true rfl, Nat.le_of_ble_eq_true rfl⟩) ⟨fb_rw, va_recv hK hPc (ci := 4) (q0 := 0) rfl rfl, fun U hU hW => ⟨rfl, by rw [hU], by rw [hU]; exact hPc, va_K.moved hW.alike hK, hDc.weaken (fun _ _ _ _ => trivial)⟩⟩ rfl rfl hl.1 rfl (lv_room (Nat.le_of_ble_eq_true rfl)) dL_law_479 ⟨by show _ ≤ 1063; omega, by show _ ≤ 11217; omega⟩) hS (fun q _ h => hFc q h) hFc (fun r164 uu t H1 locs ht hvm hw hB hz1 hk1 hS => ?_)
        obtain ⟨mre_165, mcu_166, mnx_167, mpo_168, mpn_169, mrn_170, mrd_171, mfi_172, mar_173, mfn_174, mfa_175, mnu_176⟩ := uu
        obtain ⟨hP1, hD1⟩ := hB
        rw [ht] at hP1
        try dsimp only at hw hP1 hD1
        obtain ⟨hP, hD⟩ := va_join (wr := [(ad 0, .inr (3, [.ref (ad 16), .ref (ad 7), .ref (ad 1), .int sl_147])), (ad 1, .inr (0, [.ref (ad 7), .ref (ad 16), .ref (ad 2), .ref (ad 3), .ref (ad 4), .ref (ad 5), .ref (ad 6), .int fn_152])), (ad 2, .inl (cI, 120, .inl ho_148)), (ad 3, .inl (cI, 120, .inl nu_149)), (ad 4, .inl (cI, 120, .inl fa_150)), (ad 5, .inl (cI, 60, .inl ou_151)), (ad 6, .inl (cI, 121, .inl sp)), (ad 7, .inr (1, [.ref (ad 16), .ref (ad 8), .ref (ad 9), .ref (ad 10), .ref (ad 11), .int pn_157, .ref (ad 12), .ref (ad 13), .ref (ad 14), .ref (ad 15), .int rn_162])), (ad 8, .inl (cI, 120, .inl co_153)), (ad 9, .inl (cI, 120, .inl fo_154)), (ad 10, .inl (cI, 60, .inl ro_155)), (ad 11, .inl (cI, 60, .inl po_156)), (ad 12, .inl (cI, 120, .inl rd_158)), (ad 13, .inl (cI, 120, .inl st_159)), (ad 14, .inl (cJ, 120, .inr (.inl tw_160))), (ad 15, .inl (cI, 120, .inl od_161)), (ad 16, .inr (2, [.ref (ad 17), .ref (ad 18), .ref (ad 19), .int sn])), (ad 17, .inl (cI, 120, .inl x)), (ad 18, .inl (cI, 120, .inl y)), (ad 19, .inl (cZ, 60, .inl u)), (ao, .inl (cJ, 1, .inr (.inl o_163)))]) (w1 := (wMod am cI cJ cZ mre_165 mth mxs mys mcu_166 mnx_167 mpo_168 mpn_169 mrn_170 mrd_171 mfi_172 mar_173 mfn_174 mfa_175 mnu_176 mst)) hP hD [20, 21, 22, 23, 24, 25, 26, 27, 28, 29, 30, 31] [0, 1, 2, 3, 4, 5, 6, 7, 8, 9, 10, 11, 12, 13, 14, 15, 16, 17, 18, 19, 32] rfl rfl (by decide) (by decide) hk1 hFc hP1 hD1
        have hP := hP.sub (ws' := (wLaw ad am ao cI cJ cZ sl_147 ho_148 nu_149 fa_150 ou_151 sp fn_152 co_153 fo_154 ro_155 po_156 pn_157 rd_158 st_159 tw_160 od_161 rn_162 x y u sn mre_165 mth mxs mys mcu_166 mnx_167 mpo_168 mpn_169 mrn_170 mrd_171 mfi_172 mar_173 mfn_174 mfa_175 mnu_176 mst o_163)) [0, 1, 2, 3, 4, 5, 6, 7, 8, 9, 10, 11, 12, 13, 14, 15, 16, 17, 18, 19, 21, 22, 23, 24, 25, 26, 27, 28, 29, 30, 31, 32, 20] rfl
        have hD := hD.sub (ws' := (wLaw ad am ao cI cJ cZ sl_147 ho_148 nu_149 fa_150 ou_151 sp fn_152 co_153 fo_154 ro_155 po_156 pn_157 rd_158 st_159 tw_160 od_161 rn_162 x y u sn mre_165 mth mxs mys mcu_166 mnx_167 mpo_168 mpn_169 mrn_170 mrd_171 mfi_172 mar_173 mfn_174 mfa_175 mnu_176 mst o_163)) [0, 1, 2, 3, 4, 5, 6, 7, 8, 9, 10, 11, 12, 13, 14, 15, 16, 17, 18, 19, 21, 22, 23, 24, 25, 26, 27, 28, 29, 30, 31, 32, 20] (by decide) rfl
        clear hPc hDc hFc hk1 hz1 hP1 hD1 ht hvm
        generalize H1 = H at hP hS ⊢
        refine lv_istore (lv' := [(6, .int r164), (5, .int r146), (0, .ref (b)), (1, .ref (ad 0)), (2, .ref (am 0)), (3, .ref (ao)), (4, .int v4)]) hx hb dL_law_482 hl (by decide) rfl (fun ls hl => ?_)
        refine lv_aload_n hx hb dL_law_484 rfl (lv_at hl 4 rfl) ?_
        have hPc := hP.sub (ws' := (wMod am cI cJ cZ mre_165 mth mxs mys mcu_166 mnx_167 mpo_168 mpn_169 mrn_170 mrd_171 mfi_172 mar_173 mfn_174 mfa_175 mnu_176 mst)) [20, 21, 22, 23, 24, 25, 26, 27, 28, 29, 30, 31] rfl
        refine vp_callSi (W.runV (As := []) (rest := []) C (c_X4_thrown l dC dI cI cJ cZ am mre_165 mth mxs mys mcu_166 mnx_167 mpo_168 mpn_169 mrn_170 mrd_171 mfi_172 mar_173 mfn_174 mfa_175 mnu_176 mst  hw) (cwV 0 hts gL_law_X4_thrown rfl rfl rfl (by decide +kernel) ⟨Nat.le_of_ble_eq_true rfl, Nat.le_of_ble_eq_true rfl⟩) ⟨fb_ro, va_recv hK hPc (ci := 4) (q0 := 0) rfl rfl, fun U hU hW => ⟨rfl, by rw [hU]; exact hPc, va_K.moved hW.alike hK⟩⟩ rfl rfl hl.1 rfl (lv_room (Nat.le_of_ble_eq_true rfl)) dL_law_485 ⟨by show _ ≤ 1063; omega, by show _ ≤ 11217; omega⟩) (fun r177 hw => ?_)
        refine lv_iload hx hb dL_law_488 (lv_at hl 1 rfl) ?_
        refine lv_icmp_eq (tgt := 495) hx hb dL_law_490 (by decide) (fun hc => ?_) (fun hc => ?_)
        · have hw := hw.1 (hc)
          refine lv_iload hx hb dL_law_495 (lv_at hl 1 rfl) ?_
          refine jn0_use (J := ∀ (ls : Array Slot) (H : Heap) (locs : List Loc), lv_has ls 7 [(0, .ref (b)), (1, .ref (ad 0)), (2, .ref (am 0)), (3, .ref (ao)), (4, .int v4)] → va_P (dC, dI) vwCl (wLaw ad am ao cI cJ cZ sl_147 ho_148 nu_149 fa_150 ou_151 sp fn_152 co_153 fo_154 ro_155 po_156 pn_157 rd_158 st_159 tw_160 od_161 rn_162 x y u sn mre_165 mth mxs mys mcu_166 mnx_167 mpo_168 mpn_169 mrn_170 mrd_171 mfi_172 mar_173 mfn_174 mfa_175 mnu_176 mst o_163) H → va_D (fun q : Nat => s.heap.size ≤ q) (wLaw ad am ao cI cJ cZ sl_147 ho_148 nu_149 fa_150 ou_151 sp fn_152 co_153 fo_154 ro_155 po_156 pn_157 rd_158 st_159 tw_160 od_161 rn_162 x y u sn mre_165 mth mxs mys mcu_166 mnx_167 mpo_168 mpn_169 mrn_170 mrd_171 mfi_172 mar_173 mfn_174 mfa_175 mnu_176 mst o_163) → va_S (fun q : Nat => s.heap.size ≤ q) s.heap H locs → W p l e room_1 s m #[Value.ref b] below meth c H locs (cells + 1) (slots + 6) (lw_Z below #[Value.ref b] s) (F0 m 512 ls [])) hw (fun hw ls H locs hl hP hD hS => ?_) (fun hw hj0 => ?_)
          · refine lv_goto (tgt := 899) hx hb dL_law_512 (by decide) ?_
            refine lv_iinc (v := (v4 + (5 : Int32))) (lv' := [(4, .int (v4 + (5 : Int32))), (0, .ref (b)), (1, .ref (ad 0)), (2, .ref (am 0)), (3, .ref (ao))]) hx hb dL_law_899 hl (k := 4) rfl rfl (by decide) rfl (fun ls hl => ?_)
            refine lv_goto (tgt := 23) hx hb dL_law_902 (by decide) ?_
            exact ih (cells + 1) (slots + 6) sl_147 ho_148 nu_149 fa_150 ou_151 sp fn_152 co_153 fo_154 ro_155 po_156 pn_157 rd_158 st_159 tw_160 od_161 rn_162 x y u sn mre_165 mth mxs mys mcu_166 mnx_167 mpo_168 mpn_169 mrn_170 mrd_171 mfi_172 mar_173 mfn_174 mfa_175 mnu_176 mst o_163 (v4 + (5 : Int32)) ls _ _ (by omega) (by omega) (lv_sub hl [1, 2, 3, 4, 0] rfl) hP hD hS hw
          · have hj179 := hj0
            refine lv_if_ne (tgt := 512) hx hb dL_law_497 (by decide) (fun hc => ?_) (fun hc => ?_)
            · have hw := hw.2 hc
              exact hj179 hw ls _ _ (lv_sub hl [2, 3, 4, 5, 6] rfl) hP hD hS
            · have hw := hw.1 (hc)
              refine lv_aload_n hx hb dL_law_500 rfl (lv_at hl 5 rfl) ?_
              refine lv_iconst (v := 0) hx hb dL_law_501 (by decide) ?_
              have hi := hw.1
              have hw := hw.2
              refine va_lald hx hb hK hP 32 1 rfl rfl hi dL_law_502 ?_
              refine lv_iload hx hb dL_law_503 (lv_at hl 0 rfl) ?_
              refine lv_i2l hx hb dL_law_505 rfl ?_
              refine W.lcmp hx hb dL_law_506 ?_
              refine lv_if_eq (tgt := 512) hx hb dL_law_507 (by decide) (fun hc => ?_) (fun hc => ?_)
              · have hw := hw.1 ((lg_cmp_eq _ _).mp hc)
                exact hj179 hw ls _ _ (lv_sub hl [2, 3, 4, 5, 6] rfl) hP hD hS
              · have hw := hw.2 (fun h9 => hc ((lg_cmp_eq _ _).mpr h9))
                refine lv_iconst (v := 0) hx hb dL_law_510 (by decide) ?_
                exact hw.elim
        · have hw := hw.2 hc
          refine lv_iconst (v := 0) hx hb dL_law_493 (by decide) ?_
          exact hw.elim
      · have hw := hw.2.2.2.2.2.2.2.2.2.1 hc
        rw [hc]
        refine lv_tableIn (tgt := 515) hx hb dL_law_39 (by decide) (by decide) rfl (by decide) ?_
        refine lv_aload_n hx hb dL_law_515 rfl (lv_at hl 1 rfl) ?_
        refine lv_aload_n hx hb dL_law_516 rfl (lv_at hl 0 rfl) ?_
        refine lv_iload hx hb dL_law_517 (lv_at hl 4 rfl) ?_
        refine lv_iconst (v := 1) hx hb dL_law_519 (by decide) ?_
        refine lv_iadd hx hb dL_law_520 ?_
        have hi := hw.1
        have hw := hw.2
        refine va_sld hx hb hX hbl hbA hS hi dL_law_521 ?_
        refine lv_aload_n hx hb dL_law_522 rfl (lv_at hl 3 rfl) ?_
        have hPc := hP.sub (ws' := (wLx ad cI cJ cZ sl ho nu fa ou sp fn co fo ro po pn rd st tw od rn x y u sn ao o)) [0, 1, 2, 3, 4, 5, 6, 7, 8, 9, 10, 11, 12, 13, 14, 15, 16, 17, 18, 19, 32] rfl
        have hDc := hD.sub (ws' := (wLx ad cI cJ cZ sl ho nu fa ou sp fn co fo ro po pn rd st tw od rn x y u sn ao o)) [0, 1, 2, 3, 4, 5, 6, 7, 8, 9, 10, 11, 12, 13, 14, 15, 16, 17, 18, 19, 32] (by decide) rfl
        have hFc := va_free (wc := (wLx ad cI cJ cZ sl ho nu fa ou sp fn co fo ro po pn rd st tw od rn x y u sn ao o)) hD hS (fun _ h => h) [0, 1, 2, 3, 4, 5, 6, 7, 8, 9, 10, 11, 12, 13, 14, 15, 16, 17, 18, 19, 32] rfl
        refine va_calli (vx_runSW (As := [.ref (ad 0), .int (xs (v4 + (1 : Int32)).toNatClampNeg), .ref (ao)]) (rest := []) C (c_L_around l hst dC dI cI cJ cZ ad _ sl ho nu fa ou sp fn co fo ro po pn rd st tw od rn x y u sn ao o (xs (v4 + (1 : Int32)).toNatClampNeg) hw) (vx_cwSW 3 hts gL_law_L_around rfl rfl rfl (by decide +kernel) ⟨Nat.le_of_ble_eq_true rfl, Nat.le_of_ble_eq_true rfl⟩) ⟨fb_x, fun U hU hW => ⟨rfl, by rw [hU], by rw [hU]; exact hPc, va_K.moved hW.alike hK, hDc.weaken (fun _ _ _ _ => trivial), hxe.step hS hFc hU hW⟩⟩ rfl rfl hl.1 rfl (lv_room (Nat.le_of_ble_eq_true rfl)) dL_law_523 ⟨by show _ ≤ 1063; omega, by show _ ≤ 11217; omega⟩) hS (fun q _ h => hFc q h) hFc (fun r180 uu t H1 locs ht hvm hw hB hz1 hk1 hS => ?_)
        obtain ⟨sl_181, ho_182, nu_183, fa_184, ou_185, fn_186, co_187, fo_188, ro_189, po_190, pn_191, rd_192, st_193, tw_194, od_195, rn_196, o_197⟩ := uu
        obtain ⟨hP1, hD1⟩ := hB
        rw [ht] at hP1
        try dsimp only at hw hP1 hD1
        obtain ⟨hP, hD⟩ := va_join (wr := [(am 0, .inr (4, [.int mre, .ref (am 1), .ref (am 2), .ref (am 3), .int mcu, .ref (am 4), .ref (am 5), .int mpn, .int mrn, .ref (am 6), .ref (am 7), .ref (am 8), .int mfn, .ref (am 9), .ref (am 10), .ref (am 11)])), (am 1, .inl (cZ, 60, .inl mth)), (am 2, .inl (cI, 120, .inl mxs)), (am 3, .inl (cI, 120, .inl mys)), (am 4, .inl (cI, 120, .inl mnx)), (am 5, .inl (cI, 120, .inl mpo)), (am 6, .inl (cI, 120, .inl mrd)), (am 7, .inl (cI, 120, .inl mfi)), (am 8, .inl (cJ, 120, .inr (.inl mar))), (am 9, .inl (cI, 120, .inl mfa)), (am 10, .inl (cI, 122, .inl mnu)), (am 11, .inl (cI, 122, .inl mst))]) (w1 := (wLx ad cI cJ cZ sl_181 ho_182 nu_183 fa_184 ou_185 sp fn_186 co_187 fo_188 ro_189 po_190 pn_191 rd_192 st_193 tw_194 od_195 rn_196 x y u sn ao o_197)) hP hD [0, 1, 2, 3, 4, 5, 6, 7, 8, 9, 10, 11, 12, 13, 14, 15, 16, 17, 18, 19, 32] [20, 21, 22, 23, 24, 25, 26, 27, 28, 29, 30, 31] rfl rfl (by decide) (by decide) hk1 hFc hP1 hD1
        have hP := hP.sub (ws' := (wLaw ad am ao cI cJ cZ sl_181 ho_182 nu_183 fa_184 ou_185 sp fn_186 co_187 fo_188 ro_189 po_190 pn_191 rd_192 st_193 tw_194 od_195 rn_196 x y u sn mre mth mxs mys mcu mnx mpo mpn mrn mrd mfi mar mfn mfa mnu mst o_197)) [12, 13, 14, 15, 16, 17, 18, 19, 20, 21, 22, 23, 24, 25, 26, 27, 28, 29, 30, 31, 0, 1, 2, 3, 4, 5, 6, 7, 8, 9, 10, 11, 32] rfl
        have hD := hD.sub (ws' := (wLaw ad am ao cI cJ cZ sl_181 ho_182 nu_183 fa_184 ou_185 sp fn_186 co_187 fo_188 ro_189 po_190 pn_191 rd_192 st_193 tw_194 od_195 rn_196 x y u sn mre mth mxs mys mcu mnx mpo mpn mrn mrd mfi mar mfn mfa mnu mst o_197)) [12, 13, 14, 15, 16, 17, 18, 19, 20, 21, 22, 23, 24, 25, 26, 27, 28, 29, 30, 31, 0, 1, 2, 3, 4, 5, 6, 7, 8, 9, 10, 11, 32] (by decide) rfl
        clear hPc hDc hFc hk1 hz1 hP1 hD1 ht hvm
        generalize H1 = H at hP hS ⊢
        refine lv_istore (lv' := [(5, .int r180), (0, .ref (b)), (1, .ref (ad 0)), (2, .ref (am 0)), (3, .ref (ao)), (4, .int v4)]) hx hb dL_law_526 hl (by decide) rfl (fun ls hl => ?_)
        refine lv_aload_n hx hb dL_law_528 rfl (lv_at hl 3 rfl) ?_
        refine lv_aload_n hx hb dL_law_529 rfl (lv_at hl 1 rfl) ?_
        refine lv_iload hx hb dL_law_530 (lv_at hl 5 rfl) ?_
        refine lv_iconst (v := 1) hx hb dL_law_532 (by decide) ?_
        refine lv_iadd hx hb dL_law_533 ?_
        have hi := hw.1
        have hw := hw.2
        refine va_sld hx hb hX hbl hbA hS hi dL_law_534 ?_
        have hPc := hP.sub (ws' := (wMod am cI cJ cZ mre mth mxs mys mcu mnx mpo mpn mrn mrd mfi mar mfn mfa mnu mst)) [20, 21, 22, 23, 24, 25, 26, 27, 28, 29, 30, 31] rfl
        have hDc := hD.sub (ws' := (wMod am cI cJ cZ mre mth mxs mys mcu mnx mpo mpn mrn mrd mfi mar mfn mfa mnu mst)) [20, 21, 22, 23, 24, 25, 26, 27, 28, 29, 30, 31] (by decide) rfl
        have hFc := va_free (wc := (wMod am cI cJ cZ mre mth mxs mys mcu mnx mpo mpn mrn mrd mfi mar mfn mfa mnu mst)) hD hS (fun _ h => h) [20, 21, 22, 23, 24, 25, 26, 27, 28, 29, 30, 31] rfl
        refine va_calli (va_runV (As := [.int (xs (v4 + (1 : Int32)).toNatClampNeg)]) (rest := []) C (c_X4_around l dC dI cI cJ cZ am _ mre mth mxs mys mcu mnx mpo mpn mrn mrd mfi mar mfn mfa mnu mst (xs (v4 + (1 : Int32)).toNatClampNeg) hw) (cwV 1 hts gL_law_X4_around rfl rfl rfl (by decide +kernel) ⟨Nat.le_of_ble_eq_true rfl, Nat.le_of_ble_eq_true rfl⟩) ⟨fb_rw, va_recv hK hPc (ci := 4) (q0 := 0) rfl rfl, fun U hU hW => ⟨rfl, by rw [hU], by rw [hU]; exact hPc, va_K.moved hW.alike hK, hDc.weaken (fun _ _ _ _ => trivial)⟩⟩ rfl rfl hl.1 rfl (lv_room (Nat.le_of_ble_eq_true rfl)) dL_law_535 ⟨by show _ ≤ 1063; omega, by show _ ≤ 11217; omega⟩) hS (fun q _ h => hFc q h) hFc (fun r198 uu t H1 locs ht hvm hw hB hz1 hk1 hS => ?_)
        obtain ⟨mre_199, mcu_200, mnx_201, mpo_202, mpn_203, mrn_204, mrd_205, mfi_206, mar_207, mfn_208, mfa_209, mnu_210⟩ := uu
        obtain ⟨hP1, hD1⟩ := hB
        rw [ht] at hP1
        try dsimp only at hw hP1 hD1
        obtain ⟨hP, hD⟩ := va_join (wr := [(ad 0, .inr (3, [.ref (ad 16), .ref (ad 7), .ref (ad 1), .int sl_181])), (ad 1, .inr (0, [.ref (ad 7), .ref (ad 16), .ref (ad 2), .ref (ad 3), .ref (ad 4), .ref (ad 5), .ref (ad 6), .int fn_186])), (ad 2, .inl (cI, 120, .inl ho_182)), (ad 3, .inl (cI, 120, .inl nu_183)), (ad 4, .inl (cI, 120, .inl fa_184)), (ad 5, .inl (cI, 60, .inl ou_185)), (ad 6, .inl (cI, 121, .inl sp)), (ad 7, .inr (1, [.ref (ad 16), .ref (ad 8), .ref (ad 9), .ref (ad 10), .ref (ad 11), .int pn_191, .ref (ad 12), .ref (ad 13), .ref (ad 14), .ref (ad 15), .int rn_196])), (ad 8, .inl (cI, 120, .inl co_187)), (ad 9, .inl (cI, 120, .inl fo_188)), (ad 10, .inl (cI, 60, .inl ro_189)), (ad 11, .inl (cI, 60, .inl po_190)), (ad 12, .inl (cI, 120, .inl rd_192)), (ad 13, .inl (cI, 120, .inl st_193)), (ad 14, .inl (cJ, 120, .inr (.inl tw_194))), (ad 15, .inl (cI, 120, .inl od_195)), (ad 16, .inr (2, [.ref (ad 17), .ref (ad 18), .ref (ad 19), .int sn])), (ad 17, .inl (cI, 120, .inl x)), (ad 18, .inl (cI, 120, .inl y)), (ad 19, .inl (cZ, 60, .inl u)), (ao, .inl (cJ, 1, .inr (.inl o_197)))]) (w1 := (wMod am cI cJ cZ mre_199 mth mxs mys mcu_200 mnx_201 mpo_202 mpn_203 mrn_204 mrd_205 mfi_206 mar_207 mfn_208 mfa_209 mnu_210 mst)) hP hD [20, 21, 22, 23, 24, 25, 26, 27, 28, 29, 30, 31] [0, 1, 2, 3, 4, 5, 6, 7, 8, 9, 10, 11, 12, 13, 14, 15, 16, 17, 18, 19, 32] rfl rfl (by decide) (by decide) hk1 hFc hP1 hD1
        have hP := hP.sub (ws' := (wLaw ad am ao cI cJ cZ sl_181 ho_182 nu_183 fa_184 ou_185 sp fn_186 co_187 fo_188 ro_189 po_190 pn_191 rd_192 st_193 tw_194 od_195 rn_196 x y u sn mre_199 mth mxs mys mcu_200 mnx_201 mpo_202 mpn_203 mrn_204 mrd_205 mfi_206 mar_207 mfn_208 mfa_209 mnu_210 mst o_197)) [0, 1, 2, 3, 4, 5, 6, 7, 8, 9, 10, 11, 12, 13, 14, 15, 16, 17, 18, 19, 21, 22, 23, 24, 25, 26, 27, 28, 29, 30, 31, 32, 20] rfl
        have hD := hD.sub (ws' := (wLaw ad am ao cI cJ cZ sl_181 ho_182 nu_183 fa_184 ou_185 sp fn_186 co_187 fo_188 ro_189 po_190 pn_191 rd_192 st_193 tw_194 od_195 rn_196 x y u sn mre_199 mth mxs mys mcu_200 mnx_201 mpo_202 mpn_203 mrn_204 mrd_205 mfi_206 mar_207 mfn_208 mfa_209 mnu_210 mst o_197)) [0, 1, 2, 3, 4, 5, 6, 7, 8, 9, 10, 11, 12, 13, 14, 15, 16, 17, 18, 19, 21, 22, 23, 24, 25, 26, 27, 28, 29, 30, 31, 32, 20] (by decide) rfl
        clear hPc hDc hFc hk1 hz1 hP1 hD1 ht hvm
        generalize H1 = H at hP hS ⊢
        refine lv_istore (lv' := [(6, .int r198), (5, .int r180), (0, .ref (b)), (1, .ref (ad 0)), (2, .ref (am 0)), (3, .ref (ao)), (4, .int v4)]) hx hb dL_law_538 hl (by decide) rfl (fun ls hl => ?_)
        refine lv_aload_n hx hb dL_law_540 rfl (lv_at hl 4 rfl) ?_
        have hPc := hP.sub (ws' := (wMod am cI cJ cZ mre_199 mth mxs mys mcu_200 mnx_201 mpo_202 mpn_203 mrn_204 mrd_205 mfi_206 mar_207 mfn_208 mfa_209 mnu_210 mst)) [20, 21, 22, 23, 24, 25, 26, 27, 28, 29, 30, 31] rfl
        refine vp_callSi (W.runV (As := []) (rest := []) C (c_X4_thrown l dC dI cI cJ cZ am mre_199 mth mxs mys mcu_200 mnx_201 mpo_202 mpn_203 mrn_204 mrd_205 mfi_206 mar_207 mfn_208 mfa_209 mnu_210 mst  hw) (cwV 0 hts gL_law_X4_thrown rfl rfl rfl (by decide +kernel) ⟨Nat.le_of_ble_eq_true rfl, Nat.le_of_ble_eq_true rfl⟩) ⟨fb_ro, va_recv hK hPc (ci := 4) (q0 := 0) rfl rfl, fun U hU hW => ⟨rfl, by rw [hU]; exact hPc, va_K.moved hW.alike hK⟩⟩ rfl rfl hl.1 rfl (lv_room (Nat.le_of_ble_eq_true rfl)) dL_law_541 ⟨by show _ ≤ 1063; omega, by show _ ≤ 11217; omega⟩) (fun r211 hw => ?_)
        refine lv_iload hx hb dL_law_544 (lv_at hl 1 rfl) ?_
        refine lv_icmp_eq (tgt := 551) hx hb dL_law_546 (by decide) (fun hc => ?_) (fun hc => ?_)
        · have hw := hw.1 (hc)
          refine lv_iload hx hb dL_law_551 (lv_at hl 1 rfl) ?_
          refine jn0_use (J := ∀ (ls : Array Slot) (H : Heap) (locs : List Loc), lv_has ls 7 [(0, .ref (b)), (1, .ref (ad 0)), (2, .ref (am 0)), (3, .ref (ao)), (4, .int v4)] → va_P (dC, dI) vwCl (wLaw ad am ao cI cJ cZ sl_181 ho_182 nu_183 fa_184 ou_185 sp fn_186 co_187 fo_188 ro_189 po_190 pn_191 rd_192 st_193 tw_194 od_195 rn_196 x y u sn mre_199 mth mxs mys mcu_200 mnx_201 mpo_202 mpn_203 mrn_204 mrd_205 mfi_206 mar_207 mfn_208 mfa_209 mnu_210 mst o_197) H → va_D (fun q : Nat => s.heap.size ≤ q) (wLaw ad am ao cI cJ cZ sl_181 ho_182 nu_183 fa_184 ou_185 sp fn_186 co_187 fo_188 ro_189 po_190 pn_191 rd_192 st_193 tw_194 od_195 rn_196 x y u sn mre_199 mth mxs mys mcu_200 mnx_201 mpo_202 mpn_203 mrn_204 mrd_205 mfi_206 mar_207 mfn_208 mfa_209 mnu_210 mst o_197) → va_S (fun q : Nat => s.heap.size ≤ q) s.heap H locs → W p l e room_1 s m #[Value.ref b] below meth c H locs (cells + 1) (slots + 6) (lw_Z below #[Value.ref b] s) (F0 m 568 ls [])) hw (fun hw ls H locs hl hP hD hS => ?_) (fun hw hj0 => ?_)
          · refine lv_goto (tgt := 899) hx hb dL_law_568 (by decide) ?_
            refine lv_iinc (v := (v4 + (5 : Int32))) (lv' := [(4, .int (v4 + (5 : Int32))), (0, .ref (b)), (1, .ref (ad 0)), (2, .ref (am 0)), (3, .ref (ao))]) hx hb dL_law_899 hl (k := 4) rfl rfl (by decide) rfl (fun ls hl => ?_)
            refine lv_goto (tgt := 23) hx hb dL_law_902 (by decide) ?_
            exact ih (cells + 1) (slots + 6) sl_181 ho_182 nu_183 fa_184 ou_185 sp fn_186 co_187 fo_188 ro_189 po_190 pn_191 rd_192 st_193 tw_194 od_195 rn_196 x y u sn mre_199 mth mxs mys mcu_200 mnx_201 mpo_202 mpn_203 mrn_204 mrd_205 mfi_206 mar_207 mfn_208 mfa_209 mnu_210 mst o_197 (v4 + (5 : Int32)) ls _ _ (by omega) (by omega) (lv_sub hl [1, 2, 3, 4, 0] rfl) hP hD hS hw
          · have hj213 := hj0
            refine lv_if_ne (tgt := 568) hx hb dL_law_553 (by decide) (fun hc => ?_) (fun hc => ?_)
            · have hw := hw.2 hc
              exact hj213 hw ls _ _ (lv_sub hl [2, 3, 4, 5, 6] rfl) hP hD hS
            · have hw := hw.1 (hc)
              refine lv_aload_n hx hb dL_law_556 rfl (lv_at hl 5 rfl) ?_
              refine lv_iconst (v := 0) hx hb dL_law_557 (by decide) ?_
              have hi := hw.1
              have hw := hw.2
              refine va_lald hx hb hK hP 32 1 rfl rfl hi dL_law_558 ?_
              refine lv_iload hx hb dL_law_559 (lv_at hl 0 rfl) ?_
              refine lv_i2l hx hb dL_law_561 rfl ?_
              refine W.lcmp hx hb dL_law_562 ?_
              refine lv_if_eq (tgt := 568) hx hb dL_law_563 (by decide) (fun hc => ?_) (fun hc => ?_)
              · have hw := hw.1 ((lg_cmp_eq _ _).mp hc)
                exact hj213 hw ls _ _ (lv_sub hl [2, 3, 4, 5, 6] rfl) hP hD hS
              · have hw := hw.2 (fun h9 => hc ((lg_cmp_eq _ _).mpr h9))
                refine lv_iconst (v := 0) hx hb dL_law_566 (by decide) ?_
                exact hw.elim
        · have hw := hw.2 hc
          refine lv_iconst (v := 0) hx hb dL_law_549 (by decide) ?_
          exact hw.elim
      · have hw := hw.2.2.2.2.2.2.2.2.2.2.1 hc
        rw [hc]
        refine lv_tableIn (tgt := 571) hx hb dL_law_39 (by decide) (by decide) rfl (by decide) ?_
        refine lv_aload_n hx hb dL_law_571 rfl (lv_at hl 1 rfl) ?_
        refine lv_aload_n hx hb dL_law_572 rfl (lv_at hl 0 rfl) ?_
        refine lv_iload hx hb dL_law_573 (lv_at hl 4 rfl) ?_
        refine lv_iconst (v := 1) hx hb dL_law_575 (by decide) ?_
        refine lv_iadd hx hb dL_law_576 ?_
        have hi := hw.1
        have hw := hw.2
        refine va_sld hx hb hX hbl hbA hS hi dL_law_577 ?_
        refine lv_aload_n hx hb dL_law_578 rfl (lv_at hl 3 rfl) ?_
        have hPc := hP.sub (ws' := (wLx ad cI cJ cZ sl ho nu fa ou sp fn co fo ro po pn rd st tw od rn x y u sn ao o)) [0, 1, 2, 3, 4, 5, 6, 7, 8, 9, 10, 11, 12, 13, 14, 15, 16, 17, 18, 19, 32] rfl
        have hDc := hD.sub (ws' := (wLx ad cI cJ cZ sl ho nu fa ou sp fn co fo ro po pn rd st tw od rn x y u sn ao o)) [0, 1, 2, 3, 4, 5, 6, 7, 8, 9, 10, 11, 12, 13, 14, 15, 16, 17, 18, 19, 32] (by decide) rfl
        have hFc := va_free (wc := (wLx ad cI cJ cZ sl ho nu fa ou sp fn co fo ro po pn rd st tw od rn x y u sn ao o)) hD hS (fun _ h => h) [0, 1, 2, 3, 4, 5, 6, 7, 8, 9, 10, 11, 12, 13, 14, 15, 16, 17, 18, 19, 32] rfl
        refine va_calli (vx_runSW (As := [.ref (ad 0), .int (xs (v4 + (1 : Int32)).toNatClampNeg), .ref (ao)]) (rest := []) C (c_L_area l hst dC dI cI cJ cZ ad _ sl ho nu fa ou sp fn co fo ro po pn rd st tw od rn x y u sn ao o (xs (v4 + (1 : Int32)).toNatClampNeg) hw) (vx_cwSW 3 hts gL_law_L_area rfl rfl rfl (by decide +kernel) ⟨Nat.le_of_ble_eq_true rfl, Nat.le_of_ble_eq_true rfl⟩) ⟨fb_x, fun U hU hW => ⟨rfl, by rw [hU], by rw [hU]; exact hPc, va_K.moved hW.alike hK, hDc.weaken (fun _ _ _ _ => trivial), hxe.step hS hFc hU hW⟩⟩ rfl rfl hl.1 rfl (lv_room (Nat.le_of_ble_eq_true rfl)) dL_law_579 ⟨by show _ ≤ 1063; omega, by show _ ≤ 11217; omega⟩) hS (fun q _ h => hFc q h) hFc (fun r214 uu t H1 locs ht hvm hw hB hz1 hk1 hS => ?_)
        obtain ⟨sl_215, ho_216, nu_217, fa_218, ou_219, fn_220, co_221, fo_222, ro_223, po_224, pn_225, rd_226, st_227, tw_228, od_229, rn_230, o_231⟩ := uu
        obtain ⟨hP1, hD1⟩ := hB
        rw [ht] at hP1
        try dsimp only at hw hP1 hD1
        obtain ⟨hP, hD⟩ := va_join (wr := [(am 0, .inr (4, [.int mre, .ref (am 1), .ref (am 2), .ref (am 3), .int mcu, .ref (am 4), .ref (am 5), .int mpn, .int mrn, .ref (am 6), .ref (am 7), .ref (am 8), .int mfn, .ref (am 9), .ref (am 10), .ref (am 11)])), (am 1, .inl (cZ, 60, .inl mth)), (am 2, .inl (cI, 120, .inl mxs)), (am 3, .inl (cI, 120, .inl mys)), (am 4, .inl (cI, 120, .inl mnx)), (am 5, .inl (cI, 120, .inl mpo)), (am 6, .inl (cI, 120, .inl mrd)), (am 7, .inl (cI, 120, .inl mfi)), (am 8, .inl (cJ, 120, .inr (.inl mar))), (am 9, .inl (cI, 120, .inl mfa)), (am 10, .inl (cI, 122, .inl mnu)), (am 11, .inl (cI, 122, .inl mst))]) (w1 := (wLx ad cI cJ cZ sl_215 ho_216 nu_217 fa_218 ou_219 sp fn_220 co_221 fo_222 ro_223 po_224 pn_225 rd_226 st_227 tw_228 od_229 rn_230 x y u sn ao o_231)) hP hD [0, 1, 2, 3, 4, 5, 6, 7, 8, 9, 10, 11, 12, 13, 14, 15, 16, 17, 18, 19, 32] [20, 21, 22, 23, 24, 25, 26, 27, 28, 29, 30, 31] rfl rfl (by decide) (by decide) hk1 hFc hP1 hD1
        have hP := hP.sub (ws' := (wLaw ad am ao cI cJ cZ sl_215 ho_216 nu_217 fa_218 ou_219 sp fn_220 co_221 fo_222 ro_223 po_224 pn_225 rd_226 st_227 tw_228 od_229 rn_230 x y u sn mre mth mxs mys mcu mnx mpo mpn mrn mrd mfi mar mfn mfa mnu mst o_231)) [12, 13, 14, 15, 16, 17, 18, 19, 20, 21, 22, 23, 24, 25, 26, 27, 28, 29, 30, 31, 0, 1, 2, 3, 4, 5, 6, 7, 8, 9, 10, 11, 32] rfl
        have hD := hD.sub (ws' := (wLaw ad am ao cI cJ cZ sl_215 ho_216 nu_217 fa_218 ou_219 sp fn_220 co_221 fo_222 ro_223 po_224 pn_225 rd_226 st_227 tw_228 od_229 rn_230 x y u sn mre mth mxs mys mcu mnx mpo mpn mrn mrd mfi mar mfn mfa mnu mst o_231)) [12, 13, 14, 15, 16, 17, 18, 19, 20, 21, 22, 23, 24, 25, 26, 27, 28, 29, 30, 31, 0, 1, 2, 3, 4, 5, 6, 7, 8, 9, 10, 11, 32] (by decide) rfl
        clear hPc hDc hFc hk1 hz1 hP1 hD1 ht hvm
        generalize H1 = H at hP hS ⊢
        refine lv_istore (lv' := [(5, .int r214), (0, .ref (b)), (1, .ref (ad 0)), (2, .ref (am 0)), (3, .ref (ao)), (4, .int v4)]) hx hb dL_law_582 hl (by decide) rfl (fun ls hl => ?_)
        refine lv_aload_n hx hb dL_law_584 rfl (lv_at hl 3 rfl) ?_
        refine lv_aload_n hx hb dL_law_585 rfl (lv_at hl 1 rfl) ?_
        refine lv_iload hx hb dL_law_586 (lv_at hl 5 rfl) ?_
        refine lv_iconst (v := 1) hx hb dL_law_588 (by decide) ?_
        refine lv_iadd hx hb dL_law_589 ?_
        have hi := hw.1
        have hw := hw.2
        refine va_sld hx hb hX hbl hbA hS hi dL_law_590 ?_
        have hPc := hP.sub (ws' := (wMod am cI cJ cZ mre mth mxs mys mcu mnx mpo mpn mrn mrd mfi mar mfn mfa mnu mst)) [20, 21, 22, 23, 24, 25, 26, 27, 28, 29, 30, 31] rfl
        have hDc := hD.sub (ws' := (wMod am cI cJ cZ mre mth mxs mys mcu mnx mpo mpn mrn mrd mfi mar mfn mfa mnu mst)) [20, 21, 22, 23, 24, 25, 26, 27, 28, 29, 30, 31] (by decide) rfl
        have hFc := va_free (wc := (wMod am cI cJ cZ mre mth mxs mys mcu mnx mpo mpn mrn mrd mfi mar mfn mfa mnu mst)) hD hS (fun _ h => h) [20, 21, 22, 23, 24, 25, 26, 27, 28, 29, 30, 31] rfl
        refine va_calli (va_runV (As := [.int (xs (v4 + (1 : Int32)).toNatClampNeg)]) (rest := []) C (c_X4_area l dC dI cI cJ cZ am _ mre mth mxs mys mcu mnx mpo mpn mrn mrd mfi mar mfn mfa mnu mst (xs (v4 + (1 : Int32)).toNatClampNeg) hw) (cwV 1 hts gL_law_X4_area rfl rfl rfl (by decide +kernel) ⟨Nat.le_of_ble_eq_true rfl, Nat.le_of_ble_eq_true rfl⟩) ⟨fb_rw, va_recv hK hPc (ci := 4) (q0 := 0) rfl rfl, fun U hU hW => ⟨rfl, by rw [hU], by rw [hU]; exact hPc, va_K.moved hW.alike hK, hDc.weaken (fun _ _ _ _ => trivial)⟩⟩ rfl rfl hl.1 rfl (lv_room (Nat.le_of_ble_eq_true rfl)) dL_law_591 ⟨by show _ ≤ 1063; omega, by show _ ≤ 11217; omega⟩) hS (fun q _ h => hFc q h) hFc (fun r232 uu t H1 locs ht hvm hw hB hz1 hk1 hS => ?_)
        obtain ⟨mre_233, mcu_234, mnx_235, mpo_236, mpn_237, mrn_238, mrd_239, mfi_240, mar_241, mfn_242, mfa_243, mnu_244⟩ := uu
        obtain ⟨hP1, hD1⟩ := hB
        rw [ht] at hP1
        try dsimp only at hw hP1 hD1
        obtain ⟨hP, hD⟩ := va_join (wr := [(ad 0, .inr (3, [.ref (ad 16), .ref (ad 7), .ref (ad 1), .int sl_215])), (ad 1, .inr (0, [.ref (ad 7), .ref (ad 16), .ref (ad 2), .ref (ad 3), .ref (ad 4), .ref (ad 5), .ref (ad 6), .int fn_220])), (ad 2, .inl (cI, 120, .inl ho_216)), (ad 3, .inl (cI, 120, .inl nu_217)), (ad 4, .inl (cI, 120, .inl fa_218)), (ad 5, .inl (cI, 60, .inl ou_219)), (ad 6, .inl (cI, 121, .inl sp)), (ad 7, .inr (1, [.ref (ad 16), .ref (ad 8), .ref (ad 9), .ref (ad 10), .ref (ad 11), .int pn_225, .ref (ad 12), .ref (ad 13), .ref (ad 14), .ref (ad 15), .int rn_230])), (ad 8, .inl (cI, 120, .inl co_221)), (ad 9, .inl (cI, 120, .inl fo_222)), (ad 10, .inl (cI, 60, .inl ro_223)), (ad 11, .inl (cI, 60, .inl po_224)), (ad 12, .inl (cI, 120, .inl rd_226)), (ad 13, .inl (cI, 120, .inl st_227)), (ad 14, .inl (cJ, 120, .inr (.inl tw_228))), (ad 15, .inl (cI, 120, .inl od_229)), (ad 16, .inr (2, [.ref (ad 17), .ref (ad 18), .ref (ad 19), .int sn])), (ad 17, .inl (cI, 120, .inl x)), (ad 18, .inl (cI, 120, .inl y)), (ad 19, .inl (cZ, 60, .inl u)), (ao, .inl (cJ, 1, .inr (.inl o_231)))]) (w1 := (wMod am cI cJ cZ mre_233 mth mxs mys mcu_234 mnx_235 mpo_236 mpn_237 mrn_238 mrd_239 mfi_240 mar_241 mfn_242 mfa_243 mnu_244 mst)) hP hD [20, 21, 22, 23, 24, 25, 26, 27, 28, 29, 30, 31] [0, 1, 2, 3, 4, 5, 6, 7, 8, 9, 10, 11, 12, 13, 14, 15, 16, 17, 18, 19, 32] rfl rfl (by decide) (by decide) hk1 hFc hP1 hD1
        have hP := hP.sub (ws' := (wLaw ad am ao cI cJ cZ sl_215 ho_216 nu_217 fa_218 ou_219 sp fn_220 co_221 fo_222 ro_223 po_224 pn_225 rd_226 st_227 tw_228 od_229 rn_230 x y u sn mre_233 mth mxs mys mcu_234 mnx_235 mpo_236 mpn_237 mrn_238 mrd_239 mfi_240 mar_241 mfn_242 mfa_243 mnu_244 mst o_231)) [0, 1, 2, 3, 4, 5, 6, 7, 8, 9, 10, 11, 12, 13, 14, 15, 16, 17, 18, 19, 21, 22, 23, 24, 25, 26, 27, 28, 29, 30, 31, 32, 20] rfl
        have hD := hD.sub (ws' := (wLaw ad am ao cI cJ cZ sl_215 ho_216 nu_217 fa_218 ou_219 sp fn_220 co_221 fo_222 ro_223 po_224 pn_225 rd_226 st_227 tw_228 od_229 rn_230 x y u sn mre_233 mth mxs mys mcu_234 mnx_235 mpo_236 mpn_237 mrn_238 mrd_239 mfi_240 mar_241 mfn_242 mfa_243 mnu_244 mst o_231)) [0, 1, 2, 3, 4, 5, 6, 7, 8, 9, 10, 11, 12, 13, 14, 15, 16, 17, 18, 19, 21, 22, 23, 24, 25, 26, 27, 28, 29, 30, 31, 32, 20] (by decide) rfl
        clear hPc hDc hFc hk1 hz1 hP1 hD1 ht hvm
        generalize H1 = H at hP hS ⊢
        refine lv_istore (lv' := [(6, .int r232), (5, .int r214), (0, .ref (b)), (1, .ref (ad 0)), (2, .ref (am 0)), (3, .ref (ao)), (4, .int v4)]) hx hb dL_law_594 hl (by decide) rfl (fun ls hl => ?_)
        refine lv_aload_n hx hb dL_law_596 rfl (lv_at hl 4 rfl) ?_
        have hPc := hP.sub (ws' := (wMod am cI cJ cZ mre_233 mth mxs mys mcu_234 mnx_235 mpo_236 mpn_237 mrn_238 mrd_239 mfi_240 mar_241 mfn_242 mfa_243 mnu_244 mst)) [20, 21, 22, 23, 24, 25, 26, 27, 28, 29, 30, 31] rfl
        refine vp_callSi (W.runV (As := []) (rest := []) C (c_X4_thrown l dC dI cI cJ cZ am mre_233 mth mxs mys mcu_234 mnx_235 mpo_236 mpn_237 mrn_238 mrd_239 mfi_240 mar_241 mfn_242 mfa_243 mnu_244 mst  hw) (cwV 0 hts gL_law_X4_thrown rfl rfl rfl (by decide +kernel) ⟨Nat.le_of_ble_eq_true rfl, Nat.le_of_ble_eq_true rfl⟩) ⟨fb_ro, va_recv hK hPc (ci := 4) (q0 := 0) rfl rfl, fun U hU hW => ⟨rfl, by rw [hU]; exact hPc, va_K.moved hW.alike hK⟩⟩ rfl rfl hl.1 rfl (lv_room (Nat.le_of_ble_eq_true rfl)) dL_law_597 ⟨by show _ ≤ 1063; omega, by show _ ≤ 11217; omega⟩) (fun r245 hw => ?_)
        refine lv_iload hx hb dL_law_600 (lv_at hl 1 rfl) ?_
        refine lv_icmp_eq (tgt := 607) hx hb dL_law_602 (by decide) (fun hc => ?_) (fun hc => ?_)
        · have hw := hw.1 (hc)
          refine lv_iload hx hb dL_law_607 (lv_at hl 1 rfl) ?_
          refine jn0_use (J := ∀ (ls : Array Slot) (H : Heap) (locs : List Loc), lv_has ls 7 [(0, .ref (b)), (1, .ref (ad 0)), (2, .ref (am 0)), (3, .ref (ao)), (4, .int v4)] → va_P (dC, dI) vwCl (wLaw ad am ao cI cJ cZ sl_215 ho_216 nu_217 fa_218 ou_219 sp fn_220 co_221 fo_222 ro_223 po_224 pn_225 rd_226 st_227 tw_228 od_229 rn_230 x y u sn mre_233 mth mxs mys mcu_234 mnx_235 mpo_236 mpn_237 mrn_238 mrd_239 mfi_240 mar_241 mfn_242 mfa_243 mnu_244 mst o_231) H → va_D (fun q : Nat => s.heap.size ≤ q) (wLaw ad am ao cI cJ cZ sl_215 ho_216 nu_217 fa_218 ou_219 sp fn_220 co_221 fo_222 ro_223 po_224 pn_225 rd_226 st_227 tw_228 od_229 rn_230 x y u sn mre_233 mth mxs mys mcu_234 mnx_235 mpo_236 mpn_237 mrn_238 mrd_239 mfi_240 mar_241 mfn_242 mfa_243 mnu_244 mst o_231) → va_S (fun q : Nat => s.heap.size ≤ q) s.heap H locs → W p l e room_1 s m #[Value.ref b] below meth c H locs (cells + 1) (slots + 6) (lw_Z below #[Value.ref b] s) (F0 m 624 ls [])) hw (fun hw ls H locs hl hP hD hS => ?_) (fun hw hj0 => ?_)
          · refine lv_goto (tgt := 899) hx hb dL_law_624 (by decide) ?_
            refine lv_iinc (v := (v4 + (5 : Int32))) (lv' := [(4, .int (v4 + (5 : Int32))), (0, .ref (b)), (1, .ref (ad 0)), (2, .ref (am 0)), (3, .ref (ao))]) hx hb dL_law_899 hl (k := 4) rfl rfl (by decide) rfl (fun ls hl => ?_)
            refine lv_goto (tgt := 23) hx hb dL_law_902 (by decide) ?_
            exact ih (cells + 1) (slots + 6) sl_215 ho_216 nu_217 fa_218 ou_219 sp fn_220 co_221 fo_222 ro_223 po_224 pn_225 rd_226 st_227 tw_228 od_229 rn_230 x y u sn mre_233 mth mxs mys mcu_234 mnx_235 mpo_236 mpn_237 mrn_238 mrd_239 mfi_240 mar_241 mfn_242 mfa_243 mnu_244 mst o_231 (v4 + (5 : Int32)) ls _ _ (by omega) (by omega) (lv_sub hl [1, 2, 3, 4, 0] rfl) hP hD hS hw
          · have hj247 := hj0
            refine lv_if_ne (tgt := 624) hx hb dL_law_609 (by decide) (fun hc => ?_) (fun hc => ?_)
            · have hw := hw.2 hc
              exact hj247 hw ls _ _ (lv_sub hl [2, 3, 4, 5, 6] rfl) hP hD hS
            · have hw := hw.1 (hc)
              refine lv_aload_n hx hb dL_law_612 rfl (lv_at hl 5 rfl) ?_
              refine lv_iconst (v := 0) hx hb dL_law_613 (by decide) ?_
              have hi := hw.1
              have hw := hw.2
              refine va_lald hx hb hK hP 32 1 rfl rfl hi dL_law_614 ?_
              refine lv_iload hx hb dL_law_615 (lv_at hl 0 rfl) ?_
              refine lv_i2l hx hb dL_law_617 rfl ?_
              refine W.lcmp hx hb dL_law_618 ?_
              refine lv_if_eq (tgt := 624) hx hb dL_law_619 (by decide) (fun hc => ?_) (fun hc => ?_)
              · have hw := hw.1 ((lg_cmp_eq _ _).mp hc)
                exact hj247 hw ls _ _ (lv_sub hl [2, 3, 4, 5, 6] rfl) hP hD hS
              · have hw := hw.2 (fun h9 => hc ((lg_cmp_eq _ _).mpr h9))
                refine lv_iconst (v := 0) hx hb dL_law_622 (by decide) ?_
                exact hw.elim
        · have hw := hw.2 hc
          refine lv_iconst (v := 0) hx hb dL_law_605 (by decide) ?_
          exact hw.elim
      · have hw := hw.2.2.2.2.2.2.2.2.2.2.2.1 hc
        rw [hc]
        refine lv_tableIn (tgt := 627) hx hb dL_law_39 (by decide) (by decide) rfl (by decide) ?_
        refine lv_aload_n hx hb dL_law_627 rfl (lv_at hl 1 rfl) ?_
        refine lv_aload_n hx hb dL_law_628 rfl (lv_at hl 0 rfl) ?_
        refine lv_iload hx hb dL_law_629 (lv_at hl 4 rfl) ?_
        refine lv_iconst (v := 1) hx hb dL_law_631 (by decide) ?_
        refine lv_iadd hx hb dL_law_632 ?_
        have hi := hw.1
        have hw := hw.2
        refine va_sld hx hb hX hbl hbA hS hi dL_law_633 ?_
        refine lv_aload_n hx hb dL_law_634 rfl (lv_at hl 0 rfl) ?_
        refine lv_iload hx hb dL_law_635 (lv_at hl 4 rfl) ?_
        refine lv_iconst (v := 2) hx hb dL_law_637 (by decide) ?_
        refine lv_iadd hx hb dL_law_638 ?_
        have hi := hw.1
        have hw := hw.2
        refine va_sld hx hb hX hbl hbA hS hi dL_law_639 ?_
        refine lv_aload_n hx hb dL_law_640 rfl (lv_at hl 3 rfl) ?_
        have hPc := hP.sub (ws' := (wLx ad cI cJ cZ sl ho nu fa ou sp fn co fo ro po pn rd st tw od rn x y u sn ao o)) [0, 1, 2, 3, 4, 5, 6, 7, 8, 9, 10, 11, 12, 13, 14, 15, 16, 17, 18, 19, 32] rfl
        have hDc := hD.sub (ws' := (wLx ad cI cJ cZ sl ho nu fa ou sp fn co fo ro po pn rd st tw od rn x y u sn ao o)) [0, 1, 2, 3, 4, 5, 6, 7, 8, 9, 10, 11, 12, 13, 14, 15, 16, 17, 18, 19, 32] (by decide) rfl
        have hFc := va_free (wc := (wLx ad cI cJ cZ sl ho nu fa ou sp fn co fo ro po pn rd st tw od rn x y u sn ao o)) hD hS (fun _ h => h) [0, 1, 2, 3, 4, 5, 6, 7, 8, 9, 10, 11, 12, 13, 14, 15, 16, 17, 18, 19, 32] rfl
        refine va_calli (vx_runSW (As := [.ref (ad 0), .int (xs (v4 + (1 : Int32)).toNatClampNeg), .int (xs (v4 + (2 : Int32)).toNatClampNeg), .ref (ao)]) (rest := []) C (c_L_border l hst dC dI cI cJ cZ ad _ sl ho nu fa ou sp fn co fo ro po pn rd st tw od rn x y u sn ao o (xs (v4 + (1 : Int32)).toNatClampNeg) (xs (v4 + (2 : Int32)).toNatClampNeg) hw) (vx_cwSW 4 hts gL_law_L_border rfl rfl rfl (by decide +kernel) ⟨Nat.le_of_ble_eq_true rfl, Nat.le_of_ble_eq_true rfl⟩) ⟨fb_x, fun U hU hW => ⟨rfl, by rw [hU], by rw [hU]; exact hPc, va_K.moved hW.alike hK, hDc.weaken (fun _ _ _ _ => trivial), hxe.step hS hFc hU hW⟩⟩ rfl rfl hl.1 rfl (lv_room (Nat.le_of_ble_eq_true rfl)) dL_law_641 ⟨by show _ ≤ 1063; omega, by show _ ≤ 11217; omega⟩) hS (fun q _ h => hFc q h) hFc (fun r248 uu t H1 locs ht hvm hw hB hz1 hk1 hS => ?_)
        obtain ⟨sl_249, ho_250, nu_251, fa_252, ou_253, fn_254, co_255, fo_256, ro_257, po_258, pn_259, rd_260, st_261, tw_262, od_263, rn_264, o_265⟩ := uu
        obtain ⟨hP1, hD1⟩ := hB
        rw [ht] at hP1
        try dsimp only at hw hP1 hD1
        obtain ⟨hP, hD⟩ := va_join (wr := [(am 0, .inr (4, [.int mre, .ref (am 1), .ref (am 2), .ref (am 3), .int mcu, .ref (am 4), .ref (am 5), .int mpn, .int mrn, .ref (am 6), .ref (am 7), .ref (am 8), .int mfn, .ref (am 9), .ref (am 10), .ref (am 11)])), (am 1, .inl (cZ, 60, .inl mth)), (am 2, .inl (cI, 120, .inl mxs)), (am 3, .inl (cI, 120, .inl mys)), (am 4, .inl (cI, 120, .inl mnx)), (am 5, .inl (cI, 120, .inl mpo)), (am 6, .inl (cI, 120, .inl mrd)), (am 7, .inl (cI, 120, .inl mfi)), (am 8, .inl (cJ, 120, .inr (.inl mar))), (am 9, .inl (cI, 120, .inl mfa)), (am 10, .inl (cI, 122, .inl mnu)), (am 11, .inl (cI, 122, .inl mst))]) (w1 := (wLx ad cI cJ cZ sl_249 ho_250 nu_251 fa_252 ou_253 sp fn_254 co_255 fo_256 ro_257 po_258 pn_259 rd_260 st_261 tw_262 od_263 rn_264 x y u sn ao o_265)) hP hD [0, 1, 2, 3, 4, 5, 6, 7, 8, 9, 10, 11, 12, 13, 14, 15, 16, 17, 18, 19, 32] [20, 21, 22, 23, 24, 25, 26, 27, 28, 29, 30, 31] rfl rfl (by decide) (by decide) hk1 hFc hP1 hD1
        have hP := hP.sub (ws' := (wLaw ad am ao cI cJ cZ sl_249 ho_250 nu_251 fa_252 ou_253 sp fn_254 co_255 fo_256 ro_257 po_258 pn_259 rd_260 st_261 tw_262 od_263 rn_264 x y u sn mre mth mxs mys mcu mnx mpo mpn mrn mrd mfi mar mfn mfa mnu mst o_265)) [12, 13, 14, 15, 16, 17, 18, 19, 20, 21, 22, 23, 24, 25, 26, 27, 28, 29, 30, 31, 0, 1, 2, 3, 4, 5, 6, 7, 8, 9, 10, 11, 32] rfl
        have hD := hD.sub (ws' := (wLaw ad am ao cI cJ cZ sl_249 ho_250 nu_251 fa_252 ou_253 sp fn_254 co_255 fo_256 ro_257 po_258 pn_259 rd_260 st_261 tw_262 od_263 rn_264 x y u sn mre mth mxs mys mcu mnx mpo mpn mrn mrd mfi mar mfn mfa mnu mst o_265)) [12, 13, 14, 15, 16, 17, 18, 19, 20, 21, 22, 23, 24, 25, 26, 27, 28, 29, 30, 31, 0, 1, 2, 3, 4, 5, 6, 7, 8, 9, 10, 11, 32] (by decide) rfl
        clear hPc hDc hFc hk1 hz1 hP1 hD1 ht hvm
        generalize H1 = H at hP hS ⊢
        refine lv_istore (lv' := [(5, .int r248), (0, .ref (b)), (1, .ref (ad 0)), (2, .ref (am 0)), (3, .ref (ao)), (4, .int v4)]) hx hb dL_law_644 hl (by decide) rfl (fun ls hl => ?_)
        refine lv_aload_n hx hb dL_law_646 rfl (lv_at hl 3 rfl) ?_
        refine lv_aload_n hx hb dL_law_647 rfl (lv_at hl 1 rfl) ?_
        refine lv_iload hx hb dL_law_648 (lv_at hl 5 rfl) ?_
        refine lv_iconst (v := 1) hx hb dL_law_650 (by decide) ?_
        refine lv_iadd hx hb dL_law_651 ?_
        have hi := hw.1
        have hw := hw.2
        refine va_sld hx hb hX hbl hbA hS hi dL_law_652 ?_
        refine lv_aload_n hx hb dL_law_653 rfl (lv_at hl 1 rfl) ?_
        refine lv_iload hx hb dL_law_654 (lv_at hl 5 rfl) ?_
        refine lv_iconst (v := 2) hx hb dL_law_656 (by decide) ?_
        refine lv_iadd hx hb dL_law_657 ?_
        have hi := hw.1
        have hw := hw.2
        refine va_sld hx hb hX hbl hbA hS hi dL_law_658 ?_
        have hPc := hP.sub (ws' := (wMod am cI cJ cZ mre mth mxs mys mcu mnx mpo mpn mrn mrd mfi mar mfn mfa mnu mst)) [20, 21, 22, 23, 24, 25, 26, 27, 28, 29, 30, 31] rfl
        have hDc := hD.sub (ws' := (wMod am cI cJ cZ mre mth mxs mys mcu mnx mpo mpn mrn mrd mfi mar mfn mfa mnu mst)) [20, 21, 22, 23, 24, 25, 26, 27, 28, 29, 30, 31] (by decide) rfl
        have hFc := va_free (wc := (wMod am cI cJ cZ mre mth mxs mys mcu mnx mpo mpn mrn mrd mfi mar mfn mfa mnu mst)) hD hS (fun _ h => h) [20, 21, 22, 23, 24, 25, 26, 27, 28, 29, 30, 31] rfl
        refine va_calli (va_runV (As := [.int (xs (v4 + (1 : Int32)).toNatClampNeg), .int (xs (v4 + (2 : Int32)).toNatClampNeg)]) (rest := []) C (c_X4_border l dC dI cI cJ cZ am _ mre mth mxs mys mcu mnx mpo mpn mrn mrd mfi mar mfn mfa mnu mst (xs (v4 + (1 : Int32)).toNatClampNeg) (xs (v4 + (2 : Int32)).toNatClampNeg) hw) (cwV 2 hts gL_law_X4_border rfl rfl rfl (by decide +kernel) ⟨Nat.le_of_ble_eq_true rfl, Nat.le_of_ble_eq_true rfl⟩) ⟨fb_rw, va_recv hK hPc (ci := 4) (q0 := 0) rfl rfl, fun U hU hW => ⟨rfl, by rw [hU], by rw [hU]; exact hPc, va_K.moved hW.alike hK, hDc.weaken (fun _ _ _ _ => trivial)⟩⟩ rfl rfl hl.1 rfl (lv_room (Nat.le_of_ble_eq_true rfl)) dL_law_659 ⟨by show _ ≤ 1063; omega, by show _ ≤ 11217; omega⟩) hS (fun q _ h => hFc q h) hFc (fun r266 uu t H1 locs ht hvm hw hB hz1 hk1 hS => ?_)
        obtain ⟨mre_267, mcu_268, mnx_269, mpo_270, mpn_271, mrn_272, mrd_273, mfi_274, mar_275, mfn_276, mfa_277, mnu_278⟩ := uu
        obtain ⟨hP1, hD1⟩ := hB
        rw [ht] at hP1
        try dsimp only at hw hP1 hD1
        obtain ⟨hP, hD⟩ := va_join (wr := [(ad 0, .inr (3, [.ref (ad 16), .ref (ad 7), .ref (ad 1), .int sl_249])), (ad 1, .inr (0, [.ref (ad 7), .ref (ad 16), .ref (ad 2), .ref (ad 3), .ref (ad 4), .ref (ad 5), .ref (ad 6), .int fn_254])), (ad 2, .inl (cI, 120, .inl ho_250)), (ad 3, .inl (cI, 120, .inl nu_251)), (ad 4, .inl (cI, 120, .inl fa_252)), (ad 5, .inl (cI, 60, .inl ou_253)), (ad 6, .inl (cI, 121, .inl sp)), (ad 7, .inr (1, [.ref (ad 16), .ref (ad 8), .ref (ad 9), .ref (ad 10), .ref (ad 11), .int pn_259, .ref (ad 12), .ref (ad 13), .ref (ad 14), .ref (ad 15), .int rn_264])), (ad 8, .inl (cI, 120, .inl co_255)), (ad 9, .inl (cI, 120, .inl fo_256)), (ad 10, .inl (cI, 60, .inl ro_257)), (ad 11, .inl (cI, 60, .inl po_258)), (ad 12, .inl (cI, 120, .inl rd_260)), (ad 13, .inl (cI, 120, .inl st_261)), (ad 14, .inl (cJ, 120, .inr (.inl tw_262))), (ad 15, .inl (cI, 120, .inl od_263)), (ad 16, .inr (2, [.ref (ad 17), .ref (ad 18), .ref (ad 19), .int sn])), (ad 17, .inl (cI, 120, .inl x)), (ad 18, .inl (cI, 120, .inl y)), (ad 19, .inl (cZ, 60, .inl u)), (ao, .inl (cJ, 1, .inr (.inl o_265)))]) (w1 := (wMod am cI cJ cZ mre_267 mth mxs mys mcu_268 mnx_269 mpo_270 mpn_271 mrn_272 mrd_273 mfi_274 mar_275 mfn_276 mfa_277 mnu_278 mst)) hP hD [20, 21, 22, 23, 24, 25, 26, 27, 28, 29, 30, 31] [0, 1, 2, 3, 4, 5, 6, 7, 8, 9, 10, 11, 12, 13, 14, 15, 16, 17, 18, 19, 32] rfl rfl (by decide) (by decide) hk1 hFc hP1 hD1
        have hP := hP.sub (ws' := (wLaw ad am ao cI cJ cZ sl_249 ho_250 nu_251 fa_252 ou_253 sp fn_254 co_255 fo_256 ro_257 po_258 pn_259 rd_260 st_261 tw_262 od_263 rn_264 x y u sn mre_267 mth mxs mys mcu_268 mnx_269 mpo_270 mpn_271 mrn_272 mrd_273 mfi_274 mar_275 mfn_276 mfa_277 mnu_278 mst o_265)) [0, 1, 2, 3, 4, 5, 6, 7, 8, 9, 10, 11, 12, 13, 14, 15, 16, 17, 18, 19, 21, 22, 23, 24, 25, 26, 27, 28, 29, 30, 31, 32, 20] rfl
        have hD := hD.sub (ws' := (wLaw ad am ao cI cJ cZ sl_249 ho_250 nu_251 fa_252 ou_253 sp fn_254 co_255 fo_256 ro_257 po_258 pn_259 rd_260 st_261 tw_262 od_263 rn_264 x y u sn mre_267 mth mxs mys mcu_268 mnx_269 mpo_270 mpn_271 mrn_272 mrd_273 mfi_274 mar_275 mfn_276 mfa_277 mnu_278 mst o_265)) [0, 1, 2, 3, 4, 5, 6, 7, 8, 9, 10, 11, 12, 13, 14, 15, 16, 17, 18, 19, 21, 22, 23, 24, 25, 26, 27, 28, 29, 30, 31, 32, 20] (by decide) rfl
        clear hPc hDc hFc hk1 hz1 hP1 hD1 ht hvm
        generalize H1 = H at hP hS ⊢
        refine lv_istore (lv' := [(6, .int r266), (5, .int r248), (0, .ref (b)), (1, .ref (ad 0)), (2, .ref (am 0)), (3, .ref (ao)), (4, .int v4)]) hx hb dL_law_662 hl (by decide) rfl (fun ls hl => ?_)
        refine lv_aload_n hx hb dL_law_664 rfl (lv_at hl 4 rfl) ?_
        have hPc := hP.sub (ws' := (wMod am cI cJ cZ mre_267 mth mxs mys mcu_268 mnx_269 mpo_270 mpn_271 mrn_272 mrd_273 mfi_274 mar_275 mfn_276 mfa_277 mnu_278 mst)) [20, 21, 22, 23, 24, 25, 26, 27, 28, 29, 30, 31] rfl
        refine vp_callSi (W.runV (As := []) (rest := []) C (c_X4_thrown l dC dI cI cJ cZ am mre_267 mth mxs mys mcu_268 mnx_269 mpo_270 mpn_271 mrn_272 mrd_273 mfi_274 mar_275 mfn_276 mfa_277 mnu_278 mst  hw) (cwV 0 hts gL_law_X4_thrown rfl rfl rfl (by decide +kernel) ⟨Nat.le_of_ble_eq_true rfl, Nat.le_of_ble_eq_true rfl⟩) ⟨fb_ro, va_recv hK hPc (ci := 4) (q0 := 0) rfl rfl, fun U hU hW => ⟨rfl, by rw [hU]; exact hPc, va_K.moved hW.alike hK⟩⟩ rfl rfl hl.1 rfl (lv_room (Nat.le_of_ble_eq_true rfl)) dL_law_665 ⟨by show _ ≤ 1063; omega, by show _ ≤ 11217; omega⟩) (fun r279 hw => ?_)
        refine lv_iload hx hb dL_law_668 (lv_at hl 1 rfl) ?_
        refine lv_icmp_eq (tgt := 675) hx hb dL_law_670 (by decide) (fun hc => ?_) (fun hc => ?_)
        · have hw := hw.1 (hc)
          refine lv_iload hx hb dL_law_675 (lv_at hl 1 rfl) ?_
          refine jn0_use (J := ∀ (ls : Array Slot) (H : Heap) (locs : List Loc), lv_has ls 7 [(0, .ref (b)), (1, .ref (ad 0)), (2, .ref (am 0)), (3, .ref (ao)), (4, .int v4)] → va_P (dC, dI) vwCl (wLaw ad am ao cI cJ cZ sl_249 ho_250 nu_251 fa_252 ou_253 sp fn_254 co_255 fo_256 ro_257 po_258 pn_259 rd_260 st_261 tw_262 od_263 rn_264 x y u sn mre_267 mth mxs mys mcu_268 mnx_269 mpo_270 mpn_271 mrn_272 mrd_273 mfi_274 mar_275 mfn_276 mfa_277 mnu_278 mst o_265) H → va_D (fun q : Nat => s.heap.size ≤ q) (wLaw ad am ao cI cJ cZ sl_249 ho_250 nu_251 fa_252 ou_253 sp fn_254 co_255 fo_256 ro_257 po_258 pn_259 rd_260 st_261 tw_262 od_263 rn_264 x y u sn mre_267 mth mxs mys mcu_268 mnx_269 mpo_270 mpn_271 mrn_272 mrd_273 mfi_274 mar_275 mfn_276 mfa_277 mnu_278 mst o_265) → va_S (fun q : Nat => s.heap.size ≤ q) s.heap H locs → W p l e room_1 s m #[Value.ref b] below meth c H locs (cells + 1) (slots + 6) (lw_Z below #[Value.ref b] s) (F0 m 692 ls [])) hw (fun hw ls H locs hl hP hD hS => ?_) (fun hw hj0 => ?_)
          · refine lv_goto (tgt := 899) hx hb dL_law_692 (by decide) ?_
            refine lv_iinc (v := (v4 + (5 : Int32))) (lv' := [(4, .int (v4 + (5 : Int32))), (0, .ref (b)), (1, .ref (ad 0)), (2, .ref (am 0)), (3, .ref (ao))]) hx hb dL_law_899 hl (k := 4) rfl rfl (by decide) rfl (fun ls hl => ?_)
            refine lv_goto (tgt := 23) hx hb dL_law_902 (by decide) ?_
            exact ih (cells + 1) (slots + 6) sl_249 ho_250 nu_251 fa_252 ou_253 sp fn_254 co_255 fo_256 ro_257 po_258 pn_259 rd_260 st_261 tw_262 od_263 rn_264 x y u sn mre_267 mth mxs mys mcu_268 mnx_269 mpo_270 mpn_271 mrn_272 mrd_273 mfi_274 mar_275 mfn_276 mfa_277 mnu_278 mst o_265 (v4 + (5 : Int32)) ls _ _ (by omega) (by omega) (lv_sub hl [1, 2, 3, 4, 0] rfl) hP hD hS hw
          · have hj281 := hj0
            refine lv_if_ne (tgt := 692) hx hb dL_law_677 (by decide) (fun hc => ?_) (fun hc => ?_)
            · have hw := hw.2 hc
              exact hj281 hw ls _ _ (lv_sub hl [2, 3, 4, 5, 6] rfl) hP hD hS
            · have hw := hw.1 (hc)
              refine lv_aload_n hx hb dL_law_680 rfl (lv_at hl 5 rfl) ?_
              refine lv_iconst (v := 0) hx hb dL_law_681 (by decide) ?_
              have hi := hw.1
              have hw := hw.2
              refine va_lald hx hb hK hP 32 1 rfl rfl hi dL_law_682 ?_
              refine lv_iload hx hb dL_law_683 (lv_at hl 0 rfl) ?_
              refine lv_i2l hx hb dL_law_685 rfl ?_
              refine W.lcmp hx hb dL_law_686 ?_
              refine lv_if_eq (tgt := 692) hx hb dL_law_687 (by decide) (fun hc => ?_) (fun hc => ?_)
              · have hw := hw.1 ((lg_cmp_eq _ _).mp hc)
                exact hj281 hw ls _ _ (lv_sub hl [2, 3, 4, 5, 6] rfl) hP hD hS
              · have hw := hw.2 (fun h9 => hc ((lg_cmp_eq _ _).mpr h9))
                refine lv_iconst (v := 0) hx hb dL_law_690 (by decide) ?_
                exact hw.elim
        · have hw := hw.2 hc
          refine lv_iconst (v := 0) hx hb dL_law_673 (by decide) ?_
          exact hw.elim
      · have hw := hw.2.2.2.2.2.2.2.2.2.2.2.2.1 hc
        rw [hc]
        refine lv_tableIn (tgt := 695) hx hb dL_law_39 (by decide) (by decide) rfl (by decide) ?_
        refine lv_aload_n hx hb dL_law_695 rfl (lv_at hl 1 rfl) ?_
        refine lv_aload_n hx hb dL_law_696 rfl (lv_at hl 0 rfl) ?_
        refine lv_iload hx hb dL_law_697 (lv_at hl 4 rfl) ?_
        refine lv_iconst (v := 1) hx hb dL_law_699 (by decide) ?_
        refine lv_iadd hx hb dL_law_700 ?_
        have hi := hw.1
        have hw := hw.2
        refine va_sld hx hb hX hbl hbA hS hi dL_law_701 ?_
        refine lv_aload_n hx hb dL_law_702 rfl (lv_at hl 0 rfl) ?_
        refine lv_iload hx hb dL_law_703 (lv_at hl 4 rfl) ?_
        refine lv_iconst (v := 2) hx hb dL_law_705 (by decide) ?_
        refine lv_iadd hx hb dL_law_706 ?_
        have hi := hw.1
        have hw := hw.2
        refine va_sld hx hb hX hbl hbA hS hi dL_law_707 ?_
        refine lv_aload_n hx hb dL_law_708 rfl (lv_at hl 3 rfl) ?_
        have hPc := hP.sub (ws' := (wLx ad cI cJ cZ sl ho nu fa ou sp fn co fo ro po pn rd st tw od rn x y u sn ao o)) [0, 1, 2, 3, 4, 5, 6, 7, 8, 9, 10, 11, 12, 13, 14, 15, 16, 17, 18, 19, 32] rfl
        have hDc := hD.sub (ws' := (wLx ad cI cJ cZ sl ho nu fa ou sp fn co fo ro po pn rd st tw od rn x y u sn ao o)) [0, 1, 2, 3, 4, 5, 6, 7, 8, 9, 10, 11, 12, 13, 14, 15, 16, 17, 18, 19, 32] (by decide) rfl
        have hFc := va_free (wc := (wLx ad cI cJ cZ sl ho nu fa ou sp fn co fo ro po pn rd st tw od rn x y u sn ao o)) hD hS (fun _ h => h) [0, 1, 2, 3, 4, 5, 6, 7, 8, 9, 10, 11, 12, 13, 14, 15, 16, 17, 18, 19, 32] rfl
        refine va_calli (vx_runSW (As := [.ref (ad 0), .int (xs (v4 + (1 : Int32)).toNatClampNeg), .int (xs (v4 + (2 : Int32)).toNatClampNeg), .ref (ao)]) (rest := []) C (c_L_locate l hst dC dI cI cJ cZ ad _ sl ho nu fa ou sp fn co fo ro po pn rd st tw od rn x y u sn ao o (xs (v4 + (1 : Int32)).toNatClampNeg) (xs (v4 + (2 : Int32)).toNatClampNeg) hw) (vx_cwSW 4 hts gL_law_L_locate rfl rfl rfl (by decide +kernel) ⟨Nat.le_of_ble_eq_true rfl, Nat.le_of_ble_eq_true rfl⟩) ⟨fb_x, fun U hU hW => ⟨rfl, by rw [hU], by rw [hU]; exact hPc, va_K.moved hW.alike hK, hDc.weaken (fun _ _ _ _ => trivial), hxe.step hS hFc hU hW⟩⟩ rfl rfl hl.1 rfl (lv_room (Nat.le_of_ble_eq_true rfl)) dL_law_709 ⟨by show _ ≤ 1063; omega, by show _ ≤ 11217; omega⟩) hS (fun q _ h => hFc q h) hFc (fun r282 uu t H1 locs ht hvm hw hB hz1 hk1 hS => ?_)
        obtain ⟨sl_283, ho_284, nu_285, fa_286, ou_287, fn_288, co_289, fo_290, ro_291, po_292, pn_293, rd_294, st_295, tw_296, od_297, rn_298, o_299⟩ := uu
        obtain ⟨hP1, hD1⟩ := hB
        rw [ht] at hP1
        try dsimp only at hw hP1 hD1
        obtain ⟨hP, hD⟩ := va_join (wr := [(am 0, .inr (4, [.int mre, .ref (am 1), .ref (am 2), .ref (am 3), .int mcu, .ref (am 4), .ref (am 5), .int mpn, .int mrn, .ref (am 6), .ref (am 7), .ref (am 8), .int mfn, .ref (am 9), .ref (am 10), .ref (am 11)])), (am 1, .inl (cZ, 60, .inl mth)), (am 2, .inl (cI, 120, .inl mxs)), (am 3, .inl (cI, 120, .inl mys)), (am 4, .inl (cI, 120, .inl mnx)), (am 5, .inl (cI, 120, .inl mpo)), (am 6, .inl (cI, 120, .inl mrd)), (am 7, .inl (cI, 120, .inl mfi)), (am 8, .inl (cJ, 120, .inr (.inl mar))), (am 9, .inl (cI, 120, .inl mfa)), (am 10, .inl (cI, 122, .inl mnu)), (am 11, .inl (cI, 122, .inl mst))]) (w1 := (wLx ad cI cJ cZ sl_283 ho_284 nu_285 fa_286 ou_287 sp fn_288 co_289 fo_290 ro_291 po_292 pn_293 rd_294 st_295 tw_296 od_297 rn_298 x y u sn ao o_299)) hP hD [0, 1, 2, 3, 4, 5, 6, 7, 8, 9, 10, 11, 12, 13, 14, 15, 16, 17, 18, 19, 32] [20, 21, 22, 23, 24, 25, 26, 27, 28, 29, 30, 31] rfl rfl (by decide) (by decide) hk1 hFc hP1 hD1
        have hP := hP.sub (ws' := (wLaw ad am ao cI cJ cZ sl_283 ho_284 nu_285 fa_286 ou_287 sp fn_288 co_289 fo_290 ro_291 po_292 pn_293 rd_294 st_295 tw_296 od_297 rn_298 x y u sn mre mth mxs mys mcu mnx mpo mpn mrn mrd mfi mar mfn mfa mnu mst o_299)) [12, 13, 14, 15, 16, 17, 18, 19, 20, 21, 22, 23, 24, 25, 26, 27, 28, 29, 30, 31, 0, 1, 2, 3, 4, 5, 6, 7, 8, 9, 10, 11, 32] rfl
        have hD := hD.sub (ws' := (wLaw ad am ao cI cJ cZ sl_283 ho_284 nu_285 fa_286 ou_287 sp fn_288 co_289 fo_290 ro_291 po_292 pn_293 rd_294 st_295 tw_296 od_297 rn_298 x y u sn mre mth mxs mys mcu mnx mpo mpn mrn mrd mfi mar mfn mfa mnu mst o_299)) [12, 13, 14, 15, 16, 17, 18, 19, 20, 21, 22, 23, 24, 25, 26, 27, 28, 29, 30, 31, 0, 1, 2, 3, 4, 5, 6, 7, 8, 9, 10, 11, 32] (by decide) rfl
        clear hPc hDc hFc hk1 hz1 hP1 hD1 ht hvm
        generalize H1 = H at hP hS ⊢
        refine lv_istore (lv' := [(5, .int r282), (0, .ref (b)), (1, .ref (ad 0)), (2, .ref (am 0)), (3, .ref (ao)), (4, .int v4)]) hx hb dL_law_712 hl (by decide) rfl (fun ls hl => ?_)
        refine lv_aload_n hx hb dL_law_714 rfl (lv_at hl 3 rfl) ?_
        refine lv_aload_n hx hb dL_law_715 rfl (lv_at hl 1 rfl) ?_
        refine lv_iload hx hb dL_law_716 (lv_at hl 5 rfl) ?_
        refine lv_iconst (v := 1) hx hb dL_law_718 (by decide) ?_
        refine lv_iadd hx hb dL_law_719 ?_
        have hi := hw.1
        have hw := hw.2
        refine va_sld hx hb hX hbl hbA hS hi dL_law_720 ?_
        refine lv_aload_n hx hb dL_law_721 rfl (lv_at hl 1 rfl) ?_
        refine lv_iload hx hb dL_law_722 (lv_at hl 5 rfl) ?_
        refine lv_iconst (v := 2) hx hb dL_law_724 (by decide) ?_
        refine lv_iadd hx hb dL_law_725 ?_
        have hi := hw.1
        have hw := hw.2
        refine va_sld hx hb hX hbl hbA hS hi dL_law_726 ?_
        have hPc := hP.sub (ws' := (wMod am cI cJ cZ mre mth mxs mys mcu mnx mpo mpn mrn mrd mfi mar mfn mfa mnu mst)) [20, 21, 22, 23, 24, 25, 26, 27, 28, 29, 30, 31] rfl
        have hDc := hD.sub (ws' := (wMod am cI cJ cZ mre mth mxs mys mcu mnx mpo mpn mrn mrd mfi mar mfn mfa mnu mst)) [20, 21, 22, 23, 24, 25, 26, 27, 28, 29, 30, 31] (by decide) rfl
        have hFc := va_free (wc := (wMod am cI cJ cZ mre mth mxs mys mcu mnx mpo mpn mrn mrd mfi mar mfn mfa mnu mst)) hD hS (fun _ h => h) [20, 21, 22, 23, 24, 25, 26, 27, 28, 29, 30, 31] rfl
        refine va_calli (va_runV (As := [.int (xs (v4 + (1 : Int32)).toNatClampNeg), .int (xs (v4 + (2 : Int32)).toNatClampNeg)]) (rest := []) C (c_X4_locate l dC dI cI cJ cZ am _ mre mth mxs mys mcu mnx mpo mpn mrn mrd mfi mar mfn mfa mnu mst (xs (v4 + (1 : Int32)).toNatClampNeg) (xs (v4 + (2 : Int32)).toNatClampNeg) hw) (cwV 2 hts gL_law_X4_locate rfl rfl rfl (by decide +kernel) ⟨Nat.le_of_ble_eq_true rfl, Nat.le_of_ble_eq_true rfl⟩) ⟨fb_rw, va_recv hK hPc (ci := 4) (q0 := 0) rfl rfl, fun U hU hW => ⟨rfl, by rw [hU], by rw [hU]; exact hPc, va_K.moved hW.alike hK, hDc.weaken (fun _ _ _ _ => trivial)⟩⟩ rfl rfl hl.1 rfl (lv_room (Nat.le_of_ble_eq_true rfl)) dL_law_727 ⟨by show _ ≤ 1063; omega, by show _ ≤ 11217; omega⟩) hS (fun q _ h => hFc q h) hFc (fun r300 uu t H1 locs ht hvm hw hB hz1 hk1 hS => ?_)
        obtain ⟨mre_301, mcu_302, mnx_303, mpo_304, mpn_305, mrn_306, mrd_307, mfi_308, mar_309, mfn_310, mfa_311, mnu_312⟩ := uu
        obtain ⟨hP1, hD1⟩ := hB
        rw [ht] at hP1
        try dsimp only at hw hP1 hD1
        obtain ⟨hP, hD⟩ := va_join (wr := [(ad 0, .inr (3, [.ref (ad 16), .ref (ad 7), .ref (ad 1), .int sl_283])), (ad 1, .inr (0, [.ref (ad 7), .ref (ad 16), .ref (ad 2), .ref (ad 3), .ref (ad 4), .ref (ad 5), .ref (ad 6), .int fn_288])), (ad 2, .inl (cI, 120, .inl ho_284)), (ad 3, .inl (cI, 120, .inl nu_285)), (ad 4, .inl (cI, 120, .inl fa_286)), (ad 5, .inl (cI, 60, .inl ou_287)), (ad 6, .inl (cI, 121, .inl sp)), (ad 7, .inr (1, [.ref (ad 16), .ref (ad 8), .ref (ad 9), .ref (ad 10), .ref (ad 11), .int pn_293, .ref (ad 12), .ref (ad 13), .ref (ad 14), .ref (ad 15), .int rn_298])), (ad 8, .inl (cI, 120, .inl co_289)), (ad 9, .inl (cI, 120, .inl fo_290)), (ad 10, .inl (cI, 60, .inl ro_291)), (ad 11, .inl (cI, 60, .inl po_292)), (ad 12, .inl (cI, 120, .inl rd_294)), (ad 13, .inl (cI, 120, .inl st_295)), (ad 14, .inl (cJ, 120, .inr (.inl tw_296))), (ad 15, .inl (cI, 120, .inl od_297)), (ad 16, .inr (2, [.ref (ad 17), .ref (ad 18), .ref (ad 19), .int sn])), (ad 17, .inl (cI, 120, .inl x)), (ad 18, .inl (cI, 120, .inl y)), (ad 19, .inl (cZ, 60, .inl u)), (ao, .inl (cJ, 1, .inr (.inl o_299)))]) (w1 := (wMod am cI cJ cZ mre_301 mth mxs mys mcu_302 mnx_303 mpo_304 mpn_305 mrn_306 mrd_307 mfi_308 mar_309 mfn_310 mfa_311 mnu_312 mst)) hP hD [20, 21, 22, 23, 24, 25, 26, 27, 28, 29, 30, 31] [0, 1, 2, 3, 4, 5, 6, 7, 8, 9, 10, 11, 12, 13, 14, 15, 16, 17, 18, 19, 32] rfl rfl (by decide) (by decide) hk1 hFc hP1 hD1
        have hP := hP.sub (ws' := (wLaw ad am ao cI cJ cZ sl_283 ho_284 nu_285 fa_286 ou_287 sp fn_288 co_289 fo_290 ro_291 po_292 pn_293 rd_294 st_295 tw_296 od_297 rn_298 x y u sn mre_301 mth mxs mys mcu_302 mnx_303 mpo_304 mpn_305 mrn_306 mrd_307 mfi_308 mar_309 mfn_310 mfa_311 mnu_312 mst o_299)) [0, 1, 2, 3, 4, 5, 6, 7, 8, 9, 10, 11, 12, 13, 14, 15, 16, 17, 18, 19, 21, 22, 23, 24, 25, 26, 27, 28, 29, 30, 31, 32, 20] rfl
        have hD := hD.sub (ws' := (wLaw ad am ao cI cJ cZ sl_283 ho_284 nu_285 fa_286 ou_287 sp fn_288 co_289 fo_290 ro_291 po_292 pn_293 rd_294 st_295 tw_296 od_297 rn_298 x y u sn mre_301 mth mxs mys mcu_302 mnx_303 mpo_304 mpn_305 mrn_306 mrd_307 mfi_308 mar_309 mfn_310 mfa_311 mnu_312 mst o_299)) [0, 1, 2, 3, 4, 5, 6, 7, 8, 9, 10, 11, 12, 13, 14, 15, 16, 17, 18, 19, 21, 22, 23, 24, 25, 26, 27, 28, 29, 30, 31, 32, 20] (by decide) rfl
        clear hPc hDc hFc hk1 hz1 hP1 hD1 ht hvm
        generalize H1 = H at hP hS ⊢
        refine lv_istore (lv' := [(6, .int r300), (5, .int r282), (0, .ref (b)), (1, .ref (ad 0)), (2, .ref (am 0)), (3, .ref (ao)), (4, .int v4)]) hx hb dL_law_730 hl (by decide) rfl (fun ls hl => ?_)
        refine lv_aload_n hx hb dL_law_732 rfl (lv_at hl 4 rfl) ?_
        have hPc := hP.sub (ws' := (wMod am cI cJ cZ mre_301 mth mxs mys mcu_302 mnx_303 mpo_304 mpn_305 mrn_306 mrd_307 mfi_308 mar_309 mfn_310 mfa_311 mnu_312 mst)) [20, 21, 22, 23, 24, 25, 26, 27, 28, 29, 30, 31] rfl
        refine vp_callSi (W.runV (As := []) (rest := []) C (c_X4_thrown l dC dI cI cJ cZ am mre_301 mth mxs mys mcu_302 mnx_303 mpo_304 mpn_305 mrn_306 mrd_307 mfi_308 mar_309 mfn_310 mfa_311 mnu_312 mst  hw) (cwV 0 hts gL_law_X4_thrown rfl rfl rfl (by decide +kernel) ⟨Nat.le_of_ble_eq_true rfl, Nat.le_of_ble_eq_true rfl⟩) ⟨fb_ro, va_recv hK hPc (ci := 4) (q0 := 0) rfl rfl, fun U hU hW => ⟨rfl, by rw [hU]; exact hPc, va_K.moved hW.alike hK⟩⟩ rfl rfl hl.1 rfl (lv_room (Nat.le_of_ble_eq_true rfl)) dL_law_733 ⟨by show _ ≤ 1063; omega, by show _ ≤ 11217; omega⟩) (fun r313 hw => ?_)
        refine lv_iload hx hb dL_law_736 (lv_at hl 1 rfl) ?_
        refine lv_icmp_eq (tgt := 743) hx hb dL_law_738 (by decide) (fun hc => ?_) (fun hc => ?_)
        · have hw := hw.1 (hc)
          refine lv_iload hx hb dL_law_743 (lv_at hl 1 rfl) ?_
          refine jn0_use (J := ∀ (ls : Array Slot) (H : Heap) (locs : List Loc), lv_has ls 7 [(0, .ref (b)), (1, .ref (ad 0)), (2, .ref (am 0)), (3, .ref (ao)), (4, .int v4)] → va_P (dC, dI) vwCl (wLaw ad am ao cI cJ cZ sl_283 ho_284 nu_285 fa_286 ou_287 sp fn_288 co_289 fo_290 ro_291 po_292 pn_293 rd_294 st_295 tw_296 od_297 rn_298 x y u sn mre_301 mth mxs mys mcu_302 mnx_303 mpo_304 mpn_305 mrn_306 mrd_307 mfi_308 mar_309 mfn_310 mfa_311 mnu_312 mst o_299) H → va_D (fun q : Nat => s.heap.size ≤ q) (wLaw ad am ao cI cJ cZ sl_283 ho_284 nu_285 fa_286 ou_287 sp fn_288 co_289 fo_290 ro_291 po_292 pn_293 rd_294 st_295 tw_296 od_297 rn_298 x y u sn mre_301 mth mxs mys mcu_302 mnx_303 mpo_304 mpn_305 mrn_306 mrd_307 mfi_308 mar_309 mfn_310 mfa_311 mnu_312 mst o_299) → va_S (fun q : Nat => s.heap.size ≤ q) s.heap H locs → W p l e room_1 s m #[Value.ref b] below meth c H locs (cells + 1) (slots + 6) (lw_Z below #[Value.ref b] s) (F0 m 760 ls [])) hw (fun hw ls H locs hl hP hD hS => ?_) (fun hw hj0 => ?_)
          · refine lv_goto (tgt := 899) hx hb dL_law_760 (by decide) ?_
            refine lv_iinc (v := (v4 + (5 : Int32))) (lv' := [(4, .int (v4 + (5 : Int32))), (0, .ref (b)), (1, .ref (ad 0)), (2, .ref (am 0)), (3, .ref (ao))]) hx hb dL_law_899 hl (k := 4) rfl rfl (by decide) rfl (fun ls hl => ?_)
            refine lv_goto (tgt := 23) hx hb dL_law_902 (by decide) ?_
            exact ih (cells + 1) (slots + 6) sl_283 ho_284 nu_285 fa_286 ou_287 sp fn_288 co_289 fo_290 ro_291 po_292 pn_293 rd_294 st_295 tw_296 od_297 rn_298 x y u sn mre_301 mth mxs mys mcu_302 mnx_303 mpo_304 mpn_305 mrn_306 mrd_307 mfi_308 mar_309 mfn_310 mfa_311 mnu_312 mst o_299 (v4 + (5 : Int32)) ls _ _ (by omega) (by omega) (lv_sub hl [1, 2, 3, 4, 0] rfl) hP hD hS hw
          · have hj315 := hj0
            refine lv_if_ne (tgt := 760) hx hb dL_law_745 (by decide) (fun hc => ?_) (fun hc => ?_)
            · have hw := hw.2 hc
              exact hj315 hw ls _ _ (lv_sub hl [2, 3, 4, 5, 6] rfl) hP hD hS
            · have hw := hw.1 (hc)
              refine lv_aload_n hx hb dL_law_748 rfl (lv_at hl 5 rfl) ?_
              refine lv_iconst (v := 0) hx hb dL_law_749 (by decide) ?_
              have hi := hw.1
              have hw := hw.2
              refine va_lald hx hb hK hP 32 1 rfl rfl hi dL_law_750 ?_
              refine lv_iload hx hb dL_law_751 (lv_at hl 0 rfl) ?_
              refine lv_i2l hx hb dL_law_753 rfl ?_
              refine W.lcmp hx hb dL_law_754 ?_
              refine lv_if_eq (tgt := 760) hx hb dL_law_755 (by decide) (fun hc => ?_) (fun hc => ?_)
              · have hw := hw.1 ((lg_cmp_eq _ _).mp hc)
                exact hj315 hw ls _ _ (lv_sub hl [2, 3, 4, 5, 6] rfl) hP hD hS
              · have hw := hw.2 (fun h9 => hc ((lg_cmp_eq _ _).mpr h9))
                refine lv_iconst (v := 0) hx hb dL_law_758 (by decide) ?_
                exact hw.elim
        · have hw := hw.2 hc
          refine lv_iconst (v := 0) hx hb dL_law_741 (by decide) ?_
          exact hw.elim
      · have hw := hw.2.2.2.2.2.2.2.2.2.2.2.2.2.1 hc
        rw [hc]
        refine lv_tableIn (tgt := 763) hx hb dL_law_39 (by decide) (by decide) rfl (by decide) ?_
        refine lv_aload_n hx hb dL_law_763 rfl (lv_at hl 1 rfl) ?_
        refine lv_aload_n hx hb dL_law_764 rfl (lv_at hl 0 rfl) ?_
        refine lv_iload hx hb dL_law_765 (lv_at hl 4 rfl) ?_
        refine lv_iconst (v := 1) hx hb dL_law_767 (by decide) ?_
        refine lv_iadd hx hb dL_law_768 ?_
        have hi := hw.1
        have hw := hw.2
        refine va_sld hx hb hX hbl hbA hS hi dL_law_769 ?_
        refine lv_aload_n hx hb dL_law_770 rfl (lv_at hl 0 rfl) ?_
        refine lv_iload hx hb dL_law_771 (lv_at hl 4 rfl) ?_
        refine lv_iconst (v := 2) hx hb dL_law_773 (by decide) ?_
        refine lv_iadd hx hb dL_law_774 ?_
        have hi := hw.1
        have hw := hw.2
        refine va_sld hx hb hX hbl hbA hS hi dL_law_775 ?_
        refine lv_aload_n hx hb dL_law_776 rfl (lv_at hl 3 rfl) ?_
        have hPc := hP.sub (ws' := (wLx ad cI cJ cZ sl ho nu fa ou sp fn co fo ro po pn rd st tw od rn x y u sn ao o)) [0, 1, 2, 3, 4, 5, 6, 7, 8, 9, 10, 11, 12, 13, 14, 15, 16, 17, 18, 19, 32] rfl
        have hDc := hD.sub (ws' := (wLx ad cI cJ cZ sl ho nu fa ou sp fn co fo ro po pn rd st tw od rn x y u sn ao o)) [0, 1, 2, 3, 4, 5, 6, 7, 8, 9, 10, 11, 12, 13, 14, 15, 16, 17, 18, 19, 32] (by decide) rfl
        have hFc := va_free (wc := (wLx ad cI cJ cZ sl ho nu fa ou sp fn co fo ro po pn rd st tw od rn x y u sn ao o)) hD hS (fun _ h => h) [0, 1, 2, 3, 4, 5, 6, 7, 8, 9, 10, 11, 12, 13, 14, 15, 16, 17, 18, 19, 32] rfl
        refine va_calli (vx_runSW (As := [.ref (ad 0), .int (xs (v4 + (1 : Int32)).toNatClampNeg), .int (xs (v4 + (2 : Int32)).toNatClampNeg), .ref (ao)]) (rest := []) C (c_L_above l hst dC dI cI cJ cZ ad _ sl ho nu fa ou sp fn co fo ro po pn rd st tw od rn x y u sn ao o (xs (v4 + (1 : Int32)).toNatClampNeg) (xs (v4 + (2 : Int32)).toNatClampNeg) hw) (vx_cwSW 4 hts gL_law_L_above rfl rfl rfl (by decide +kernel) ⟨Nat.le_of_ble_eq_true rfl, Nat.le_of_ble_eq_true rfl⟩) ⟨fb_x, fun U hU hW => ⟨rfl, by rw [hU], by rw [hU]; exact hPc, va_K.moved hW.alike hK, hDc.weaken (fun _ _ _ _ => trivial), hxe.step hS hFc hU hW⟩⟩ rfl rfl hl.1 rfl (lv_room (Nat.le_of_ble_eq_true rfl)) dL_law_777 ⟨by show _ ≤ 1063; omega, by show _ ≤ 11217; omega⟩) hS (fun q _ h => hFc q h) hFc (fun r316 uu t H1 locs ht hvm hw hB hz1 hk1 hS => ?_)
        obtain ⟨o_317, rfl⟩ : ∃ z, z = uu := ⟨_, rfl⟩
        obtain ⟨hP1, hD1⟩ := hB
        rw [ht] at hP1
        try dsimp only at hw hP1 hD1
        obtain ⟨hP, hD⟩ := va_join (wr := [(am 0, .inr (4, [.int mre, .ref (am 1), .ref (am 2), .ref (am 3), .int mcu, .ref (am 4), .ref (am 5), .int mpn, .int mrn, .ref (am 6), .ref (am 7), .ref (am 8), .int mfn, .ref (am 9), .ref (am 10), .ref (am 11)])), (am 1, .inl (cZ, 60, .inl mth)), (am 2, .inl (cI, 120, .inl mxs)), (am 3, .inl (cI, 120, .inl mys)), (am 4, .inl (cI, 120, .inl mnx)), (am 5, .inl (cI, 120, .inl mpo)), (am 6, .inl (cI, 120, .inl mrd)), (am 7, .inl (cI, 120, .inl mfi)), (am 8, .inl (cJ, 120, .inr (.inl mar))), (am 9, .inl (cI, 120, .inl mfa)), (am 10, .inl (cI, 122, .inl mnu)), (am 11, .inl (cI, 122, .inl mst))]) (w1 := (wLx ad cI cJ cZ sl ho nu fa ou sp fn co fo ro po pn rd st tw od rn x y u sn ao o_317)) hP hD [0, 1, 2, 3, 4, 5, 6, 7, 8, 9, 10, 11, 12, 13, 14, 15, 16, 17, 18, 19, 32] [20, 21, 22, 23, 24, 25, 26, 27, 28, 29, 30, 31] rfl rfl (by decide) (by decide) hk1 hFc hP1 hD1
        have hP := hP.sub (ws' := (wLaw ad am ao cI cJ cZ sl ho nu fa ou sp fn co fo ro po pn rd st tw od rn x y u sn mre mth mxs mys mcu mnx mpo mpn mrn mrd mfi mar mfn mfa mnu mst o_317)) [12, 13, 14, 15, 16, 17, 18, 19, 20, 21, 22, 23, 24, 25, 26, 27, 28, 29, 30, 31, 0, 1, 2, 3, 4, 5, 6, 7, 8, 9, 10, 11, 32] rfl
        have hD := hD.sub (ws' := (wLaw ad am ao cI cJ cZ sl ho nu fa ou sp fn co fo ro po pn rd st tw od rn x y u sn mre mth mxs mys mcu mnx mpo mpn mrn mrd mfi mar mfn mfa mnu mst o_317)) [12, 13, 14, 15, 16, 17, 18, 19, 20, 21, 22, 23, 24, 25, 26, 27, 28, 29, 30, 31, 0, 1, 2, 3, 4, 5, 6, 7, 8, 9, 10, 11, 32] (by decide) rfl
        clear hPc hDc hFc hk1 hz1 hP1 hD1 ht hvm
        generalize H1 = H at hP hS ⊢
        refine lv_istore (lv' := [(5, .int r316), (0, .ref (b)), (1, .ref (ad 0)), (2, .ref (am 0)), (3, .ref (ao)), (4, .int v4)]) hx hb dL_law_780 hl (by decide) rfl (fun ls hl => ?_)
        refine lv_aload_n hx hb dL_law_782 rfl (lv_at hl 3 rfl) ?_
        refine lv_aload_n hx hb dL_law_783 rfl (lv_at hl 1 rfl) ?_
        refine lv_iload hx hb dL_law_784 (lv_at hl 5 rfl) ?_
        refine lv_iconst (v := 1) hx hb dL_law_786 (by decide) ?_
        refine lv_iadd hx hb dL_law_787 ?_
        have hi := hw.1
        have hw := hw.2
        refine va_sld hx hb hX hbl hbA hS hi dL_law_788 ?_
        refine lv_aload_n hx hb dL_law_789 rfl (lv_at hl 1 rfl) ?_
        refine lv_iload hx hb dL_law_790 (lv_at hl 5 rfl) ?_
        refine lv_iconst (v := 2) hx hb dL_law_792 (by decide) ?_
        refine lv_iadd hx hb dL_law_793 ?_
        have hi := hw.1
        have hw := hw.2
        refine va_sld hx hb hX hbl hbA hS hi dL_law_794 ?_
        have hPc := hP.sub (ws' := (wMod am cI cJ cZ mre mth mxs mys mcu mnx mpo mpn mrn mrd mfi mar mfn mfa mnu mst)) [20, 21, 22, 23, 24, 25, 26, 27, 28, 29, 30, 31] rfl
        have hDc := hD.sub (ws' := (wMod am cI cJ cZ mre mth mxs mys mcu mnx mpo mpn mrn mrd mfi mar mfn mfa mnu mst)) [20, 21, 22, 23, 24, 25, 26, 27, 28, 29, 30, 31] (by decide) rfl
        have hFc := va_free (wc := (wMod am cI cJ cZ mre mth mxs mys mcu mnx mpo mpn mrn mrd mfi mar mfn mfa mnu mst)) hD hS (fun _ h => h) [20, 21, 22, 23, 24, 25, 26, 27, 28, 29, 30, 31] rfl
        refine va_calli (va_runV (As := [.int (xs (v4 + (1 : Int32)).toNatClampNeg), .int (xs (v4 + (2 : Int32)).toNatClampNeg)]) (rest := []) C (c_X4_above l dC dI cI cJ cZ am _ mre mth mxs mys mcu mnx mpo mpn mrn mrd mfi mar mfn mfa mnu mst (xs (v4 + (1 : Int32)).toNatClampNeg) (xs (v4 + (2 : Int32)).toNatClampNeg) hw) (cwV 2 hts gL_law_X4_above rfl rfl rfl (by decide +kernel) ⟨Nat.le_of_ble_eq_true rfl, Nat.le_of_ble_eq_true rfl⟩) ⟨fb_rw, va_recv hK hPc (ci := 4) (q0 := 0) rfl rfl, fun U hU hW => ⟨rfl, by rw [hU], by rw [hU]; exact hPc, va_K.moved hW.alike hK, hDc.weaken (fun _ _ _ _ => trivial)⟩⟩ rfl rfl hl.1 rfl (lv_room (Nat.le_of_ble_eq_true rfl)) dL_law_795 ⟨by show _ ≤ 1063; omega, by show _ ≤ 11217; omega⟩) hS (fun q _ h => hFc q h) hFc (fun r318 uu t H1 locs ht hvm hw hB hz1 hk1 hS => ?_)
        obtain ⟨mre_319, rfl⟩ : ∃ z, z = uu := ⟨_, rfl⟩
        obtain ⟨hP1, hD1⟩ := hB
        rw [ht] at hP1
        try dsimp only at hw hP1 hD1
        obtain ⟨hP, hD⟩ := va_join (wr := [(ad 0, .inr (3, [.ref (ad 16), .ref (ad 7), .ref (ad 1), .int sl])), (ad 1, .inr (0, [.ref (ad 7), .ref (ad 16), .ref (ad 2), .ref (ad 3), .ref (ad 4), .ref (ad 5), .ref (ad 6), .int fn])), (ad 2, .inl (cI, 120, .inl ho)), (ad 3, .inl (cI, 120, .inl nu)), (ad 4, .inl (cI, 120, .inl fa)), (ad 5, .inl (cI, 60, .inl ou)), (ad 6, .inl (cI, 121, .inl sp)), (ad 7, .inr (1, [.ref (ad 16), .ref (ad 8), .ref (ad 9), .ref (ad 10), .ref (ad 11), .int pn, .ref (ad 12), .ref (ad 13), .ref (ad 14), .ref (ad 15), .int rn])), (ad 8, .inl (cI, 120, .inl co)), (ad 9, .inl (cI, 120, .inl fo)), (ad 10, .inl (cI, 60, .inl ro)), (ad 11, .inl (cI, 60, .inl po)), (ad 12, .inl (cI, 120, .inl rd)), (ad 13, .inl (cI, 120, .inl st)), (ad 14, .inl (cJ, 120, .inr (.inl tw))), (ad 15, .inl (cI, 120, .inl od)), (ad 16, .inr (2, [.ref (ad 17), .ref (ad 18), .ref (ad 19), .int sn])), (ad 17, .inl (cI, 120, .inl x)), (ad 18, .inl (cI, 120, .inl y)), (ad 19, .inl (cZ, 60, .inl u)), (ao, .inl (cJ, 1, .inr (.inl o_317)))]) (w1 := (wMod am cI cJ cZ mre_319 mth mxs mys mcu mnx mpo mpn mrn mrd mfi mar mfn mfa mnu mst)) hP hD [20, 21, 22, 23, 24, 25, 26, 27, 28, 29, 30, 31] [0, 1, 2, 3, 4, 5, 6, 7, 8, 9, 10, 11, 12, 13, 14, 15, 16, 17, 18, 19, 32] rfl rfl (by decide) (by decide) hk1 hFc hP1 hD1
        have hP := hP.sub (ws' := (wLaw ad am ao cI cJ cZ sl ho nu fa ou sp fn co fo ro po pn rd st tw od rn x y u sn mre_319 mth mxs mys mcu mnx mpo mpn mrn mrd mfi mar mfn mfa mnu mst o_317)) [0, 1, 2, 3, 4, 5, 6, 7, 8, 9, 10, 11, 12, 13, 14, 15, 16, 17, 18, 19, 21, 22, 23, 24, 25, 26, 27, 28, 29, 30, 31, 32, 20] rfl
        have hD := hD.sub (ws' := (wLaw ad am ao cI cJ cZ sl ho nu fa ou sp fn co fo ro po pn rd st tw od rn x y u sn mre_319 mth mxs mys mcu mnx mpo mpn mrn mrd mfi mar mfn mfa mnu mst o_317)) [0, 1, 2, 3, 4, 5, 6, 7, 8, 9, 10, 11, 12, 13, 14, 15, 16, 17, 18, 19, 21, 22, 23, 24, 25, 26, 27, 28, 29, 30, 31, 32, 20] (by decide) rfl
        clear hPc hDc hFc hk1 hz1 hP1 hD1 ht hvm
        generalize H1 = H at hP hS ⊢
        refine lv_istore (lv' := [(6, .int r318), (5, .int r316), (0, .ref (b)), (1, .ref (ad 0)), (2, .ref (am 0)), (3, .ref (ao)), (4, .int v4)]) hx hb dL_law_798 hl (by decide) rfl (fun ls hl => ?_)
        refine lv_aload_n hx hb dL_law_800 rfl (lv_at hl 4 rfl) ?_
        have hPc := hP.sub (ws' := (wMod am cI cJ cZ mre_319 mth mxs mys mcu mnx mpo mpn mrn mrd mfi mar mfn mfa mnu mst)) [20, 21, 22, 23, 24, 25, 26, 27, 28, 29, 30, 31] rfl
        refine vp_callSi (W.runV (As := []) (rest := []) C (c_X4_thrown l dC dI cI cJ cZ am mre_319 mth mxs mys mcu mnx mpo mpn mrn mrd mfi mar mfn mfa mnu mst  hw) (cwV 0 hts gL_law_X4_thrown rfl rfl rfl (by decide +kernel) ⟨Nat.le_of_ble_eq_true rfl, Nat.le_of_ble_eq_true rfl⟩) ⟨fb_ro, va_recv hK hPc (ci := 4) (q0 := 0) rfl rfl, fun U hU hW => ⟨rfl, by rw [hU]; exact hPc, va_K.moved hW.alike hK⟩⟩ rfl rfl hl.1 rfl (lv_room (Nat.le_of_ble_eq_true rfl)) dL_law_801 ⟨by show _ ≤ 1063; omega, by show _ ≤ 11217; omega⟩) (fun r320 hw => ?_)
        refine lv_iload hx hb dL_law_804 (lv_at hl 1 rfl) ?_
        refine lv_icmp_eq (tgt := 811) hx hb dL_law_806 (by decide) (fun hc => ?_) (fun hc => ?_)
        · have hw := hw.1 (hc)
          refine lv_iload hx hb dL_law_811 (lv_at hl 1 rfl) ?_
          refine jn0_use (J := ∀ (ls : Array Slot) (H : Heap) (locs : List Loc), lv_has ls 7 [(0, .ref (b)), (1, .ref (ad 0)), (2, .ref (am 0)), (3, .ref (ao)), (4, .int v4)] → va_P (dC, dI) vwCl (wLaw ad am ao cI cJ cZ sl ho nu fa ou sp fn co fo ro po pn rd st tw od rn x y u sn mre_319 mth mxs mys mcu mnx mpo mpn mrn mrd mfi mar mfn mfa mnu mst o_317) H → va_D (fun q : Nat => s.heap.size ≤ q) (wLaw ad am ao cI cJ cZ sl ho nu fa ou sp fn co fo ro po pn rd st tw od rn x y u sn mre_319 mth mxs mys mcu mnx mpo mpn mrn mrd mfi mar mfn mfa mnu mst o_317) → va_S (fun q : Nat => s.heap.size ≤ q) s.heap H locs → W p l e room_1 s m #[Value.ref b] below meth c H locs (cells + 1) (slots + 6) (lw_Z below #[Value.ref b] s) (F0 m 828 ls [])) hw (fun hw ls H locs hl hP hD hS => ?_) (fun hw hj0 => ?_)
          · refine lv_goto (tgt := 899) hx hb dL_law_828 (by decide) ?_
            refine lv_iinc (v := (v4 + (5 : Int32))) (lv' := [(4, .int (v4 + (5 : Int32))), (0, .ref (b)), (1, .ref (ad 0)), (2, .ref (am 0)), (3, .ref (ao))]) hx hb dL_law_899 hl (k := 4) rfl rfl (by decide) rfl (fun ls hl => ?_)
            refine lv_goto (tgt := 23) hx hb dL_law_902 (by decide) ?_
            exact ih (cells + 1) (slots + 6) sl ho nu fa ou sp fn co fo ro po pn rd st tw od rn x y u sn mre_319 mth mxs mys mcu mnx mpo mpn mrn mrd mfi mar mfn mfa mnu mst o_317 (v4 + (5 : Int32)) ls _ _ (by omega) (by omega) (lv_sub hl [1, 2, 3, 4, 0] rfl) hP hD hS hw
          · have hj322 := hj0
            refine lv_if_ne (tgt := 828) hx hb dL_law_813 (by decide) (fun hc => ?_) (fun hc => ?_)
            · have hw := hw.2 hc
              exact hj322 hw ls _ _ (lv_sub hl [2, 3, 4, 5, 6] rfl) hP hD hS
            · have hw := hw.1 (hc)
              refine lv_aload_n hx hb dL_law_816 rfl (lv_at hl 5 rfl) ?_
              refine lv_iconst (v := 0) hx hb dL_law_817 (by decide) ?_
              have hi := hw.1
              have hw := hw.2
              refine va_lald hx hb hK hP 32 1 rfl rfl hi dL_law_818 ?_
              refine lv_iload hx hb dL_law_819 (lv_at hl 0 rfl) ?_
              refine lv_i2l hx hb dL_law_821 rfl ?_
              refine W.lcmp hx hb dL_law_822 ?_
              refine lv_if_eq (tgt := 828) hx hb dL_law_823 (by decide) (fun hc => ?_) (fun hc => ?_)
              · have hw := hw.1 ((lg_cmp_eq _ _).mp hc)
                exact hj322 hw ls _ _ (lv_sub hl [2, 3, 4, 5, 6] rfl) hP hD hS
              · have hw := hw.2 (fun h9 => hc ((lg_cmp_eq _ _).mpr h9))
                refine lv_iconst (v := 0) hx hb dL_law_826 (by decide) ?_
                exact hw.elim
        · have hw := hw.2 hc
          refine lv_iconst (v := 0) hx hb dL_law_809 (by decide) ?_
          exact hw.elim
      · have hw := hw.2.2.2.2.2.2.2.2.2.2.2.2.2.2 hc
        rw [hc]
        refine lv_tableIn (tgt := 831) hx hb dL_law_39 (by decide) (by decide) rfl (by decide) ?_
        refine lv_aload_n hx hb dL_law_831 rfl (lv_at hl 1 rfl) ?_
        refine lv_aload_n hx hb dL_law_832 rfl (lv_at hl 0 rfl) ?_
        refine lv_iload hx hb dL_law_833 (lv_at hl 4 rfl) ?_
        refine lv_iconst (v := 1) hx hb dL_law_835 (by decide) ?_
        refine lv_iadd hx hb dL_law_836 ?_
        have hi := hw.1
        have hw := hw.2
        refine va_sld hx hb hX hbl hbA hS hi dL_law_837 ?_
        refine lv_aload_n hx hb dL_law_838 rfl (lv_at hl 0 rfl) ?_
        refine lv_iload hx hb dL_law_839 (lv_at hl 4 rfl) ?_
        refine lv_iconst (v := 2) hx hb dL_law_841 (by decide) ?_
        refine lv_iadd hx hb dL_law_842 ?_
        have hi := hw.1
        have hw := hw.2
        refine va_sld hx hb hX hbl hbA hS hi dL_law_843 ?_
        refine lv_aload_n hx hb dL_law_844 rfl (lv_at hl 3 rfl) ?_
        have hPc := hP.sub (ws' := (wLx ad cI cJ cZ sl ho nu fa ou sp fn co fo ro po pn rd st tw od rn x y u sn ao o)) [0, 1, 2, 3, 4, 5, 6, 7, 8, 9, 10, 11, 12, 13, 14, 15, 16, 17, 18, 19, 32] rfl
        have hDc := hD.sub (ws' := (wLx ad cI cJ cZ sl ho nu fa ou sp fn co fo ro po pn rd st tw od rn x y u sn ao o)) [0, 1, 2, 3, 4, 5, 6, 7, 8, 9, 10, 11, 12, 13, 14, 15, 16, 17, 18, 19, 32] (by decide) rfl
        have hFc := va_free (wc := (wLx ad cI cJ cZ sl ho nu fa ou sp fn co fo ro po pn rd st tw od rn x y u sn ao o)) hD hS (fun _ h => h) [0, 1, 2, 3, 4, 5, 6, 7, 8, 9, 10, 11, 12, 13, 14, 15, 16, 17, 18, 19, 32] rfl
        refine va_calli (vx_runSW (As := [.ref (ad 0), .int (xs (v4 + (1 : Int32)).toNatClampNeg), .int (xs (v4 + (2 : Int32)).toNatClampNeg), .ref (ao)]) (rest := []) C (c_L_across l hst dC dI cI cJ cZ ad _ sl ho nu fa ou sp fn co fo ro po pn rd st tw od rn x y u sn ao o (xs (v4 + (1 : Int32)).toNatClampNeg) (xs (v4 + (2 : Int32)).toNatClampNeg) hw) (vx_cwSW 4 hts gL_law_L_across rfl rfl rfl (by decide +kernel) ⟨Nat.le_of_ble_eq_true rfl, Nat.le_of_ble_eq_true rfl⟩) ⟨fb_x, fun U hU hW => ⟨rfl, by rw [hU], by rw [hU]; exact hPc, va_K.moved hW.alike hK, hDc.weaken (fun _ _ _ _ => trivial), hxe.step hS hFc hU hW⟩⟩ rfl rfl hl.1 rfl (lv_room (Nat.le_of_ble_eq_true rfl)) dL_law_845 ⟨by show _ ≤ 1063; omega, by show _ ≤ 11217; omega⟩) hS (fun q _ h => hFc q h) hFc (fun r323 uu t H1 locs ht hvm hw hB hz1 hk1 hS => ?_)
        obtain ⟨sl_324, ho_325, nu_326, fa_327, ou_328, sp_329, fn_330, co_331, fo_332, ro_333, po_334, pn_335, rd_336, st_337, tw_338, od_339, rn_340, o_341⟩ := uu
        obtain ⟨hP1, hD1⟩ := hB
        rw [ht] at hP1
        try dsimp only at hw hP1 hD1
        obtain ⟨hP, hD⟩ := va_join (wr := [(am 0, .inr (4, [.int mre, .ref (am 1), .ref (am 2), .ref (am 3), .int mcu, .ref (am 4), .ref (am 5), .int mpn, .int mrn, .ref (am 6), .ref (am 7), .ref (am 8), .int mfn, .ref (am 9), .ref (am 10), .ref (am 11)])), (am 1, .inl (cZ, 60, .inl mth)), (am 2, .inl (cI, 120, .inl mxs)), (am 3, .inl (cI, 120, .inl mys)), (am 4, .inl (cI, 120, .inl mnx)), (am 5, .inl (cI, 120, .inl mpo)), (am 6, .inl (cI, 120, .inl mrd)), (am 7, .inl (cI, 120, .inl mfi)), (am 8, .inl (cJ, 120, .inr (.inl mar))), (am 9, .inl (cI, 120, .inl mfa)), (am 10, .inl (cI, 122, .inl mnu)), (am 11, .inl (cI, 122, .inl mst))]) (w1 := (wLx ad cI cJ cZ sl_324 ho_325 nu_326 fa_327 ou_328 sp_329 fn_330 co_331 fo_332 ro_333 po_334 pn_335 rd_336 st_337 tw_338 od_339 rn_340 x y u sn ao o_341)) hP hD [0, 1, 2, 3, 4, 5, 6, 7, 8, 9, 10, 11, 12, 13, 14, 15, 16, 17, 18, 19, 32] [20, 21, 22, 23, 24, 25, 26, 27, 28, 29, 30, 31] rfl rfl (by decide) (by decide) hk1 hFc hP1 hD1
        have hP := hP.sub (ws' := (wLaw ad am ao cI cJ cZ sl_324 ho_325 nu_326 fa_327 ou_328 sp_329 fn_330 co_331 fo_332 ro_333 po_334 pn_335 rd_336 st_337 tw_338 od_339 rn_340 x y u sn mre mth mxs mys mcu mnx mpo mpn mrn mrd mfi mar mfn mfa mnu mst o_341)) [12, 13, 14, 15, 16, 17, 18, 19, 20, 21, 22, 23, 24, 25, 26, 27, 28, 29, 30, 31, 0, 1, 2, 3, 4, 5, 6, 7, 8, 9, 10, 11, 32] rfl
        have hD := hD.sub (ws' := (wLaw ad am ao cI cJ cZ sl_324 ho_325 nu_326 fa_327 ou_328 sp_329 fn_330 co_331 fo_332 ro_333 po_334 pn_335 rd_336 st_337 tw_338 od_339 rn_340 x y u sn mre mth mxs mys mcu mnx mpo mpn mrn mrd mfi mar mfn mfa mnu mst o_341)) [12, 13, 14, 15, 16, 17, 18, 19, 20, 21, 22, 23, 24, 25, 26, 27, 28, 29, 30, 31, 0, 1, 2, 3, 4, 5, 6, 7, 8, 9, 10, 11, 32] (by decide) rfl
        clear hPc hDc hFc hk1 hz1 hP1 hD1 ht hvm
        generalize H1 = H at hP hS ⊢
        refine lv_istore (lv' := [(5, .int r323), (0, .ref (b)), (1, .ref (ad 0)), (2, .ref (am 0)), (3, .ref (ao)), (4, .int v4)]) hx hb dL_law_848 hl (by decide) rfl (fun ls hl => ?_)
        refine lv_aload_n hx hb dL_law_850 rfl (lv_at hl 3 rfl) ?_
        refine lv_aload_n hx hb dL_law_851 rfl (lv_at hl 1 rfl) ?_
        refine lv_iload hx hb dL_law_852 (lv_at hl 5 rfl) ?_
        refine lv_iconst (v := 1) hx hb dL_law_854 (by decide) ?_
        refine lv_iadd hx hb dL_law_855 ?_
        have hi := hw.1
        have hw := hw.2
        refine va_sld hx hb hX hbl hbA hS hi dL_law_856 ?_
        refine lv_aload_n hx hb dL_law_857 rfl (lv_at hl 1 rfl) ?_
        refine lv_iload hx hb dL_law_858 (lv_at hl 5 rfl) ?_
        refine lv_iconst (v := 2) hx hb dL_law_860 (by decide) ?_
        refine lv_iadd hx hb dL_law_861 ?_
        have hi := hw.1
        have hw := hw.2
        refine va_sld hx hb hX hbl hbA hS hi dL_law_862 ?_
        have hPc := hP.sub (ws' := (wMod am cI cJ cZ mre mth mxs mys mcu mnx mpo mpn mrn mrd mfi mar mfn mfa mnu mst)) [20, 21, 22, 23, 24, 25, 26, 27, 28, 29, 30, 31] rfl
        have hDc := hD.sub (ws' := (wMod am cI cJ cZ mre mth mxs mys mcu mnx mpo mpn mrn mrd mfi mar mfn mfa mnu mst)) [20, 21, 22, 23, 24, 25, 26, 27, 28, 29, 30, 31] (by decide) rfl
        have hFc := va_free (wc := (wMod am cI cJ cZ mre mth mxs mys mcu mnx mpo mpn mrn mrd mfi mar mfn mfa mnu mst)) hD hS (fun _ h => h) [20, 21, 22, 23, 24, 25, 26, 27, 28, 29, 30, 31] rfl
        refine va_calli (va_runV (As := [.int (xs (v4 + (1 : Int32)).toNatClampNeg), .int (xs (v4 + (2 : Int32)).toNatClampNeg)]) (rest := []) C (c_X4_across l dC dI cI cJ cZ am _ mre mth mxs mys mcu mnx mpo mpn mrn mrd mfi mar mfn mfa mnu mst (xs (v4 + (1 : Int32)).toNatClampNeg) (xs (v4 + (2 : Int32)).toNatClampNeg) hw) (cwV 2 hts gL_law_X4_across rfl rfl rfl (by decide +kernel) ⟨Nat.le_of_ble_eq_true rfl, Nat.le_of_ble_eq_true rfl⟩) ⟨fb_rw, va_recv hK hPc (ci := 4) (q0 := 0) rfl rfl, fun U hU hW => ⟨rfl, by rw [hU], by rw [hU]; exact hPc, va_K.moved hW.alike hK, hDc.weaken (fun _ _ _ _ => trivial)⟩⟩ rfl rfl hl.1 rfl (lv_room (Nat.le_of_ble_eq_true rfl)) dL_law_863 ⟨by show _ ≤ 1063; omega, by show _ ≤ 11217; omega⟩) hS (fun q _ h => hFc q h) hFc (fun r342 uu t H1 locs ht hvm hw hB hz1 hk1 hS => ?_)
        obtain ⟨mre_343, mcu_344, mnx_345, mpo_346, mpn_347, mrn_348, mrd_349, mfi_350, mar_351, mfn_352, mfa_353, mnu_354, mst_355⟩ := uu
        obtain ⟨hP1, hD1⟩ := hB
        rw [ht] at hP1
        try dsimp only at hw hP1 hD1
        obtain ⟨hP, hD⟩ := va_join (wr := [(ad 0, .inr (3, [.ref (ad 16), .ref (ad 7), .ref (ad 1), .int sl_324])), (ad 1, .inr (0, [.ref (ad 7), .ref (ad 16), .ref (ad 2), .ref (ad 3), .ref (ad 4), .ref (ad 5), .ref (ad 6), .int fn_330])), (ad 2, .inl (cI, 120, .inl ho_325)), (ad 3, .inl (cI, 120, .inl nu_326)), (ad 4, .inl (cI, 120, .inl fa_327)), (ad 5, .inl (cI, 60, .inl ou_328)), (ad 6, .inl (cI, 121, .inl sp_329)), (ad 7, .inr (1, [.ref (ad 16), .ref (ad 8), .ref (ad 9), .ref (ad 10), .ref (ad 11), .int pn_335, .ref (ad 12), .ref (ad 13), .ref (ad 14), .ref (ad 15), .int rn_340])), (ad 8, .inl (cI, 120, .inl co_331)), (ad 9, .inl (cI, 120, .inl fo_332)), (ad 10, .inl (cI, 60, .inl ro_333)), (ad 11, .inl (cI, 60, .inl po_334)), (ad 12, .inl (cI, 120, .inl rd_336)), (ad 13, .inl (cI, 120, .inl st_337)), (ad 14, .inl (cJ, 120, .inr (.inl tw_338))), (ad 15, .inl (cI, 120, .inl od_339)), (ad 16, .inr (2, [.ref (ad 17), .ref (ad 18), .ref (ad 19), .int sn])), (ad 17, .inl (cI, 120, .inl x)), (ad 18, .inl (cI, 120, .inl y)), (ad 19, .inl (cZ, 60, .inl u)), (ao, .inl (cJ, 1, .inr (.inl o_341)))]) (w1 := (wMod am cI cJ cZ mre_343 mth mxs mys mcu_344 mnx_345 mpo_346 mpn_347 mrn_348 mrd_349 mfi_350 mar_351 mfn_352 mfa_353 mnu_354 mst_355)) hP hD [20, 21, 22, 23, 24, 25, 26, 27, 28, 29, 30, 31] [0, 1, 2, 3, 4, 5, 6, 7, 8, 9, 10, 11, 12, 13, 14, 15, 16, 17, 18, 19, 32] rfl rfl (by decide) (by decide) hk1 hFc hP1 hD1
        have hP := hP.sub (ws' := (wLaw ad am ao cI cJ cZ sl_324 ho_325 nu_326 fa_327 ou_328 sp_329 fn_330 co_331 fo_332 ro_333 po_334 pn_335 rd_336 st_337 tw_338 od_339 rn_340 x y u sn mre_343 mth mxs mys mcu_344 mnx_345 mpo_346 mpn_347 mrn_348 mrd_349 mfi_350 mar_351 mfn_352 mfa_353 mnu_354 mst_355 o_341)) [0, 1, 2, 3, 4, 5, 6, 7, 8, 9, 10, 11, 12, 13, 14, 15, 16, 17, 18, 19, 21, 22, 23, 24, 25, 26, 27, 28, 29, 30, 31, 32, 20] rfl
        have hD := hD.sub (ws' := (wLaw ad am ao cI cJ cZ sl_324 ho_325 nu_326 fa_327 ou_328 sp_329 fn_330 co_331 fo_332 ro_333 po_334 pn_335 rd_336 st_337 tw_338 od_339 rn_340 x y u sn mre_343 mth mxs mys mcu_344 mnx_345 mpo_346 mpn_347 mrn_348 mrd_349 mfi_350 mar_351 mfn_352 mfa_353 mnu_354 mst_355 o_341)) [0, 1, 2, 3, 4, 5, 6, 7, 8, 9, 10, 11, 12, 13, 14, 15, 16, 17, 18, 19, 21, 22, 23, 24, 25, 26, 27, 28, 29, 30, 31, 32, 20] (by decide) rfl
        clear hPc hDc hFc hk1 hz1 hP1 hD1 ht hvm
        generalize H1 = H at hP hS ⊢
        refine lv_istore (lv' := [(6, .int r342), (5, .int r323), (0, .ref (b)), (1, .ref (ad 0)), (2, .ref (am 0)), (3, .ref (ao)), (4, .int v4)]) hx hb dL_law_866 hl (by decide) rfl (fun ls hl => ?_)
        refine lv_aload_n hx hb dL_law_868 rfl (lv_at hl 4 rfl) ?_
        have hPc := hP.sub (ws' := (wMod am cI cJ cZ mre_343 mth mxs mys mcu_344 mnx_345 mpo_346 mpn_347 mrn_348 mrd_349 mfi_350 mar_351 mfn_352 mfa_353 mnu_354 mst_355)) [20, 21, 22, 23, 24, 25, 26, 27, 28, 29, 30, 31] rfl
        refine vp_callSi (W.runV (As := []) (rest := []) C (c_X4_thrown l dC dI cI cJ cZ am mre_343 mth mxs mys mcu_344 mnx_345 mpo_346 mpn_347 mrn_348 mrd_349 mfi_350 mar_351 mfn_352 mfa_353 mnu_354 mst_355  hw) (cwV 0 hts gL_law_X4_thrown rfl rfl rfl (by decide +kernel) ⟨Nat.le_of_ble_eq_true rfl, Nat.le_of_ble_eq_true rfl⟩) ⟨fb_ro, va_recv hK hPc (ci := 4) (q0 := 0) rfl rfl, fun U hU hW => ⟨rfl, by rw [hU]; exact hPc, va_K.moved hW.alike hK⟩⟩ rfl rfl hl.1 rfl (lv_room (Nat.le_of_ble_eq_true rfl)) dL_law_869 ⟨by show _ ≤ 1063; omega, by show _ ≤ 11217; omega⟩) (fun r356 hw => ?_)
        refine lv_iload hx hb dL_law_872 (lv_at hl 1 rfl) ?_
        refine lv_icmp_eq (tgt := 879) hx hb dL_law_874 (by decide) (fun hc => ?_) (fun hc => ?_)
        · have hw := hw.1 (hc)
          refine lv_iload hx hb dL_law_879 (lv_at hl 1 rfl) ?_
          refine jn0_use (J := ∀ (ls : Array Slot) (H : Heap) (locs : List Loc), lv_has ls 7 [(0, .ref (b)), (1, .ref (ad 0)), (2, .ref (am 0)), (3, .ref (ao)), (4, .int v4)] → va_P (dC, dI) vwCl (wLaw ad am ao cI cJ cZ sl_324 ho_325 nu_326 fa_327 ou_328 sp_329 fn_330 co_331 fo_332 ro_333 po_334 pn_335 rd_336 st_337 tw_338 od_339 rn_340 x y u sn mre_343 mth mxs mys mcu_344 mnx_345 mpo_346 mpn_347 mrn_348 mrd_349 mfi_350 mar_351 mfn_352 mfa_353 mnu_354 mst_355 o_341) H → va_D (fun q : Nat => s.heap.size ≤ q) (wLaw ad am ao cI cJ cZ sl_324 ho_325 nu_326 fa_327 ou_328 sp_329 fn_330 co_331 fo_332 ro_333 po_334 pn_335 rd_336 st_337 tw_338 od_339 rn_340 x y u sn mre_343 mth mxs mys mcu_344 mnx_345 mpo_346 mpn_347 mrn_348 mrd_349 mfi_350 mar_351 mfn_352 mfa_353 mnu_354 mst_355 o_341) → va_S (fun q : Nat => s.heap.size ≤ q) s.heap H locs → W p l e room_1 s m #[Value.ref b] below meth c H locs (cells + 1) (slots + 6) (lw_Z below #[Value.ref b] s) (F0 m 896 ls [])) hw (fun hw ls H locs hl hP hD hS => ?_) (fun hw hj0 => ?_)
          · refine lv_goto (tgt := 899) hx hb dL_law_896 (by decide) ?_
            refine lv_iinc (v := (v4 + (5 : Int32))) (lv' := [(4, .int (v4 + (5 : Int32))), (0, .ref (b)), (1, .ref (ad 0)), (2, .ref (am 0)), (3, .ref (ao))]) hx hb dL_law_899 hl (k := 4) rfl rfl (by decide) rfl (fun ls hl => ?_)
            refine lv_goto (tgt := 23) hx hb dL_law_902 (by decide) ?_
            exact ih (cells + 1) (slots + 6) sl_324 ho_325 nu_326 fa_327 ou_328 sp_329 fn_330 co_331 fo_332 ro_333 po_334 pn_335 rd_336 st_337 tw_338 od_339 rn_340 x y u sn mre_343 mth mxs mys mcu_344 mnx_345 mpo_346 mpn_347 mrn_348 mrd_349 mfi_350 mar_351 mfn_352 mfa_353 mnu_354 mst_355 o_341 (v4 + (5 : Int32)) ls _ _ (by omega) (by omega) (lv_sub hl [1, 2, 3, 4, 0] rfl) hP hD hS hw
          · have hj358 := hj0
            refine lv_if_ne (tgt := 896) hx hb dL_law_881 (by decide) (fun hc => ?_) (fun hc => ?_)
            · have hw := hw.2 hc
              exact hj358 hw ls _ _ (lv_sub hl [2, 3, 4, 5, 6] rfl) hP hD hS
            · have hw := hw.1 (hc)
              refine lv_aload_n hx hb dL_law_884 rfl (lv_at hl 5 rfl) ?_
              refine lv_iconst (v := 0) hx hb dL_law_885 (by decide) ?_
              have hi := hw.1
              have hw := hw.2
              refine va_lald hx hb hK hP 32 1 rfl rfl hi dL_law_886 ?_
              refine lv_iload hx hb dL_law_887 (lv_at hl 0 rfl) ?_
              refine lv_i2l hx hb dL_law_889 rfl ?_
              refine W.lcmp hx hb dL_law_890 ?_
              refine lv_if_eq (tgt := 896) hx hb dL_law_891 (by decide) (fun hc => ?_) (fun hc => ?_)
              · have hw := hw.1 ((lg_cmp_eq _ _).mp hc)
                exact hj358 hw ls _ _ (lv_sub hl [2, 3, 4, 5, 6] rfl) hP hD hS
              · have hw := hw.2 (fun h9 => hc ((lg_cmp_eq _ _).mpr h9))
                refine lv_iconst (v := 0) hx hb dL_law_894 (by decide) ?_
                exact hw.elim
        · have hw := hw.2 hc
          refine lv_iconst (v := 0) hx hb dL_law_877 (by decide) ?_
          exact hw.elim
