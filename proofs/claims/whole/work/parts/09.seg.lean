-- X2_has
abbrev rm_X2_has : Room := { frames := 0, cells := 0, slots := 0, locals := 0 }
theorem f_X2_has_0 : (Cond.fieldLink RX2 18 "PlaneFaces$Segments" "used" "[Z") ∈ wsX2_has := by decide +kernel
theorem f_X2_has_1 : ∀ w ∈ wsX20, w ∈ wsX2_has := by decide +kernel
set_option maxRecDepth 100000 in
set_option maxHeartbeats 4000000 in
theorem c_X2_has (l : Launch) (dC : Nat → ClassId) (dI : Nat → Nat → Nat) (cI cJ cZ : ClassId) (ad : Nat → Nat) (x : Nat → Int32) (y : Nat → Int32) (u : Nat → Int32) (sn : Int32) (v1 : Int32) {post : Int32 → Prop} (hw : wp_X2_has u v1 post) : Met l yX2_has wsX2_has rm_X2_has (va_Pc [.ref (ad 16), .int v1] (fun U => va_P (dC, dI) vwCl (wSeg ad cI cJ cZ x y u sn) U.heap ∧ va_K (dC, dI) vwCl (tyL cI cJ cZ) U)) (vp_Si post) 0 0 (fun _ => False) := by
  unfold wp_X2_has at hw
  refine Met.ofW (cc := cX2_has) (maxL := 2) (ret := (some .boolean)) (by decide) rfl ?_
  intro p e s m args below meth c s₁ B hml hv
  obtain ⟨hav, hP, hK⟩ := hv
  have hx := B.exec
  have hb := B.bytes
  have hr := B.returns
  have hts := atoms_spec (ws := wsX2_has) B.pre
  have hown : s.vm.findClass RX2 = some m.cls := findClass_of_methodNamed B.named
  have hlocks := B.notSynchronized
  have C : CallFix p m c cX2_has 2 s args wsX2_has RX2 := ⟨hx, hb, hml, hown, hts⟩
  obtain ⟨ls, hE, hl⟩ := mx_entry (m := m) [.ref (ad 16), .int v1] (n := 2) (Nat.le_of_ble_eq_true rfl)
  have hl : lv_has ls 2 [(0, .ref (ad 16)), (1, .int v1)] := hl
  rw [show entryFrame m args 2 = F0 m 0 ls [] by rw [hav]; exact hE]
  obtain ⟨Q, hQ⟩ : ∃ Q, MQ below (vp_Si post) args s 0 0 (fun _ => False) = Q := ⟨_, rfl⟩
  rw [hQ]
  obtain ⟨H, hH⟩ : ∃ H, s.heap = H := ⟨_, rfl⟩
  rw [hH]
  rw [hH] at hP
  show W p l e rm_X2_has s m args below meth c H [] 0 0 Q (F0 m 0 ls [])
  refine lv_iload_n hx hb dX2_has_0 rfl (lv_at hl 1 rfl) ?_
  refine jn1_use (J := fun (k1 : Int32) => ∀ ls : Array Slot, lv_has ls 2 [(0, .ref (ad 16))] → W p l e rm_X2_has s m args below meth c H [] 0 0 Q (F0 m 24 ls [.int k1])) hw (fun k1 hw ls hl => ?_) (fun hw hj0 => ?_)
  · rw [← hQ]
    exact W.zret (v := k1) (ty := .boolean) hx hb hr (bz_n hw.1) (fun t ht hW => ⟨_, rfl, hw.2, ht.trans hH.symm⟩) (fun q h => by cases h) dX2_has_24
  · have hj3 := hj0
    refine jn0_use (J := ∀ ls : Array Slot, lv_has ls 2 [(0, .ref (ad 16))] → W p l e rm_X2_has s m args below meth c H [] 0 0 Q (F0 m 23 ls [])) hw (fun hw ls hl => ?_) (fun hw hj0 => ?_)
    · refine lv_iconst (v := 0) hx hb dX2_has_23 (by decide) ?_
      exact hj3 (0 : Int32) hw ls (lv_sub hl [0] rfl)
    · have hj5 := hj0
      refine lv_if_lt (tgt := 23) hx hb dX2_has_1 (by decide) (fun hc => ?_) (fun hc => ?_)
      · have hw := hw.1 (hc)
        exact hj5 hw ls (lv_sub hl [0] rfl)
      · have hw := hw.2 hc
        refine lv_iload_n hx hb dX2_has_4 rfl (lv_at hl 1 rfl) ?_
        refine lv_bipush (v := 60) hx hb dX2_has_5 (by decide) ?_
        refine lv_icmp_ge (tgt := 23) hx hb dX2_has_7 (by decide) (fun hc => ?_) (fun hc => ?_)
        · have hw := hw.1 (hc)
          exact hj5 hw ls (lv_sub hl [0] rfl)
        · have hw := hw.2 hc
          refine lv_aload_n hx hb dX2_has_10 rfl (lv_at hl 0 rfl) ?_
          refine va_get (D := (dC, dI)) (ci := 2) (v := .ref (ad 19)) (C := RX2) (T := TX2) (N := 4) hx hb hts f_X2_has_1 hown hK hP 0 rfl rfl 2 (by decide) (hts _ f_X2_has_0) (fun _ h9 => h9) rfl dX2_has_11 ?_
          refine lv_iload_n hx hb dX2_has_14 rfl (lv_at hl 1 rfl) ?_
          have hi := hw.1
          have hw := hw.2
          refine va_zald hx hb hK hP 3 2 rfl rfl hi dX2_has_15 ?_
          refine lv_if_eq (tgt := 23) hx hb dX2_has_16 (by decide) (fun hc => ?_) (fun hc => ?_)
          · have hw := hw.1 (hc)
            exact hj5 hw ls (lv_sub hl [0] rfl)
          · have hw := hw.2 hc
            refine lv_iconst (v := 1) hx hb dX2_has_19 (by decide) ?_
            refine lv_goto (tgt := 24) hx hb dX2_has_20 (by decide) ?_
            exact hj3 (1 : Int32) hw ls (lv_sub hl [0] rfl)
-- X2_leastFree
abbrev rm_X2_leastFree : Room := { frames := 0, cells := 0, slots := 0, locals := 0 }
theorem f_X2_leastFree_0 : (Cond.fieldLink RX2 18 "PlaneFaces$Segments" "used" "[Z") ∈ wsX2_leastFree := by decide +kernel
theorem f_X2_leastFree_1 : ∀ w ∈ wsX20, w ∈ wsX2_leastFree := by decide +kernel
set_option maxRecDepth 100000 in
set_option maxHeartbeats 4000000 in
theorem l_X2_leastFree_2 {p : Program} {l : Launch} {e : Env} {s : State} {m : MethodId} {args : Array Value} {below : List Frame} {meth : Method} {c : Code} {Q : State → Prop} {dC : Nat → ClassId} {dI : Nat → Nat → Nat} {cI cJ cZ : ClassId} {ad : Nat → Nat} {x : Nat → Int32} {y : Nat → Int32} {u : Nat → Int32} {sn : Int32}  {K17 : Int32 → Prop} {K25 : Prop} (C : CallFix p m c cX2_leastFree 2 s args wsX2_leastFree RX2) (hK : va_K (dC, dI) vwCl (tyL cI cJ cZ) s) {H : Heap} (hP : va_P (dC, dI) vwCl (wSeg ad cI cJ cZ x y u sn) H) (hk17 : ∀ (w1 : Int32) (ls : Array Slot), lv_has ls 2 [(0, .ref (ad 16)), (1, .int w1)] → K17 w1 → W p l e rm_X2_leastFree s m args below meth c H [] 0 0 Q (F0 m 17 ls [])) (hk25 : ∀  (ls : Array Slot), lv_has ls 2 [(0, .ref (ad 16))] → K25 → W p l e rm_X2_leastFree s m args below meth c H [] 0 0 Q (F0 m 25 ls [])) : ∀ (n : Nat) (v1 : Int32) (ls : Array Slot), lv_has ls 2 [(0, .ref (ad 16)), (1, .int v1)] → lp_X2_leastFree_2 u K17 K25 n v1 → W p l e rm_X2_leastFree s m args below meth c H [] 0 0 Q (F0 m 2 ls []) := by
  obtain ⟨hx, hb, hml, hown, hts⟩ := id C
  intro n
  induction n with
  | zero =>
    intro v1 ls hl hw
    rw [lp_X2_leastFree_2.eq_1] at hw
    exact hw.elim
  | succ n ih =>
    intro v1 ls hl hw
    rw [lp_X2_leastFree_2.eq_2] at hw
    refine lv_iload_n hx hb dX2_leastFree_2 rfl (lv_at hl 1 rfl) ?_
    refine lv_bipush (v := 60) hx hb dX2_leastFree_3 (by decide) ?_
    refine lv_icmp_ge (tgt := 25) hx hb dX2_leastFree_5 (by decide) (fun hc => ?_) (fun hc => ?_)
    · have hw := hw.1 (hc)
      exact hk25 ls (lv_sub hl [0] rfl) hw
    · have hw := hw.2 hc
      refine lv_aload_n hx hb dX2_leastFree_8 rfl (lv_at hl 0 rfl) ?_
      refine va_get (D := (dC, dI)) (ci := 2) (v := .ref (ad 19)) (C := RX2) (T := TX2) (N := 4) hx hb hts f_X2_leastFree_1 hown hK hP 0 rfl rfl 2 (by decide) (hts _ f_X2_leastFree_0) (fun _ h9 => h9) rfl dX2_leastFree_9 ?_
      refine lv_iload_n hx hb dX2_leastFree_12 rfl (lv_at hl 1 rfl) ?_
      have hi := hw.1
      have hw := hw.2
      refine va_zald hx hb hK hP 3 2 rfl rfl hi dX2_leastFree_13 ?_
      refine lv_if_ne (tgt := 19) hx hb dX2_leastFree_14 (by decide) (fun hc => ?_) (fun hc => ?_)
      · have hw := hw.2 hc
        refine lv_iinc (v := (v1 + (1 : Int32))) (lv' := [(1, .int (v1 + (1 : Int32))), (0, .ref (ad 16))]) hx hb dX2_leastFree_19 hl (k := 1) rfl rfl (by decide) rfl (fun ls hl => ?_)
        refine lv_goto (tgt := 2) hx hb dX2_leastFree_22 (by decide) ?_
        exact ih (v1 + (1 : Int32)) ls (lv_sub hl [1, 0] rfl) hw
      · have hw := hw.1 (hc)
        exact hk17 v1 ls (lv_sub hl [0, 1] rfl) hw
set_option maxRecDepth 100000 in
set_option maxHeartbeats 4000000 in
theorem c_X2_leastFree (l : Launch) (dC : Nat → ClassId) (dI : Nat → Nat → Nat) (cI cJ cZ : ClassId) (ad : Nat → Nat) (x : Nat → Int32) (y : Nat → Int32) (u : Nat → Int32) (sn : Int32)  {post : Int32 → Prop} (hw : wp_X2_leastFree u post) : Met l yX2_leastFree wsX2_leastFree rm_X2_leastFree (va_Pc [.ref (ad 16)] (fun U => va_P (dC, dI) vwCl (wSeg ad cI cJ cZ x y u sn) U.heap ∧ va_K (dC, dI) vwCl (tyL cI cJ cZ) U)) (vp_Si post) 0 0 (fun _ => False) := by
  unfold wp_X2_leastFree at hw
  refine Met.ofW (cc := cX2_leastFree) (maxL := 2) (ret := (some .int)) (by decide) rfl ?_
  intro p e s m args below meth c s₁ B hml hv
  obtain ⟨hav, hP, hK⟩ := hv
  have hx := B.exec
  have hb := B.bytes
  have hr := B.returns
  have hts := atoms_spec (ws := wsX2_leastFree) B.pre
  have hown : s.vm.findClass RX2 = some m.cls := findClass_of_methodNamed B.named
  have hlocks := B.notSynchronized
  have C : CallFix p m c cX2_leastFree 2 s args wsX2_leastFree RX2 := ⟨hx, hb, hml, hown, hts⟩
  obtain ⟨ls, hE, hl⟩ := mx_entry (m := m) [.ref (ad 16)] (n := 2) (Nat.le_of_ble_eq_true rfl)
  have hl : lv_has ls 2 [(0, .ref (ad 16))] := hl
  rw [show entryFrame m args 2 = F0 m 0 ls [] by rw [hav]; exact hE]
  obtain ⟨Q, hQ⟩ : ∃ Q, MQ below (vp_Si post) args s 0 0 (fun _ => False) = Q := ⟨_, rfl⟩
  rw [hQ]
  obtain ⟨H, hH⟩ : ∃ H, s.heap = H := ⟨_, rfl⟩
  rw [hH]
  rw [hH] at hP
  show W p l e rm_X2_leastFree s m args below meth c H [] 0 0 Q (F0 m 0 ls [])
  refine lv_iconst (v := 0) hx hb dX2_leastFree_0 (by decide) ?_
  refine lv_istore_n (lv' := [(1, .int (0 : Int32)), (0, .ref (ad 16))]) hx hb dX2_leastFree_1 rfl hl (by decide) rfl (fun ls hl => ?_)
  obtain ⟨n2, hw⟩ := hw
  refine l_X2_leastFree_2 C hK hP (fun w1 ls hl hw => ?_) (fun ls hl hw => ?_) n2 (0 : Int32) ls (lv_sub hl [1, 0] rfl) hw
  · refine lv_iload_n hx hb dX2_leastFree_17 rfl (lv_at hl 1 rfl) ?_
    rw [← hQ]
    exact W.iret (v := w1) hx hb hr (fun t ht hW => ⟨_, rfl, hw, ht.trans hH.symm⟩) (fun q h => by cases h) dX2_leastFree_18
  · refine lv_iconst (v := -1) hx hb dX2_leastFree_25 (by decide) ?_
    rw [← hQ]
    exact W.iret (v := (-1 : Int32)) hx hb hr (fun t ht hW => ⟨_, rfl, hw, ht.trans hH.symm⟩) (fun q h => by cases h) dX2_leastFree_26
-- X2_draw
abbrev rm_X2_draw : Room := { frames := 0, cells := 0, slots := 0, locals := 0 }
theorem f_X2_draw_0 : (Cond.fieldLink RX2 9 "PlaneFaces$Segments" "x" "[I") ∈ wsX2_draw := by decide +kernel
theorem f_X2_draw_1 : ∀ w ∈ wsX20, w ∈ wsX2_draw := by decide +kernel
theorem f_X2_draw_2 : (Cond.fieldLink RX2 15 "PlaneFaces$Segments" "y" "[I") ∈ wsX2_draw := by decide +kernel
set_option maxRecDepth 100000 in
set_option maxHeartbeats 4000000 in
theorem c_X2_draw (l : Launch) (dC : Nat → ClassId) (dI : Nat → Nat → Nat) (cI cJ cZ : ClassId) (ad : Nat → Nat) (sz : Nat) (x : Nat → Int32) (y : Nat → Int32) (u : Nat → Int32) (sn : Int32) (v1 : Int32) (v2 : Int32) (v3 : Int32) (v4 : Int32) (v5 : Int32) {post : (Nat → Int32) → (Nat → Int32) → Prop} (hw : wp_X2_draw x y v1 v2 v3 v4 v5 post) : Met l yX2_draw wsX2_draw rm_X2_draw (va_Pc [.ref (ad 16), .int v1, .int v2, .int v3, .int v4, .int v5] (fun U => U.heap.size = sz ∧ va_P (dC, dI) vwCl (wSeg ad cI cJ cZ x y u sn) U.heap ∧ va_K (dC, dI) vwCl (tyL cI cJ cZ) U ∧ va_D (fun _ => True) (wSeg ad cI cJ cZ x y u sn))) (va_Qv (fun uu : (Nat → Int32) × (Nat → Int32) => post uu.1 uu.2) (fun (uu : (Nat → Int32) × (Nat → Int32)) (t : State) => va_P (dC, dI) vwCl (wSeg ad cI cJ cZ uu.1 uu.2 u sn) t.heap ∧ va_D (va_A (wSeg ad cI cJ cZ x y u sn) sz) (wSeg ad cI cJ cZ uu.1 uu.2 u sn)) (va_A (wSeg ad cI cJ cZ x y u sn) sz)) 0 0 (va_A (wSeg ad cI cJ cZ x y u sn) sz) := by
  unfold wp_X2_draw at hw
  refine Met.ofW (cc := cX2_draw) (maxL := 6) (ret := none) (by decide) rfl ?_
  intro p e s m args below meth c s₁ B hml hv
  obtain ⟨hav, hsz, hP, hK, hD0⟩ := hv
  have hx := B.exec
  have hb := B.bytes
  have hr := B.returns
  have hts := atoms_spec (ws := wsX2_draw) B.pre
  have hown : s.vm.findClass RX2 = some m.cls := findClass_of_methodNamed B.named
  have hlocks := B.notSynchronized
  have C : CallFix p m c cX2_draw 6 s args wsX2_draw RX2 := ⟨hx, hb, hml, hown, hts⟩
  obtain ⟨ls, hE, hl⟩ := mx_entry (m := m) [.ref (ad 16), .int v1, .int v2, .int v3, .int v4, .int v5] (n := 6) (Nat.le_of_ble_eq_true rfl)
  have hl : lv_has ls 6 [(0, .ref (ad 16)), (1, .int v1), (2, .int v2), (3, .int v3), (4, .int v4), (5, .int v5)] := hl
  rw [show entryFrame m args 6 = F0 m 0 ls [] by rw [hav]; exact hE]
  subst hsz
  have hD := hD0.self (sz := s.heap.size)
  generalize hAe : va_A (wSeg ad cI cJ cZ x y u sn) s.heap.size = A at hD ⊢
  have hA : ∀ q : Nat, s.heap.size ≤ q → A q := fun q h => by rw [← hAe]; exact Or.inr h
  have hS : va_S A s.heap s.heap [] := va_S.rf
  obtain ⟨Q, hQ⟩ : ∃ Q, MQ below (va_Qv (fun uu : (Nat → Int32) × (Nat → Int32) => post uu.1 uu.2) (fun (uu : (Nat → Int32) × (Nat → Int32)) (t : State) => va_P (dC, dI) vwCl (wSeg ad cI cJ cZ uu.1 uu.2 u sn) t.heap ∧ va_D A (wSeg ad cI cJ cZ uu.1 uu.2 u sn)) A) args s 0 0 A = Q := ⟨_, rfl⟩
  rw [hQ]
  obtain ⟨H, hH⟩ : ∃ H, s.heap = H := ⟨_, rfl⟩
  have hS : va_S A s.heap H [] := by rw [← hH]; exact hS
  rw [hH] at hP
  show W p l e rm_X2_draw s m args below meth c s.heap [] 0 0 Q (F0 m 0 ls [])
  suffices hg : W p l e rm_X2_draw s m args below meth c H [] 0 0 Q (F0 m 0 ls []) by rw [hH]; exact hg
  clear hH
  generalize hlo : ([] : List Loc) = locs at hS ⊢
  refine lv_aload_n hx hb dX2_draw_0 rfl (lv_at hl 0 rfl) ?_
  refine va_get (D := (dC, dI)) (ci := 2) (v := .ref (ad 17)) (C := RX2) (T := TX2) (N := 4) hx hb hts f_X2_draw_1 hown hK hP 0 rfl rfl 0 (by decide) (hts _ f_X2_draw_0) (fun _ h9 => h9) rfl dX2_draw_1 ?_
  refine lv_iconst (v := 2) hx hb dX2_draw_4 (by decide) ?_
  refine lv_iload_n hx hb dX2_draw_5 rfl (lv_at hl 1 rfl) ?_
  refine lv_imul hx hb dX2_draw_6 ?_
  refine lv_iload_n hx hb dX2_draw_7 rfl (lv_at hl 2 rfl) ?_
  have hi := hw.1
  have hw := hw.2 _ rfl
  refine va_iast hx hb hK hP hD hS 1 0 rfl rfl hi dX2_draw_8 (fun H locs hP hD hS => ?_)
  generalize hx_1 : (upd x ((2 : Int32) * v1).toNatClampNeg v2) = x_1 at hw hP hD
  have hP : va_P (dC, dI) vwCl (wSeg ad cI cJ cZ x_1 y u sn) H := hP
  have hD : va_D A (wSeg ad cI cJ cZ x_1 y u sn) := hD
  refine lv_aload_n hx hb dX2_draw_9 rfl (lv_at hl 0 rfl) ?_
  refine va_get (D := (dC, dI)) (ci := 2) (v := .ref (ad 18)) (C := RX2) (T := TX2) (N := 4) hx hb hts f_X2_draw_1 hown hK hP 0 rfl rfl 1 (by decide) (hts _ f_X2_draw_2) (fun _ h9 => h9) rfl dX2_draw_10 ?_
  refine lv_iconst (v := 2) hx hb dX2_draw_13 (by decide) ?_
  refine lv_iload_n hx hb dX2_draw_14 rfl (lv_at hl 1 rfl) ?_
  refine lv_imul hx hb dX2_draw_15 ?_
  refine lv_iload_n hx hb dX2_draw_16 rfl (lv_at hl 3 rfl) ?_
  have hi := hw.1
  have hw := hw.2 _ rfl
  refine va_iast hx hb hK hP hD hS 2 0 rfl rfl hi dX2_draw_17 (fun H locs hP hD hS => ?_)
  generalize hy_2 : (upd y ((2 : Int32) * v1).toNatClampNeg v3) = y_2 at hw hP hD
  have hP : va_P (dC, dI) vwCl (wSeg ad cI cJ cZ x_1 y_2 u sn) H := hP
  have hD : va_D A (wSeg ad cI cJ cZ x_1 y_2 u sn) := hD
  refine lv_aload_n hx hb dX2_draw_18 rfl (lv_at hl 0 rfl) ?_
  refine va_get (D := (dC, dI)) (ci := 2) (v := .ref (ad 17)) (C := RX2) (T := TX2) (N := 4) hx hb hts f_X2_draw_1 hown hK hP 0 rfl rfl 0 (by decide) (hts _ f_X2_draw_0) (fun _ h9 => h9) rfl dX2_draw_19 ?_
  refine lv_iconst (v := 2) hx hb dX2_draw_22 (by decide) ?_
  refine lv_iload_n hx hb dX2_draw_23 rfl (lv_at hl 1 rfl) ?_
  refine lv_imul hx hb dX2_draw_24 ?_
  refine lv_iconst (v := 1) hx hb dX2_draw_25 (by decide) ?_
  refine lv_iadd hx hb dX2_draw_26 ?_
  refine lv_iload hx hb dX2_draw_27 (lv_at hl 4 rfl) ?_
  have hi := hw.1
  have hw := hw.2 _ rfl
  refine va_iast hx hb hK hP hD hS 1 0 rfl rfl hi dX2_draw_29 (fun H locs hP hD hS => ?_)
  generalize hx_3 : (upd x_1 (((2 : Int32) * v1) + (1 : Int32)).toNatClampNeg v4) = x_3 at hw hP hD
  have hP : va_P (dC, dI) vwCl (wSeg ad cI cJ cZ x_3 y_2 u sn) H := hP
  have hD : va_D A (wSeg ad cI cJ cZ x_3 y_2 u sn) := hD
  refine lv_aload_n hx hb dX2_draw_30 rfl (lv_at hl 0 rfl) ?_
  refine va_get (D := (dC, dI)) (ci := 2) (v := .ref (ad 18)) (C := RX2) (T := TX2) (N := 4) hx hb hts f_X2_draw_1 hown hK hP 0 rfl rfl 1 (by decide) (hts _ f_X2_draw_2) (fun _ h9 => h9) rfl dX2_draw_31 ?_
  refine lv_iconst (v := 2) hx hb dX2_draw_34 (by decide) ?_
  refine lv_iload_n hx hb dX2_draw_35 rfl (lv_at hl 1 rfl) ?_
  refine lv_imul hx hb dX2_draw_36 ?_
  refine lv_iconst (v := 1) hx hb dX2_draw_37 (by decide) ?_
  refine lv_iadd hx hb dX2_draw_38 ?_
  refine lv_iload hx hb dX2_draw_39 (lv_at hl 5 rfl) ?_
  have hi := hw.1
  have hw := hw.2 _ rfl
  refine va_iast hx hb hK hP hD hS 2 0 rfl rfl hi dX2_draw_41 (fun H locs hP hD hS => ?_)
  generalize hy_4 : (upd y_2 (((2 : Int32) * v1) + (1 : Int32)).toNatClampNeg v5) = y_4 at hw hP hD
  have hP : va_P (dC, dI) vwCl (wSeg ad cI cJ cZ x_3 y_4 u sn) H := hP
  have hD : va_D A (wSeg ad cI cJ cZ x_3 y_4 u sn) := hD
  rw [← hQ]
  exact W.vret hx hb hr (fun t ht hW => ⟨⟨(x_3, y_4), rfl, hw, by rw [ht]; exact hP, hD⟩, hS.F ht⟩) hS.2.2 dX2_draw_42
-- X2_keep
abbrev rm_X2_keep : Room := { frames := 0, cells := 0, slots := 0, locals := 0 }
theorem f_X2_keep_0 : (Cond.fieldLink RX2 18 "PlaneFaces$Segments" "used" "[Z") ∈ wsX2_keep := by decide +kernel
theorem f_X2_keep_1 : ∀ w ∈ wsX20, w ∈ wsX2_keep := by decide +kernel
theorem f_X2_keep_2 : (Cond.fieldLink RX2 22 "PlaneFaces$Segments" "size" "I") ∈ wsX2_keep := by decide +kernel
set_option maxRecDepth 100000 in
set_option maxHeartbeats 4000000 in
theorem c_X2_keep (l : Launch) (dC : Nat → ClassId) (dI : Nat → Nat → Nat) (cI cJ cZ : ClassId) (ad : Nat → Nat) (sz : Nat) (x : Nat → Int32) (y : Nat → Int32) (u : Nat → Int32) (sn : Int32) (v1 : Int32) {post : (Nat → Int32) → Int32 → Prop} (hw : wp_X2_keep u sn v1 post) : Met l yX2_keep wsX2_keep rm_X2_keep (va_Pc [.ref (ad 16), .int v1] (fun U => U.heap.size = sz ∧ va_P (dC, dI) vwCl (wSeg ad cI cJ cZ x y u sn) U.heap ∧ va_K (dC, dI) vwCl (tyL cI cJ cZ) U ∧ va_D (fun _ => True) (wSeg ad cI cJ cZ x y u sn))) (va_Qv (fun uu : (Nat → Int32) × Int32 => post uu.1 uu.2) (fun (uu : (Nat → Int32) × Int32) (t : State) => va_P (dC, dI) vwCl (wSeg ad cI cJ cZ x y uu.1 uu.2) t.heap ∧ va_D (va_A (wSeg ad cI cJ cZ x y u sn) sz) (wSeg ad cI cJ cZ x y uu.1 uu.2)) (va_A (wSeg ad cI cJ cZ x y u sn) sz)) 0 0 (va_A (wSeg ad cI cJ cZ x y u sn) sz) := by
  unfold wp_X2_keep at hw
  refine Met.ofW (cc := cX2_keep) (maxL := 2) (ret := none) (by decide) rfl ?_
  intro p e s m args below meth c s₁ B hml hv
  obtain ⟨hav, hsz, hP, hK, hD0⟩ := hv
  have hx := B.exec
  have hb := B.bytes
  have hr := B.returns
  have hts := atoms_spec (ws := wsX2_keep) B.pre
  have hown : s.vm.findClass RX2 = some m.cls := findClass_of_methodNamed B.named
  have hlocks := B.notSynchronized
  have C : CallFix p m c cX2_keep 2 s args wsX2_keep RX2 := ⟨hx, hb, hml, hown, hts⟩
  obtain ⟨ls, hE, hl⟩ := mx_entry (m := m) [.ref (ad 16), .int v1] (n := 2) (Nat.le_of_ble_eq_true rfl)
  have hl : lv_has ls 2 [(0, .ref (ad 16)), (1, .int v1)] := hl
  rw [show entryFrame m args 2 = F0 m 0 ls [] by rw [hav]; exact hE]
  subst hsz
  have hD := hD0.self (sz := s.heap.size)
  generalize hAe : va_A (wSeg ad cI cJ cZ x y u sn) s.heap.size = A at hD ⊢
  have hA : ∀ q : Nat, s.heap.size ≤ q → A q := fun q h => by rw [← hAe]; exact Or.inr h
  have hS : va_S A s.heap s.heap [] := va_S.rf
  obtain ⟨Q, hQ⟩ : ∃ Q, MQ below (va_Qv (fun uu : (Nat → Int32) × Int32 => post uu.1 uu.2) (fun (uu : (Nat → Int32) × Int32) (t : State) => va_P (dC, dI) vwCl (wSeg ad cI cJ cZ x y uu.1 uu.2) t.heap ∧ va_D A (wSeg ad cI cJ cZ x y uu.1 uu.2)) A) args s 0 0 A = Q := ⟨_, rfl⟩
  rw [hQ]
  obtain ⟨H, hH⟩ : ∃ H, s.heap = H := ⟨_, rfl⟩
  have hS : va_S A s.heap H [] := by rw [← hH]; exact hS
  rw [hH] at hP
  show W p l e rm_X2_keep s m args below meth c s.heap [] 0 0 Q (F0 m 0 ls [])
  suffices hg : W p l e rm_X2_keep s m args below meth c H [] 0 0 Q (F0 m 0 ls []) by rw [hH]; exact hg
  clear hH
  generalize hlo : ([] : List Loc) = locs at hS ⊢
  refine lv_aload_n hx hb dX2_keep_0 rfl (lv_at hl 0 rfl) ?_
  refine va_get (D := (dC, dI)) (ci := 2) (v := .ref (ad 19)) (C := RX2) (T := TX2) (N := 4) hx hb hts f_X2_keep_1 hown hK hP 0 rfl rfl 2 (by decide) (hts _ f_X2_keep_0) (fun _ h9 => h9) rfl dX2_keep_1 ?_
  refine lv_iload_n hx hb dX2_keep_4 rfl (lv_at hl 1 rfl) ?_
  refine lv_iconst (v := 1) hx hb dX2_keep_5 (by decide) ?_
  have hi := hw.1
  have hw := hw.2 _ rfl
  refine va_zast hx hb hK hP hD hS 3 2 rfl rfl hi dX2_keep_6 (fun H locs hP hD hS => ?_)
  generalize hu_1 : (upd u v1.toNatClampNeg (vp_nar .boolean (1 : Int32))) = u_1 at hw hP hD
  have hP : va_P (dC, dI) vwCl (wSeg ad cI cJ cZ x y u_1 sn) H := hP
  have hD : va_D A (wSeg ad cI cJ cZ x y u_1 sn) := hD
  refine lv_aload_n hx hb dX2_keep_7 rfl (lv_at hl 0 rfl) ?_
  refine lv_dup hx hb dX2_keep_8 rfl ?_
  refine va_get (D := (dC, dI)) (ci := 2) (v := .int sn) (C := RX2) (T := TX2) (N := 4) hx hb hts f_X2_keep_1 hown hK hP 0 rfl rfl 3 (by decide) (hts _ f_X2_keep_2) (fun _ h9 => h9) rfl dX2_keep_9 ?_
  refine lv_iconst (v := 1) hx hb dX2_keep_12 (by decide) ?_
  refine lv_iadd hx hb dX2_keep_13 ?_
  refine va_put (D := (dC, dI)) (ci := 2) (v := .int (sn + (1 : Int32))) (ty := .int) (C := RX2) (T := TX2) (N := 4) hx hb hts f_X2_keep_1 tyX2 tyX2_ok nmX2 hown hK hP hD hS 0 rfl rfl 3 (by decide) (hts _ f_X2_keep_2) (fun _ h9 => h9) rfl (by decide +kernel) rfl rfl (Nat.le_of_ble_eq_true rfl) dX2_keep_14 (fun H locs hP hD hS => ?_)
  have hP : va_P (dC, dI) vwCl (wSeg ad cI cJ cZ x y u_1 (sn + (1 : Int32))) H := hP
  have hD : va_D A (wSeg ad cI cJ cZ x y u_1 (sn + (1 : Int32))) := hD
  rw [← hQ]
  exact W.vret hx hb hr (fun t ht hW => ⟨⟨(u_1, (sn + (1 : Int32))), rfl, hw, by rw [ht]; exact hP, hD⟩, hS.F ht⟩) hS.2.2 dX2_keep_17
-- X2_drop
abbrev rm_X2_drop : Room := { frames := 0, cells := 0, slots := 0, locals := 0 }
theorem f_X2_drop_0 : (Cond.fieldLink RX2 18 "PlaneFaces$Segments" "used" "[Z") ∈ wsX2_drop := by decide +kernel
theorem f_X2_drop_1 : ∀ w ∈ wsX20, w ∈ wsX2_drop := by decide +kernel
theorem f_X2_drop_2 : (Cond.fieldLink RX2 22 "PlaneFaces$Segments" "size" "I") ∈ wsX2_drop := by decide +kernel
set_option maxRecDepth 100000 in
set_option maxHeartbeats 4000000 in
theorem c_X2_drop (l : Launch) (dC : Nat → ClassId) (dI : Nat → Nat → Nat) (cI cJ cZ : ClassId) (ad : Nat → Nat) (sz : Nat) (x : Nat → Int32) (y : Nat → Int32) (u : Nat → Int32) (sn : Int32) (v1 : Int32) {post : (Nat → Int32) → Int32 → Prop} (hw : wp_X2_drop u sn v1 post) : Met l yX2_drop wsX2_drop rm_X2_drop (va_Pc [.ref (ad 16), .int v1] (fun U => U.heap.size = sz ∧ va_P (dC, dI) vwCl (wSeg ad cI cJ cZ x y u sn) U.heap ∧ va_K (dC, dI) vwCl (tyL cI cJ cZ) U ∧ va_D (fun _ => True) (wSeg ad cI cJ cZ x y u sn))) (va_Qv (fun uu : (Nat → Int32) × Int32 => post uu.1 uu.2) (fun (uu : (Nat → Int32) × Int32) (t : State) => va_P (dC, dI) vwCl (wSeg ad cI cJ cZ x y uu.1 uu.2) t.heap ∧ va_D (va_A (wSeg ad cI cJ cZ x y u sn) sz) (wSeg ad cI cJ cZ x y uu.1 uu.2)) (va_A (wSeg ad cI cJ cZ x y u sn) sz)) 0 0 (va_A (wSeg ad cI cJ cZ x y u sn) sz) := by
  unfold wp_X2_drop at hw
  refine Met.ofW (cc := cX2_drop) (maxL := 2) (ret := none) (by decide) rfl ?_
  intro p e s m args below meth c s₁ B hml hv
  obtain ⟨hav, hsz, hP, hK, hD0⟩ := hv
  have hx := B.exec
  have hb := B.bytes
  have hr := B.returns
  have hts := atoms_spec (ws := wsX2_drop) B.pre
  have hown : s.vm.findClass RX2 = some m.cls := findClass_of_methodNamed B.named
  have hlocks := B.notSynchronized
  have C : CallFix p m c cX2_drop 2 s args wsX2_drop RX2 := ⟨hx, hb, hml, hown, hts⟩
  obtain ⟨ls, hE, hl⟩ := mx_entry (m := m) [.ref (ad 16), .int v1] (n := 2) (Nat.le_of_ble_eq_true rfl)
  have hl : lv_has ls 2 [(0, .ref (ad 16)), (1, .int v1)] := hl
  rw [show entryFrame m args 2 = F0 m 0 ls [] by rw [hav]; exact hE]
  subst hsz
  have hD := hD0.self (sz := s.heap.size)
  generalize hAe : va_A (wSeg ad cI cJ cZ x y u sn) s.heap.size = A at hD ⊢
  have hA : ∀ q : Nat, s.heap.size ≤ q → A q := fun q h => by rw [← hAe]; exact Or.inr h
  have hS : va_S A s.heap s.heap [] := va_S.rf
  obtain ⟨Q, hQ⟩ : ∃ Q, MQ below (va_Qv (fun uu : (Nat → Int32) × Int32 => post uu.1 uu.2) (fun (uu : (Nat → Int32) × Int32) (t : State) => va_P (dC, dI) vwCl (wSeg ad cI cJ cZ x y uu.1 uu.2) t.heap ∧ va_D A (wSeg ad cI cJ cZ x y uu.1 uu.2)) A) args s 0 0 A = Q := ⟨_, rfl⟩
  rw [hQ]
  obtain ⟨H, hH⟩ : ∃ H, s.heap = H := ⟨_, rfl⟩
  have hS : va_S A s.heap H [] := by rw [← hH]; exact hS
  rw [hH] at hP
  show W p l e rm_X2_drop s m args below meth c s.heap [] 0 0 Q (F0 m 0 ls [])
  suffices hg : W p l e rm_X2_drop s m args below meth c H [] 0 0 Q (F0 m 0 ls []) by rw [hH]; exact hg
  clear hH
  generalize hlo : ([] : List Loc) = locs at hS ⊢
  refine lv_aload_n hx hb dX2_drop_0 rfl (lv_at hl 0 rfl) ?_
  refine va_get (D := (dC, dI)) (ci := 2) (v := .ref (ad 19)) (C := RX2) (T := TX2) (N := 4) hx hb hts f_X2_drop_1 hown hK hP 0 rfl rfl 2 (by decide) (hts _ f_X2_drop_0) (fun _ h9 => h9) rfl dX2_drop_1 ?_
  refine lv_iload_n hx hb dX2_drop_4 rfl (lv_at hl 1 rfl) ?_
  refine lv_iconst (v := 0) hx hb dX2_drop_5 (by decide) ?_
  have hi := hw.1
  have hw := hw.2 _ rfl
  refine va_zast hx hb hK hP hD hS 3 2 rfl rfl hi dX2_drop_6 (fun H locs hP hD hS => ?_)
  generalize hu_1 : (upd u v1.toNatClampNeg (vp_nar .boolean (0 : Int32))) = u_1 at hw hP hD
  have hP : va_P (dC, dI) vwCl (wSeg ad cI cJ cZ x y u_1 sn) H := hP
  have hD : va_D A (wSeg ad cI cJ cZ x y u_1 sn) := hD
  refine lv_aload_n hx hb dX2_drop_7 rfl (lv_at hl 0 rfl) ?_
  refine lv_dup hx hb dX2_drop_8 rfl ?_
  refine va_get (D := (dC, dI)) (ci := 2) (v := .int sn) (C := RX2) (T := TX2) (N := 4) hx hb hts f_X2_drop_1 hown hK hP 0 rfl rfl 3 (by decide) (hts _ f_X2_drop_2) (fun _ h9 => h9) rfl dX2_drop_9 ?_
  refine lv_iconst (v := 1) hx hb dX2_drop_12 (by decide) ?_
  refine lv_isub hx hb dX2_drop_13 ?_
  refine va_put (D := (dC, dI)) (ci := 2) (v := .int (sn - (1 : Int32))) (ty := .int) (C := RX2) (T := TX2) (N := 4) hx hb hts f_X2_drop_1 tyX2 tyX2_ok nmX2 hown hK hP hD hS 0 rfl rfl 3 (by decide) (hts _ f_X2_drop_2) (fun _ h9 => h9) rfl (by decide +kernel) rfl rfl (Nat.le_of_ble_eq_true rfl) dX2_drop_14 (fun H locs hP hD hS => ?_)
  have hP : va_P (dC, dI) vwCl (wSeg ad cI cJ cZ x y u_1 (sn - (1 : Int32))) H := hP
  have hD : va_D A (wSeg ad cI cJ cZ x y u_1 (sn - (1 : Int32))) := hD
  rw [← hQ]
  exact W.vret hx hb hr (fun t ht hW => ⟨⟨(u_1, (sn - (1 : Int32))), rfl, hw, by rw [ht]; exact hP, hD⟩, hS.F ht⟩) hS.2.2 dX2_drop_17
-- X2_dropAll
abbrev rm_X2_dropAll : Room := { frames := 0, cells := 0, slots := 0, locals := 0 }
theorem f_X2_dropAll_0 : (Cond.fieldLink RX2 18 "PlaneFaces$Segments" "used" "[Z") ∈ wsX2_dropAll := by decide +kernel
theorem f_X2_dropAll_1 : ∀ w ∈ wsX20, w ∈ wsX2_dropAll := by decide +kernel
theorem f_X2_dropAll_2 : (Cond.fieldLink RX2 22 "PlaneFaces$Segments" "size" "I") ∈ wsX2_dropAll := by decide +kernel
set_option maxRecDepth 100000 in
set_option maxHeartbeats 4000000 in
theorem l_X2_dropAll_2 {p : Program} {l : Launch} {e : Env} {s : State} {m : MethodId} {args : Array Value} {below : List Frame} {meth : Method} {c : Code} {Q : State → Prop} {dC : Nat → ClassId} {dI : Nat → Nat → Nat} {cI cJ cZ : ClassId} {ad : Nat → Nat} {x : Nat → Int32} {y : Nat → Int32} {sn : Int32}  {K21 : (Nat → Int32) → Prop} (C : CallFix p m c cX2_dropAll 2 s args wsX2_dropAll RX2) (hK : va_K (dC, dI) vwCl (tyL cI cJ cZ) s) {A : Nat → Prop} (hA : ∀ q : Nat, s.heap.size ≤ q → A q) (hk21 : ∀ (u_w : Nat → Int32) (ls : Array Slot) (H : Heap) (locs : List Loc), lv_has ls 2 [(0, .ref (ad 16))] → va_P (dC, dI) vwCl (wSeg ad cI cJ cZ x y u_w sn) H → va_D A (wSeg ad cI cJ cZ x y u_w sn) → va_S A s.heap H locs → K21 u_w → W p l e rm_X2_dropAll s m args below meth c H locs 0 0 Q (F0 m 21 ls [])) : ∀ (n : Nat) (u : Nat → Int32) (v1 : Int32) (ls : Array Slot) (H : Heap) (locs : List Loc), lv_has ls 2 [(0, .ref (ad 16)), (1, .int v1)] → va_P (dC, dI) vwCl (wSeg ad cI cJ cZ x y u sn) H → va_D A (wSeg ad cI cJ cZ x y u sn) → va_S A s.heap H locs → lp_X2_dropAll_2 sn K21 n u v1 → W p l e rm_X2_dropAll s m args below meth c H locs 0 0 Q (F0 m 2 ls []) := by
  obtain ⟨hx, hb, hml, hown, hts⟩ := id C
  intro n
  induction n with
  | zero =>
    intro u v1 ls H locs hl hP hD hS hw
    rw [lp_X2_dropAll_2.eq_1] at hw
    exact hw.elim
  | succ n ih =>
    intro u v1 ls H locs hl hP hD hS hw
    rw [lp_X2_dropAll_2.eq_2] at hw
    refine lv_iload_n hx hb dX2_dropAll_2 rfl (lv_at hl 1 rfl) ?_
    refine lv_bipush (v := 60) hx hb dX2_dropAll_3 (by decide) ?_
    refine lv_icmp_ge (tgt := 21) hx hb dX2_dropAll_5 (by decide) (fun hc => ?_) (fun hc => ?_)
    · have hw := hw.1 (hc)
      exact hk21 u ls _ _ (lv_sub hl [0] rfl) hP hD hS hw
    · have hw := hw.2 hc
      refine lv_aload_n hx hb dX2_dropAll_8 rfl (lv_at hl 0 rfl) ?_
      refine va_get (D := (dC, dI)) (ci := 2) (v := .ref (ad 19)) (C := RX2) (T := TX2) (N := 4) hx hb hts f_X2_dropAll_1 hown hK hP 0 rfl rfl 2 (by decide) (hts _ f_X2_dropAll_0) (fun _ h9 => h9) rfl dX2_dropAll_9 ?_
      refine lv_iload_n hx hb dX2_dropAll_12 rfl (lv_at hl 1 rfl) ?_
      refine lv_iconst (v := 0) hx hb dX2_dropAll_13 (by decide) ?_
      have hi := hw.1
      have hw := hw.2 _ rfl
      refine va_zast hx hb hK hP hD hS 3 2 rfl rfl hi dX2_dropAll_14 (fun H locs hP hD hS => ?_)
      generalize hu_1 : (upd u v1.toNatClampNeg (vp_nar .boolean (0 : Int32))) = u_1 at hw hP hD
      have hP : va_P (dC, dI) vwCl (wSeg ad cI cJ cZ x y u_1 sn) H := hP
      have hD : va_D A (wSeg ad cI cJ cZ x y u_1 sn) := hD
      refine lv_iinc (v := (v1 + (1 : Int32))) (lv' := [(1, .int (v1 + (1 : Int32))), (0, .ref (ad 16))]) hx hb dX2_dropAll_15 hl (k := 1) rfl rfl (by decide) rfl (fun ls hl => ?_)
      refine lv_goto (tgt := 2) hx hb dX2_dropAll_18 (by decide) ?_
      exact ih u_1 (v1 + (1 : Int32)) ls _ _ (lv_sub hl [1, 0] rfl) hP hD hS hw
set_option maxRecDepth 100000 in
set_option maxHeartbeats 4000000 in
theorem c_X2_dropAll (l : Launch) (dC : Nat → ClassId) (dI : Nat → Nat → Nat) (cI cJ cZ : ClassId) (ad : Nat → Nat) (sz : Nat) (x : Nat → Int32) (y : Nat → Int32) (u : Nat → Int32) (sn : Int32)  {post : (Nat → Int32) → Int32 → Prop} (hw : wp_X2_dropAll u sn post) : Met l yX2_dropAll wsX2_dropAll rm_X2_dropAll (va_Pc [.ref (ad 16)] (fun U => U.heap.size = sz ∧ va_P (dC, dI) vwCl (wSeg ad cI cJ cZ x y u sn) U.heap ∧ va_K (dC, dI) vwCl (tyL cI cJ cZ) U ∧ va_D (fun _ => True) (wSeg ad cI cJ cZ x y u sn))) (va_Qv (fun uu : (Nat → Int32) × Int32 => post uu.1 uu.2) (fun (uu : (Nat → Int32) × Int32) (t : State) => va_P (dC, dI) vwCl (wSeg ad cI cJ cZ x y uu.1 uu.2) t.heap ∧ va_D (va_A (wSeg ad cI cJ cZ x y u sn) sz) (wSeg ad cI cJ cZ x y uu.1 uu.2)) (va_A (wSeg ad cI cJ cZ x y u sn) sz)) 0 0 (va_A (wSeg ad cI cJ cZ x y u sn) sz) := by
  unfold wp_X2_dropAll at hw
  refine Met.ofW (cc := cX2_dropAll) (maxL := 2) (ret := none) (by decide) rfl ?_
  intro p e s m args below meth c s₁ B hml hv
  obtain ⟨hav, hsz, hP, hK, hD0⟩ := hv
  have hx := B.exec
  have hb := B.bytes
  have hr := B.returns
  have hts := atoms_spec (ws := wsX2_dropAll) B.pre
  have hown : s.vm.findClass RX2 = some m.cls := findClass_of_methodNamed B.named
  have hlocks := B.notSynchronized
  have C : CallFix p m c cX2_dropAll 2 s args wsX2_dropAll RX2 := ⟨hx, hb, hml, hown, hts⟩
  obtain ⟨ls, hE, hl⟩ := mx_entry (m := m) [.ref (ad 16)] (n := 2) (Nat.le_of_ble_eq_true rfl)
  have hl : lv_has ls 2 [(0, .ref (ad 16))] := hl
  rw [show entryFrame m args 2 = F0 m 0 ls [] by rw [hav]; exact hE]
  subst hsz
  have hD := hD0.self (sz := s.heap.size)
  generalize hAe : va_A (wSeg ad cI cJ cZ x y u sn) s.heap.size = A at hD ⊢
  have hA : ∀ q : Nat, s.heap.size ≤ q → A q := fun q h => by rw [← hAe]; exact Or.inr h
  have hS : va_S A s.heap s.heap [] := va_S.rf
  obtain ⟨Q, hQ⟩ : ∃ Q, MQ below (va_Qv (fun uu : (Nat → Int32) × Int32 => post uu.1 uu.2) (fun (uu : (Nat → Int32) × Int32) (t : State) => va_P (dC, dI) vwCl (wSeg ad cI cJ cZ x y uu.1 uu.2) t.heap ∧ va_D A (wSeg ad cI cJ cZ x y uu.1 uu.2)) A) args s 0 0 A = Q := ⟨_, rfl⟩
  rw [hQ]
  obtain ⟨H, hH⟩ : ∃ H, s.heap = H := ⟨_, rfl⟩
  have hS : va_S A s.heap H [] := by rw [← hH]; exact hS
  rw [hH] at hP
  show W p l e rm_X2_dropAll s m args below meth c s.heap [] 0 0 Q (F0 m 0 ls [])
  suffices hg : W p l e rm_X2_dropAll s m args below meth c H [] 0 0 Q (F0 m 0 ls []) by rw [hH]; exact hg
  clear hH
  generalize hlo : ([] : List Loc) = locs at hS ⊢
  refine lv_iconst (v := 0) hx hb dX2_dropAll_0 (by decide) ?_
  refine lv_istore_n (lv' := [(1, .int (0 : Int32)), (0, .ref (ad 16))]) hx hb dX2_dropAll_1 rfl hl (by decide) rfl (fun ls hl => ?_)
  obtain ⟨n3, hw⟩ := hw
  refine l_X2_dropAll_2 C hK hA (fun u_2 ls H locs hl hP hD hS hw => ?_) n3 u (0 : Int32) ls _ _ (lv_sub hl [1, 0] rfl) hP hD hS hw
  refine lv_aload_n hx hb dX2_dropAll_21 rfl (lv_at hl 0 rfl) ?_
  refine lv_iconst (v := 0) hx hb dX2_dropAll_22 (by decide) ?_
  refine va_put (D := (dC, dI)) (ci := 2) (v := .int (0 : Int32)) (ty := .int) (C := RX2) (T := TX2) (N := 4) hx hb hts f_X2_dropAll_1 tyX2 tyX2_ok nmX2 hown hK hP hD hS 0 rfl rfl 3 (by decide) (hts _ f_X2_dropAll_2) (fun _ h9 => h9) rfl (by decide +kernel) rfl rfl (Nat.le_of_ble_eq_true rfl) dX2_dropAll_23 (fun H locs hP hD hS => ?_)
  have hP : va_P (dC, dI) vwCl (wSeg ad cI cJ cZ x y u_2 (0 : Int32)) H := hP
  have hD : va_D A (wSeg ad cI cJ cZ x y u_2 (0 : Int32)) := hD
  rw [← hQ]
  exact W.vret hx hb hr (fun t ht hW => ⟨⟨(u_2, (0 : Int32)), rfl, hw, by rw [ht]; exact hP, hD⟩, hS.F ht⟩) hS.2.2 dX2_dropAll_26
-- X2_side
abbrev rm_X2_side : Room := { frames := 0, cells := 0, slots := 0, locals := 0 }
theorem f_X2_side_0 : (Cond.fieldLink RX2 9 "PlaneFaces$Segments" "x" "[I") ∈ wsX2_side := by decide +kernel
theorem f_X2_side_1 : ∀ w ∈ wsX20, w ∈ wsX2_side := by decide +kernel
theorem f_X2_side_2 : (Cond.fieldLink RX2 15 "PlaneFaces$Segments" "y" "[I") ∈ wsX2_side := by decide +kernel
set_option maxRecDepth 100000 in
set_option maxHeartbeats 4000000 in
theorem c_X2_side (l : Launch) (dC : Nat → ClassId) (dI : Nat → Nat → Nat) (cI cJ cZ : ClassId) (ad : Nat → Nat) (x : Nat → Int32) (y : Nat → Int32) (u : Nat → Int32) (sn : Int32) (v1 : Int32) (v2 : Int32) (v3 : Int32) {post : Int64 → Prop} (hw : wp_X2_side x y v1 v2 v3 post) : Met l yX2_side wsX2_side rm_X2_side (va_Pc [.ref (ad 16), .int v1, .int v2, .int v3] (fun U => va_P (dC, dI) vwCl (wSeg ad cI cJ cZ x y u sn) U.heap ∧ va_K (dC, dI) vwCl (tyL cI cJ cZ) U)) (vp_Sl post) 0 0 (fun _ => False) := by
  unfold wp_X2_side at hw
  refine Met.ofW (cc := cX2_side) (maxL := 8) (ret := (some .long)) (by decide) rfl ?_
  intro p e s m args below meth c s₁ B hml hv
  obtain ⟨hav, hP, hK⟩ := hv
  have hx := B.exec
  have hb := B.bytes
  have hr := B.returns
  have hts := atoms_spec (ws := wsX2_side) B.pre
  have hown : s.vm.findClass RX2 = some m.cls := findClass_of_methodNamed B.named
  have hlocks := B.notSynchronized
  have C : CallFix p m c cX2_side 8 s args wsX2_side RX2 := ⟨hx, hb, hml, hown, hts⟩
  obtain ⟨ls, hE, hl⟩ := mx_entry (m := m) [.ref (ad 16), .int v1, .int v2, .int v3] (n := 8) (Nat.le_of_ble_eq_true rfl)
  have hl : lv_has ls 8 [(0, .ref (ad 16)), (1, .int v1), (2, .int v2), (3, .int v3)] := hl
  rw [show entryFrame m args 8 = F0 m 0 ls [] by rw [hav]; exact hE]
  obtain ⟨Q, hQ⟩ : ∃ Q, MQ below (vp_Sl post) args s 0 0 (fun _ => False) = Q := ⟨_, rfl⟩
  rw [hQ]
  obtain ⟨H, hH⟩ : ∃ H, s.heap = H := ⟨_, rfl⟩
  rw [hH]
  rw [hH] at hP
  show W p l e rm_X2_side s m args below meth c H [] 0 0 Q (F0 m 0 ls [])
  refine lv_aload_n hx hb dX2_side_0 rfl (lv_at hl 0 rfl) ?_
  refine va_get (D := (dC, dI)) (ci := 2) (v := .ref (ad 17)) (C := RX2) (T := TX2) (N := 4) hx hb hts f_X2_side_1 hown hK hP 0 rfl rfl 0 (by decide) (hts _ f_X2_side_0) (fun _ h9 => h9) rfl dX2_side_1 ?_
  refine lv_iload_n hx hb dX2_side_4 rfl (lv_at hl 1 rfl) ?_
  refine lv_iconst (v := 1) hx hb dX2_side_5 (by decide) ?_
  refine lv_ixor hx hb dX2_side_6 ?_
  have hi := hw.1
  have hw := hw.2
  refine va_iald hx hb hK hP 1 0 rfl rfl hi dX2_side_7 ?_
  refine lv_aload_n hx hb dX2_side_8 rfl (lv_at hl 0 rfl) ?_
  refine va_get (D := (dC, dI)) (ci := 2) (v := .ref (ad 17)) (C := RX2) (T := TX2) (N := 4) hx hb hts f_X2_side_1 hown hK hP 0 rfl rfl 0 (by decide) (hts _ f_X2_side_0) (fun _ h9 => h9) rfl dX2_side_9 ?_
  refine lv_iload_n hx hb dX2_side_12 rfl (lv_at hl 1 rfl) ?_
  have hi := hw.1
  have hw := hw.2
  refine va_iald hx hb hK hP 1 0 rfl rfl hi dX2_side_13 ?_
  refine lv_isub hx hb dX2_side_14 ?_
  refine lv_i2l hx hb dX2_side_15 rfl ?_
  refine lv_topl (fun a1 ea1 => ?_)
  have hw := hw a1 ea1
  refine lv_lstore (lv' := [(4, .long a1), (0, .ref (ad 16)), (1, .int v1), (2, .int v2), (3, .int v3)]) hx hb dX2_side_16 hl (by decide) rfl (fun ls hl => ?_)
  refine lv_aload_n hx hb dX2_side_18 rfl (lv_at hl 1 rfl) ?_
  refine va_get (D := (dC, dI)) (ci := 2) (v := .ref (ad 18)) (C := RX2) (T := TX2) (N := 4) hx hb hts f_X2_side_1 hown hK hP 0 rfl rfl 1 (by decide) (hts _ f_X2_side_2) (fun _ h9 => h9) rfl dX2_side_19 ?_
  refine lv_iload_n hx hb dX2_side_22 rfl (lv_at hl 2 rfl) ?_
  refine lv_iconst (v := 1) hx hb dX2_side_23 (by decide) ?_
  refine lv_ixor hx hb dX2_side_24 ?_
  have hi := hw.1
  have hw := hw.2
  refine va_iald hx hb hK hP 2 0 rfl rfl hi dX2_side_25 ?_
  refine lv_aload_n hx hb dX2_side_26 rfl (lv_at hl 1 rfl) ?_
  refine va_get (D := (dC, dI)) (ci := 2) (v := .ref (ad 18)) (C := RX2) (T := TX2) (N := 4) hx hb hts f_X2_side_1 hown hK hP 0 rfl rfl 1 (by decide) (hts _ f_X2_side_2) (fun _ h9 => h9) rfl dX2_side_27 ?_
  refine lv_iload_n hx hb dX2_side_30 rfl (lv_at hl 2 rfl) ?_
  have hi := hw.1
  have hw := hw.2
  refine va_iald hx hb hK hP 2 0 rfl rfl hi dX2_side_31 ?_
  refine lv_isub hx hb dX2_side_32 ?_
  refine lv_i2l hx hb dX2_side_33 rfl ?_
  refine lv_topl (fun a2 ea2 => ?_)
  have hw := hw a2 ea2
  refine lv_lstore (lv' := [(6, .long a2), (4, .long a1), (0, .ref (ad 16)), (1, .int v1), (2, .int v2), (3, .int v3)]) hx hb dX2_side_34 hl (by decide) rfl (fun ls hl => ?_)
  refine lv_lload hx hb dX2_side_36 (lv_at hl 1 rfl) ?_
  refine lv_iload_n hx hb dX2_side_38 rfl (lv_at hl 5 rfl) ?_
  refine lv_aload_n hx hb dX2_side_39 rfl (lv_at hl 2 rfl) ?_
  refine va_get (D := (dC, dI)) (ci := 2) (v := .ref (ad 18)) (C := RX2) (T := TX2) (N := 4) hx hb hts f_X2_side_1 hown hK hP 0 rfl rfl 1 (by decide) (hts _ f_X2_side_2) (fun _ h9 => h9) rfl dX2_side_40 ?_
  refine lv_iload_n hx hb dX2_side_43 rfl (lv_at hl 3 rfl) ?_
  have hi := hw.1
  have hw := hw.2
  refine va_iald hx hb hK hP 2 0 rfl rfl hi dX2_side_44 ?_
  refine lv_isub hx hb dX2_side_45 ?_
  refine lv_i2l hx hb dX2_side_46 rfl ?_
  refine lv_lmul hx hb dX2_side_47 ?_
  refine lv_lload hx hb dX2_side_48 (lv_at hl 0 rfl) ?_
  refine lv_iload_n hx hb dX2_side_50 rfl (lv_at hl 4 rfl) ?_
  refine lv_aload_n hx hb dX2_side_51 rfl (lv_at hl 2 rfl) ?_
  refine va_get (D := (dC, dI)) (ci := 2) (v := .ref (ad 17)) (C := RX2) (T := TX2) (N := 4) hx hb hts f_X2_side_1 hown hK hP 0 rfl rfl 0 (by decide) (hts _ f_X2_side_0) (fun _ h9 => h9) rfl dX2_side_52 ?_
  refine lv_iload_n hx hb dX2_side_55 rfl (lv_at hl 3 rfl) ?_
  have hi := hw.1
  have hw := hw.2
  refine va_iald hx hb hK hP 1 0 rfl rfl hi dX2_side_56 ?_
  refine lv_isub hx hb dX2_side_57 ?_
  refine lv_i2l hx hb dX2_side_58 rfl ?_
  refine lv_lmul hx hb dX2_side_59 ?_
  refine lv_lsub hx hb dX2_side_60 ?_
  rw [← hQ]
  exact W.lret (v := ((a1 * (v3 - (y v1.toNatClampNeg)).toInt64) - (a2 * (v2 - (x v1.toNatClampNeg)).toInt64))) hx hb hr (fun t ht hW => ⟨_, rfl, hw, ht.trans hH.symm⟩) (fun q h => by cases h) dX2_side_61
-- X2_holds
abbrev rm_X2_holds : Room := { frames := 1, cells := 0, slots := 0, locals := 27 }
theorem f_X2_holds_0 : (Cond.fieldLink RX2 9 "PlaneFaces$Segments" "x" "[I") ∈ wsX2_holds := by decide +kernel
theorem f_X2_holds_1 : ∀ w ∈ wsX20, w ∈ wsX2_holds := by decide +kernel
theorem f_X2_holds_2 : (Cond.fieldLink RX2 15 "PlaneFaces$Segments" "y" "[I") ∈ wsX2_holds := by decide +kernel
set_option maxRecDepth 100000 in
set_option maxHeartbeats 4000000 in
theorem c_X2_holds (l : Launch) (dC : Nat → ClassId) (dI : Nat → Nat → Nat) (cI cJ cZ : ClassId) (ad : Nat → Nat) (x : Nat → Int32) (y : Nat → Int32) (u : Nat → Int32) (sn : Int32) (v1 : Int32) (v2 : Int32) (v3 : Int32) {post : Int32 → Prop} (hw : wp_X2_holds x y v1 v2 v3 post) : Met l yX2_holds wsX2_holds rm_X2_holds (va_Pc [.ref (ad 16), .int v1, .int v2, .int v3] (fun U => va_P (dC, dI) vwCl (wSeg ad cI cJ cZ x y u sn) U.heap ∧ va_K (dC, dI) vwCl (tyL cI cJ cZ) U)) (vp_Si post) 0 0 (fun _ => False) := by
  unfold wp_X2_holds at hw
  refine Met.ofW (cc := cX2_holds) (maxL := 8) (ret := (some .boolean)) (by decide) rfl ?_
  intro p e s m args below meth c s₁ B hml hv
  obtain ⟨hav, hP, hK⟩ := hv
  have hx := B.exec
  have hb := B.bytes
  have hr := B.returns
  have hts := atoms_spec (ws := wsX2_holds) B.pre
  have hown : s.vm.findClass RX2 = some m.cls := findClass_of_methodNamed B.named
  have hlocks := B.notSynchronized
  have C : CallFix p m c cX2_holds 8 s args wsX2_holds RX2 := ⟨hx, hb, hml, hown, hts⟩
  obtain ⟨ls, hE, hl⟩ := mx_entry (m := m) [.ref (ad 16), .int v1, .int v2, .int v3] (n := 8) (Nat.le_of_ble_eq_true rfl)
  have hl : lv_has ls 8 [(0, .ref (ad 16)), (1, .int v1), (2, .int v2), (3, .int v3)] := hl
  rw [show entryFrame m args 8 = F0 m 0 ls [] by rw [hav]; exact hE]
  obtain ⟨Q, hQ⟩ : ∃ Q, MQ below (vp_Si post) args s 0 0 (fun _ => False) = Q := ⟨_, rfl⟩
  rw [hQ]
  obtain ⟨H, hH⟩ : ∃ H, s.heap = H := ⟨_, rfl⟩
  rw [hH]
  rw [hH] at hP
  show W p l e rm_X2_holds s m args below meth c H [] 0 0 Q (F0 m 0 ls [])
  refine lv_aload_n hx hb dX2_holds_0 rfl (lv_at hl 0 rfl) ?_
  refine lv_iconst (v := 2) hx hb dX2_holds_1 (by decide) ?_
  refine lv_iload_n hx hb dX2_holds_2 rfl (lv_at hl 1 rfl) ?_
  refine lv_imul hx hb dX2_holds_3 ?_
  refine lv_iload_n hx hb dX2_holds_4 rfl (lv_at hl 2 rfl) ?_
  refine lv_iload_n hx hb dX2_holds_5 rfl (lv_at hl 3 rfl) ?_
  refine vp_callSl (W.runV (As := [.int ((2 : Int32) * v1), .int v2, .int v3]) (rest := []) C (c_X2_side l dC dI cI cJ cZ ad x y u sn ((2 : Int32) * v1) v2 v3 hw) (cwV 3 hts gX2_holds_X2_side rfl rfl rfl (by decide +kernel) ⟨Nat.le_of_ble_eq_true rfl, Nat.le_of_ble_eq_true rfl⟩) ⟨fb_ro, va_recv hK hP (ci := 2) (q0 := 0) rfl rfl, fun U hU hW => ⟨rfl, by rw [hU]; exact hP, va_K.moved hW.alike hK⟩⟩ rfl rfl hl.1 rfl (lv_room (Nat.le_of_ble_eq_true rfl)) dX2_holds_6 ⟨Nat.zero_le _, Nat.zero_le _⟩) (fun r1 hw => ?_)
  refine lv_lconst (v := 0) hx hb dX2_holds_9 (by decide) ?_
  refine W.lcmp hx hb dX2_holds_10 ?_
  refine lv_if_eq (tgt := 16) hx hb dX2_holds_11 (by decide) (fun hc => ?_) (fun hc => ?_)
  · have hw := hw.1 ((lg_cmp_eq _ _).mp hc)
    refine lv_aload_n hx hb dX2_holds_16 rfl (lv_at hl 0 rfl) ?_
    refine va_get (D := (dC, dI)) (ci := 2) (v := .ref (ad 17)) (C := RX2) (T := TX2) (N := 4) hx hb hts f_X2_holds_1 hown hK hP 0 rfl rfl 0 (by decide) (hts _ f_X2_holds_0) (fun _ h9 => h9) rfl dX2_holds_17 ?_
    refine lv_iconst (v := 2) hx hb dX2_holds_20 (by decide) ?_
    refine lv_iload_n hx hb dX2_holds_21 rfl (lv_at hl 1 rfl) ?_
    refine lv_imul hx hb dX2_holds_22 ?_
    have hi := hw.1
    have hw := hw.2
    refine va_iald hx hb hK hP 1 0 rfl rfl hi dX2_holds_23 ?_
    refine lv_iload_n hx hb dX2_holds_24 rfl (lv_at hl 2 rfl) ?_
    refine lv_isub hx hb dX2_holds_25 ?_
    refine lv_i2l hx hb dX2_holds_26 rfl ?_
    refine lv_topl (fun a2 ea2 => ?_)
    have hw := hw a2 ea2
    refine lv_lstore (lv' := [(4, .long a2), (0, .ref (ad 16)), (1, .int v1), (2, .int v2), (3, .int v3)]) hx hb dX2_holds_27 hl (by decide) rfl (fun ls hl => ?_)
    refine lv_aload_n hx hb dX2_holds_29 rfl (lv_at hl 1 rfl) ?_
    refine va_get (D := (dC, dI)) (ci := 2) (v := .ref (ad 18)) (C := RX2) (T := TX2) (N := 4) hx hb hts f_X2_holds_1 hown hK hP 0 rfl rfl 1 (by decide) (hts _ f_X2_holds_2) (fun _ h9 => h9) rfl dX2_holds_30 ?_
    refine lv_iconst (v := 2) hx hb dX2_holds_33 (by decide) ?_
    refine lv_iload_n hx hb dX2_holds_34 rfl (lv_at hl 2 rfl) ?_
    refine lv_imul hx hb dX2_holds_35 ?_
    have hi := hw.1
    have hw := hw.2
    refine va_iald hx hb hK hP 2 0 rfl rfl hi dX2_holds_36 ?_
    refine lv_iload_n hx hb dX2_holds_37 rfl (lv_at hl 4 rfl) ?_
    refine lv_isub hx hb dX2_holds_38 ?_
    refine lv_i2l hx hb dX2_holds_39 rfl ?_
    refine lv_topl (fun a3 ea3 => ?_)
    have hw := hw a3 ea3
    refine lv_lstore (lv' := [(6, .long a3), (4, .long a2), (0, .ref (ad 16)), (1, .int v1), (2, .int v2), (3, .int v3)]) hx hb dX2_holds_40 hl (by decide) rfl (fun ls hl => ?_)
    refine lv_lload hx hb dX2_holds_42 (lv_at hl 1 rfl) ?_
    refine lv_aload_n hx hb dX2_holds_44 rfl (lv_at hl 2 rfl) ?_
    refine va_get (D := (dC, dI)) (ci := 2) (v := .ref (ad 17)) (C := RX2) (T := TX2) (N := 4) hx hb hts f_X2_holds_1 hown hK hP 0 rfl rfl 0 (by decide) (hts _ f_X2_holds_0) (fun _ h9 => h9) rfl dX2_holds_45 ?_
    refine lv_iconst (v := 2) hx hb dX2_holds_48 (by decide) ?_
    refine lv_iload_n hx hb dX2_holds_49 rfl (lv_at hl 3 rfl) ?_
    refine lv_imul hx hb dX2_holds_50 ?_
    refine lv_iconst (v := 1) hx hb dX2_holds_51 (by decide) ?_
    refine lv_iadd hx hb dX2_holds_52 ?_
    have hi := hw.1
    have hw := hw.2
    refine va_iald hx hb hK hP 1 0 rfl rfl hi dX2_holds_53 ?_
    refine lv_iload_n hx hb dX2_holds_54 rfl (lv_at hl 4 rfl) ?_
    refine lv_isub hx hb dX2_holds_55 ?_
    refine lv_i2l hx hb dX2_holds_56 rfl ?_
    refine lv_lmul hx hb dX2_holds_57 ?_
    refine lv_lload hx hb dX2_holds_58 (lv_at hl 0 rfl) ?_
    refine lv_aload_n hx hb dX2_holds_60 rfl (lv_at hl 2 rfl) ?_
    refine va_get (D := (dC, dI)) (ci := 2) (v := .ref (ad 18)) (C := RX2) (T := TX2) (N := 4) hx hb hts f_X2_holds_1 hown hK hP 0 rfl rfl 1 (by decide) (hts _ f_X2_holds_2) (fun _ h9 => h9) rfl dX2_holds_61 ?_
    refine lv_iconst (v := 2) hx hb dX2_holds_64 (by decide) ?_
    refine lv_iload_n hx hb dX2_holds_65 rfl (lv_at hl 3 rfl) ?_
    refine lv_imul hx hb dX2_holds_66 ?_
    refine lv_iconst (v := 1) hx hb dX2_holds_67 (by decide) ?_
    refine lv_iadd hx hb dX2_holds_68 ?_
    have hi := hw.1
    have hw := hw.2
    refine va_iald hx hb hK hP 2 0 rfl rfl hi dX2_holds_69 ?_
    refine lv_iload_n hx hb dX2_holds_70 rfl (lv_at hl 5 rfl) ?_
    refine lv_isub hx hb dX2_holds_71 ?_
    refine lv_i2l hx hb dX2_holds_72 rfl ?_
    refine lv_lmul hx hb dX2_holds_73 ?_
    refine lv_ladd hx hb dX2_holds_74 ?_
    refine lv_lconst (v := 0) hx hb dX2_holds_75 (by decide) ?_
    refine W.lcmp hx hb dX2_holds_76 ?_
    refine jn1_use (J := fun (k4 : Int32) => ∀ ls : Array Slot, lv_has ls 8 [(0, .ref (ad 16))] → W p l e rm_X2_holds s m args below meth c H [] 0 0 Q (F0 m 85 ls [.int k4])) hw (fun k4 hw ls hl => ?_) (fun hw hj0 => ?_)
    · rw [← hQ]
      exact W.zret (v := k4) (ty := .boolean) hx hb hr (bz_n hw.1) (fun t ht hW => ⟨_, rfl, hw.2, ht.trans hH.symm⟩) (fun q h => by cases h) dX2_holds_85
    · have hj6 := hj0
      refine lv_if_ge (tgt := 84) hx hb dX2_holds_77 (by decide) (fun hc => ?_) (fun hc => ?_)
      · have hw := hw.1 ((lg_cmp_ge _ _).mp hc)
        refine lv_iconst (v := 0) hx hb dX2_holds_84 (by decide) ?_
        exact hj6 (0 : Int32) hw ls (lv_sub hl [2] rfl)
      · have hw := hw.2 (fun h9 => hc ((lg_cmp_ge _ _).mpr h9))
        refine lv_iconst (v := 1) hx hb dX2_holds_80 (by decide) ?_
        refine lv_goto (tgt := 85) hx hb dX2_holds_81 (by decide) ?_
        exact hj6 (1 : Int32) hw ls (lv_sub hl [2] rfl)
  · have hw := hw.2 (fun h9 => hc ((lg_cmp_eq _ _).mpr h9))
    refine lv_iconst (v := 0) hx hb dX2_holds_14 (by decide) ?_
    rw [← hQ]
    exact W.zret (v := (0 : Int32)) (ty := .boolean) hx hb hr (bz_n hw.1) (fun t ht hW => ⟨_, rfl, hw.2, ht.trans hH.symm⟩) (fun q h => by cases h) dX2_holds_15
-- X2_touches
abbrev rm_X2_touches : Room := { frames := 2, cells := 0, slots := 0, locals := 54 }
theorem f_X2_touches_0 : (Cond.fieldLink RX2 9 "PlaneFaces$Segments" "x" "[I") ∈ wsX2_touches := by decide +kernel
theorem f_X2_touches_1 : ∀ w ∈ wsX20, w ∈ wsX2_touches := by decide +kernel
theorem f_X2_touches_2 : (Cond.fieldLink RX2 15 "PlaneFaces$Segments" "y" "[I") ∈ wsX2_touches := by decide +kernel
set_option maxRecDepth 100000 in
set_option maxHeartbeats 4000000 in
theorem c_X2_touches (l : Launch) (dC : Nat → ClassId) (dI : Nat → Nat → Nat) (cI cJ cZ : ClassId) (ad : Nat → Nat) (x : Nat → Int32) (y : Nat → Int32) (u : Nat → Int32) (sn : Int32) (v1 : Int32) (v2 : Int32) {post : Int32 → Prop} (hw : wp_X2_touches x y v1 v2 post) : Met l yX2_touches wsX2_touches rm_X2_touches (va_Pc [.ref (ad 16), .int v1, .int v2] (fun U => va_P (dC, dI) vwCl (wSeg ad cI cJ cZ x y u sn) U.heap ∧ va_K (dC, dI) vwCl (tyL cI cJ cZ) U)) (vp_Si post) 0 0 (fun _ => False) := by
  unfold wp_X2_touches at hw
  refine Met.ofW (cc := cX2_touches) (maxL := 3) (ret := (some .boolean)) (by decide) rfl ?_
  intro p e s m args below meth c s₁ B hml hv
  obtain ⟨hav, hP, hK⟩ := hv
  have hx := B.exec
  have hb := B.bytes
  have hr := B.returns
  have hts := atoms_spec (ws := wsX2_touches) B.pre
  have hown : s.vm.findClass RX2 = some m.cls := findClass_of_methodNamed B.named
  have hlocks := B.notSynchronized
  have C : CallFix p m c cX2_touches 3 s args wsX2_touches RX2 := ⟨hx, hb, hml, hown, hts⟩
  obtain ⟨ls, hE, hl⟩ := mx_entry (m := m) [.ref (ad 16), .int v1, .int v2] (n := 3) (Nat.le_of_ble_eq_true rfl)
  have hl : lv_has ls 3 [(0, .ref (ad 16)), (1, .int v1), (2, .int v2)] := hl
  rw [show entryFrame m args 3 = F0 m 0 ls [] by rw [hav]; exact hE]
  obtain ⟨Q, hQ⟩ : ∃ Q, MQ below (vp_Si post) args s 0 0 (fun _ => False) = Q := ⟨_, rfl⟩
  rw [hQ]
  obtain ⟨H, hH⟩ : ∃ H, s.heap = H := ⟨_, rfl⟩
  rw [hH]
  rw [hH] at hP
  show W p l e rm_X2_touches s m args below meth c H [] 0 0 Q (F0 m 0 ls [])
  refine lv_aload_n hx hb dX2_touches_0 rfl (lv_at hl 0 rfl) ?_
  refine lv_iload_n hx hb dX2_touches_1 rfl (lv_at hl 1 rfl) ?_
  refine lv_aload_n hx hb dX2_touches_2 rfl (lv_at hl 0 rfl) ?_
  refine va_get (D := (dC, dI)) (ci := 2) (v := .ref (ad 17)) (C := RX2) (T := TX2) (N := 4) hx hb hts f_X2_touches_1 hown hK hP 0 rfl rfl 0 (by decide) (hts _ f_X2_touches_0) (fun _ h9 => h9) rfl dX2_touches_3 ?_
  refine lv_iconst (v := 2) hx hb dX2_touches_6 (by decide) ?_
  refine lv_iload_n hx hb dX2_touches_7 rfl (lv_at hl 2 rfl) ?_
  refine lv_imul hx hb dX2_touches_8 ?_
  have hi := hw.1
  have hw := hw.2
  refine va_iald hx hb hK hP 1 0 rfl rfl hi dX2_touches_9 ?_
  refine lv_aload_n hx hb dX2_touches_10 rfl (lv_at hl 0 rfl) ?_
  refine va_get (D := (dC, dI)) (ci := 2) (v := .ref (ad 18)) (C := RX2) (T := TX2) (N := 4) hx hb hts f_X2_touches_1 hown hK hP 0 rfl rfl 1 (by decide) (hts _ f_X2_touches_2) (fun _ h9 => h9) rfl dX2_touches_11 ?_
  refine lv_iconst (v := 2) hx hb dX2_touches_14 (by decide) ?_
  refine lv_iload_n hx hb dX2_touches_15 rfl (lv_at hl 2 rfl) ?_
  refine lv_imul hx hb dX2_touches_16 ?_
  have hi := hw.1
  have hw := hw.2
  refine va_iald hx hb hK hP 2 0 rfl rfl hi dX2_touches_17 ?_
  refine vp_callSi (W.runV (As := [.int v1, .int (x ((2 : Int32) * v2).toNatClampNeg), .int (y ((2 : Int32) * v2).toNatClampNeg)]) (rest := []) C (c_X2_holds l dC dI cI cJ cZ ad x y u sn v1 (x ((2 : Int32) * v2).toNatClampNeg) (y ((2 : Int32) * v2).toNatClampNeg) hw) (cwV 3 hts gX2_touches_X2_holds rfl rfl rfl (by decide +kernel) ⟨Nat.le_of_ble_eq_true rfl, Nat.le_of_ble_eq_true rfl⟩) ⟨fb_ro, va_recv hK hP (ci := 2) (q0 := 0) rfl rfl, fun U hU hW => ⟨rfl, by rw [hU]; exact hP, va_K.moved hW.alike hK⟩⟩ rfl rfl hl.1 rfl (lv_room (Nat.le_of_ble_eq_true rfl)) dX2_touches_18 ⟨Nat.zero_le _, Nat.zero_le _⟩) (fun r1 hw => ?_)
  refine jn1_use (J := fun (k2 : Int32) => ∀ ls : Array Slot, lv_has ls 3 [(0, .ref (ad 16))] → W p l e rm_X2_touches s m args below meth c H [] 0 0 Q (F0 m 57 ls [.int k2])) hw (fun k2 hw ls hl => ?_) (fun hw hj0 => ?_)
  · rw [← hQ]
    exact W.zret (v := k2) (ty := .boolean) hx hb hr (bz_n hw.1) (fun t ht hW => ⟨_, rfl, hw.2, ht.trans hH.symm⟩) (fun q h => by cases h) dX2_touches_57
  · have hj4 := hj0
    refine jn0_use (J := ∀ ls : Array Slot, lv_has ls 3 [(0, .ref (ad 16))] → W p l e rm_X2_touches s m args below meth c H [] 0 0 Q (F0 m 52 ls [])) hw (fun hw ls hl => ?_) (fun hw hj0 => ?_)
    · refine lv_iconst (v := 1) hx hb dX2_touches_52 (by decide) ?_
      refine lv_goto (tgt := 57) hx hb dX2_touches_53 (by decide) ?_
      exact hj4 (1 : Int32) hw ls (lv_sub hl [0] rfl)
    · have hj6 := hj0
      refine lv_if_ne (tgt := 52) hx hb dX2_touches_21 (by decide) (fun hc => ?_) (fun hc => ?_)
      · have hw := hw.2 hc
        exact hj6 hw ls (lv_sub hl [0] rfl)
      · have hw := hw.1 (hc)
        refine lv_aload_n hx hb dX2_touches_24 rfl (lv_at hl 0 rfl) ?_
        refine lv_iload_n hx hb dX2_touches_25 rfl (lv_at hl 1 rfl) ?_
        refine lv_aload_n hx hb dX2_touches_26 rfl (lv_at hl 0 rfl) ?_
        refine va_get (D := (dC, dI)) (ci := 2) (v := .ref (ad 17)) (C := RX2) (T := TX2) (N := 4) hx hb hts f_X2_touches_1 hown hK hP 0 rfl rfl 0 (by decide) (hts _ f_X2_touches_0) (fun _ h9 => h9) rfl dX2_touches_27 ?_
        refine lv_iconst (v := 2) hx hb dX2_touches_30 (by decide) ?_
        refine lv_iload_n hx hb dX2_touches_31 rfl (lv_at hl 2 rfl) ?_
        refine lv_imul hx hb dX2_touches_32 ?_
        refine lv_iconst (v := 1) hx hb dX2_touches_33 (by decide) ?_
        refine lv_iadd hx hb dX2_touches_34 ?_
        have hi := hw.1
        have hw := hw.2
        refine va_iald hx hb hK hP 1 0 rfl rfl hi dX2_touches_35 ?_
        refine lv_aload_n hx hb dX2_touches_36 rfl (lv_at hl 0 rfl) ?_
        refine va_get (D := (dC, dI)) (ci := 2) (v := .ref (ad 18)) (C := RX2) (T := TX2) (N := 4) hx hb hts f_X2_touches_1 hown hK hP 0 rfl rfl 1 (by decide) (hts _ f_X2_touches_2) (fun _ h9 => h9) rfl dX2_touches_37 ?_
        refine lv_iconst (v := 2) hx hb dX2_touches_40 (by decide) ?_
        refine lv_iload_n hx hb dX2_touches_41 rfl (lv_at hl 2 rfl) ?_
        refine lv_imul hx hb dX2_touches_42 ?_
        refine lv_iconst (v := 1) hx hb dX2_touches_43 (by decide) ?_
        refine lv_iadd hx hb dX2_touches_44 ?_
        have hi := hw.1
        have hw := hw.2
        refine va_iald hx hb hK hP 2 0 rfl rfl hi dX2_touches_45 ?_
        refine vp_callSi (W.runV (As := [.int v1, .int (x (((2 : Int32) * v2) + (1 : Int32)).toNatClampNeg), .int (y (((2 : Int32) * v2) + (1 : Int32)).toNatClampNeg)]) (rest := []) C (c_X2_holds l dC dI cI cJ cZ ad x y u sn v1 (x (((2 : Int32) * v2) + (1 : Int32)).toNatClampNeg) (y (((2 : Int32) * v2) + (1 : Int32)).toNatClampNeg) hw) (cwV 3 hts gX2_touches_X2_holds rfl rfl rfl (by decide +kernel) ⟨Nat.le_of_ble_eq_true rfl, Nat.le_of_ble_eq_true rfl⟩) ⟨fb_ro, va_recv hK hP (ci := 2) (q0 := 0) rfl rfl, fun U hU hW => ⟨rfl, by rw [hU]; exact hP, va_K.moved hW.alike hK⟩⟩ rfl rfl hl.1 rfl (lv_room (Nat.le_of_ble_eq_true rfl)) dX2_touches_46 ⟨Nat.zero_le _, Nat.zero_le _⟩) (fun r7 hw => ?_)
        refine lv_if_eq (tgt := 56) hx hb dX2_touches_49 (by decide) (fun hc => ?_) (fun hc => ?_)
        · have hw := hw.1 (hc)
          refine lv_iconst (v := 0) hx hb dX2_touches_56 (by decide) ?_
          exact hj4 (0 : Int32) hw ls (lv_sub hl [0] rfl)
        · have hw := hw.2 hc
          exact hj6 hw ls (lv_sub hl [0] rfl)
-- X2_sameBegin
abbrev rm_X2_sameBegin : Room := { frames := 0, cells := 0, slots := 0, locals := 0 }
theorem f_X2_sameBegin_0 : (Cond.fieldLink RX2 9 "PlaneFaces$Segments" "x" "[I") ∈ wsX2_sameBegin := by decide +kernel
theorem f_X2_sameBegin_1 : ∀ w ∈ wsX20, w ∈ wsX2_sameBegin := by decide +kernel
theorem f_X2_sameBegin_2 : (Cond.fieldLink RX2 15 "PlaneFaces$Segments" "y" "[I") ∈ wsX2_sameBegin := by decide +kernel
set_option maxRecDepth 100000 in
set_option maxHeartbeats 4000000 in
theorem c_X2_sameBegin (l : Launch) (dC : Nat → ClassId) (dI : Nat → Nat → Nat) (cI cJ cZ : ClassId) (ad : Nat → Nat) (x : Nat → Int32) (y : Nat → Int32) (u : Nat → Int32) (sn : Int32) (v1 : Int32) (v2 : Int32) {post : Int32 → Prop} (hw : wp_X2_sameBegin x y v1 v2 post) : Met l yX2_sameBegin wsX2_sameBegin rm_X2_sameBegin (va_Pc [.ref (ad 16), .int v1, .int v2] (fun U => va_P (dC, dI) vwCl (wSeg ad cI cJ cZ x y u sn) U.heap ∧ va_K (dC, dI) vwCl (tyL cI cJ cZ) U)) (vp_Si post) 0 0 (fun _ => False) := by
  unfold wp_X2_sameBegin at hw
  refine Met.ofW (cc := cX2_sameBegin) (maxL := 3) (ret := (some .boolean)) (by decide) rfl ?_
  intro p e s m args below meth c s₁ B hml hv
  obtain ⟨hav, hP, hK⟩ := hv
  have hx := B.exec
  have hb := B.bytes
  have hr := B.returns
  have hts := atoms_spec (ws := wsX2_sameBegin) B.pre
  have hown : s.vm.findClass RX2 = some m.cls := findClass_of_methodNamed B.named
  have hlocks := B.notSynchronized
  have C : CallFix p m c cX2_sameBegin 3 s args wsX2_sameBegin RX2 := ⟨hx, hb, hml, hown, hts⟩
  obtain ⟨ls, hE, hl⟩ := mx_entry (m := m) [.ref (ad 16), .int v1, .int v2] (n := 3) (Nat.le_of_ble_eq_true rfl)
  have hl : lv_has ls 3 [(0, .ref (ad 16)), (1, .int v1), (2, .int v2)] := hl
  rw [show entryFrame m args 3 = F0 m 0 ls [] by rw [hav]; exact hE]
  obtain ⟨Q, hQ⟩ : ∃ Q, MQ below (vp_Si post) args s 0 0 (fun _ => False) = Q := ⟨_, rfl⟩
  rw [hQ]
  obtain ⟨H, hH⟩ : ∃ H, s.heap = H := ⟨_, rfl⟩
  rw [hH]
  rw [hH] at hP
  show W p l e rm_X2_sameBegin s m args below meth c H [] 0 0 Q (F0 m 0 ls [])
  refine lv_aload_n hx hb dX2_sameBegin_0 rfl (lv_at hl 0 rfl) ?_
  refine va_get (D := (dC, dI)) (ci := 2) (v := .ref (ad 17)) (C := RX2) (T := TX2) (N := 4) hx hb hts f_X2_sameBegin_1 hown hK hP 0 rfl rfl 0 (by decide) (hts _ f_X2_sameBegin_0) (fun _ h9 => h9) rfl dX2_sameBegin_1 ?_
  refine lv_iload_n hx hb dX2_sameBegin_4 rfl (lv_at hl 1 rfl) ?_
  have hi := hw.1
  have hw := hw.2
  refine va_iald hx hb hK hP 1 0 rfl rfl hi dX2_sameBegin_5 ?_
  refine lv_aload_n hx hb dX2_sameBegin_6 rfl (lv_at hl 0 rfl) ?_
  refine va_get (D := (dC, dI)) (ci := 2) (v := .ref (ad 17)) (C := RX2) (T := TX2) (N := 4) hx hb hts f_X2_sameBegin_1 hown hK hP 0 rfl rfl 0 (by decide) (hts _ f_X2_sameBegin_0) (fun _ h9 => h9) rfl dX2_sameBegin_7 ?_
  refine lv_iload_n hx hb dX2_sameBegin_10 rfl (lv_at hl 2 rfl) ?_
  have hi := hw.1
  have hw := hw.2
  refine va_iald hx hb hK hP 1 0 rfl rfl hi dX2_sameBegin_11 ?_
  refine jn1_use (J := fun (k1 : Int32) => ∀ ls : Array Slot, lv_has ls 3 [(0, .ref (ad 16))] → W p l e rm_X2_sameBegin s m args below meth c H [] 0 0 Q (F0 m 35 ls [.int k1])) hw (fun k1 hw ls hl => ?_) (fun hw hj0 => ?_)
  · rw [← hQ]
    exact W.zret (v := k1) (ty := .boolean) hx hb hr (bz_n hw.1) (fun t ht hW => ⟨_, rfl, hw.2, ht.trans hH.symm⟩) (fun q h => by cases h) dX2_sameBegin_35
  · have hj3 := hj0
    refine jn0_use (J := ∀ ls : Array Slot, lv_has ls 3 [(0, .ref (ad 16))] → W p l e rm_X2_sameBegin s m args below meth c H [] 0 0 Q (F0 m 34 ls [])) hw (fun hw ls hl => ?_) (fun hw hj0 => ?_)
    · refine lv_iconst (v := 0) hx hb dX2_sameBegin_34 (by decide) ?_
      exact hj3 (0 : Int32) hw ls (lv_sub hl [0] rfl)
    · have hj5 := hj0
      refine lv_icmp_ne (tgt := 34) hx hb dX2_sameBegin_12 (by decide) (fun hc => ?_) (fun hc => ?_)
      · have hw := hw.2 hc
        exact hj5 hw ls (lv_sub hl [0] rfl)
      · have hw := hw.1 (hc)
        refine lv_aload_n hx hb dX2_sameBegin_15 rfl (lv_at hl 0 rfl) ?_
        refine va_get (D := (dC, dI)) (ci := 2) (v := .ref (ad 18)) (C := RX2) (T := TX2) (N := 4) hx hb hts f_X2_sameBegin_1 hown hK hP 0 rfl rfl 1 (by decide) (hts _ f_X2_sameBegin_2) (fun _ h9 => h9) rfl dX2_sameBegin_16 ?_
        refine lv_iload_n hx hb dX2_sameBegin_19 rfl (lv_at hl 1 rfl) ?_
        have hi := hw.1
        have hw := hw.2
        refine va_iald hx hb hK hP 2 0 rfl rfl hi dX2_sameBegin_20 ?_
        refine lv_aload_n hx hb dX2_sameBegin_21 rfl (lv_at hl 0 rfl) ?_
        refine va_get (D := (dC, dI)) (ci := 2) (v := .ref (ad 18)) (C := RX2) (T := TX2) (N := 4) hx hb hts f_X2_sameBegin_1 hown hK hP 0 rfl rfl 1 (by decide) (hts _ f_X2_sameBegin_2) (fun _ h9 => h9) rfl dX2_sameBegin_22 ?_
        refine lv_iload_n hx hb dX2_sameBegin_25 rfl (lv_at hl 2 rfl) ?_
        have hi := hw.1
        have hw := hw.2
        refine va_iald hx hb hK hP 2 0 rfl rfl hi dX2_sameBegin_26 ?_
        refine lv_icmp_ne (tgt := 34) hx hb dX2_sameBegin_27 (by decide) (fun hc => ?_) (fun hc => ?_)
        · have hw := hw.2 hc
          exact hj5 hw ls (lv_sub hl [0] rfl)
        · have hw := hw.1 (hc)
          refine lv_iconst (v := 1) hx hb dX2_sameBegin_30 (by decide) ?_
          refine lv_goto (tgt := 35) hx hb dX2_sameBegin_31 (by decide) ?_
          exact hj3 (1 : Int32) hw ls (lv_sub hl [0] rfl)
-- X2_sameEnds
abbrev rm_X2_sameEnds : Room := { frames := 1, cells := 0, slots := 0, locals := 22 }
set_option maxRecDepth 100000 in
set_option maxHeartbeats 4000000 in
theorem c_X2_sameEnds (l : Launch) (dC : Nat → ClassId) (dI : Nat → Nat → Nat) (cI cJ cZ : ClassId) (ad : Nat → Nat) (x : Nat → Int32) (y : Nat → Int32) (u : Nat → Int32) (sn : Int32) (v1 : Int32) (v2 : Int32) {post : Int32 → Prop} (hw : wp_X2_sameEnds x y v1 v2 post) : Met l yX2_sameEnds wsX2_sameEnds rm_X2_sameEnds (va_Pc [.ref (ad 16), .int v1, .int v2] (fun U => va_P (dC, dI) vwCl (wSeg ad cI cJ cZ x y u sn) U.heap ∧ va_K (dC, dI) vwCl (tyL cI cJ cZ) U)) (vp_Si post) 0 0 (fun _ => False) := by
  unfold wp_X2_sameEnds at hw
  refine Met.ofW (cc := cX2_sameEnds) (maxL := 3) (ret := (some .boolean)) (by decide) rfl ?_
  intro p e s m args below meth c s₁ B hml hv
  obtain ⟨hav, hP, hK⟩ := hv
  have hx := B.exec
  have hb := B.bytes
  have hr := B.returns
  have hts := atoms_spec (ws := wsX2_sameEnds) B.pre
  have hown : s.vm.findClass RX2 = some m.cls := findClass_of_methodNamed B.named
  have hlocks := B.notSynchronized
  have C : CallFix p m c cX2_sameEnds 3 s args wsX2_sameEnds RX2 := ⟨hx, hb, hml, hown, hts⟩
  obtain ⟨ls, hE, hl⟩ := mx_entry (m := m) [.ref (ad 16), .int v1, .int v2] (n := 3) (Nat.le_of_ble_eq_true rfl)
  have hl : lv_has ls 3 [(0, .ref (ad 16)), (1, .int v1), (2, .int v2)] := hl
  rw [show entryFrame m args 3 = F0 m 0 ls [] by rw [hav]; exact hE]
  obtain ⟨Q, hQ⟩ : ∃ Q, MQ below (vp_Si post) args s 0 0 (fun _ => False) = Q := ⟨_, rfl⟩
  rw [hQ]
  obtain ⟨H, hH⟩ : ∃ H, s.heap = H := ⟨_, rfl⟩
  rw [hH]
  rw [hH] at hP
  show W p l e rm_X2_sameEnds s m args below meth c H [] 0 0 Q (F0 m 0 ls [])
  refine lv_aload_n hx hb dX2_sameEnds_0 rfl (lv_at hl 0 rfl) ?_
  refine lv_iconst (v := 2) hx hb dX2_sameEnds_1 (by decide) ?_
  refine lv_iload_n hx hb dX2_sameEnds_2 rfl (lv_at hl 1 rfl) ?_
  refine lv_imul hx hb dX2_sameEnds_3 ?_
  refine lv_iconst (v := 2) hx hb dX2_sameEnds_4 (by decide) ?_
  refine lv_iload_n hx hb dX2_sameEnds_5 rfl (lv_at hl 2 rfl) ?_
  refine lv_imul hx hb dX2_sameEnds_6 ?_
  refine vp_callSi (W.runV (As := [.int ((2 : Int32) * v1), .int ((2 : Int32) * v2)]) (rest := []) C (c_X2_sameBegin l dC dI cI cJ cZ ad x y u sn ((2 : Int32) * v1) ((2 : Int32) * v2) hw) (cwV 2 hts gX2_sameEnds_X2_sameBegin rfl rfl rfl (by decide +kernel) ⟨Nat.le_of_ble_eq_true rfl, Nat.le_of_ble_eq_true rfl⟩) ⟨fb_ro, va_recv hK hP (ci := 2) (q0 := 0) rfl rfl, fun U hU hW => ⟨rfl, by rw [hU]; exact hP, va_K.moved hW.alike hK⟩⟩ rfl rfl hl.1 rfl (lv_room (Nat.le_of_ble_eq_true rfl)) dX2_sameEnds_7 ⟨Nat.zero_le _, Nat.zero_le _⟩) (fun r1 hw => ?_)
  refine jn1_use (J := fun (k2 : Int32) => ∀ ls : Array Slot, lv_has ls 3 [(0, .ref (ad 16))] → W p l e rm_X2_sameEnds s m args below meth c H [] 0 0 Q (F0 m 65 ls [.int k2])) hw (fun k2 hw ls hl => ?_) (fun hw hj0 => ?_)
  · rw [← hQ]
    exact W.zret (v := k2) (ty := .boolean) hx hb hr (bz_n hw.1) (fun t ht hW => ⟨_, rfl, hw.2, ht.trans hH.symm⟩) (fun q h => by cases h) dX2_sameEnds_65
  · have hj4 := hj0
    refine jn0_use (J := ∀ ls : Array Slot, lv_has ls 3 [(0, .ref (ad 16))] → W p l e rm_X2_sameEnds s m args below meth c H [] 0 0 Q (F0 m 60 ls [])) hw (fun hw ls hl => ?_) (fun hw hj0 => ?_)
    · refine lv_iconst (v := 1) hx hb dX2_sameEnds_60 (by decide) ?_
      refine lv_goto (tgt := 65) hx hb dX2_sameEnds_61 (by decide) ?_
      exact hj4 (1 : Int32) hw ls (lv_sub hl [0] rfl)
    · have hj6 := hj0
      refine jn0_use (J := ∀ ls : Array Slot, lv_has ls 3 [(0, .ref (ad 16)), (1, .int v1), (2, .int v2)] → W p l e rm_X2_sameEnds s m args below meth c H [] 0 0 Q (F0 m 30 ls [])) hw (fun hw ls hl => ?_) (fun hw hj0 => ?_)
      · refine lv_aload_n hx hb dX2_sameEnds_30 rfl (lv_at hl 0 rfl) ?_
        refine lv_iconst (v := 2) hx hb dX2_sameEnds_31 (by decide) ?_
        refine lv_iload_n hx hb dX2_sameEnds_32 rfl (lv_at hl 1 rfl) ?_
        refine lv_imul hx hb dX2_sameEnds_33 ?_
        refine lv_iconst (v := 2) hx hb dX2_sameEnds_34 (by decide) ?_
        refine lv_iload_n hx hb dX2_sameEnds_35 rfl (lv_at hl 2 rfl) ?_
        refine lv_imul hx hb dX2_sameEnds_36 ?_
        refine lv_iconst (v := 1) hx hb dX2_sameEnds_37 (by decide) ?_
        refine lv_iadd hx hb dX2_sameEnds_38 ?_
        refine vp_callSi (W.runV (As := [.int ((2 : Int32) * v1), .int (((2 : Int32) * v2) + (1 : Int32))]) (rest := []) C (c_X2_sameBegin l dC dI cI cJ cZ ad x y u sn ((2 : Int32) * v1) (((2 : Int32) * v2) + (1 : Int32)) hw) (cwV 2 hts gX2_sameEnds_X2_sameBegin rfl rfl rfl (by decide +kernel) ⟨Nat.le_of_ble_eq_true rfl, Nat.le_of_ble_eq_true rfl⟩) ⟨fb_ro, va_recv hK hP (ci := 2) (q0 := 0) rfl rfl, fun U hU hW => ⟨rfl, by rw [hU]; exact hP, va_K.moved hW.alike hK⟩⟩ rfl rfl hl.1 rfl (lv_room (Nat.le_of_ble_eq_true rfl)) dX2_sameEnds_39 ⟨Nat.zero_le _, Nat.zero_le _⟩) (fun r9 hw => ?_)
        refine jn0_use (J := ∀ ls : Array Slot, lv_has ls 3 [(0, .ref (ad 16))] → W p l e rm_X2_sameEnds s m args below meth c H [] 0 0 Q (F0 m 64 ls [])) hw (fun hw ls hl => ?_) (fun hw hj0 => ?_)
        · refine lv_iconst (v := 0) hx hb dX2_sameEnds_64 (by decide) ?_
          exact hj4 (0 : Int32) hw ls (lv_sub hl [0] rfl)
        · have hj11 := hj0
          refine lv_if_eq (tgt := 64) hx hb dX2_sameEnds_42 (by decide) (fun hc => ?_) (fun hc => ?_)
          · have hw := hw.1 (hc)
            exact hj11 hw ls (lv_sub hl [0] rfl)
          · have hw := hw.2 hc
            refine lv_aload_n hx hb dX2_sameEnds_45 rfl (lv_at hl 0 rfl) ?_
            refine lv_iconst (v := 2) hx hb dX2_sameEnds_46 (by decide) ?_
            refine lv_iload_n hx hb dX2_sameEnds_47 rfl (lv_at hl 1 rfl) ?_
            refine lv_imul hx hb dX2_sameEnds_48 ?_
            refine lv_iconst (v := 1) hx hb dX2_sameEnds_49 (by decide) ?_
            refine lv_iadd hx hb dX2_sameEnds_50 ?_
            refine lv_iconst (v := 2) hx hb dX2_sameEnds_51 (by decide) ?_
            refine lv_iload_n hx hb dX2_sameEnds_52 rfl (lv_at hl 2 rfl) ?_
            refine lv_imul hx hb dX2_sameEnds_53 ?_
            refine vp_callSi (W.runV (As := [.int (((2 : Int32) * v1) + (1 : Int32)), .int ((2 : Int32) * v2)]) (rest := []) C (c_X2_sameBegin l dC dI cI cJ cZ ad x y u sn (((2 : Int32) * v1) + (1 : Int32)) ((2 : Int32) * v2) hw) (cwV 2 hts gX2_sameEnds_X2_sameBegin rfl rfl rfl (by decide +kernel) ⟨Nat.le_of_ble_eq_true rfl, Nat.le_of_ble_eq_true rfl⟩) ⟨fb_ro, va_recv hK hP (ci := 2) (q0 := 0) rfl rfl, fun U hU hW => ⟨rfl, by rw [hU]; exact hP, va_K.moved hW.alike hK⟩⟩ rfl rfl hl.1 rfl (lv_room (Nat.le_of_ble_eq_true rfl)) dX2_sameEnds_54 ⟨Nat.zero_le _, Nat.zero_le _⟩) (fun r12 hw => ?_)
            refine lv_if_eq (tgt := 64) hx hb dX2_sameEnds_57 (by decide) (fun hc => ?_) (fun hc => ?_)
            · have hw := hw.1 (hc)
              exact hj11 hw ls (lv_sub hl [0] rfl)
            · have hw := hw.2 hc
              exact hj6 hw ls (lv_sub hl [0] rfl)
      · have hj8 := hj0
        refine lv_if_eq (tgt := 30) hx hb dX2_sameEnds_10 (by decide) (fun hc => ?_) (fun hc => ?_)
        · have hw := hw.1 (hc)
          exact hj8 hw ls (lv_sub hl [0, 1, 2] rfl)
        · have hw := hw.2 hc
          refine lv_aload_n hx hb dX2_sameEnds_13 rfl (lv_at hl 0 rfl) ?_
          refine lv_iconst (v := 2) hx hb dX2_sameEnds_14 (by decide) ?_
          refine lv_iload_n hx hb dX2_sameEnds_15 rfl (lv_at hl 1 rfl) ?_
          refine lv_imul hx hb dX2_sameEnds_16 ?_
          refine lv_iconst (v := 1) hx hb dX2_sameEnds_17 (by decide) ?_
          refine lv_iadd hx hb dX2_sameEnds_18 ?_
          refine lv_iconst (v := 2) hx hb dX2_sameEnds_19 (by decide) ?_
          refine lv_iload_n hx hb dX2_sameEnds_20 rfl (lv_at hl 2 rfl) ?_
          refine lv_imul hx hb dX2_sameEnds_21 ?_
          refine lv_iconst (v := 1) hx hb dX2_sameEnds_22 (by decide) ?_
          refine lv_iadd hx hb dX2_sameEnds_23 ?_
          refine vp_callSi (W.runV (As := [.int (((2 : Int32) * v1) + (1 : Int32)), .int (((2 : Int32) * v2) + (1 : Int32))]) (rest := []) C (c_X2_sameBegin l dC dI cI cJ cZ ad x y u sn (((2 : Int32) * v1) + (1 : Int32)) (((2 : Int32) * v2) + (1 : Int32)) hw) (cwV 2 hts gX2_sameEnds_X2_sameBegin rfl rfl rfl (by decide +kernel) ⟨Nat.le_of_ble_eq_true rfl, Nat.le_of_ble_eq_true rfl⟩) ⟨fb_ro, va_recv hK hP (ci := 2) (q0 := 0) rfl rfl, fun U hU hW => ⟨rfl, by rw [hU]; exact hP, va_K.moved hW.alike hK⟩⟩ rfl rfl hl.1 rfl (lv_room (Nat.le_of_ble_eq_true rfl)) dX2_sameEnds_24 ⟨Nat.zero_le _, Nat.zero_le _⟩) (fun r13 hw => ?_)
          refine lv_if_ne (tgt := 60) hx hb dX2_sameEnds_27 (by decide) (fun hc => ?_) (fun hc => ?_)
          · have hw := hw.2 hc
            exact hj6 hw ls (lv_sub hl [0] rfl)
          · have hw := hw.1 (hc)
            exact hj8 hw ls (lv_sub hl [0, 1, 2] rfl)
-- X2_parts
abbrev rm_X2_parts : Room := { frames := 1, cells := 0, slots := 0, locals := 27 }
theorem f_X2_parts_0 : (Cond.fieldLink RX2 9 "PlaneFaces$Segments" "x" "[I") ∈ wsX2_parts := by decide +kernel
theorem f_X2_parts_1 : ∀ w ∈ wsX20, w ∈ wsX2_parts := by decide +kernel
theorem f_X2_parts_2 : (Cond.fieldLink RX2 15 "PlaneFaces$Segments" "y" "[I") ∈ wsX2_parts := by decide +kernel
set_option maxRecDepth 100000 in
set_option maxHeartbeats 4000000 in
theorem c_X2_parts (l : Launch) (dC : Nat → ClassId) (dI : Nat → Nat → Nat) (cI cJ cZ : ClassId) (ad : Nat → Nat) (x : Nat → Int32) (y : Nat → Int32) (u : Nat → Int32) (sn : Int32) (v1 : Int32) (v2 : Int32) {post : Int32 → Prop} (hw : wp_X2_parts x y v1 v2 post) : Met l yX2_parts wsX2_parts rm_X2_parts (va_Pc [.ref (ad 16), .int v1, .int v2] (fun U => va_P (dC, dI) vwCl (wSeg ad cI cJ cZ x y u sn) U.heap ∧ va_K (dC, dI) vwCl (tyL cI cJ cZ) U)) (vp_Si post) 0 0 (fun _ => False) := by
  unfold wp_X2_parts at hw
  refine Met.ofW (cc := cX2_parts) (maxL := 7) (ret := (some .boolean)) (by decide) rfl ?_
  intro p e s m args below meth c s₁ B hml hv
  obtain ⟨hav, hP, hK⟩ := hv
  have hx := B.exec
  have hb := B.bytes
  have hr := B.returns
  have hts := atoms_spec (ws := wsX2_parts) B.pre
  have hown : s.vm.findClass RX2 = some m.cls := findClass_of_methodNamed B.named
  have hlocks := B.notSynchronized
  have C : CallFix p m c cX2_parts 7 s args wsX2_parts RX2 := ⟨hx, hb, hml, hown, hts⟩
  obtain ⟨ls, hE, hl⟩ := mx_entry (m := m) [.ref (ad 16), .int v1, .int v2] (n := 7) (Nat.le_of_ble_eq_true rfl)
  have hl : lv_has ls 7 [(0, .ref (ad 16)), (1, .int v1), (2, .int v2)] := hl
  rw [show entryFrame m args 7 = F0 m 0 ls [] by rw [hav]; exact hE]
  obtain ⟨Q, hQ⟩ : ∃ Q, MQ below (vp_Si post) args s 0 0 (fun _ => False) = Q := ⟨_, rfl⟩
  rw [hQ]
  obtain ⟨H, hH⟩ : ∃ H, s.heap = H := ⟨_, rfl⟩
  rw [hH]
  rw [hH] at hP
  show W p l e rm_X2_parts s m args below meth c H [] 0 0 Q (F0 m 0 ls [])
  refine lv_aload_n hx hb dX2_parts_0 rfl (lv_at hl 0 rfl) ?_
  refine lv_iload_n hx hb dX2_parts_1 rfl (lv_at hl 1 rfl) ?_
  refine lv_aload_n hx hb dX2_parts_2 rfl (lv_at hl 0 rfl) ?_
  refine va_get (D := (dC, dI)) (ci := 2) (v := .ref (ad 17)) (C := RX2) (T := TX2) (N := 4) hx hb hts f_X2_parts_1 hown hK hP 0 rfl rfl 0 (by decide) (hts _ f_X2_parts_0) (fun _ h9 => h9) rfl dX2_parts_3 ?_
  refine lv_iload_n hx hb dX2_parts_6 rfl (lv_at hl 2 rfl) ?_
  have hi := hw.1
  have hw := hw.2
  refine va_iald hx hb hK hP 1 0 rfl rfl hi dX2_parts_7 ?_
  refine lv_aload_n hx hb dX2_parts_8 rfl (lv_at hl 0 rfl) ?_
  refine va_get (D := (dC, dI)) (ci := 2) (v := .ref (ad 18)) (C := RX2) (T := TX2) (N := 4) hx hb hts f_X2_parts_1 hown hK hP 0 rfl rfl 1 (by decide) (hts _ f_X2_parts_2) (fun _ h9 => h9) rfl dX2_parts_9 ?_
  refine lv_iload_n hx hb dX2_parts_12 rfl (lv_at hl 2 rfl) ?_
  have hi := hw.1
  have hw := hw.2
  refine va_iald hx hb hK hP 2 0 rfl rfl hi dX2_parts_13 ?_
  refine vp_callSl (W.runV (As := [.int v1, .int (x v2.toNatClampNeg), .int (y v2.toNatClampNeg)]) (rest := []) C (c_X2_side l dC dI cI cJ cZ ad x y u sn v1 (x v2.toNatClampNeg) (y v2.toNatClampNeg) hw) (cwV 3 hts gX2_parts_X2_side rfl rfl rfl (by decide +kernel) ⟨Nat.le_of_ble_eq_true rfl, Nat.le_of_ble_eq_true rfl⟩) ⟨fb_ro, va_recv hK hP (ci := 2) (q0 := 0) rfl rfl, fun U hU hW => ⟨rfl, by rw [hU]; exact hP, va_K.moved hW.alike hK⟩⟩ rfl rfl hl.1 rfl (lv_room (Nat.le_of_ble_eq_true rfl)) dX2_parts_14 ⟨Nat.zero_le _, Nat.zero_le _⟩) (fun r1 hw => ?_)
  refine lv_lstore_n (lv' := [(3, .long r1), (0, .ref (ad 16)), (1, .int v1), (2, .int v2)]) hx hb dX2_parts_17 rfl hl (by decide) rfl (fun ls hl => ?_)
  refine lv_aload_n hx hb dX2_parts_18 rfl (lv_at hl 1 rfl) ?_
  refine lv_iload_n hx hb dX2_parts_19 rfl (lv_at hl 2 rfl) ?_
  refine lv_aload_n hx hb dX2_parts_20 rfl (lv_at hl 1 rfl) ?_
  refine va_get (D := (dC, dI)) (ci := 2) (v := .ref (ad 17)) (C := RX2) (T := TX2) (N := 4) hx hb hts f_X2_parts_1 hown hK hP 0 rfl rfl 0 (by decide) (hts _ f_X2_parts_0) (fun _ h9 => h9) rfl dX2_parts_21 ?_
  refine lv_iload_n hx hb dX2_parts_24 rfl (lv_at hl 3 rfl) ?_
  refine lv_iconst (v := 1) hx hb dX2_parts_25 (by decide) ?_
  refine lv_ixor hx hb dX2_parts_26 ?_
  have hi := hw.1
  have hw := hw.2
  refine va_iald hx hb hK hP 1 0 rfl rfl hi dX2_parts_27 ?_
  refine lv_aload_n hx hb dX2_parts_28 rfl (lv_at hl 1 rfl) ?_
  refine va_get (D := (dC, dI)) (ci := 2) (v := .ref (ad 18)) (C := RX2) (T := TX2) (N := 4) hx hb hts f_X2_parts_1 hown hK hP 0 rfl rfl 1 (by decide) (hts _ f_X2_parts_2) (fun _ h9 => h9) rfl dX2_parts_29 ?_
  refine lv_iload_n hx hb dX2_parts_32 rfl (lv_at hl 3 rfl) ?_
  refine lv_iconst (v := 1) hx hb dX2_parts_33 (by decide) ?_
  refine lv_ixor hx hb dX2_parts_34 ?_
  have hi := hw.1
  have hw := hw.2
  refine va_iald hx hb hK hP 2 0 rfl rfl hi dX2_parts_35 ?_
  refine vp_callSl (W.runV (As := [.int v1, .int (x (v2 ^^^ (1 : Int32)).toNatClampNeg), .int (y (v2 ^^^ (1 : Int32)).toNatClampNeg)]) (rest := []) C (c_X2_side l dC dI cI cJ cZ ad x y u sn v1 (x (v2 ^^^ (1 : Int32)).toNatClampNeg) (y (v2 ^^^ (1 : Int32)).toNatClampNeg) hw) (cwV 3 hts gX2_parts_X2_side rfl rfl rfl (by decide +kernel) ⟨Nat.le_of_ble_eq_true rfl, Nat.le_of_ble_eq_true rfl⟩) ⟨fb_ro, va_recv hK hP (ci := 2) (q0 := 0) rfl rfl, fun U hU hW => ⟨rfl, by rw [hU]; exact hP, va_K.moved hW.alike hK⟩⟩ rfl rfl hl.1 rfl (lv_room (Nat.le_of_ble_eq_true rfl)) dX2_parts_36 ⟨Nat.zero_le _, Nat.zero_le _⟩) (fun r2 hw => ?_)
  refine lv_lstore (lv' := [(5, .long r2), (3, .long r1), (0, .ref (ad 16)), (1, .int v1), (2, .int v2)]) hx hb dX2_parts_39 hl (by decide) rfl (fun ls hl => ?_)
  refine lv_lload_n hx hb dX2_parts_41 rfl (lv_at hl 1 rfl) ?_
  refine lv_lconst (v := 0) hx hb dX2_parts_42 (by decide) ?_
  refine W.lcmp hx hb dX2_parts_43 ?_
  refine jn1_use (J := fun (k3 : Int32) => ∀ ls : Array Slot, lv_has ls 7 [(0, .ref (ad 16))] → W p l e rm_X2_parts s m args below meth c H [] 0 0 Q (F0 m 72 ls [.int k3])) hw (fun k3 hw ls hl => ?_) (fun hw hj0 => ?_)
  · rw [← hQ]
    exact W.zret (v := k3) (ty := .boolean) hx hb hr (bz_n hw.1) (fun t ht hW => ⟨_, rfl, hw.2, ht.trans hH.symm⟩) (fun q h => by cases h) dX2_parts_72
  · have hj5 := hj0
    refine jn0_use (J := ∀ ls : Array Slot, lv_has ls 7 [(0, .ref (ad 16))] → W p l e rm_X2_parts s m args below meth c H [] 0 0 Q (F0 m 67 ls [])) hw (fun hw ls hl => ?_) (fun hw hj0 => ?_)
    · refine lv_iconst (v := 1) hx hb dX2_parts_67 (by decide) ?_
      refine lv_goto (tgt := 72) hx hb dX2_parts_68 (by decide) ?_
      exact hj5 (1 : Int32) hw ls (lv_sub hl [0] rfl)
    · have hj7 := hj0
      refine jn0_use (J := ∀ ls : Array Slot, lv_has ls 7 [(0, .ref (ad 16)), (3, .long r1), (5, .long r2)] → W p l e rm_X2_parts s m args below meth c H [] 0 0 Q (F0 m 54 ls [])) hw (fun hw ls hl => ?_) (fun hw hj0 => ?_)
      · refine lv_lload_n hx hb dX2_parts_54 rfl (lv_at hl 1 rfl) ?_
        refine lv_lconst (v := 0) hx hb dX2_parts_55 (by decide) ?_
        refine W.lcmp hx hb dX2_parts_56 ?_
        refine jn0_use (J := ∀ ls : Array Slot, lv_has ls 7 [(0, .ref (ad 16))] → W p l e rm_X2_parts s m args below meth c H [] 0 0 Q (F0 m 71 ls [])) hw (fun hw ls hl => ?_) (fun hw hj0 => ?_)
        · refine lv_iconst (v := 0) hx hb dX2_parts_71 (by decide) ?_
          exact hj5 (0 : Int32) hw ls (lv_sub hl [0] rfl)
        · have hj11 := hj0
          refine lv_if_le (tgt := 71) hx hb dX2_parts_57 (by decide) (fun hc => ?_) (fun hc => ?_)
          · have hw := hw.1 ((lg_cmp_le _ _).mp hc)
            exact hj11 hw ls (lv_sub hl [0] rfl)
          · have hw := hw.2 (fun h9 => hc ((lg_cmp_le _ _).mpr h9))
            refine lv_lload hx hb dX2_parts_60 (lv_at hl 2 rfl) ?_
            refine lv_lconst (v := 0) hx hb dX2_parts_62 (by decide) ?_
            refine W.lcmp hx hb dX2_parts_63 ?_
            refine lv_if_ge (tgt := 71) hx hb dX2_parts_64 (by decide) (fun hc => ?_) (fun hc => ?_)
            · have hw := hw.1 ((lg_cmp_ge _ _).mp hc)
              exact hj11 hw ls (lv_sub hl [0] rfl)
            · have hw := hw.2 (fun h9 => hc ((lg_cmp_ge _ _).mpr h9))
              exact hj7 hw ls (lv_sub hl [0] rfl)
      · have hj9 := hj0
        refine lv_if_ge (tgt := 54) hx hb dX2_parts_44 (by decide) (fun hc => ?_) (fun hc => ?_)
        · have hw := hw.1 ((lg_cmp_ge _ _).mp hc)
          exact hj9 hw ls (lv_sub hl [2, 1, 0] rfl)
        · have hw := hw.2 (fun h9 => hc ((lg_cmp_ge _ _).mpr h9))
          refine lv_lload hx hb dX2_parts_47 (lv_at hl 0 rfl) ?_
          refine lv_lconst (v := 0) hx hb dX2_parts_49 (by decide) ?_
          refine W.lcmp hx hb dX2_parts_50 ?_
          refine lv_if_gt (tgt := 67) hx hb dX2_parts_51 (by decide) (fun hc => ?_) (fun hc => ?_)
          · have hw := hw.1 ((lg_cmp_gt _ _).mp hc)
            exact hj7 hw ls (lv_sub hl [2] rfl)
          · have hw := hw.2 (fun h9 => hc ((lg_cmp_gt _ _).mpr h9))
            exact hj9 hw ls (lv_sub hl [2, 1, 0] rfl)
-- X2_crosses
abbrev rm_X2_crosses : Room := { frames := 2, cells := 0, slots := 0, locals := 53 }
set_option maxRecDepth 100000 in
set_option maxHeartbeats 4000000 in
theorem c_X2_crosses (l : Launch) (dC : Nat → ClassId) (dI : Nat → Nat → Nat) (cI cJ cZ : ClassId) (ad : Nat → Nat) (x : Nat → Int32) (y : Nat → Int32) (u : Nat → Int32) (sn : Int32) (v1 : Int32) (v2 : Int32) {post : Int32 → Prop} (hw : wp_X2_crosses x y v1 v2 post) : Met l yX2_crosses wsX2_crosses rm_X2_crosses (va_Pc [.ref (ad 16), .int v1, .int v2] (fun U => va_P (dC, dI) vwCl (wSeg ad cI cJ cZ x y u sn) U.heap ∧ va_K (dC, dI) vwCl (tyL cI cJ cZ) U)) (vp_Si post) 0 0 (fun _ => False) := by
  unfold wp_X2_crosses at hw
  refine Met.ofW (cc := cX2_crosses) (maxL := 3) (ret := (some .boolean)) (by decide) rfl ?_
  intro p e s m args below meth c s₁ B hml hv
  obtain ⟨hav, hP, hK⟩ := hv
  have hx := B.exec
  have hb := B.bytes
  have hr := B.returns
  have hts := atoms_spec (ws := wsX2_crosses) B.pre
  have hown : s.vm.findClass RX2 = some m.cls := findClass_of_methodNamed B.named
  have hlocks := B.notSynchronized
  have C : CallFix p m c cX2_crosses 3 s args wsX2_crosses RX2 := ⟨hx, hb, hml, hown, hts⟩
  obtain ⟨ls, hE, hl⟩ := mx_entry (m := m) [.ref (ad 16), .int v1, .int v2] (n := 3) (Nat.le_of_ble_eq_true rfl)
  have hl : lv_has ls 3 [(0, .ref (ad 16)), (1, .int v1), (2, .int v2)] := hl
  rw [show entryFrame m args 3 = F0 m 0 ls [] by rw [hav]; exact hE]
  obtain ⟨Q, hQ⟩ : ∃ Q, MQ below (vp_Si post) args s 0 0 (fun _ => False) = Q := ⟨_, rfl⟩
  rw [hQ]
  obtain ⟨H, hH⟩ : ∃ H, s.heap = H := ⟨_, rfl⟩
  rw [hH]
  rw [hH] at hP
  show W p l e rm_X2_crosses s m args below meth c H [] 0 0 Q (F0 m 0 ls [])
  refine lv_aload_n hx hb dX2_crosses_0 rfl (lv_at hl 0 rfl) ?_
  refine lv_iconst (v := 2) hx hb dX2_crosses_1 (by decide) ?_
  refine lv_iload_n hx hb dX2_crosses_2 rfl (lv_at hl 1 rfl) ?_
  refine lv_imul hx hb dX2_crosses_3 ?_
  refine lv_iconst (v := 2) hx hb dX2_crosses_4 (by decide) ?_
  refine lv_iload_n hx hb dX2_crosses_5 rfl (lv_at hl 2 rfl) ?_
  refine lv_imul hx hb dX2_crosses_6 ?_
  refine vp_callSi (W.runV (As := [.int ((2 : Int32) * v1), .int ((2 : Int32) * v2)]) (rest := []) C (c_X2_parts l dC dI cI cJ cZ ad x y u sn ((2 : Int32) * v1) ((2 : Int32) * v2) hw) (cwV 2 hts gX2_crosses_X2_parts rfl rfl rfl (by decide +kernel) ⟨Nat.le_of_ble_eq_true rfl, Nat.le_of_ble_eq_true rfl⟩) ⟨fb_ro, va_recv hK hP (ci := 2) (q0 := 0) rfl rfl, fun U hU hW => ⟨rfl, by rw [hU]; exact hP, va_K.moved hW.alike hK⟩⟩ rfl rfl hl.1 rfl (lv_room (Nat.le_of_ble_eq_true rfl)) dX2_crosses_7 ⟨Nat.zero_le _, Nat.zero_le _⟩) (fun r1 hw => ?_)
  refine jn1_use (J := fun (k2 : Int32) => ∀ ls : Array Slot, lv_has ls 3 [(0, .ref (ad 16))] → W p l e rm_X2_crosses s m args below meth c H [] 0 0 Q (F0 m 31 ls [.int k2])) hw (fun k2 hw ls hl => ?_) (fun hw hj0 => ?_)
  · rw [← hQ]
    exact W.zret (v := k2) (ty := .boolean) hx hb hr (bz_n hw.1) (fun t ht hW => ⟨_, rfl, hw.2, ht.trans hH.symm⟩) (fun q h => by cases h) dX2_crosses_31
  · have hj4 := hj0
    refine jn0_use (J := ∀ ls : Array Slot, lv_has ls 3 [(0, .ref (ad 16))] → W p l e rm_X2_crosses s m args below meth c H [] 0 0 Q (F0 m 30 ls [])) hw (fun hw ls hl => ?_) (fun hw hj0 => ?_)
    · refine lv_iconst (v := 0) hx hb dX2_crosses_30 (by decide) ?_
      exact hj4 (0 : Int32) hw ls (lv_sub hl [0] rfl)
    · have hj6 := hj0
      refine lv_if_eq (tgt := 30) hx hb dX2_crosses_10 (by decide) (fun hc => ?_) (fun hc => ?_)
      · have hw := hw.1 (hc)
        exact hj6 hw ls (lv_sub hl [0] rfl)
      · have hw := hw.2 hc
        refine lv_aload_n hx hb dX2_crosses_13 rfl (lv_at hl 0 rfl) ?_
        refine lv_iconst (v := 2) hx hb dX2_crosses_14 (by decide) ?_
        refine lv_iload_n hx hb dX2_crosses_15 rfl (lv_at hl 2 rfl) ?_
        refine lv_imul hx hb dX2_crosses_16 ?_
        refine lv_iconst (v := 2) hx hb dX2_crosses_17 (by decide) ?_
        refine lv_iload_n hx hb dX2_crosses_18 rfl (lv_at hl 1 rfl) ?_
        refine lv_imul hx hb dX2_crosses_19 ?_
        refine vp_callSi (W.runV (As := [.int ((2 : Int32) * v2), .int ((2 : Int32) * v1)]) (rest := []) C (c_X2_parts l dC dI cI cJ cZ ad x y u sn ((2 : Int32) * v2) ((2 : Int32) * v1) hw) (cwV 2 hts gX2_crosses_X2_parts rfl rfl rfl (by decide +kernel) ⟨Nat.le_of_ble_eq_true rfl, Nat.le_of_ble_eq_true rfl⟩) ⟨fb_ro, va_recv hK hP (ci := 2) (q0 := 0) rfl rfl, fun U hU hW => ⟨rfl, by rw [hU]; exact hP, va_K.moved hW.alike hK⟩⟩ rfl rfl hl.1 rfl (lv_room (Nat.le_of_ble_eq_true rfl)) dX2_crosses_20 ⟨Nat.zero_le _, Nat.zero_le _⟩) (fun r7 hw => ?_)
        refine lv_if_eq (tgt := 30) hx hb dX2_crosses_23 (by decide) (fun hc => ?_) (fun hc => ?_)
        · have hw := hw.1 (hc)
          exact hj6 hw ls (lv_sub hl [0] rfl)
        · have hw := hw.2 hc
          refine lv_iconst (v := 1) hx hb dX2_crosses_26 (by decide) ?_
          refine lv_goto (tgt := 31) hx hb dX2_crosses_27 (by decide) ?_
          exact hj4 (1 : Int32) hw ls (lv_sub hl [0] rfl)
-- X2_clashes
abbrev rm_X2_clashes : Room := { frames := 3, cells := 0, slots := 0, locals := 76 }
theorem f_X2_clashes_0 : (Cond.fieldLink RX2 18 "PlaneFaces$Segments" "used" "[Z") ∈ wsX2_clashes := by decide +kernel
theorem f_X2_clashes_1 : ∀ w ∈ wsX20, w ∈ wsX2_clashes := by decide +kernel
set_option maxRecDepth 100000 in
set_option maxHeartbeats 4000000 in
theorem l_X2_clashes_2 {p : Program} {l : Launch} {e : Env} {s : State} {m : MethodId} {args : Array Value} {below : List Frame} {meth : Method} {c : Code} {Q : State → Prop} {dC : Nat → ClassId} {dI : Nat → Nat → Nat} {cI cJ cZ : ClassId} {ad : Nat → Nat} {x : Nat → Int32} {y : Nat → Int32} {u : Nat → Int32} {sn : Int32} {v1 : Int32} {K53 : Prop} {K61 : Prop} (C : CallFix p m c cX2_clashes 3 s args wsX2_clashes RX2) (hK : va_K (dC, dI) vwCl (tyL cI cJ cZ) s) {H : Heap} (hP : va_P (dC, dI) vwCl (wSeg ad cI cJ cZ x y u sn) H) (hk53 : ∀  (ls : Array Slot), lv_has ls 3 [(0, .ref (ad 16))] → K53 → W p l e rm_X2_clashes s m args below meth c H [] 0 0 Q (F0 m 53 ls [])) (hk61 : ∀  (ls : Array Slot), lv_has ls 3 [(0, .ref (ad 16))] → K61 → W p l e rm_X2_clashes s m args below meth c H [] 0 0 Q (F0 m 61 ls [])) : ∀ (n : Nat) (v2 : Int32) (ls : Array Slot), lv_has ls 3 [(0, .ref (ad 16)), (1, .int v1), (2, .int v2)] → lp_X2_clashes_2 x y u v1 K53 K61 n v2 → W p l e rm_X2_clashes s m args below meth c H [] 0 0 Q (F0 m 2 ls []) := by
  obtain ⟨hx, hb, hml, hown, hts⟩ := id C
  intro n
  induction n with
  | zero =>
    intro v2 ls hl hw
    rw [lp_X2_clashes_2.eq_1] at hw
    exact hw.elim
  | succ n ih =>
    intro v2 ls hl hw
    rw [lp_X2_clashes_2.eq_2] at hw
    refine lv_iload_n hx hb dX2_clashes_2 rfl (lv_at hl 2 rfl) ?_
    refine lv_bipush (v := 60) hx hb dX2_clashes_3 (by decide) ?_
    refine lv_icmp_ge (tgt := 61) hx hb dX2_clashes_5 (by decide) (fun hc => ?_) (fun hc => ?_)
    · have hw := hw.1 (hc)
      exact hk61 ls (lv_sub hl [0] rfl) hw
    · have hw := hw.2 hc
      refine lv_aload_n hx hb dX2_clashes_8 rfl (lv_at hl 0 rfl) ?_
      refine va_get (D := (dC, dI)) (ci := 2) (v := .ref (ad 19)) (C := RX2) (T := TX2) (N := 4) hx hb hts f_X2_clashes_1 hown hK hP 0 rfl rfl 2 (by decide) (hts _ f_X2_clashes_0) (fun _ h9 => h9) rfl dX2_clashes_9 ?_
      refine lv_iload_n hx hb dX2_clashes_12 rfl (lv_at hl 2 rfl) ?_
      have hi := hw.1
      have hw := hw.2
      refine va_zald hx hb hK hP 3 2 rfl rfl hi dX2_clashes_13 ?_
      refine jn0_use (J := ∀ ls : Array Slot, lv_has ls 3 [(0, .ref (ad 16)), (1, .int v1), (2, .int v2)] → W p l e rm_X2_clashes s m args below meth c H [] 0 0 Q (F0 m 55 ls [])) hw (fun hw ls hl => ?_) (fun hw hj0 => ?_)
      · refine lv_iinc (v := (v2 + (1 : Int32))) (lv' := [(2, .int (v2 + (1 : Int32))), (0, .ref (ad 16)), (1, .int v1)]) hx hb dX2_clashes_55 hl (k := 2) rfl rfl (by decide) rfl (fun ls hl => ?_)
        refine lv_goto (tgt := 2) hx hb dX2_clashes_58 (by decide) ?_
        exact ih (v2 + (1 : Int32)) ls (lv_sub hl [1, 2, 0] rfl) hw
      · have hj2 := hj0
        refine lv_if_eq (tgt := 55) hx hb dX2_clashes_14 (by decide) (fun hc => ?_) (fun hc => ?_)
        · have hw := hw.1 (hc)
          exact hj2 hw ls (lv_sub hl [0, 1, 2] rfl)
        · have hw := hw.2 hc
          refine lv_aload_n hx hb dX2_clashes_17 rfl (lv_at hl 0 rfl) ?_
          refine lv_iload_n hx hb dX2_clashes_18 rfl (lv_at hl 1 rfl) ?_
          refine lv_iload_n hx hb dX2_clashes_19 rfl (lv_at hl 2 rfl) ?_
          refine vp_callSi (W.runV (As := [.int v1, .int v2]) (rest := []) C (c_X2_touches l dC dI cI cJ cZ ad x y u sn v1 v2 hw) (cwV 2 hts gX2_clashes_X2_touches rfl rfl rfl (by decide +kernel) ⟨Nat.le_of_ble_eq_true rfl, Nat.le_of_ble_eq_true rfl⟩) ⟨fb_ro, va_recv hK hP (ci := 2) (q0 := 0) rfl rfl, fun U hU hW => ⟨rfl, by rw [hU]; exact hP, va_K.moved hW.alike hK⟩⟩ rfl rfl hl.1 rfl (lv_room (Nat.le_of_ble_eq_true rfl)) dX2_clashes_20 ⟨Nat.zero_le _, Nat.zero_le _⟩) (fun r3 hw => ?_)
          refine lv_if_ne (tgt := 53) hx hb dX2_clashes_23 (by decide) (fun hc => ?_) (fun hc => ?_)
          · have hw := hw.2 hc
            exact hk53 ls (lv_sub hl [0] rfl) hw
          · have hw := hw.1 (hc)
            refine lv_aload_n hx hb dX2_clashes_26 rfl (lv_at hl 0 rfl) ?_
            refine lv_iload_n hx hb dX2_clashes_27 rfl (lv_at hl 2 rfl) ?_
            refine lv_iload_n hx hb dX2_clashes_28 rfl (lv_at hl 1 rfl) ?_
            refine vp_callSi (W.runV (As := [.int v2, .int v1]) (rest := []) C (c_X2_touches l dC dI cI cJ cZ ad x y u sn v2 v1 hw) (cwV 2 hts gX2_clashes_X2_touches rfl rfl rfl (by decide +kernel) ⟨Nat.le_of_ble_eq_true rfl, Nat.le_of_ble_eq_true rfl⟩) ⟨fb_ro, va_recv hK hP (ci := 2) (q0 := 0) rfl rfl, fun U hU hW => ⟨rfl, by rw [hU]; exact hP, va_K.moved hW.alike hK⟩⟩ rfl rfl hl.1 rfl (lv_room (Nat.le_of_ble_eq_true rfl)) dX2_clashes_29 ⟨Nat.zero_le _, Nat.zero_le _⟩) (fun r4 hw => ?_)
            refine lv_if_ne (tgt := 53) hx hb dX2_clashes_32 (by decide) (fun hc => ?_) (fun hc => ?_)
            · have hw := hw.2 hc
              exact hk53 ls (lv_sub hl [0] rfl) hw
            · have hw := hw.1 (hc)
              refine lv_aload_n hx hb dX2_clashes_35 rfl (lv_at hl 0 rfl) ?_
              refine lv_iload_n hx hb dX2_clashes_36 rfl (lv_at hl 1 rfl) ?_
              refine lv_iload_n hx hb dX2_clashes_37 rfl (lv_at hl 2 rfl) ?_
              refine vp_callSi (W.runV (As := [.int v1, .int v2]) (rest := []) C (c_X2_sameEnds l dC dI cI cJ cZ ad x y u sn v1 v2 hw) (cwV 2 hts gX2_clashes_X2_sameEnds rfl rfl rfl (by decide +kernel) ⟨Nat.le_of_ble_eq_true rfl, Nat.le_of_ble_eq_true rfl⟩) ⟨fb_ro, va_recv hK hP (ci := 2) (q0 := 0) rfl rfl, fun U hU hW => ⟨rfl, by rw [hU]; exact hP, va_K.moved hW.alike hK⟩⟩ rfl rfl hl.1 rfl (lv_room (Nat.le_of_ble_eq_true rfl)) dX2_clashes_38 ⟨Nat.zero_le _, Nat.zero_le _⟩) (fun r5 hw => ?_)
              refine lv_if_ne (tgt := 53) hx hb dX2_clashes_41 (by decide) (fun hc => ?_) (fun hc => ?_)
              · have hw := hw.2 hc
                exact hk53 ls (lv_sub hl [0] rfl) hw
              · have hw := hw.1 (hc)
                refine lv_aload_n hx hb dX2_clashes_44 rfl (lv_at hl 0 rfl) ?_
                refine lv_iload_n hx hb dX2_clashes_45 rfl (lv_at hl 1 rfl) ?_
                refine lv_iload_n hx hb dX2_clashes_46 rfl (lv_at hl 2 rfl) ?_
                refine vp_callSi (W.runV (As := [.int v1, .int v2]) (rest := []) C (c_X2_crosses l dC dI cI cJ cZ ad x y u sn v1 v2 hw) (cwV 2 hts gX2_clashes_X2_crosses rfl rfl rfl (by decide +kernel) ⟨Nat.le_of_ble_eq_true rfl, Nat.le_of_ble_eq_true rfl⟩) ⟨fb_ro, va_recv hK hP (ci := 2) (q0 := 0) rfl rfl, fun U hU hW => ⟨rfl, by rw [hU]; exact hP, va_K.moved hW.alike hK⟩⟩ rfl rfl hl.1 rfl (lv_room (Nat.le_of_ble_eq_true rfl)) dX2_clashes_47 ⟨Nat.zero_le _, Nat.zero_le _⟩) (fun r6 hw => ?_)
                refine lv_if_eq (tgt := 55) hx hb dX2_clashes_50 (by decide) (fun hc => ?_) (fun hc => ?_)
                · have hw := hw.1 (hc)
                  exact hj2 hw ls (lv_sub hl [0, 1, 2] rfl)
                · have hw := hw.2 hc
                  exact hk53 ls (lv_sub hl [0] rfl) hw
set_option maxRecDepth 100000 in
set_option maxHeartbeats 4000000 in
theorem c_X2_clashes (l : Launch) (dC : Nat → ClassId) (dI : Nat → Nat → Nat) (cI cJ cZ : ClassId) (ad : Nat → Nat) (x : Nat → Int32) (y : Nat → Int32) (u : Nat → Int32) (sn : Int32) (v1 : Int32) {post : Int32 → Prop} (hw : wp_X2_clashes x y u v1 post) : Met l yX2_clashes wsX2_clashes rm_X2_clashes (va_Pc [.ref (ad 16), .int v1] (fun U => va_P (dC, dI) vwCl (wSeg ad cI cJ cZ x y u sn) U.heap ∧ va_K (dC, dI) vwCl (tyL cI cJ cZ) U)) (vp_Si post) 0 0 (fun _ => False) := by
  unfold wp_X2_clashes at hw
  refine Met.ofW (cc := cX2_clashes) (maxL := 3) (ret := (some .boolean)) (by decide) rfl ?_
  intro p e s m args below meth c s₁ B hml hv
  obtain ⟨hav, hP, hK⟩ := hv
  have hx := B.exec
  have hb := B.bytes
  have hr := B.returns
  have hts := atoms_spec (ws := wsX2_clashes) B.pre
  have hown : s.vm.findClass RX2 = some m.cls := findClass_of_methodNamed B.named
  have hlocks := B.notSynchronized
  have C : CallFix p m c cX2_clashes 3 s args wsX2_clashes RX2 := ⟨hx, hb, hml, hown, hts⟩
  obtain ⟨ls, hE, hl⟩ := mx_entry (m := m) [.ref (ad 16), .int v1] (n := 3) (Nat.le_of_ble_eq_true rfl)
  have hl : lv_has ls 3 [(0, .ref (ad 16)), (1, .int v1)] := hl
  rw [show entryFrame m args 3 = F0 m 0 ls [] by rw [hav]; exact hE]
  obtain ⟨Q, hQ⟩ : ∃ Q, MQ below (vp_Si post) args s 0 0 (fun _ => False) = Q := ⟨_, rfl⟩
  rw [hQ]
  obtain ⟨H, hH⟩ : ∃ H, s.heap = H := ⟨_, rfl⟩
  rw [hH]
  rw [hH] at hP
  show W p l e rm_X2_clashes s m args below meth c H [] 0 0 Q (F0 m 0 ls [])
  refine lv_iconst (v := 0) hx hb dX2_clashes_0 (by decide) ?_
  refine lv_istore_n (lv' := [(2, .int (0 : Int32)), (0, .ref (ad 16)), (1, .int v1)]) hx hb dX2_clashes_1 rfl hl (by decide) rfl (fun ls hl => ?_)
  obtain ⟨n7, hw⟩ := hw
  refine l_X2_clashes_2 C hK hP (fun ls hl hw => ?_) (fun ls hl hw => ?_) n7 (0 : Int32) ls (lv_sub hl [1, 2, 0] rfl) hw
  · refine lv_iconst (v := 1) hx hb dX2_clashes_53 (by decide) ?_
    rw [← hQ]
    exact W.zret (v := (1 : Int32)) (ty := .boolean) hx hb hr (bz_n hw.1) (fun t ht hW => ⟨_, rfl, hw.2, ht.trans hH.symm⟩) (fun q h => by cases h) dX2_clashes_54
  · refine lv_iconst (v := 0) hx hb dX2_clashes_61 (by decide) ?_
    rw [← hQ]
    exact W.zret (v := (0 : Int32)) (ty := .boolean) hx hb hr (bz_n hw.1) (fun t ht hW => ⟨_, rfl, hw.2, ht.trans hH.symm⟩) (fun q h => by cases h) dX2_clashes_62
-- X2_leastHalfAt
abbrev rm_X2_leastHalfAt : Room := { frames := 0, cells := 0, slots := 0, locals := 0 }
theorem f_X2_leastHalfAt_0 : (Cond.fieldLink RX2 18 "PlaneFaces$Segments" "used" "[Z") ∈ wsX2_leastHalfAt := by decide +kernel
theorem f_X2_leastHalfAt_1 : ∀ w ∈ wsX20, w ∈ wsX2_leastHalfAt := by decide +kernel
theorem f_X2_leastHalfAt_2 : (Cond.fieldLink RX2 9 "PlaneFaces$Segments" "x" "[I") ∈ wsX2_leastHalfAt := by decide +kernel
theorem f_X2_leastHalfAt_3 : (Cond.fieldLink RX2 15 "PlaneFaces$Segments" "y" "[I") ∈ wsX2_leastHalfAt := by decide +kernel
set_option maxRecDepth 100000 in
set_option maxHeartbeats 4000000 in
theorem l_X2_leastHalfAt_2 {p : Program} {l : Launch} {e : Env} {s : State} {m : MethodId} {args : Array Value} {below : List Frame} {meth : Method} {c : Code} {Q : State → Prop} {dC : Nat → ClassId} {dI : Nat → Nat → Nat} {cI cJ cZ : ClassId} {ad : Nat → Nat} {x : Nat → Int32} {y : Nat → Int32} {u : Nat → Int32} {sn : Int32} {v1 : Int32} {v2 : Int32} {K39 : Int32 → Prop} {K47 : Prop} (C : CallFix p m c cX2_leastHalfAt 4 s args wsX2_leastHalfAt RX2) (hK : va_K (dC, dI) vwCl (tyL cI cJ cZ) s) {H : Heap} (hP : va_P (dC, dI) vwCl (wSeg ad cI cJ cZ x y u sn) H) (hk39 : ∀ (w3 : Int32) (ls : Array Slot), lv_has ls 4 [(0, .ref (ad 16)), (3, .int w3)] → K39 w3 → W p l e rm_X2_leastHalfAt s m args below meth c H [] 0 0 Q (F0 m 39 ls [])) (hk47 : ∀  (ls : Array Slot), lv_has ls 4 [(0, .ref (ad 16))] → K47 → W p l e rm_X2_leastHalfAt s m args below meth c H [] 0 0 Q (F0 m 47 ls [])) : ∀ (n : Nat) (v3 : Int32) (ls : Array Slot), lv_has ls 4 [(0, .ref (ad 16)), (1, .int v1), (2, .int v2), (3, .int v3)] → lp_X2_leastHalfAt_2 x y u v1 v2 K39 K47 n v3 → W p l e rm_X2_leastHalfAt s m args below meth c H [] 0 0 Q (F0 m 2 ls []) := by
  obtain ⟨hx, hb, hml, hown, hts⟩ := id C
  intro n
  induction n with
  | zero =>
    intro v3 ls hl hw
    rw [lp_X2_leastHalfAt_2.eq_1] at hw
    exact hw.elim
  | succ n ih =>
    intro v3 ls hl hw
    rw [lp_X2_leastHalfAt_2.eq_2] at hw
    refine lv_iload_n hx hb dX2_leastHalfAt_2 rfl (lv_at hl 3 rfl) ?_
    refine lv_bipush (v := 120) hx hb dX2_leastHalfAt_3 (by decide) ?_
    refine lv_icmp_ge (tgt := 47) hx hb dX2_leastHalfAt_5 (by decide) (fun hc => ?_) (fun hc => ?_)
    · have hw := hw.1 (hc)
      exact hk47 ls (lv_sub hl [0] rfl) hw
    · have hw := hw.2 hc
      refine lv_aload_n hx hb dX2_leastHalfAt_8 rfl (lv_at hl 0 rfl) ?_
      refine va_get (D := (dC, dI)) (ci := 2) (v := .ref (ad 19)) (C := RX2) (T := TX2) (N := 4) hx hb hts f_X2_leastHalfAt_1 hown hK hP 0 rfl rfl 2 (by decide) (hts _ f_X2_leastHalfAt_0) (fun _ h9 => h9) rfl dX2_leastHalfAt_9 ?_
      refine lv_iload_n hx hb dX2_leastHalfAt_12 rfl (lv_at hl 3 rfl) ?_
      refine lv_iconst (v := 1) hx hb dX2_leastHalfAt_13 (by decide) ?_
      refine lv_ishr hx hb dX2_leastHalfAt_14 ?_
      have hi := hw.1
      have hw := hw.2
      refine va_zald hx hb hK hP 3 2 rfl rfl hi dX2_leastHalfAt_15 ?_
      refine jn0_use (J := ∀ ls : Array Slot, lv_has ls 4 [(0, .ref (ad 16)), (1, .int v1), (2, .int v2), (3, .int v3)] → W p l e rm_X2_leastHalfAt s m args below meth c H [] 0 0 Q (F0 m 41 ls [])) hw (fun hw ls hl => ?_) (fun hw hj0 => ?_)
      · refine lv_iinc (v := (v3 + (1 : Int32))) (lv' := [(3, .int (v3 + (1 : Int32))), (0, .ref (ad 16)), (1, .int v1), (2, .int v2)]) hx hb dX2_leastHalfAt_41 hl (k := 3) rfl rfl (by decide) rfl (fun ls hl => ?_)
        refine lv_goto (tgt := 2) hx hb dX2_leastHalfAt_44 (by decide) ?_
        exact ih (v3 + (1 : Int32)) ls (lv_sub hl [1, 2, 3, 0] rfl) hw
      · have hj2 := hj0
        refine lv_if_eq (tgt := 41) hx hb dX2_leastHalfAt_16 (by decide) (fun hc => ?_) (fun hc => ?_)
        · have hw := hw.1 (hc)
          exact hj2 hw ls (lv_sub hl [0, 1, 2, 3] rfl)
        · have hw := hw.2 hc
          refine lv_aload_n hx hb dX2_leastHalfAt_19 rfl (lv_at hl 0 rfl) ?_
          refine va_get (D := (dC, dI)) (ci := 2) (v := .ref (ad 17)) (C := RX2) (T := TX2) (N := 4) hx hb hts f_X2_leastHalfAt_1 hown hK hP 0 rfl rfl 0 (by decide) (hts _ f_X2_leastHalfAt_2) (fun _ h9 => h9) rfl dX2_leastHalfAt_20 ?_
          refine lv_iload_n hx hb dX2_leastHalfAt_23 rfl (lv_at hl 3 rfl) ?_
          have hi := hw.1
          have hw := hw.2
          refine va_iald hx hb hK hP 1 0 rfl rfl hi dX2_leastHalfAt_24 ?_
          refine lv_iload_n hx hb dX2_leastHalfAt_25 rfl (lv_at hl 1 rfl) ?_
          refine lv_icmp_ne (tgt := 41) hx hb dX2_leastHalfAt_26 (by decide) (fun hc => ?_) (fun hc => ?_)
          · have hw := hw.2 hc
            exact hj2 hw ls (lv_sub hl [0, 1, 2, 3] rfl)
          · have hw := hw.1 (hc)
            refine lv_aload_n hx hb dX2_leastHalfAt_29 rfl (lv_at hl 0 rfl) ?_
            refine va_get (D := (dC, dI)) (ci := 2) (v := .ref (ad 18)) (C := RX2) (T := TX2) (N := 4) hx hb hts f_X2_leastHalfAt_1 hown hK hP 0 rfl rfl 1 (by decide) (hts _ f_X2_leastHalfAt_3) (fun _ h9 => h9) rfl dX2_leastHalfAt_30 ?_
            refine lv_iload_n hx hb dX2_leastHalfAt_33 rfl (lv_at hl 3 rfl) ?_
            have hi := hw.1
            have hw := hw.2
            refine va_iald hx hb hK hP 2 0 rfl rfl hi dX2_leastHalfAt_34 ?_
            refine lv_iload_n hx hb dX2_leastHalfAt_35 rfl (lv_at hl 2 rfl) ?_
            refine lv_icmp_ne (tgt := 41) hx hb dX2_leastHalfAt_36 (by decide) (fun hc => ?_) (fun hc => ?_)
            · have hw := hw.2 hc
              exact hj2 hw ls (lv_sub hl [0, 1, 2, 3] rfl)
            · have hw := hw.1 (hc)
              exact hk39 v3 ls (lv_sub hl [0, 3] rfl) hw
set_option maxRecDepth 100000 in
set_option maxHeartbeats 4000000 in
theorem c_X2_leastHalfAt (l : Launch) (dC : Nat → ClassId) (dI : Nat → Nat → Nat) (cI cJ cZ : ClassId) (ad : Nat → Nat) (x : Nat → Int32) (y : Nat → Int32) (u : Nat → Int32) (sn : Int32) (v1 : Int32) (v2 : Int32) {post : Int32 → Prop} (hw : wp_X2_leastHalfAt x y u v1 v2 post) : Met l yX2_leastHalfAt wsX2_leastHalfAt rm_X2_leastHalfAt (va_Pc [.ref (ad 16), .int v1, .int v2] (fun U => va_P (dC, dI) vwCl (wSeg ad cI cJ cZ x y u sn) U.heap ∧ va_K (dC, dI) vwCl (tyL cI cJ cZ) U)) (vp_Si post) 0 0 (fun _ => False) := by
  unfold wp_X2_leastHalfAt at hw
  refine Met.ofW (cc := cX2_leastHalfAt) (maxL := 4) (ret := (some .int)) (by decide) rfl ?_
  intro p e s m args below meth c s₁ B hml hv
  obtain ⟨hav, hP, hK⟩ := hv
  have hx := B.exec
  have hb := B.bytes
  have hr := B.returns
  have hts := atoms_spec (ws := wsX2_leastHalfAt) B.pre
  have hown : s.vm.findClass RX2 = some m.cls := findClass_of_methodNamed B.named
  have hlocks := B.notSynchronized
  have C : CallFix p m c cX2_leastHalfAt 4 s args wsX2_leastHalfAt RX2 := ⟨hx, hb, hml, hown, hts⟩
  obtain ⟨ls, hE, hl⟩ := mx_entry (m := m) [.ref (ad 16), .int v1, .int v2] (n := 4) (Nat.le_of_ble_eq_true rfl)
  have hl : lv_has ls 4 [(0, .ref (ad 16)), (1, .int v1), (2, .int v2)] := hl
  rw [show entryFrame m args 4 = F0 m 0 ls [] by rw [hav]; exact hE]
  obtain ⟨Q, hQ⟩ : ∃ Q, MQ below (vp_Si post) args s 0 0 (fun _ => False) = Q := ⟨_, rfl⟩
  rw [hQ]
  obtain ⟨H, hH⟩ : ∃ H, s.heap = H := ⟨_, rfl⟩
  rw [hH]
  rw [hH] at hP
  show W p l e rm_X2_leastHalfAt s m args below meth c H [] 0 0 Q (F0 m 0 ls [])
  refine lv_iconst (v := 0) hx hb dX2_leastHalfAt_0 (by decide) ?_
  refine lv_istore_n (lv' := [(3, .int (0 : Int32)), (0, .ref (ad 16)), (1, .int v1), (2, .int v2)]) hx hb dX2_leastHalfAt_1 rfl hl (by decide) rfl (fun ls hl => ?_)
  obtain ⟨n4, hw⟩ := hw
  refine l_X2_leastHalfAt_2 C hK hP (fun w3 ls hl hw => ?_) (fun ls hl hw => ?_) n4 (0 : Int32) ls (lv_sub hl [1, 2, 3, 0] rfl) hw
  · refine lv_iload_n hx hb dX2_leastHalfAt_39 rfl (lv_at hl 1 rfl) ?_
    rw [← hQ]
    exact W.iret (v := w3) hx hb hr (fun t ht hW => ⟨_, rfl, hw, ht.trans hH.symm⟩) (fun q h => by cases h) dX2_leastHalfAt_40
  · refine lv_iconst (v := -1) hx hb dX2_leastHalfAt_47 (by decide) ?_
    rw [← hQ]
    exact W.iret (v := (-1 : Int32)) hx hb hr (fun t ht hW => ⟨_, rfl, hw, ht.trans hH.symm⟩) (fun q h => by cases h) dX2_leastHalfAt_48
-- X2_segmentThrough
abbrev rm_X2_segmentThrough : Room := { frames := 2, cells := 0, slots := 0, locals := 54 }
theorem f_X2_segmentThrough_0 : (Cond.fieldLink RX2 18 "PlaneFaces$Segments" "used" "[Z") ∈ wsX2_segmentThrough := by decide +kernel
theorem f_X2_segmentThrough_1 : ∀ w ∈ wsX20, w ∈ wsX2_segmentThrough := by decide +kernel
set_option maxRecDepth 100000 in
set_option maxHeartbeats 4000000 in
theorem l_X2_segmentThrough_2 {p : Program} {l : Launch} {e : Env} {s : State} {m : MethodId} {args : Array Value} {below : List Frame} {meth : Method} {c : Code} {Q : State → Prop} {dC : Nat → ClassId} {dI : Nat → Nat → Nat} {cI cJ cZ : ClassId} {ad : Nat → Nat} {x : Nat → Int32} {y : Nat → Int32} {u : Nat → Int32} {sn : Int32} {v1 : Int32} {v2 : Int32} {K27 : Int32 → Prop} {K35 : Prop} (C : CallFix p m c cX2_segmentThrough 4 s args wsX2_segmentThrough RX2) (hK : va_K (dC, dI) vwCl (tyL cI cJ cZ) s) {H : Heap} (hP : va_P (dC, dI) vwCl (wSeg ad cI cJ cZ x y u sn) H) (hk27 : ∀ (w3 : Int32) (ls : Array Slot), lv_has ls 4 [(0, .ref (ad 16)), (3, .int w3)] → K27 w3 → W p l e rm_X2_segmentThrough s m args below meth c H [] 0 0 Q (F0 m 27 ls [])) (hk35 : ∀  (ls : Array Slot), lv_has ls 4 [(0, .ref (ad 16))] → K35 → W p l e rm_X2_segmentThrough s m args below meth c H [] 0 0 Q (F0 m 35 ls [])) : ∀ (n : Nat) (v3 : Int32) (ls : Array Slot), lv_has ls 4 [(0, .ref (ad 16)), (1, .int v1), (2, .int v2), (3, .int v3)] → lp_X2_segmentThrough_2 x y u v1 v2 K27 K35 n v3 → W p l e rm_X2_segmentThrough s m args below meth c H [] 0 0 Q (F0 m 2 ls []) := by
  obtain ⟨hx, hb, hml, hown, hts⟩ := id C
  intro n
  induction n with
  | zero =>
    intro v3 ls hl hw
    rw [lp_X2_segmentThrough_2.eq_1] at hw
    exact hw.elim
  | succ n ih =>
    intro v3 ls hl hw
    rw [lp_X2_segmentThrough_2.eq_2] at hw
    refine lv_iload_n hx hb dX2_segmentThrough_2 rfl (lv_at hl 3 rfl) ?_
    refine lv_bipush (v := 60) hx hb dX2_segmentThrough_3 (by decide) ?_
    refine lv_icmp_ge (tgt := 35) hx hb dX2_segmentThrough_5 (by decide) (fun hc => ?_) (fun hc => ?_)
    · have hw := hw.1 (hc)
      exact hk35 ls (lv_sub hl [0] rfl) hw
    · have hw := hw.2 hc
      refine lv_aload_n hx hb dX2_segmentThrough_8 rfl (lv_at hl 0 rfl) ?_
      refine va_get (D := (dC, dI)) (ci := 2) (v := .ref (ad 19)) (C := RX2) (T := TX2) (N := 4) hx hb hts f_X2_segmentThrough_1 hown hK hP 0 rfl rfl 2 (by decide) (hts _ f_X2_segmentThrough_0) (fun _ h9 => h9) rfl dX2_segmentThrough_9 ?_
      refine lv_iload_n hx hb dX2_segmentThrough_12 rfl (lv_at hl 3 rfl) ?_
      have hi := hw.1
      have hw := hw.2
      refine va_zald hx hb hK hP 3 2 rfl rfl hi dX2_segmentThrough_13 ?_
      refine jn0_use (J := ∀ ls : Array Slot, lv_has ls 4 [(0, .ref (ad 16)), (1, .int v1), (2, .int v2), (3, .int v3)] → W p l e rm_X2_segmentThrough s m args below meth c H [] 0 0 Q (F0 m 29 ls [])) hw (fun hw ls hl => ?_) (fun hw hj0 => ?_)
      · refine lv_iinc (v := (v3 + (1 : Int32))) (lv' := [(3, .int (v3 + (1 : Int32))), (0, .ref (ad 16)), (1, .int v1), (2, .int v2)]) hx hb dX2_segmentThrough_29 hl (k := 3) rfl rfl (by decide) rfl (fun ls hl => ?_)
        refine lv_goto (tgt := 2) hx hb dX2_segmentThrough_32 (by decide) ?_
        exact ih (v3 + (1 : Int32)) ls (lv_sub hl [1, 2, 3, 0] rfl) hw
      · have hj2 := hj0
        refine lv_if_eq (tgt := 29) hx hb dX2_segmentThrough_14 (by decide) (fun hc => ?_) (fun hc => ?_)
        · have hw := hw.1 (hc)
          exact hj2 hw ls (lv_sub hl [0, 1, 2, 3] rfl)
        · have hw := hw.2 hc
          refine lv_aload_n hx hb dX2_segmentThrough_17 rfl (lv_at hl 0 rfl) ?_
          refine lv_iload_n hx hb dX2_segmentThrough_18 rfl (lv_at hl 3 rfl) ?_
          refine lv_iload_n hx hb dX2_segmentThrough_19 rfl (lv_at hl 1 rfl) ?_
          refine lv_iload_n hx hb dX2_segmentThrough_20 rfl (lv_at hl 2 rfl) ?_
          refine vp_callSi (W.runV (As := [.int v3, .int v1, .int v2]) (rest := []) C (c_X2_holds l dC dI cI cJ cZ ad x y u sn v3 v1 v2 hw) (cwV 3 hts gX2_segmentThrough_X2_holds rfl rfl rfl (by decide +kernel) ⟨Nat.le_of_ble_eq_true rfl, Nat.le_of_ble_eq_true rfl⟩) ⟨fb_ro, va_recv hK hP (ci := 2) (q0 := 0) rfl rfl, fun U hU hW => ⟨rfl, by rw [hU]; exact hP, va_K.moved hW.alike hK⟩⟩ rfl rfl hl.1 rfl (lv_room (Nat.le_of_ble_eq_true rfl)) dX2_segmentThrough_21 ⟨Nat.zero_le _, Nat.zero_le _⟩) (fun r3 hw => ?_)
          refine lv_if_eq (tgt := 29) hx hb dX2_segmentThrough_24 (by decide) (fun hc => ?_) (fun hc => ?_)
          · have hw := hw.1 (hc)
            exact hj2 hw ls (lv_sub hl [0, 1, 2, 3] rfl)
          · have hw := hw.2 hc
            exact hk27 v3 ls (lv_sub hl [0, 3] rfl) hw
set_option maxRecDepth 100000 in
set_option maxHeartbeats 4000000 in
theorem c_X2_segmentThrough (l : Launch) (dC : Nat → ClassId) (dI : Nat → Nat → Nat) (cI cJ cZ : ClassId) (ad : Nat → Nat) (x : Nat → Int32) (y : Nat → Int32) (u : Nat → Int32) (sn : Int32) (v1 : Int32) (v2 : Int32) {post : Int32 → Prop} (hw : wp_X2_segmentThrough x y u v1 v2 post) : Met l yX2_segmentThrough wsX2_segmentThrough rm_X2_segmentThrough (va_Pc [.ref (ad 16), .int v1, .int v2] (fun U => va_P (dC, dI) vwCl (wSeg ad cI cJ cZ x y u sn) U.heap ∧ va_K (dC, dI) vwCl (tyL cI cJ cZ) U)) (vp_Si post) 0 0 (fun _ => False) := by
  unfold wp_X2_segmentThrough at hw
  refine Met.ofW (cc := cX2_segmentThrough) (maxL := 4) (ret := (some .int)) (by decide) rfl ?_
  intro p e s m args below meth c s₁ B hml hv
  obtain ⟨hav, hP, hK⟩ := hv
  have hx := B.exec
  have hb := B.bytes
  have hr := B.returns
  have hts := atoms_spec (ws := wsX2_segmentThrough) B.pre
  have hown : s.vm.findClass RX2 = some m.cls := findClass_of_methodNamed B.named
  have hlocks := B.notSynchronized
  have C : CallFix p m c cX2_segmentThrough 4 s args wsX2_segmentThrough RX2 := ⟨hx, hb, hml, hown, hts⟩
  obtain ⟨ls, hE, hl⟩ := mx_entry (m := m) [.ref (ad 16), .int v1, .int v2] (n := 4) (Nat.le_of_ble_eq_true rfl)
  have hl : lv_has ls 4 [(0, .ref (ad 16)), (1, .int v1), (2, .int v2)] := hl
  rw [show entryFrame m args 4 = F0 m 0 ls [] by rw [hav]; exact hE]
  obtain ⟨Q, hQ⟩ : ∃ Q, MQ below (vp_Si post) args s 0 0 (fun _ => False) = Q := ⟨_, rfl⟩
  rw [hQ]
  obtain ⟨H, hH⟩ : ∃ H, s.heap = H := ⟨_, rfl⟩
  rw [hH]
  rw [hH] at hP
  show W p l e rm_X2_segmentThrough s m args below meth c H [] 0 0 Q (F0 m 0 ls [])
  refine lv_iconst (v := 0) hx hb dX2_segmentThrough_0 (by decide) ?_
  refine lv_istore_n (lv' := [(3, .int (0 : Int32)), (0, .ref (ad 16)), (1, .int v1), (2, .int v2)]) hx hb dX2_segmentThrough_1 rfl hl (by decide) rfl (fun ls hl => ?_)
  obtain ⟨n5, hw⟩ := hw
  refine l_X2_segmentThrough_2 C hK hP (fun w4 ls hl hw => ?_) (fun ls hl hw => ?_) n5 (0 : Int32) ls (lv_sub hl [1, 2, 3, 0] rfl) hw
  · refine lv_iload_n hx hb dX2_segmentThrough_27 rfl (lv_at hl 1 rfl) ?_
    rw [← hQ]
    exact W.iret (v := w4) hx hb hr (fun t ht hW => ⟨_, rfl, hw, ht.trans hH.symm⟩) (fun q h => by cases h) dX2_segmentThrough_28
  · refine lv_iconst (v := -1) hx hb dX2_segmentThrough_35 (by decide) ?_
    rw [← hQ]
    exact W.iret (v := (-1 : Int32)) hx hb hr (fun t ht hW => ⟨_, rfl, hw, ht.trans hH.symm⟩) (fun q h => by cases h) dX2_segmentThrough_36
-- X2_turn
abbrev rm_X2_turn : Room := { frames := 0, cells := 0, slots := 0, locals := 0 }
theorem f_X2_turn_0 : (Cond.fieldLink RX2 9 "PlaneFaces$Segments" "x" "[I") ∈ wsX2_turn := by decide +kernel
theorem f_X2_turn_1 : ∀ w ∈ wsX20, w ∈ wsX2_turn := by decide +kernel
theorem f_X2_turn_2 : (Cond.fieldLink RX2 15 "PlaneFaces$Segments" "y" "[I") ∈ wsX2_turn := by decide +kernel
set_option maxRecDepth 100000 in
set_option maxHeartbeats 4000000 in
theorem c_X2_turn (l : Launch) (dC : Nat → ClassId) (dI : Nat → Nat → Nat) (cI cJ cZ : ClassId) (ad : Nat → Nat) (x : Nat → Int32) (y : Nat → Int32) (u : Nat → Int32) (sn : Int32) (v1 : Int32) (v2 : Int32) {post : Int64 → Prop} (hw : wp_X2_turn x y v1 v2 post) : Met l yX2_turn wsX2_turn rm_X2_turn (va_Pc [.ref (ad 16), .int v1, .int v2] (fun U => va_P (dC, dI) vwCl (wSeg ad cI cJ cZ x y u sn) U.heap ∧ va_K (dC, dI) vwCl (tyL cI cJ cZ) U)) (vp_Sl post) 0 0 (fun _ => False) := by
  unfold wp_X2_turn at hw
  refine Met.ofW (cc := cX2_turn) (maxL := 7) (ret := (some .long)) (by decide) rfl ?_
  intro p e s m args below meth c s₁ B hml hv
  obtain ⟨hav, hP, hK⟩ := hv
  have hx := B.exec
  have hb := B.bytes
  have hr := B.returns
  have hts := atoms_spec (ws := wsX2_turn) B.pre
  have hown : s.vm.findClass RX2 = some m.cls := findClass_of_methodNamed B.named
  have hlocks := B.notSynchronized
  have C : CallFix p m c cX2_turn 7 s args wsX2_turn RX2 := ⟨hx, hb, hml, hown, hts⟩
  obtain ⟨ls, hE, hl⟩ := mx_entry (m := m) [.ref (ad 16), .int v1, .int v2] (n := 7) (Nat.le_of_ble_eq_true rfl)
  have hl : lv_has ls 7 [(0, .ref (ad 16)), (1, .int v1), (2, .int v2)] := hl
  rw [show entryFrame m args 7 = F0 m 0 ls [] by rw [hav]; exact hE]
  obtain ⟨Q, hQ⟩ : ∃ Q, MQ below (vp_Sl post) args s 0 0 (fun _ => False) = Q := ⟨_, rfl⟩
  rw [hQ]
  obtain ⟨H, hH⟩ : ∃ H, s.heap = H := ⟨_, rfl⟩
  rw [hH]
  rw [hH] at hP
  show W p l e rm_X2_turn s m args below meth c H [] 0 0 Q (F0 m 0 ls [])
  refine lv_aload_n hx hb dX2_turn_0 rfl (lv_at hl 0 rfl) ?_
  refine va_get (D := (dC, dI)) (ci := 2) (v := .ref (ad 17)) (C := RX2) (T := TX2) (N := 4) hx hb hts f_X2_turn_1 hown hK hP 0 rfl rfl 0 (by decide) (hts _ f_X2_turn_0) (fun _ h9 => h9) rfl dX2_turn_1 ?_
  refine lv_iload_n hx hb dX2_turn_4 rfl (lv_at hl 1 rfl) ?_
  refine lv_iconst (v := 1) hx hb dX2_turn_5 (by decide) ?_
  refine lv_ixor hx hb dX2_turn_6 ?_
  have hi := hw.1
  have hw := hw.2
  refine va_iald hx hb hK hP 1 0 rfl rfl hi dX2_turn_7 ?_
  refine lv_aload_n hx hb dX2_turn_8 rfl (lv_at hl 0 rfl) ?_
  refine va_get (D := (dC, dI)) (ci := 2) (v := .ref (ad 17)) (C := RX2) (T := TX2) (N := 4) hx hb hts f_X2_turn_1 hown hK hP 0 rfl rfl 0 (by decide) (hts _ f_X2_turn_0) (fun _ h9 => h9) rfl dX2_turn_9 ?_
  refine lv_iload_n hx hb dX2_turn_12 rfl (lv_at hl 1 rfl) ?_
  have hi := hw.1
  have hw := hw.2
  refine va_iald hx hb hK hP 1 0 rfl rfl hi dX2_turn_13 ?_
  refine lv_isub hx hb dX2_turn_14 ?_
  refine lv_i2l hx hb dX2_turn_15 rfl ?_
  refine lv_topl (fun a1 ea1 => ?_)
  have hw := hw a1 ea1
  refine lv_lstore_n (lv' := [(3, .long a1), (0, .ref (ad 16)), (1, .int v1), (2, .int v2)]) hx hb dX2_turn_16 rfl hl (by decide) rfl (fun ls hl => ?_)
  refine lv_aload_n hx hb dX2_turn_17 rfl (lv_at hl 1 rfl) ?_
  refine va_get (D := (dC, dI)) (ci := 2) (v := .ref (ad 18)) (C := RX2) (T := TX2) (N := 4) hx hb hts f_X2_turn_1 hown hK hP 0 rfl rfl 1 (by decide) (hts _ f_X2_turn_2) (fun _ h9 => h9) rfl dX2_turn_18 ?_
  refine lv_iload_n hx hb dX2_turn_21 rfl (lv_at hl 2 rfl) ?_
  refine lv_iconst (v := 1) hx hb dX2_turn_22 (by decide) ?_
  refine lv_ixor hx hb dX2_turn_23 ?_
  have hi := hw.1
  have hw := hw.2
  refine va_iald hx hb hK hP 2 0 rfl rfl hi dX2_turn_24 ?_
  refine lv_aload_n hx hb dX2_turn_25 rfl (lv_at hl 1 rfl) ?_
  refine va_get (D := (dC, dI)) (ci := 2) (v := .ref (ad 18)) (C := RX2) (T := TX2) (N := 4) hx hb hts f_X2_turn_1 hown hK hP 0 rfl rfl 1 (by decide) (hts _ f_X2_turn_2) (fun _ h9 => h9) rfl dX2_turn_26 ?_
  refine lv_iload_n hx hb dX2_turn_29 rfl (lv_at hl 2 rfl) ?_
  have hi := hw.1
  have hw := hw.2
  refine va_iald hx hb hK hP 2 0 rfl rfl hi dX2_turn_30 ?_
  refine lv_isub hx hb dX2_turn_31 ?_
  refine lv_i2l hx hb dX2_turn_32 rfl ?_
  refine lv_topl (fun a2 ea2 => ?_)
  have hw := hw a2 ea2
  refine lv_lstore (lv' := [(5, .long a2), (3, .long a1), (0, .ref (ad 16)), (1, .int v1), (2, .int v2)]) hx hb dX2_turn_33 hl (by decide) rfl (fun ls hl => ?_)
  refine lv_lload_n hx hb dX2_turn_35 rfl (lv_at hl 1 rfl) ?_
  refine lv_aload_n hx hb dX2_turn_36 rfl (lv_at hl 2 rfl) ?_
  refine va_get (D := (dC, dI)) (ci := 2) (v := .ref (ad 18)) (C := RX2) (T := TX2) (N := 4) hx hb hts f_X2_turn_1 hown hK hP 0 rfl rfl 1 (by decide) (hts _ f_X2_turn_2) (fun _ h9 => h9) rfl dX2_turn_37 ?_
  refine lv_iload_n hx hb dX2_turn_40 rfl (lv_at hl 4 rfl) ?_
  refine lv_iconst (v := 1) hx hb dX2_turn_41 (by decide) ?_
  refine lv_ixor hx hb dX2_turn_42 ?_
  have hi := hw.1
  have hw := hw.2
  refine va_iald hx hb hK hP 2 0 rfl rfl hi dX2_turn_43 ?_
  refine lv_aload_n hx hb dX2_turn_44 rfl (lv_at hl 2 rfl) ?_
  refine va_get (D := (dC, dI)) (ci := 2) (v := .ref (ad 18)) (C := RX2) (T := TX2) (N := 4) hx hb hts f_X2_turn_1 hown hK hP 0 rfl rfl 1 (by decide) (hts _ f_X2_turn_2) (fun _ h9 => h9) rfl dX2_turn_45 ?_
  refine lv_iload_n hx hb dX2_turn_48 rfl (lv_at hl 4 rfl) ?_
  have hi := hw.1
  have hw := hw.2
  refine va_iald hx hb hK hP 2 0 rfl rfl hi dX2_turn_49 ?_
  refine lv_isub hx hb dX2_turn_50 ?_
  refine lv_i2l hx hb dX2_turn_51 rfl ?_
  refine lv_lmul hx hb dX2_turn_52 ?_
  refine lv_lload hx hb dX2_turn_53 (lv_at hl 0 rfl) ?_
  refine lv_aload_n hx hb dX2_turn_55 rfl (lv_at hl 2 rfl) ?_
  refine va_get (D := (dC, dI)) (ci := 2) (v := .ref (ad 17)) (C := RX2) (T := TX2) (N := 4) hx hb hts f_X2_turn_1 hown hK hP 0 rfl rfl 0 (by decide) (hts _ f_X2_turn_0) (fun _ h9 => h9) rfl dX2_turn_56 ?_
  refine lv_iload_n hx hb dX2_turn_59 rfl (lv_at hl 4 rfl) ?_
  refine lv_iconst (v := 1) hx hb dX2_turn_60 (by decide) ?_
  refine lv_ixor hx hb dX2_turn_61 ?_
  have hi := hw.1
  have hw := hw.2
  refine va_iald hx hb hK hP 1 0 rfl rfl hi dX2_turn_62 ?_
  refine lv_aload_n hx hb dX2_turn_63 rfl (lv_at hl 2 rfl) ?_
  refine va_get (D := (dC, dI)) (ci := 2) (v := .ref (ad 17)) (C := RX2) (T := TX2) (N := 4) hx hb hts f_X2_turn_1 hown hK hP 0 rfl rfl 0 (by decide) (hts _ f_X2_turn_0) (fun _ h9 => h9) rfl dX2_turn_64 ?_
  refine lv_iload_n hx hb dX2_turn_67 rfl (lv_at hl 4 rfl) ?_
  have hi := hw.1
  have hw := hw.2
  refine va_iald hx hb hK hP 1 0 rfl rfl hi dX2_turn_68 ?_
  refine lv_isub hx hb dX2_turn_69 ?_
  refine lv_i2l hx hb dX2_turn_70 rfl ?_
  refine lv_lmul hx hb dX2_turn_71 ?_
  refine lv_lsub hx hb dX2_turn_72 ?_
  rw [← hQ]
  exact W.lret (v := ((a1 * ((y (v2 ^^^ (1 : Int32)).toNatClampNeg) - (y v2.toNatClampNeg)).toInt64) - (a2 * ((x (v2 ^^^ (1 : Int32)).toNatClampNeg) - (x v2.toNatClampNeg)).toInt64))) hx hb hr (fun t ht hW => ⟨_, rfl, hw, ht.trans hH.symm⟩) (fun q h => by cases h) dX2_turn_73
-- X2_signOf
abbrev rm_X2_signOf : Room := { frames := 0, cells := 0, slots := 0, locals := 0 }
set_option maxRecDepth 100000 in
set_option maxHeartbeats 4000000 in
theorem c_X2_signOf (l : Launch)  (v0 : Int64) {post : Int32 → Prop} (hw : wp_X2_signOf v0 post) : Met l yX2_signOf wsX2_signOf rm_X2_signOf (va_Pc [.long v0] (fun _ => True)) (vp_Si post) 0 0 (fun _ => False) := by
  unfold wp_X2_signOf at hw
  refine Met.ofW (cc := cX2_signOf) (maxL := 2) (ret := (some .int)) (by decide) rfl ?_
  intro p e s m args below meth c s₁ B hml hv
  obtain ⟨hav, -⟩ := hv
  have hx := B.exec
  have hb := B.bytes
  have hr := B.returns
  have hts := atoms_spec (ws := wsX2_signOf) B.pre
  have hown : s.vm.findClass RX2 = some m.cls := findClass_of_methodNamed B.named
  have hlocks := B.notSynchronized
  have C : CallFix p m c cX2_signOf 2 s args wsX2_signOf RX2 := ⟨hx, hb, hml, hown, hts⟩
  obtain ⟨ls, hE, hl⟩ := mx_entry (m := m) [.long v0] (n := 2) (Nat.le_of_ble_eq_true rfl)
  have hl : lv_has ls 2 [(0, .long v0)] := hl
  rw [show entryFrame m args 2 = F0 m 0 ls [] by rw [hav]; exact hE]
  obtain ⟨Q, hQ⟩ : ∃ Q, MQ below (vp_Si post) args s 0 0 (fun _ => False) = Q := ⟨_, rfl⟩
  rw [hQ]
  obtain ⟨H, hH⟩ : ∃ H, s.heap = H := ⟨_, rfl⟩
  rw [hH]
  show W p l e rm_X2_signOf s m args below meth c H [] 0 0 Q (F0 m 0 ls [])
  refine lv_lload_n hx hb dX2_signOf_0 rfl (lv_at hl 0 rfl) ?_
  refine lv_lconst (v := 0) hx hb dX2_signOf_1 (by decide) ?_
  refine W.lcmp hx hb dX2_signOf_2 ?_
  refine jn1_use (J := fun (k1 : Int32) => ∀ ls : Array Slot, lv_has ls 2 [] → W p l e rm_X2_signOf s m args below meth c H [] 0 0 Q (F0 m 21 ls [.int k1])) hw (fun k1 hw ls hl => ?_) (fun hw hj0 => ?_)
  · rw [← hQ]
    exact W.iret (v := k1) hx hb hr (fun t ht hW => ⟨_, rfl, hw, ht.trans hH.symm⟩) (fun q h => by cases h) dX2_signOf_21
  · have hj3 := hj0
    refine lv_if_ge (tgt := 10) hx hb dX2_signOf_3 (by decide) (fun hc => ?_) (fun hc => ?_)
    · have hw := hw.1 ((lg_cmp_ge _ _).mp hc)
      refine lv_lload_n hx hb dX2_signOf_10 rfl (lv_at hl 0 rfl) ?_
      refine lv_lconst (v := 0) hx hb dX2_signOf_11 (by decide) ?_
      refine W.lcmp hx hb dX2_signOf_12 ?_
      refine lv_if_le (tgt := 20) hx hb dX2_signOf_13 (by decide) (fun hc => ?_) (fun hc => ?_)
      · have hw := hw.1 ((lg_cmp_le _ _).mp hc)
        refine lv_iconst (v := 0) hx hb dX2_signOf_20 (by decide) ?_
        exact hj3 (0 : Int32) hw ls (lv_sub hl [] rfl)
      · have hw := hw.2 (fun h9 => hc ((lg_cmp_le _ _).mpr h9))
        refine lv_iconst (v := 1) hx hb dX2_signOf_16 (by decide) ?_
        refine lv_goto (tgt := 21) hx hb dX2_signOf_17 (by decide) ?_
        exact hj3 (1 : Int32) hw ls (lv_sub hl [] rfl)
    · have hw := hw.2 (fun h9 => hc ((lg_cmp_ge _ _).mpr h9))
      refine lv_iconst (v := -1) hx hb dX2_signOf_6 (by decide) ?_
      refine lv_goto (tgt := 21) hx hb dX2_signOf_7 (by decide) ?_
      exact hj3 (-1 : Int32) hw ls (lv_sub hl [] rfl)
-- X2_sooner
abbrev rm_X2_sooner : Room := { frames := 1, cells := 0, slots := 0, locals := 26 }
set_option maxRecDepth 100000 in
set_option maxHeartbeats 4000000 in
theorem c_X2_sooner (l : Launch) (dC : Nat → ClassId) (dI : Nat → Nat → Nat) (cI cJ cZ : ClassId) (ad : Nat → Nat) (x : Nat → Int32) (y : Nat → Int32) (u : Nat → Int32) (sn : Int32) (v1 : Int32) (v2 : Int32) (v3 : Int32) {post : Int32 → Prop} (hw : wp_X2_sooner x y v1 v2 v3 post) : Met l yX2_sooner wsX2_sooner rm_X2_sooner (va_Pc [.ref (ad 16), .int v1, .int v2, .int v3] (fun U => va_P (dC, dI) vwCl (wSeg ad cI cJ cZ x y u sn) U.heap ∧ va_K (dC, dI) vwCl (tyL cI cJ cZ) U)) (vp_Si post) 0 0 (fun _ => False) := by
  unfold wp_X2_sooner at hw
  refine Met.ofW (cc := cX2_sooner) (maxL := 6) (ret := (some .boolean)) (by decide) rfl ?_
  intro p e s m args below meth c s₁ B hml hv
  obtain ⟨hav, hP, hK⟩ := hv
  have hx := B.exec
  have hb := B.bytes
  have hr := B.returns
  have hts := atoms_spec (ws := wsX2_sooner) B.pre
  have hown : s.vm.findClass RX2 = some m.cls := findClass_of_methodNamed B.named
  have hlocks := B.notSynchronized
  have C : CallFix p m c cX2_sooner 6 s args wsX2_sooner RX2 := ⟨hx, hb, hml, hown, hts⟩
  obtain ⟨ls, hE, hl⟩ := mx_entry (m := m) [.ref (ad 16), .int v1, .int v2, .int v3] (n := 6) (Nat.le_of_ble_eq_true rfl)
  have hl : lv_has ls 6 [(0, .ref (ad 16)), (1, .int v1), (2, .int v2), (3, .int v3)] := hl
  rw [show entryFrame m args 6 = F0 m 0 ls [] by rw [hav]; exact hE]
  obtain ⟨Q, hQ⟩ : ∃ Q, MQ below (vp_Si post) args s 0 0 (fun _ => False) = Q := ⟨_, rfl⟩
  rw [hQ]
  obtain ⟨H, hH⟩ : ∃ H, s.heap = H := ⟨_, rfl⟩
  rw [hH]
  rw [hH] at hP
  show W p l e rm_X2_sooner s m args below meth c H [] 0 0 Q (F0 m 0 ls [])
  refine lv_aload_n hx hb dX2_sooner_0 rfl (lv_at hl 0 rfl) ?_
  refine lv_iload_n hx hb dX2_sooner_1 rfl (lv_at hl 1 rfl) ?_
  refine lv_iload_n hx hb dX2_sooner_2 rfl (lv_at hl 2 rfl) ?_
  refine vp_callSl (W.runV (As := [.int v1, .int v2]) (rest := []) C (c_X2_turn l dC dI cI cJ cZ ad x y u sn v1 v2 hw) (cwV 2 hts gX2_sooner_X2_turn rfl rfl rfl (by decide +kernel) ⟨Nat.le_of_ble_eq_true rfl, Nat.le_of_ble_eq_true rfl⟩) ⟨fb_ro, va_recv hK hP (ci := 2) (q0 := 0) rfl rfl, fun U hU hW => ⟨rfl, by rw [hU]; exact hP, va_K.moved hW.alike hK⟩⟩ rfl rfl hl.1 rfl (lv_room (Nat.le_of_ble_eq_true rfl)) dX2_sooner_3 ⟨Nat.zero_le _, Nat.zero_le _⟩) (fun r1 hw => ?_)
  refine vp_callSi (W.runS (As := [.long r1]) (rest := []) C (c_X2_signOf l r1 hw) (va_cwS 1 hts gX2_sooner_X2_signOf rfl rfl rfl (by decide +kernel) ⟨Nat.le_of_ble_eq_true rfl, Nat.le_of_ble_eq_true rfl⟩) ⟨fb_st, fun U hU hW => ⟨rfl, trivial⟩⟩ rfl rfl hl.1 rfl (lv_room (Nat.le_of_ble_eq_true rfl)) dX2_sooner_6 ⟨Nat.zero_le _, Nat.zero_le _⟩) (fun r2 hw => ?_)
  refine lv_istore (lv' := [(4, .int r2), (0, .ref (ad 16)), (1, .int v1), (2, .int v2), (3, .int v3)]) hx hb dX2_sooner_9 hl (by decide) rfl (fun ls hl => ?_)
  refine lv_aload_n hx hb dX2_sooner_11 rfl (lv_at hl 1 rfl) ?_
  refine lv_iload_n hx hb dX2_sooner_12 rfl (lv_at hl 2 rfl) ?_
  refine lv_iload_n hx hb dX2_sooner_13 rfl (lv_at hl 4 rfl) ?_
  refine vp_callSl (W.runV (As := [.int v1, .int v3]) (rest := []) C (c_X2_turn l dC dI cI cJ cZ ad x y u sn v1 v3 hw) (cwV 2 hts gX2_sooner_X2_turn rfl rfl rfl (by decide +kernel) ⟨Nat.le_of_ble_eq_true rfl, Nat.le_of_ble_eq_true rfl⟩) ⟨fb_ro, va_recv hK hP (ci := 2) (q0 := 0) rfl rfl, fun U hU hW => ⟨rfl, by rw [hU]; exact hP, va_K.moved hW.alike hK⟩⟩ rfl rfl hl.1 rfl (lv_room (Nat.le_of_ble_eq_true rfl)) dX2_sooner_14 ⟨Nat.zero_le _, Nat.zero_le _⟩) (fun r3 hw => ?_)
  refine vp_callSi (W.runS (As := [.long r3]) (rest := []) C (c_X2_signOf l r3 hw) (va_cwS 1 hts gX2_sooner_X2_signOf rfl rfl rfl (by decide +kernel) ⟨Nat.le_of_ble_eq_true rfl, Nat.le_of_ble_eq_true rfl⟩) ⟨fb_st, fun U hU hW => ⟨rfl, trivial⟩⟩ rfl rfl hl.1 rfl (lv_room (Nat.le_of_ble_eq_true rfl)) dX2_sooner_17 ⟨Nat.zero_le _, Nat.zero_le _⟩) (fun r4 hw => ?_)
  refine lv_istore (lv' := [(5, .int r4), (4, .int r2), (0, .ref (ad 16)), (1, .int v1), (2, .int v2), (3, .int v3)]) hx hb dX2_sooner_20 hl (by decide) rfl (fun ls hl => ?_)
  refine lv_iload hx hb dX2_sooner_22 (lv_at hl 1 rfl) ?_
  refine lv_iload hx hb dX2_sooner_24 (lv_at hl 0 rfl) ?_
  refine jn1_use (J := fun (k5 : Int32) => ∀ ls : Array Slot, lv_has ls 6 [(0, .ref (ad 16))] → W p l e rm_X2_sooner s m args below meth c H [] 0 0 Q (F0 m 60 ls [.int k5])) hw (fun k5 hw ls hl => ?_) (fun hw hj0 => ?_)
  · rw [← hQ]
    exact W.zret (v := k5) (ty := .boolean) hx hb hr (bz_n hw.1) (fun t ht hW => ⟨_, rfl, hw.2, ht.trans hH.symm⟩) (fun q h => by cases h) dX2_sooner_60
  · have hj7 := hj0
    refine lv_icmp_ne (tgt := 48) hx hb dX2_sooner_26 (by decide) (fun hc => ?_) (fun hc => ?_)
    · have hw := hw.2 hc
      refine lv_iload hx hb dX2_sooner_48 (lv_at hl 1 rfl) ?_
      refine lv_iload hx hb dX2_sooner_50 (lv_at hl 0 rfl) ?_
      refine lv_icmp_ge (tgt := 59) hx hb dX2_sooner_52 (by decide) (fun hc => ?_) (fun hc => ?_)
      · have hw := hw.1 (hc)
        refine lv_iconst (v := 0) hx hb dX2_sooner_59 (by decide) ?_
        exact hj7 (0 : Int32) hw ls (lv_sub hl [2] rfl)
      · have hw := hw.2 hc
        refine lv_iconst (v := 1) hx hb dX2_sooner_55 (by decide) ?_
        refine lv_goto (tgt := 60) hx hb dX2_sooner_56 (by decide) ?_
        exact hj7 (1 : Int32) hw ls (lv_sub hl [2] rfl)
    · have hw := hw.1 (hc)
      refine lv_aload_n hx hb dX2_sooner_29 rfl (lv_at hl 2 rfl) ?_
      refine lv_iload_n hx hb dX2_sooner_30 rfl (lv_at hl 4 rfl) ?_
      refine lv_iload_n hx hb dX2_sooner_31 rfl (lv_at hl 5 rfl) ?_
      refine vp_callSl (W.runV (As := [.int v2, .int v3]) (rest := []) C (c_X2_turn l dC dI cI cJ cZ ad x y u sn v2 v3 hw) (cwV 2 hts gX2_sooner_X2_turn rfl rfl rfl (by decide +kernel) ⟨Nat.le_of_ble_eq_true rfl, Nat.le_of_ble_eq_true rfl⟩) ⟨fb_ro, va_recv hK hP (ci := 2) (q0 := 0) rfl rfl, fun U hU hW => ⟨rfl, by rw [hU]; exact hP, va_K.moved hW.alike hK⟩⟩ rfl rfl hl.1 rfl (lv_room (Nat.le_of_ble_eq_true rfl)) dX2_sooner_32 ⟨Nat.zero_le _, Nat.zero_le _⟩) (fun r8 hw => ?_)
      refine lv_lconst (v := 0) hx hb dX2_sooner_35 (by decide) ?_
      refine W.lcmp hx hb dX2_sooner_36 ?_
      refine lv_if_ge (tgt := 44) hx hb dX2_sooner_37 (by decide) (fun hc => ?_) (fun hc => ?_)
      · have hw := hw.1 ((lg_cmp_ge _ _).mp hc)
        refine lv_iconst (v := 0) hx hb dX2_sooner_44 (by decide) ?_
        refine lv_goto (tgt := 60) hx hb dX2_sooner_45 (by decide) ?_
        exact hj7 (0 : Int32) hw ls (lv_sub hl [2] rfl)
      · have hw := hw.2 (fun h9 => hc ((lg_cmp_ge _ _).mpr h9))
        refine lv_iconst (v := 1) hx hb dX2_sooner_40 (by decide) ?_
        refine lv_goto (tgt := 60) hx hb dX2_sooner_41 (by decide) ?_
        exact hj7 (1 : Int32) hw ls (lv_sub hl [2] rfl)
-- X2_sweep
abbrev rm_X2_sweep : Room := { frames := 0, cells := 0, slots := 0, locals := 0 }
theorem f_X2_sweep_0 : (Cond.fieldLink RX2 9 "PlaneFaces$Segments" "x" "[I") ∈ wsX2_sweep := by decide +kernel
theorem f_X2_sweep_1 : ∀ w ∈ wsX20, w ∈ wsX2_sweep := by decide +kernel
theorem f_X2_sweep_2 : (Cond.fieldLink RX2 15 "PlaneFaces$Segments" "y" "[I") ∈ wsX2_sweep := by decide +kernel
set_option maxRecDepth 100000 in
set_option maxHeartbeats 4000000 in
theorem c_X2_sweep (l : Launch) (dC : Nat → ClassId) (dI : Nat → Nat → Nat) (cI cJ cZ : ClassId) (ad : Nat → Nat) (x : Nat → Int32) (y : Nat → Int32) (u : Nat → Int32) (sn : Int32) (v1 : Int32) {post : Int64 → Prop} (hw : wp_X2_sweep x y v1 post) : Met l yX2_sweep wsX2_sweep rm_X2_sweep (va_Pc [.ref (ad 16), .int v1] (fun U => va_P (dC, dI) vwCl (wSeg ad cI cJ cZ x y u sn) U.heap ∧ va_K (dC, dI) vwCl (tyL cI cJ cZ) U)) (vp_Sl post) 0 0 (fun _ => False) := by
  unfold wp_X2_sweep at hw
  refine Met.ofW (cc := cX2_sweep) (maxL := 2) (ret := (some .long)) (by decide) rfl ?_
  intro p e s m args below meth c s₁ B hml hv
  obtain ⟨hav, hP, hK⟩ := hv
  have hx := B.exec
  have hb := B.bytes
  have hr := B.returns
  have hts := atoms_spec (ws := wsX2_sweep) B.pre
  have hown : s.vm.findClass RX2 = some m.cls := findClass_of_methodNamed B.named
  have hlocks := B.notSynchronized
  have C : CallFix p m c cX2_sweep 2 s args wsX2_sweep RX2 := ⟨hx, hb, hml, hown, hts⟩
  obtain ⟨ls, hE, hl⟩ := mx_entry (m := m) [.ref (ad 16), .int v1] (n := 2) (Nat.le_of_ble_eq_true rfl)
  have hl : lv_has ls 2 [(0, .ref (ad 16)), (1, .int v1)] := hl
  rw [show entryFrame m args 2 = F0 m 0 ls [] by rw [hav]; exact hE]
  obtain ⟨Q, hQ⟩ : ∃ Q, MQ below (vp_Sl post) args s 0 0 (fun _ => False) = Q := ⟨_, rfl⟩
  rw [hQ]
  obtain ⟨H, hH⟩ : ∃ H, s.heap = H := ⟨_, rfl⟩
  rw [hH]
  rw [hH] at hP
  show W p l e rm_X2_sweep s m args below meth c H [] 0 0 Q (F0 m 0 ls [])
  refine lv_aload_n hx hb dX2_sweep_0 rfl (lv_at hl 0 rfl) ?_
  refine va_get (D := (dC, dI)) (ci := 2) (v := .ref (ad 17)) (C := RX2) (T := TX2) (N := 4) hx hb hts f_X2_sweep_1 hown hK hP 0 rfl rfl 0 (by decide) (hts _ f_X2_sweep_0) (fun _ h9 => h9) rfl dX2_sweep_1 ?_
  refine lv_iload_n hx hb dX2_sweep_4 rfl (lv_at hl 1 rfl) ?_
  have hi := hw.1
  have hw := hw.2
  refine va_iald hx hb hK hP 1 0 rfl rfl hi dX2_sweep_5 ?_
  refine lv_i2l hx hb dX2_sweep_6 rfl ?_
  refine lv_aload_n hx hb dX2_sweep_7 rfl (lv_at hl 0 rfl) ?_
  refine va_get (D := (dC, dI)) (ci := 2) (v := .ref (ad 18)) (C := RX2) (T := TX2) (N := 4) hx hb hts f_X2_sweep_1 hown hK hP 0 rfl rfl 1 (by decide) (hts _ f_X2_sweep_2) (fun _ h9 => h9) rfl dX2_sweep_8 ?_
  refine lv_iload_n hx hb dX2_sweep_11 rfl (lv_at hl 1 rfl) ?_
  refine lv_iconst (v := 1) hx hb dX2_sweep_12 (by decide) ?_
  refine lv_ixor hx hb dX2_sweep_13 ?_
  have hi := hw.1
  have hw := hw.2
  refine va_iald hx hb hK hP 2 0 rfl rfl hi dX2_sweep_14 ?_
  refine lv_i2l hx hb dX2_sweep_15 rfl ?_
  refine lv_lmul hx hb dX2_sweep_16 ?_
  refine lv_aload_n hx hb dX2_sweep_17 rfl (lv_at hl 0 rfl) ?_
  refine va_get (D := (dC, dI)) (ci := 2) (v := .ref (ad 17)) (C := RX2) (T := TX2) (N := 4) hx hb hts f_X2_sweep_1 hown hK hP 0 rfl rfl 0 (by decide) (hts _ f_X2_sweep_0) (fun _ h9 => h9) rfl dX2_sweep_18 ?_
  refine lv_iload_n hx hb dX2_sweep_21 rfl (lv_at hl 1 rfl) ?_
  refine lv_iconst (v := 1) hx hb dX2_sweep_22 (by decide) ?_
  refine lv_ixor hx hb dX2_sweep_23 ?_
  have hi := hw.1
  have hw := hw.2
  refine va_iald hx hb hK hP 1 0 rfl rfl hi dX2_sweep_24 ?_
  refine lv_i2l hx hb dX2_sweep_25 rfl ?_
  refine lv_aload_n hx hb dX2_sweep_26 rfl (lv_at hl 0 rfl) ?_
  refine va_get (D := (dC, dI)) (ci := 2) (v := .ref (ad 18)) (C := RX2) (T := TX2) (N := 4) hx hb hts f_X2_sweep_1 hown hK hP 0 rfl rfl 1 (by decide) (hts _ f_X2_sweep_2) (fun _ h9 => h9) rfl dX2_sweep_27 ?_
  refine lv_iload_n hx hb dX2_sweep_30 rfl (lv_at hl 1 rfl) ?_
  have hi := hw.1
  have hw := hw.2
  refine va_iald hx hb hK hP 2 0 rfl rfl hi dX2_sweep_31 ?_
  refine lv_i2l hx hb dX2_sweep_32 rfl ?_
  refine lv_lmul hx hb dX2_sweep_33 ?_
  refine lv_lsub hx hb dX2_sweep_34 ?_
  rw [← hQ]
  exact W.lret (v := (((x v1.toNatClampNeg).toInt64 * (y (v1 ^^^ (1 : Int32)).toNatClampNeg).toInt64) - ((x (v1 ^^^ (1 : Int32)).toNatClampNeg).toInt64 * (y v1.toNatClampNeg).toInt64))) hx hb hr (fun t ht hW => ⟨_, rfl, hw, ht.trans hH.symm⟩) (fun q h => by cases h) dX2_sweep_35
-- X2_rightward
abbrev rm_X2_rightward : Room := { frames := 0, cells := 0, slots := 0, locals := 0 }
theorem f_X2_rightward_0 : (Cond.fieldLink RX2 9 "PlaneFaces$Segments" "x" "[I") ∈ wsX2_rightward := by decide +kernel
theorem f_X2_rightward_1 : ∀ w ∈ wsX20, w ∈ wsX2_rightward := by decide +kernel
set_option maxRecDepth 100000 in
set_option maxHeartbeats 4000000 in
theorem c_X2_rightward (l : Launch) (dC : Nat → ClassId) (dI : Nat → Nat → Nat) (cI cJ cZ : ClassId) (ad : Nat → Nat) (x : Nat → Int32) (y : Nat → Int32) (u : Nat → Int32) (sn : Int32) (v1 : Int32) {post : Int32 → Prop} (hw : wp_X2_rightward x v1 post) : Met l yX2_rightward wsX2_rightward rm_X2_rightward (va_Pc [.ref (ad 16), .int v1] (fun U => va_P (dC, dI) vwCl (wSeg ad cI cJ cZ x y u sn) U.heap ∧ va_K (dC, dI) vwCl (tyL cI cJ cZ) U)) (vp_Si post) 0 0 (fun _ => False) := by
  unfold wp_X2_rightward at hw
  refine Met.ofW (cc := cX2_rightward) (maxL := 2) (ret := (some .int)) (by decide) rfl ?_
  intro p e s m args below meth c s₁ B hml hv
  obtain ⟨hav, hP, hK⟩ := hv
  have hx := B.exec
  have hb := B.bytes
  have hr := B.returns
  have hts := atoms_spec (ws := wsX2_rightward) B.pre
  have hown : s.vm.findClass RX2 = some m.cls := findClass_of_methodNamed B.named
  have hlocks := B.notSynchronized
  have C : CallFix p m c cX2_rightward 2 s args wsX2_rightward RX2 := ⟨hx, hb, hml, hown, hts⟩
  obtain ⟨ls, hE, hl⟩ := mx_entry (m := m) [.ref (ad 16), .int v1] (n := 2) (Nat.le_of_ble_eq_true rfl)
  have hl : lv_has ls 2 [(0, .ref (ad 16)), (1, .int v1)] := hl
  rw [show entryFrame m args 2 = F0 m 0 ls [] by rw [hav]; exact hE]
  obtain ⟨Q, hQ⟩ : ∃ Q, MQ below (vp_Si post) args s 0 0 (fun _ => False) = Q := ⟨_, rfl⟩
  rw [hQ]
  obtain ⟨H, hH⟩ : ∃ H, s.heap = H := ⟨_, rfl⟩
  rw [hH]
  rw [hH] at hP
  show W p l e rm_X2_rightward s m args below meth c H [] 0 0 Q (F0 m 0 ls [])
  refine lv_aload_n hx hb dX2_rightward_0 rfl (lv_at hl 0 rfl) ?_
  refine va_get (D := (dC, dI)) (ci := 2) (v := .ref (ad 17)) (C := RX2) (T := TX2) (N := 4) hx hb hts f_X2_rightward_1 hown hK hP 0 rfl rfl 0 (by decide) (hts _ f_X2_rightward_0) (fun _ h9 => h9) rfl dX2_rightward_1 ?_
  refine lv_iconst (v := 2) hx hb dX2_rightward_4 (by decide) ?_
  refine lv_iload_n hx hb dX2_rightward_5 rfl (lv_at hl 1 rfl) ?_
  refine lv_imul hx hb dX2_rightward_6 ?_
  have hi := hw.1
  have hw := hw.2
  refine va_iald hx hb hK hP 1 0 rfl rfl hi dX2_rightward_7 ?_
  refine lv_aload_n hx hb dX2_rightward_8 rfl (lv_at hl 0 rfl) ?_
  refine va_get (D := (dC, dI)) (ci := 2) (v := .ref (ad 17)) (C := RX2) (T := TX2) (N := 4) hx hb hts f_X2_rightward_1 hown hK hP 0 rfl rfl 0 (by decide) (hts _ f_X2_rightward_0) (fun _ h9 => h9) rfl dX2_rightward_9 ?_
  refine lv_iconst (v := 2) hx hb dX2_rightward_12 (by decide) ?_
  refine lv_iload_n hx hb dX2_rightward_13 rfl (lv_at hl 1 rfl) ?_
  refine lv_imul hx hb dX2_rightward_14 ?_
  refine lv_iconst (v := 1) hx hb dX2_rightward_15 (by decide) ?_
  refine lv_iadd hx hb dX2_rightward_16 ?_
  have hi := hw.1
  have hw := hw.2
  refine va_iald hx hb hK hP 1 0 rfl rfl hi dX2_rightward_17 ?_
  refine jn1_use (J := fun (k1 : Int32) => ∀ ls : Array Slot, lv_has ls 2 [(0, .ref (ad 16))] → W p l e rm_X2_rightward s m args below meth c H [] 0 0 Q (F0 m 32 ls [.int k1])) hw (fun k1 hw ls hl => ?_) (fun hw hj0 => ?_)
  · rw [← hQ]
    exact W.iret (v := k1) hx hb hr (fun t ht hW => ⟨_, rfl, hw, ht.trans hH.symm⟩) (fun q h => by cases h) dX2_rightward_32
  · have hj3 := hj0
    refine lv_icmp_gt (tgt := 27) hx hb dX2_rightward_18 (by decide) (fun hc => ?_) (fun hc => ?_)
    · have hw := hw.1 (hc)
      refine lv_iconst (v := 2) hx hb dX2_rightward_27 (by decide) ?_
      refine lv_iload_n hx hb dX2_rightward_28 rfl (lv_at hl 1 rfl) ?_
      refine lv_imul hx hb dX2_rightward_29 ?_
      refine lv_iconst (v := 1) hx hb dX2_rightward_30 (by decide) ?_
      refine lv_iadd hx hb dX2_rightward_31 ?_
      exact hj3 (((2 : Int32) * v1) + (1 : Int32)) hw ls (lv_sub hl [0] rfl)
    · have hw := hw.2 hc
      refine lv_iconst (v := 2) hx hb dX2_rightward_21 (by decide) ?_
      refine lv_iload_n hx hb dX2_rightward_22 rfl (lv_at hl 1 rfl) ?_
      refine lv_imul hx hb dX2_rightward_23 ?_
      refine lv_goto (tgt := 32) hx hb dX2_rightward_24 (by decide) ?_
      exact hj3 ((2 : Int32) * v1) hw ls (lv_sub hl [0] rfl)
-- X2_roofs
abbrev rm_X2_roofs : Room := { frames := 1, cells := 0, slots := 0, locals := 27 }
theorem f_X2_roofs_0 : (Cond.fieldLink RX2 9 "PlaneFaces$Segments" "x" "[I") ∈ wsX2_roofs := by decide +kernel
theorem f_X2_roofs_1 : ∀ w ∈ wsX20, w ∈ wsX2_roofs := by decide +kernel
set_option maxRecDepth 100000 in
set_option maxHeartbeats 4000000 in
theorem c_X2_roofs (l : Launch) (dC : Nat → ClassId) (dI : Nat → Nat → Nat) (cI cJ cZ : ClassId) (ad : Nat → Nat) (x : Nat → Int32) (y : Nat → Int32) (u : Nat → Int32) (sn : Int32) (v1 : Int32) (v2 : Int32) (v3 : Int32) {post : Int32 → Prop} (hw : wp_X2_roofs x y v1 v2 v3 post) : Met l yX2_roofs wsX2_roofs rm_X2_roofs (va_Pc [.ref (ad 16), .int v1, .int v2, .int v3] (fun U => va_P (dC, dI) vwCl (wSeg ad cI cJ cZ x y u sn) U.heap ∧ va_K (dC, dI) vwCl (tyL cI cJ cZ) U)) (vp_Si post) 0 0 (fun _ => False) := by
  unfold wp_X2_roofs at hw
  refine Met.ofW (cc := cX2_roofs) (maxL := 5) (ret := (some .boolean)) (by decide) rfl ?_
  intro p e s m args below meth c s₁ B hml hv
  obtain ⟨hav, hP, hK⟩ := hv
  have hx := B.exec
  have hb := B.bytes
  have hr := B.returns
  have hts := atoms_spec (ws := wsX2_roofs) B.pre
  have hown : s.vm.findClass RX2 = some m.cls := findClass_of_methodNamed B.named
  have hlocks := B.notSynchronized
  have C : CallFix p m c cX2_roofs 5 s args wsX2_roofs RX2 := ⟨hx, hb, hml, hown, hts⟩
  obtain ⟨ls, hE, hl⟩ := mx_entry (m := m) [.ref (ad 16), .int v1, .int v2, .int v3] (n := 5) (Nat.le_of_ble_eq_true rfl)
  have hl : lv_has ls 5 [(0, .ref (ad 16)), (1, .int v1), (2, .int v2), (3, .int v3)] := hl
  rw [show entryFrame m args 5 = F0 m 0 ls [] by rw [hav]; exact hE]
  obtain ⟨Q, hQ⟩ : ∃ Q, MQ below (vp_Si post) args s 0 0 (fun _ => False) = Q := ⟨_, rfl⟩
  rw [hQ]
  obtain ⟨H, hH⟩ : ∃ H, s.heap = H := ⟨_, rfl⟩
  rw [hH]
  rw [hH] at hP
  show W p l e rm_X2_roofs s m args below meth c H [] 0 0 Q (F0 m 0 ls [])
  refine lv_aload_n hx hb dX2_roofs_0 rfl (lv_at hl 0 rfl) ?_
  refine lv_iload_n hx hb dX2_roofs_1 rfl (lv_at hl 1 rfl) ?_
  refine vp_callSi (W.runV (As := [.int v1]) (rest := []) C (c_X2_rightward l dC dI cI cJ cZ ad x y u sn v1 hw) (cwV 1 hts gX2_roofs_X2_rightward rfl rfl rfl (by decide +kernel) ⟨Nat.le_of_ble_eq_true rfl, Nat.le_of_ble_eq_true rfl⟩) ⟨fb_ro, va_recv hK hP (ci := 2) (q0 := 0) rfl rfl, fun U hU hW => ⟨rfl, by rw [hU]; exact hP, va_K.moved hW.alike hK⟩⟩ rfl rfl hl.1 rfl (lv_room (Nat.le_of_ble_eq_true rfl)) dX2_roofs_2 ⟨Nat.zero_le _, Nat.zero_le _⟩) (fun r1 hw => ?_)
  refine lv_istore (lv' := [(4, .int r1), (0, .ref (ad 16)), (1, .int v1), (2, .int v2), (3, .int v3)]) hx hb dX2_roofs_5 hl (by decide) rfl (fun ls hl => ?_)
  refine lv_aload_n hx hb dX2_roofs_7 rfl (lv_at hl 1 rfl) ?_
  refine va_get (D := (dC, dI)) (ci := 2) (v := .ref (ad 17)) (C := RX2) (T := TX2) (N := 4) hx hb hts f_X2_roofs_1 hown hK hP 0 rfl rfl 0 (by decide) (hts _ f_X2_roofs_0) (fun _ h9 => h9) rfl dX2_roofs_8 ?_
  refine lv_iload hx hb dX2_roofs_11 (lv_at hl 0 rfl) ?_
  have hi := hw.1
  have hw := hw.2
  refine va_iald hx hb hK hP 1 0 rfl rfl hi dX2_roofs_13 ?_
  refine lv_iload_n hx hb dX2_roofs_14 rfl (lv_at hl 3 rfl) ?_
  refine jn1_use (J := fun (k2 : Int32) => ∀ ls : Array Slot, lv_has ls 5 [(0, .ref (ad 16))] → W p l e rm_X2_roofs s m args below meth c H [] 0 0 Q (F0 m 49 ls [.int k2])) hw (fun k2 hw ls hl => ?_) (fun hw hj0 => ?_)
  · rw [← hQ]
    exact W.zret (v := k2) (ty := .boolean) hx hb hr (bz_n hw.1) (fun t ht hW => ⟨_, rfl, hw.2, ht.trans hH.symm⟩) (fun q h => by cases h) dX2_roofs_49
  · have hj4 := hj0
    refine jn0_use (J := ∀ ls : Array Slot, lv_has ls 5 [(0, .ref (ad 16))] → W p l e rm_X2_roofs s m args below meth c H [] 0 0 Q (F0 m 48 ls [])) hw (fun hw ls hl => ?_) (fun hw hj0 => ?_)
    · refine lv_iconst (v := 0) hx hb dX2_roofs_48 (by decide) ?_
      exact hj4 (0 : Int32) hw ls (lv_sub hl [0] rfl)
    · have hj6 := hj0
      refine lv_icmp_gt (tgt := 48) hx hb dX2_roofs_15 (by decide) (fun hc => ?_) (fun hc => ?_)
      · have hw := hw.1 (hc)
        exact hj6 hw ls (lv_sub hl [1] rfl)
      · have hw := hw.2 hc
        refine lv_iload_n hx hb dX2_roofs_18 rfl (lv_at hl 3 rfl) ?_
        refine lv_aload_n hx hb dX2_roofs_19 rfl (lv_at hl 1 rfl) ?_
        refine va_get (D := (dC, dI)) (ci := 2) (v := .ref (ad 17)) (C := RX2) (T := TX2) (N := 4) hx hb hts f_X2_roofs_1 hown hK hP 0 rfl rfl 0 (by decide) (hts _ f_X2_roofs_0) (fun _ h9 => h9) rfl dX2_roofs_20 ?_
        refine lv_iload hx hb dX2_roofs_23 (lv_at hl 0 rfl) ?_
        refine lv_iconst (v := 1) hx hb dX2_roofs_25 (by decide) ?_
        refine lv_ixor hx hb dX2_roofs_26 ?_
        have hi := hw.1
        have hw := hw.2
        refine va_iald hx hb hK hP 1 0 rfl rfl hi dX2_roofs_27 ?_
        refine lv_icmp_ge (tgt := 48) hx hb dX2_roofs_28 (by decide) (fun hc => ?_) (fun hc => ?_)
        · have hw := hw.1 (hc)
          exact hj6 hw ls (lv_sub hl [1] rfl)
        · have hw := hw.2 hc
          refine lv_aload_n hx hb dX2_roofs_31 rfl (lv_at hl 1 rfl) ?_
          refine lv_iload hx hb dX2_roofs_32 (lv_at hl 0 rfl) ?_
          refine lv_iload_n hx hb dX2_roofs_34 rfl (lv_at hl 3 rfl) ?_
          refine lv_iload_n hx hb dX2_roofs_35 rfl (lv_at hl 4 rfl) ?_
          refine vp_callSl (W.runV (As := [.int r1, .int v2, .int v3]) (rest := []) C (c_X2_side l dC dI cI cJ cZ ad x y u sn r1 v2 v3 hw) (cwV 3 hts gX2_roofs_X2_side rfl rfl rfl (by decide +kernel) ⟨Nat.le_of_ble_eq_true rfl, Nat.le_of_ble_eq_true rfl⟩) ⟨fb_ro, va_recv hK hP (ci := 2) (q0 := 0) rfl rfl, fun U hU hW => ⟨rfl, by rw [hU]; exact hP, va_K.moved hW.alike hK⟩⟩ rfl rfl hl.1 rfl (lv_room (Nat.le_of_ble_eq_true rfl)) dX2_roofs_36 ⟨Nat.zero_le _, Nat.zero_le _⟩) (fun r7 hw => ?_)
          refine lv_lconst (v := 0) hx hb dX2_roofs_39 (by decide) ?_
          refine W.lcmp hx hb dX2_roofs_40 ?_
          refine lv_if_ge (tgt := 48) hx hb dX2_roofs_41 (by decide) (fun hc => ?_) (fun hc => ?_)
          · have hw := hw.1 ((lg_cmp_ge _ _).mp hc)
            exact hj6 hw ls (lv_sub hl [1] rfl)
          · have hw := hw.2 (fun h9 => hc ((lg_cmp_ge _ _).mpr h9))
            refine lv_iconst (v := 1) hx hb dX2_roofs_44 (by decide) ?_
            refine lv_goto (tgt := 49) hx hb dX2_roofs_45 (by decide) ?_
            exact hj4 (1 : Int32) hw ls (lv_sub hl [1] rfl)
-- X2_reachesAbove
abbrev rm_X2_reachesAbove : Room := { frames := 1, cells := 0, slots := 0, locals := 27 }
theorem f_X2_reachesAbove_0 : (Cond.fieldLink RX2 9 "PlaneFaces$Segments" "x" "[I") ∈ wsX2_reachesAbove := by decide +kernel
theorem f_X2_reachesAbove_1 : ∀ w ∈ wsX20, w ∈ wsX2_reachesAbove := by decide +kernel
theorem f_X2_reachesAbove_2 : (Cond.fieldLink RX2 15 "PlaneFaces$Segments" "y" "[I") ∈ wsX2_reachesAbove := by decide +kernel
theorem f_X2_reachesAbove_3 : (Cond.methodLink RX2 72 Lib.Math.max.name) ∈ wsX2_reachesAbove := by decide +kernel
theorem f_X2_reachesAbove_4 : (Cond.static Lib.Math.max.name) ∈ wsX2_reachesAbove := by decide +kernel
theorem f_X2_reachesAbove_5 : (Cond.initialized "java/lang/Math") ∈ wsX2_reachesAbove := by decide +kernel
theorem f_X2_reachesAbove_6 : (Cond.code Lib.Math.max.name Lib.Math.max.code 2 (some .int)) ∈ wsX2_reachesAbove := by decide +kernel
set_option maxRecDepth 100000 in
set_option maxHeartbeats 4000000 in
theorem c_X2_reachesAbove (l : Launch) (dC : Nat → ClassId) (dI : Nat → Nat → Nat) (cI cJ cZ : ClassId) (ad : Nat → Nat) (x : Nat → Int32) (y : Nat → Int32) (u : Nat → Int32) (sn : Int32) (v1 : Int32) (v2 : Int32) (v3 : Int32) {post : Int32 → Prop} (hw : wp_X2_reachesAbove x y v1 v2 v3 post) : Met l yX2_reachesAbove wsX2_reachesAbove rm_X2_reachesAbove (va_Pc [.ref (ad 16), .int v1, .int v2, .int v3] (fun U => va_P (dC, dI) vwCl (wSeg ad cI cJ cZ x y u sn) U.heap ∧ va_K (dC, dI) vwCl (tyL cI cJ cZ) U)) (vp_Si post) 0 0 (fun _ => False) := by
  unfold wp_X2_reachesAbove at hw
  refine Met.ofW (cc := cX2_reachesAbove) (maxL := 5) (ret := (some .boolean)) (by decide) rfl ?_
  intro p e s m args below meth c s₁ B hml hv
  obtain ⟨hav, hP, hK⟩ := hv
  have hx := B.exec
  have hb := B.bytes
  have hr := B.returns
  have hts := atoms_spec (ws := wsX2_reachesAbove) B.pre
  have hown : s.vm.findClass RX2 = some m.cls := findClass_of_methodNamed B.named
  have hlocks := B.notSynchronized
  have C : CallFix p m c cX2_reachesAbove 5 s args wsX2_reachesAbove RX2 := ⟨hx, hb, hml, hown, hts⟩
  obtain ⟨ls, hE, hl⟩ := mx_entry (m := m) [.ref (ad 16), .int v1, .int v2, .int v3] (n := 5) (Nat.le_of_ble_eq_true rfl)
  have hl : lv_has ls 5 [(0, .ref (ad 16)), (1, .int v1), (2, .int v2), (3, .int v3)] := hl
  rw [show entryFrame m args 5 = F0 m 0 ls [] by rw [hav]; exact hE]
  obtain ⟨Q, hQ⟩ : ∃ Q, MQ below (vp_Si post) args s 0 0 (fun _ => False) = Q := ⟨_, rfl⟩
  rw [hQ]
  obtain ⟨H, hH⟩ : ∃ H, s.heap = H := ⟨_, rfl⟩
  rw [hH]
  rw [hH] at hP
  show W p l e rm_X2_reachesAbove s m args below meth c H [] 0 0 Q (F0 m 0 ls [])
  refine lv_aload_n hx hb dX2_reachesAbove_0 rfl (lv_at hl 0 rfl) ?_
  refine lv_iload_n hx hb dX2_reachesAbove_1 rfl (lv_at hl 1 rfl) ?_
  refine vp_callSi (W.runV (As := [.int v1]) (rest := []) C (c_X2_rightward l dC dI cI cJ cZ ad x y u sn v1 hw) (cwV 1 hts gX2_reachesAbove_X2_rightward rfl rfl rfl (by decide +kernel) ⟨Nat.le_of_ble_eq_true rfl, Nat.le_of_ble_eq_true rfl⟩) ⟨fb_ro, va_recv hK hP (ci := 2) (q0 := 0) rfl rfl, fun U hU hW => ⟨rfl, by rw [hU]; exact hP, va_K.moved hW.alike hK⟩⟩ rfl rfl hl.1 rfl (lv_room (Nat.le_of_ble_eq_true rfl)) dX2_reachesAbove_2 ⟨Nat.zero_le _, Nat.zero_le _⟩) (fun r1 hw => ?_)
  refine lv_istore (lv' := [(4, .int r1), (0, .ref (ad 16)), (1, .int v1), (2, .int v2), (3, .int v3)]) hx hb dX2_reachesAbove_5 hl (by decide) rfl (fun ls hl => ?_)
  refine lv_iload_n hx hb dX2_reachesAbove_7 rfl (lv_at hl 3 rfl) ?_
  refine lv_aload_n hx hb dX2_reachesAbove_8 rfl (lv_at hl 1 rfl) ?_
  refine va_get (D := (dC, dI)) (ci := 2) (v := .ref (ad 17)) (C := RX2) (T := TX2) (N := 4) hx hb hts f_X2_reachesAbove_1 hown hK hP 0 rfl rfl 0 (by decide) (hts _ f_X2_reachesAbove_0) (fun _ h9 => h9) rfl dX2_reachesAbove_9 ?_
  refine lv_iload hx hb dX2_reachesAbove_12 (lv_at hl 0 rfl) ?_
  have hi := hw.1
  have hw := hw.2
  refine va_iald hx hb hK hP 1 0 rfl rfl hi dX2_reachesAbove_14 ?_
  refine jn0_use (J := ∀ ls : Array Slot, lv_has ls 5 [(0, .ref (ad 16))] → W p l e rm_X2_reachesAbove s m args below meth c H [] 0 0 Q (F0 m 31 ls [])) hw (fun hw ls hl => ?_) (fun hw hj0 => ?_)
  · refine lv_iconst (v := 0) hx hb dX2_reachesAbove_31 (by decide) ?_
    rw [← hQ]
    exact W.zret (v := (0 : Int32)) (ty := .boolean) hx hb hr (bz_n hw.1) (fun t ht hW => ⟨_, rfl, hw.2, ht.trans hH.symm⟩) (fun q h => by cases h) dX2_reachesAbove_32
  · have hj3 := hj0
    refine lv_icmp_lt (tgt := 31) hx hb dX2_reachesAbove_15 (by decide) (fun hc => ?_) (fun hc => ?_)
    · have hw := hw.1 (hc)
      exact hj3 hw ls (lv_sub hl [1] rfl)
    · have hw := hw.2 hc
      refine lv_iload_n hx hb dX2_reachesAbove_18 rfl (lv_at hl 3 rfl) ?_
      refine lv_aload_n hx hb dX2_reachesAbove_19 rfl (lv_at hl 1 rfl) ?_
      refine va_get (D := (dC, dI)) (ci := 2) (v := .ref (ad 17)) (C := RX2) (T := TX2) (N := 4) hx hb hts f_X2_reachesAbove_1 hown hK hP 0 rfl rfl 0 (by decide) (hts _ f_X2_reachesAbove_0) (fun _ h9 => h9) rfl dX2_reachesAbove_20 ?_
      refine lv_iload hx hb dX2_reachesAbove_23 (lv_at hl 0 rfl) ?_
      refine lv_iconst (v := 1) hx hb dX2_reachesAbove_25 (by decide) ?_
      refine lv_ixor hx hb dX2_reachesAbove_26 ?_
      have hi := hw.1
      have hw := hw.2
      refine va_iald hx hb hK hP 1 0 rfl rfl hi dX2_reachesAbove_27 ?_
      refine lv_icmp_le (tgt := 33) hx hb dX2_reachesAbove_28 (by decide) (fun hc => ?_) (fun hc => ?_)
      · have hw := hw.1 (hc)
        refine lv_aload_n hx hb dX2_reachesAbove_33 rfl (lv_at hl 1 rfl) ?_
        refine va_get (D := (dC, dI)) (ci := 2) (v := .ref (ad 17)) (C := RX2) (T := TX2) (N := 4) hx hb hts f_X2_reachesAbove_1 hown hK hP 0 rfl rfl 0 (by decide) (hts _ f_X2_reachesAbove_0) (fun _ h9 => h9) rfl dX2_reachesAbove_34 ?_
        refine lv_iload hx hb dX2_reachesAbove_37 (lv_at hl 0 rfl) ?_
        have hi := hw.1
        have hw := hw.2
        refine va_iald hx hb hK hP 1 0 rfl rfl hi dX2_reachesAbove_39 ?_
        refine lv_aload_n hx hb dX2_reachesAbove_40 rfl (lv_at hl 1 rfl) ?_
        refine va_get (D := (dC, dI)) (ci := 2) (v := .ref (ad 17)) (C := RX2) (T := TX2) (N := 4) hx hb hts f_X2_reachesAbove_1 hown hK hP 0 rfl rfl 0 (by decide) (hts _ f_X2_reachesAbove_0) (fun _ h9 => h9) rfl dX2_reachesAbove_41 ?_
        refine lv_iload hx hb dX2_reachesAbove_44 (lv_at hl 0 rfl) ?_
        refine lv_iconst (v := 1) hx hb dX2_reachesAbove_46 (by decide) ?_
        refine lv_ixor hx hb dX2_reachesAbove_47 ?_
        have hi := hw.1
        have hw := hw.2
        refine va_iald hx hb hK hP 1 0 rfl rfl hi dX2_reachesAbove_48 ?_
        refine lv_icmp_ne (tgt := 81) hx hb dX2_reachesAbove_49 (by decide) (fun hc => ?_) (fun hc => ?_)
        · have hw := hw.2 hc
          refine lv_aload_n hx hb dX2_reachesAbove_81 rfl (lv_at hl 1 rfl) ?_
          refine lv_iload hx hb dX2_reachesAbove_82 (lv_at hl 0 rfl) ?_
          refine lv_iload_n hx hb dX2_reachesAbove_84 rfl (lv_at hl 3 rfl) ?_
          refine lv_iload_n hx hb dX2_reachesAbove_85 rfl (lv_at hl 4 rfl) ?_
          refine vp_callSl (W.runV (As := [.int r1, .int v2, .int v3]) (rest := []) C (c_X2_side l dC dI cI cJ cZ ad x y u sn r1 v2 v3 hw) (cwV 3 hts gX2_reachesAbove_X2_side rfl rfl rfl (by decide +kernel) ⟨Nat.le_of_ble_eq_true rfl, Nat.le_of_ble_eq_true rfl⟩) ⟨fb_ro, va_recv hK hP (ci := 2) (q0 := 0) rfl rfl, fun U hU hW => ⟨rfl, by rw [hU]; exact hP, va_K.moved hW.alike hK⟩⟩ rfl rfl hl.1 rfl (lv_room (Nat.le_of_ble_eq_true rfl)) dX2_reachesAbove_86 ⟨Nat.zero_le _, Nat.zero_le _⟩) (fun r4 hw => ?_)
          refine lv_lconst (v := 0) hx hb dX2_reachesAbove_89 (by decide) ?_
          refine W.lcmp hx hb dX2_reachesAbove_90 ?_
          refine jn1_use (J := fun (k5 : Int32) => ∀ ls : Array Slot, lv_has ls 5 [(0, .ref (ad 16))] → W p l e rm_X2_reachesAbove s m args below meth c H [] 0 0 Q (F0 m 99 ls [.int k5])) hw (fun k5 hw ls hl => ?_) (fun hw hj0 => ?_)
          · rw [← hQ]
            exact W.zret (v := k5) (ty := .boolean) hx hb hr (bz_n hw.1) (fun t ht hW => ⟨_, rfl, hw.2, ht.trans hH.symm⟩) (fun q h => by cases h) dX2_reachesAbove_99
          · have hj7 := hj0
            refine lv_if_ge (tgt := 98) hx hb dX2_reachesAbove_91 (by decide) (fun hc => ?_) (fun hc => ?_)
            · have hw := hw.1 ((lg_cmp_ge _ _).mp hc)
              refine lv_iconst (v := 0) hx hb dX2_reachesAbove_98 (by decide) ?_
              exact hj7 (0 : Int32) hw ls (lv_sub hl [1] rfl)
            · have hw := hw.2 (fun h9 => hc ((lg_cmp_ge _ _).mpr h9))
              refine lv_iconst (v := 1) hx hb dX2_reachesAbove_94 (by decide) ?_
              refine lv_goto (tgt := 99) hx hb dX2_reachesAbove_95 (by decide) ?_
              exact hj7 (1 : Int32) hw ls (lv_sub hl [1] rfl)
        · have hw := hw.1 (hc)
          refine lv_aload_n hx hb dX2_reachesAbove_52 rfl (lv_at hl 1 rfl) ?_
          refine va_get (D := (dC, dI)) (ci := 2) (v := .ref (ad 18)) (C := RX2) (T := TX2) (N := 4) hx hb hts f_X2_reachesAbove_1 hown hK hP 0 rfl rfl 1 (by decide) (hts _ f_X2_reachesAbove_2) (fun _ h9 => h9) rfl dX2_reachesAbove_53 ?_
          refine lv_iload hx hb dX2_reachesAbove_56 (lv_at hl 0 rfl) ?_
          have hi := hw.1
          have hw := hw.2
          refine va_iald hx hb hK hP 2 0 rfl rfl hi dX2_reachesAbove_58 ?_
          refine lv_aload_n hx hb dX2_reachesAbove_59 rfl (lv_at hl 1 rfl) ?_
          refine va_get (D := (dC, dI)) (ci := 2) (v := .ref (ad 18)) (C := RX2) (T := TX2) (N := 4) hx hb hts f_X2_reachesAbove_1 hown hK hP 0 rfl rfl 1 (by decide) (hts _ f_X2_reachesAbove_2) (fun _ h9 => h9) rfl dX2_reachesAbove_60 ?_
          refine lv_iload hx hb dX2_reachesAbove_63 (lv_at hl 0 rfl) ?_
          refine lv_iconst (v := 1) hx hb dX2_reachesAbove_65 (by decide) ?_
          refine lv_ixor hx hb dX2_reachesAbove_66 ?_
          have hi := hw.1
          have hw := hw.2
          refine va_iald hx hb hK hP 2 0 rfl rfl hi dX2_reachesAbove_67 ?_
          refine va_mmax hx hb (hml.trans hl.1.symm) hown (hts _ f_X2_reachesAbove_3) (hts _ f_X2_reachesAbove_4) (hts _ f_X2_reachesAbove_5) (hts _ f_X2_reachesAbove_6) (Nat.le_of_ble_eq_true rfl) (Nat.le_of_ble_eq_true rfl) (Nat.zero_le _) (Nat.zero_le _) dX2_reachesAbove_68 ?_
          refine lv_iload_n hx hb dX2_reachesAbove_71 rfl (lv_at hl 4 rfl) ?_
          refine jn1_use (J := fun (k8 : Int32) => ∀ ls : Array Slot, lv_has ls 5 [(0, .ref (ad 16))] → W p l e rm_X2_reachesAbove s m args below meth c H [] 0 0 Q (F0 m 80 ls [.int k8])) hw (fun k8 hw ls hl => ?_) (fun hw hj0 => ?_)
          · rw [← hQ]
            exact W.zret (v := k8) (ty := .boolean) hx hb hr (bz_n hw.1) (fun t ht hW => ⟨_, rfl, hw.2, ht.trans hH.symm⟩) (fun q h => by cases h) dX2_reachesAbove_80
          · have hj10 := hj0
            refine lv_icmp_le (tgt := 79) hx hb dX2_reachesAbove_72 (by decide) (fun hc => ?_) (fun hc => ?_)
            · have hw := hw.1 (hc)
              refine lv_iconst (v := 0) hx hb dX2_reachesAbove_79 (by decide) ?_
              exact hj10 (0 : Int32) hw ls (lv_sub hl [1] rfl)
            · have hw := hw.2 hc
              refine lv_iconst (v := 1) hx hb dX2_reachesAbove_75 (by decide) ?_
              refine lv_goto (tgt := 80) hx hb dX2_reachesAbove_76 (by decide) ?_
              exact hj10 (1 : Int32) hw ls (lv_sub hl [1] rfl)
      · have hw := hw.2 hc
        exact hj3 hw ls (lv_sub hl [1] rfl)
-- X2_height
abbrev rm_X2_height : Room := { frames := 1, cells := 0, slots := 0, locals := 21 }
theorem f_X2_height_0 : (Cond.fieldLink RX2 9 "PlaneFaces$Segments" "x" "[I") ∈ wsX2_height := by decide +kernel
theorem f_X2_height_1 : ∀ w ∈ wsX20, w ∈ wsX2_height := by decide +kernel
theorem f_X2_height_2 : (Cond.fieldLink RX2 15 "PlaneFaces$Segments" "y" "[I") ∈ wsX2_height := by decide +kernel
theorem f_X2_height_3 : (Cond.methodLink RX2 78 Lib.Math.min.name) ∈ wsX2_height := by decide +kernel
theorem f_X2_height_4 : (Cond.static Lib.Math.min.name) ∈ wsX2_height := by decide +kernel
theorem f_X2_height_5 : (Cond.initialized "java/lang/Math") ∈ wsX2_height := by decide +kernel
theorem f_X2_height_6 : (Cond.code Lib.Math.min.name Lib.Math.min.code 2 (some .int)) ∈ wsX2_height := by decide +kernel
theorem f_X2_height_7 : (Cond.methodLink RX2 72 Lib.Math.max.name) ∈ wsX2_height := by decide +kernel
theorem f_X2_height_8 : (Cond.static Lib.Math.max.name) ∈ wsX2_height := by decide +kernel
theorem f_X2_height_9 : (Cond.code Lib.Math.max.name Lib.Math.max.code 2 (some .int)) ∈ wsX2_height := by decide +kernel
set_option maxRecDepth 100000 in
set_option maxHeartbeats 4000000 in
theorem c_X2_height (l : Launch) (dC : Nat → ClassId) (dI : Nat → Nat → Nat) (cI cJ cZ : ClassId) (ad : Nat → Nat) (x : Nat → Int32) (y : Nat → Int32) (u : Nat → Int32) (sn : Int32) (v1 : Int32) (v2 : Int32) (v3 : Int32) {post : Int64 → Prop} (hw : wp_X2_height x y v1 v2 v3 post) : Met l yX2_height wsX2_height rm_X2_height (va_Pc [.ref (ad 16), .int v1, .int v2, .int v3] (fun U => va_P (dC, dI) vwCl (wSeg ad cI cJ cZ x y u sn) U.heap ∧ va_K (dC, dI) vwCl (tyL cI cJ cZ) U)) (vp_Sl post) 0 0 (fun _ => False) := by
  unfold wp_X2_height at hw
  refine Met.ofW (cc := cX2_height) (maxL := 9) (ret := (some .long)) (by decide) rfl ?_
  intro p e s m args below meth c s₁ B hml hv
  obtain ⟨hav, hP, hK⟩ := hv
  have hx := B.exec
  have hb := B.bytes
  have hr := B.returns
  have hts := atoms_spec (ws := wsX2_height) B.pre
  have hown : s.vm.findClass RX2 = some m.cls := findClass_of_methodNamed B.named
  have hlocks := B.notSynchronized
  have C : CallFix p m c cX2_height 9 s args wsX2_height RX2 := ⟨hx, hb, hml, hown, hts⟩
  obtain ⟨ls, hE, hl⟩ := mx_entry (m := m) [.ref (ad 16), .int v1, .int v2, .int v3] (n := 9) (Nat.le_of_ble_eq_true rfl)
  have hl : lv_has ls 9 [(0, .ref (ad 16)), (1, .int v1), (2, .int v2), (3, .int v3)] := hl
  rw [show entryFrame m args 9 = F0 m 0 ls [] by rw [hav]; exact hE]
  obtain ⟨Q, hQ⟩ : ∃ Q, MQ below (vp_Sl post) args s 0 0 (fun _ => False) = Q := ⟨_, rfl⟩
  rw [hQ]
  obtain ⟨H, hH⟩ : ∃ H, s.heap = H := ⟨_, rfl⟩
  rw [hH]
  rw [hH] at hP
  show W p l e rm_X2_height s m args below meth c H [] 0 0 Q (F0 m 0 ls [])
  refine lv_aload_n hx hb dX2_height_0 rfl (lv_at hl 0 rfl) ?_
  refine lv_iload_n hx hb dX2_height_1 rfl (lv_at hl 1 rfl) ?_
  refine vp_callSi (W.runV (As := [.int v1]) (rest := []) C (c_X2_rightward l dC dI cI cJ cZ ad x y u sn v1 hw) (cwV 1 hts gX2_height_X2_rightward rfl rfl rfl (by decide +kernel) ⟨Nat.le_of_ble_eq_true rfl, Nat.le_of_ble_eq_true rfl⟩) ⟨fb_ro, va_recv hK hP (ci := 2) (q0 := 0) rfl rfl, fun U hU hW => ⟨rfl, by rw [hU]; exact hP, va_K.moved hW.alike hK⟩⟩ rfl rfl hl.1 rfl (lv_room (Nat.le_of_ble_eq_true rfl)) dX2_height_2 ⟨Nat.zero_le _, Nat.zero_le _⟩) (fun r1 hw => ?_)
  refine lv_istore (lv' := [(4, .int r1), (0, .ref (ad 16)), (1, .int v1), (2, .int v2), (3, .int v3)]) hx hb dX2_height_5 hl (by decide) rfl (fun ls hl => ?_)
  refine lv_aload_n hx hb dX2_height_7 rfl (lv_at hl 1 rfl) ?_
  refine va_get (D := (dC, dI)) (ci := 2) (v := .ref (ad 17)) (C := RX2) (T := TX2) (N := 4) hx hb hts f_X2_height_1 hown hK hP 0 rfl rfl 0 (by decide) (hts _ f_X2_height_0) (fun _ h9 => h9) rfl dX2_height_8 ?_
  refine lv_iload hx hb dX2_height_11 (lv_at hl 0 rfl) ?_
  refine lv_iconst (v := 1) hx hb dX2_height_13 (by decide) ?_
  refine lv_ixor hx hb dX2_height_14 ?_
  have hi := hw.1
  have hw := hw.2
  refine va_iald hx hb hK hP 1 0 rfl rfl hi dX2_height_15 ?_
  refine lv_aload_n hx hb dX2_height_16 rfl (lv_at hl 1 rfl) ?_
  refine va_get (D := (dC, dI)) (ci := 2) (v := .ref (ad 17)) (C := RX2) (T := TX2) (N := 4) hx hb hts f_X2_height_1 hown hK hP 0 rfl rfl 0 (by decide) (hts _ f_X2_height_0) (fun _ h9 => h9) rfl dX2_height_17 ?_
  refine lv_iload hx hb dX2_height_20 (lv_at hl 0 rfl) ?_
  have hi := hw.1
  have hw := hw.2
  refine va_iald hx hb hK hP 1 0 rfl rfl hi dX2_height_22 ?_
  refine lv_isub hx hb dX2_height_23 ?_
  refine lv_i2l hx hb dX2_height_24 rfl ?_
  refine lv_topl (fun a2 ea2 => ?_)
  have hw := hw a2 ea2
  refine lv_lstore (lv' := [(5, .long a2), (4, .int r1), (0, .ref (ad 16)), (1, .int v1), (2, .int v2), (3, .int v3)]) hx hb dX2_height_25 hl (by decide) rfl (fun ls hl => ?_)
  refine lv_lload hx hb dX2_height_27 (lv_at hl 0 rfl) ?_
  refine lv_lconst (v := 0) hx hb dX2_height_29 (by decide) ?_
  refine W.lcmp hx hb dX2_height_30 ?_
  refine lv_if_ne (tgt := 59) hx hb dX2_height_31 (by decide) (fun hc => ?_) (fun hc => ?_)
  · have hw := hw.2 (fun h9 => hc ((lg_cmp_eq _ _).mpr h9))
    refine lv_aload_n hx hb dX2_height_59 rfl (lv_at hl 2 rfl) ?_
    refine va_get (D := (dC, dI)) (ci := 2) (v := .ref (ad 18)) (C := RX2) (T := TX2) (N := 4) hx hb hts f_X2_height_1 hown hK hP 0 rfl rfl 1 (by decide) (hts _ f_X2_height_2) (fun _ h9 => h9) rfl dX2_height_60 ?_
    refine lv_iload hx hb dX2_height_63 (lv_at hl 1 rfl) ?_
    refine lv_iconst (v := 1) hx hb dX2_height_65 (by decide) ?_
    refine lv_ixor hx hb dX2_height_66 ?_
    have hi := hw.1
    have hw := hw.2
    refine va_iald hx hb hK hP 2 0 rfl rfl hi dX2_height_67 ?_
    refine lv_aload_n hx hb dX2_height_68 rfl (lv_at hl 2 rfl) ?_
    refine va_get (D := (dC, dI)) (ci := 2) (v := .ref (ad 18)) (C := RX2) (T := TX2) (N := 4) hx hb hts f_X2_height_1 hown hK hP 0 rfl rfl 1 (by decide) (hts _ f_X2_height_2) (fun _ h9 => h9) rfl dX2_height_69 ?_
    refine lv_iload hx hb dX2_height_72 (lv_at hl 1 rfl) ?_
    have hi := hw.1
    have hw := hw.2
    refine va_iald hx hb hK hP 2 0 rfl rfl hi dX2_height_74 ?_
    refine lv_isub hx hb dX2_height_75 ?_
    refine lv_i2l hx hb dX2_height_76 rfl ?_
    refine lv_topl (fun a3 ea3 => ?_)
    have hw := hw a3 ea3
    refine lv_lstore (lv' := [(7, .long a3), (5, .long a2), (4, .int r1), (0, .ref (ad 16)), (1, .int v1), (2, .int v2), (3, .int v3)]) hx hb dX2_height_77 hl (by decide) rfl (fun ls hl => ?_)
    refine lv_aload_n hx hb dX2_height_79 rfl (lv_at hl 3 rfl) ?_
    refine va_get (D := (dC, dI)) (ci := 2) (v := .ref (ad 18)) (C := RX2) (T := TX2) (N := 4) hx hb hts f_X2_height_1 hown hK hP 0 rfl rfl 1 (by decide) (hts _ f_X2_height_2) (fun _ h9 => h9) rfl dX2_height_80 ?_
    refine lv_iload hx hb dX2_height_83 (lv_at hl 2 rfl) ?_
    have hi := hw.1
    have hw := hw.2
    refine va_iald hx hb hK hP 2 0 rfl rfl hi dX2_height_85 ?_
    refine lv_i2l hx hb dX2_height_86 rfl ?_
    refine lv_lload hx hb dX2_height_87 (lv_at hl 1 rfl) ?_
    refine lv_lmul hx hb dX2_height_89 ?_
    refine lv_lload hx hb dX2_height_90 (lv_at hl 0 rfl) ?_
    refine lv_iload_n hx hb dX2_height_92 rfl (lv_at hl 5 rfl) ?_
    refine lv_aload_n hx hb dX2_height_93 rfl (lv_at hl 3 rfl) ?_
    refine va_get (D := (dC, dI)) (ci := 2) (v := .ref (ad 17)) (C := RX2) (T := TX2) (N := 4) hx hb hts f_X2_height_1 hown hK hP 0 rfl rfl 0 (by decide) (hts _ f_X2_height_0) (fun _ h9 => h9) rfl dX2_height_94 ?_
    refine lv_iload hx hb dX2_height_97 (lv_at hl 2 rfl) ?_
    have hi := hw.1
    have hw := hw.2
    refine va_iald hx hb hK hP 1 0 rfl rfl hi dX2_height_99 ?_
    refine lv_isub hx hb dX2_height_100 ?_
    refine lv_i2l hx hb dX2_height_101 rfl ?_
    refine lv_lmul hx hb dX2_height_102 ?_
    refine lv_ladd hx hb dX2_height_103 ?_
    rw [← hQ]
    exact W.lret (v := (((y r1.toNatClampNeg).toInt64 * a2) + (a3 * (v2 - (x r1.toNatClampNeg)).toInt64))) hx hb hr (fun t ht hW => ⟨_, rfl, hw, ht.trans hH.symm⟩) (fun q h => by cases h) dX2_height_104
  · have hw := hw.1 ((lg_cmp_eq _ _).mp hc)
    refine lv_iload_n hx hb dX2_height_34 rfl (lv_at hl 5 rfl) ?_
    refine lv_aload_n hx hb dX2_height_35 rfl (lv_at hl 2 rfl) ?_
    refine va_get (D := (dC, dI)) (ci := 2) (v := .ref (ad 18)) (C := RX2) (T := TX2) (N := 4) hx hb hts f_X2_height_1 hown hK hP 0 rfl rfl 1 (by decide) (hts _ f_X2_height_2) (fun _ h9 => h9) rfl dX2_height_36 ?_
    refine lv_iload hx hb dX2_height_39 (lv_at hl 1 rfl) ?_
    have hi := hw.1
    have hw := hw.2
    refine va_iald hx hb hK hP 2 0 rfl rfl hi dX2_height_41 ?_
    refine lv_aload_n hx hb dX2_height_42 rfl (lv_at hl 2 rfl) ?_
    refine va_get (D := (dC, dI)) (ci := 2) (v := .ref (ad 18)) (C := RX2) (T := TX2) (N := 4) hx hb hts f_X2_height_1 hown hK hP 0 rfl rfl 1 (by decide) (hts _ f_X2_height_2) (fun _ h9 => h9) rfl dX2_height_43 ?_
    refine lv_iload hx hb dX2_height_46 (lv_at hl 1 rfl) ?_
    refine lv_iconst (v := 1) hx hb dX2_height_48 (by decide) ?_
    refine lv_ixor hx hb dX2_height_49 ?_
    have hi := hw.1
    have hw := hw.2
    refine va_iald hx hb hK hP 2 0 rfl rfl hi dX2_height_50 ?_
    refine va_mmin hx hb (hml.trans hl.1.symm) hown (hts _ f_X2_height_3) (hts _ f_X2_height_4) (hts _ f_X2_height_5) (hts _ f_X2_height_6) (Nat.le_of_ble_eq_true rfl) (Nat.le_of_ble_eq_true rfl) (Nat.zero_le _) (Nat.zero_le _) dX2_height_51 ?_
    refine va_mmax hx hb (hml.trans hl.1.symm) hown (hts _ f_X2_height_7) (hts _ f_X2_height_8) (hts _ f_X2_height_5) (hts _ f_X2_height_9) (Nat.le_of_ble_eq_true rfl) (Nat.le_of_ble_eq_true rfl) (Nat.zero_le _) (Nat.zero_le _) dX2_height_54 ?_
    refine lv_i2l hx hb dX2_height_57 rfl ?_
    rw [← hQ]
    exact W.lret (v := (if v3 < (if (y (r1 ^^^ (1 : Int32)).toNatClampNeg) < (y r1.toNatClampNeg) then (y (r1 ^^^ (1 : Int32)).toNatClampNeg) else (y r1.toNatClampNeg)) then (if (y (r1 ^^^ (1 : Int32)).toNatClampNeg) < (y r1.toNatClampNeg) then (y (r1 ^^^ (1 : Int32)).toNatClampNeg) else (y r1.toNatClampNeg)) else v3).toInt64) hx hb hr (fun t ht hW => ⟨_, rfl, hw, ht.trans hH.symm⟩) (fun q h => by cases h) dX2_height_58
-- X2_width
abbrev rm_X2_width : Room := { frames := 1, cells := 0, slots := 0, locals := 21 }
theorem f_X2_width_0 : (Cond.fieldLink RX2 9 "PlaneFaces$Segments" "x" "[I") ∈ wsX2_width := by decide +kernel
theorem f_X2_width_1 : ∀ w ∈ wsX20, w ∈ wsX2_width := by decide +kernel
theorem f_X2_width_2 : (Cond.methodLink RX2 81 Lib.Math.abs.name) ∈ wsX2_width := by decide +kernel
theorem f_X2_width_3 : (Cond.static Lib.Math.abs.name) ∈ wsX2_width := by decide +kernel
theorem f_X2_width_4 : (Cond.initialized "java/lang/Math") ∈ wsX2_width := by decide +kernel
theorem f_X2_width_5 : (Cond.code Lib.Math.abs.name Lib.Math.abs.code 1 (some .int)) ∈ wsX2_width := by decide +kernel
theorem f_X2_width_6 : (Cond.methodLink RX2 72 Lib.Math.max.name) ∈ wsX2_width := by decide +kernel
theorem f_X2_width_7 : (Cond.static Lib.Math.max.name) ∈ wsX2_width := by decide +kernel
theorem f_X2_width_8 : (Cond.code Lib.Math.max.name Lib.Math.max.code 2 (some .int)) ∈ wsX2_width := by decide +kernel
set_option maxRecDepth 100000 in
set_option maxHeartbeats 4000000 in
theorem c_X2_width (l : Launch) (dC : Nat → ClassId) (dI : Nat → Nat → Nat) (cI cJ cZ : ClassId) (ad : Nat → Nat) (x : Nat → Int32) (y : Nat → Int32) (u : Nat → Int32) (sn : Int32) (v1 : Int32) {post : Int64 → Prop} (hw : wp_X2_width x v1 post) : Met l yX2_width wsX2_width rm_X2_width (va_Pc [.ref (ad 16), .int v1] (fun U => va_P (dC, dI) vwCl (wSeg ad cI cJ cZ x y u sn) U.heap ∧ va_K (dC, dI) vwCl (tyL cI cJ cZ) U)) (vp_Sl post) 0 0 (fun _ => False) := by
  unfold wp_X2_width at hw
  refine Met.ofW (cc := cX2_width) (maxL := 2) (ret := (some .long)) (by decide) rfl ?_
  intro p e s m args below meth c s₁ B hml hv
  obtain ⟨hav, hP, hK⟩ := hv
  have hx := B.exec
  have hb := B.bytes
  have hr := B.returns
  have hts := atoms_spec (ws := wsX2_width) B.pre
  have hown : s.vm.findClass RX2 = some m.cls := findClass_of_methodNamed B.named
  have hlocks := B.notSynchronized
  have C : CallFix p m c cX2_width 2 s args wsX2_width RX2 := ⟨hx, hb, hml, hown, hts⟩
  obtain ⟨ls, hE, hl⟩ := mx_entry (m := m) [.ref (ad 16), .int v1] (n := 2) (Nat.le_of_ble_eq_true rfl)
  have hl : lv_has ls 2 [(0, .ref (ad 16)), (1, .int v1)] := hl
  rw [show entryFrame m args 2 = F0 m 0 ls [] by rw [hav]; exact hE]
  obtain ⟨Q, hQ⟩ : ∃ Q, MQ below (vp_Sl post) args s 0 0 (fun _ => False) = Q := ⟨_, rfl⟩
  rw [hQ]
  obtain ⟨H, hH⟩ : ∃ H, s.heap = H := ⟨_, rfl⟩
  rw [hH]
  rw [hH] at hP
  show W p l e rm_X2_width s m args below meth c H [] 0 0 Q (F0 m 0 ls [])
  refine lv_iconst (v := 1) hx hb dX2_width_0 (by decide) ?_
  refine lv_aload_n hx hb dX2_width_1 rfl (lv_at hl 0 rfl) ?_
  refine va_get (D := (dC, dI)) (ci := 2) (v := .ref (ad 17)) (C := RX2) (T := TX2) (N := 4) hx hb hts f_X2_width_1 hown hK hP 0 rfl rfl 0 (by decide) (hts _ f_X2_width_0) (fun _ h9 => h9) rfl dX2_width_2 ?_
  refine lv_iconst (v := 2) hx hb dX2_width_5 (by decide) ?_
  refine lv_iload_n hx hb dX2_width_6 rfl (lv_at hl 1 rfl) ?_
  refine lv_imul hx hb dX2_width_7 ?_
  refine lv_iconst (v := 1) hx hb dX2_width_8 (by decide) ?_
  refine lv_iadd hx hb dX2_width_9 ?_
  have hi := hw.1
  have hw := hw.2
  refine va_iald hx hb hK hP 1 0 rfl rfl hi dX2_width_10 ?_
  refine lv_aload_n hx hb dX2_width_11 rfl (lv_at hl 0 rfl) ?_
  refine va_get (D := (dC, dI)) (ci := 2) (v := .ref (ad 17)) (C := RX2) (T := TX2) (N := 4) hx hb hts f_X2_width_1 hown hK hP 0 rfl rfl 0 (by decide) (hts _ f_X2_width_0) (fun _ h9 => h9) rfl dX2_width_12 ?_
  refine lv_iconst (v := 2) hx hb dX2_width_15 (by decide) ?_
  refine lv_iload_n hx hb dX2_width_16 rfl (lv_at hl 1 rfl) ?_
  refine lv_imul hx hb dX2_width_17 ?_
  have hi := hw.1
  have hw := hw.2
  refine va_iald hx hb hK hP 1 0 rfl rfl hi dX2_width_18 ?_
  refine lv_isub hx hb dX2_width_19 ?_
  refine va_mabs hx hb (hml.trans hl.1.symm) hown (hts _ f_X2_width_2) (hts _ f_X2_width_3) (hts _ f_X2_width_4) (hts _ f_X2_width_5) (Nat.le_of_ble_eq_true rfl) (Nat.le_of_ble_eq_true rfl) (Nat.zero_le _) (Nat.zero_le _) dX2_width_20 ?_
  refine va_mmax hx hb (hml.trans hl.1.symm) hown (hts _ f_X2_width_6) (hts _ f_X2_width_7) (hts _ f_X2_width_4) (hts _ f_X2_width_8) (Nat.le_of_ble_eq_true rfl) (Nat.le_of_ble_eq_true rfl) (Nat.zero_le _) (Nat.zero_le _) dX2_width_23 ?_
  refine lv_i2l hx hb dX2_width_26 rfl ?_
  rw [← hQ]
  exact W.lret (v := (if (1 : Int32) < (if 0 ≤ ((x (((2 : Int32) * v1) + (1 : Int32)).toNatClampNeg) - (x ((2 : Int32) * v1).toNatClampNeg)) then ((x (((2 : Int32) * v1) + (1 : Int32)).toNatClampNeg) - (x ((2 : Int32) * v1).toNatClampNeg)) else 0 - ((x (((2 : Int32) * v1) + (1 : Int32)).toNatClampNeg) - (x ((2 : Int32) * v1).toNatClampNeg))) then (if 0 ≤ ((x (((2 : Int32) * v1) + (1 : Int32)).toNatClampNeg) - (x ((2 : Int32) * v1).toNatClampNeg)) then ((x (((2 : Int32) * v1) + (1 : Int32)).toNatClampNeg) - (x ((2 : Int32) * v1).toNatClampNeg)) else 0 - ((x (((2 : Int32) * v1) + (1 : Int32)).toNatClampNeg) - (x ((2 : Int32) * v1).toNatClampNeg))) else (1 : Int32)).toInt64) hx hb hr (fun t ht hW => ⟨_, rfl, hw, ht.trans hH.symm⟩) (fun q h => by cases h) dX2_width_27
-- X2_firstUpFrom
abbrev rm_X2_firstUpFrom : Room := { frames := 2, cells := 0, slots := 0, locals := 51 }
theorem f_X2_firstUpFrom_0 : (Cond.fieldLink RX2 18 "PlaneFaces$Segments" "used" "[Z") ∈ wsX2_firstUpFrom := by decide +kernel
theorem f_X2_firstUpFrom_1 : ∀ w ∈ wsX20, w ∈ wsX2_firstUpFrom := by decide +kernel
set_option maxRecDepth 100000 in
set_option maxHeartbeats 4000000 in
theorem l_X2_firstUpFrom_11 {p : Program} {l : Launch} {e : Env} {s : State} {m : MethodId} {args : Array Value} {below : List Frame} {meth : Method} {c : Code} {Q : State → Prop} {dC : Nat → ClassId} {dI : Nat → Nat → Nat} {cI cJ cZ : ClassId} {ad : Nat → Nat} {x : Nat → Int32} {y : Nat → Int32} {u : Nat → Int32} {sn : Int32} {v1 : Int32} {v2 : Int32} {K93 : Int32 → Prop} (C : CallFix p m c cX2_firstUpFrom 13 s args wsX2_firstUpFrom RX2) (hK : va_K (dC, dI) vwCl (tyL cI cJ cZ) s) {H : Heap} (hP : va_P (dC, dI) vwCl (wSeg ad cI cJ cZ x y u sn) H) (hk93 : ∀ (w3 : Int32) (ls : Array Slot), lv_has ls 13 [(0, .ref (ad 16)), (3, .int w3)] → K93 w3 → W p l e rm_X2_firstUpFrom s m args below meth c H [] 0 0 Q (F0 m 93 ls [])) : ∀ (n : Nat) (v3 : Int32) (v4 : Int64) (v6 : Int64) (v8 : Int32) (ls : Array Slot), lv_has ls 13 [(0, .ref (ad 16)), (1, .int v1), (2, .int v2), (3, .int v3), (4, .long v4), (6, .long v6), (8, .int v8)] → lp_X2_firstUpFrom_11 x y u v1 v2 K93 n v3 v4 v6 v8 → W p l e rm_X2_firstUpFrom s m args below meth c H [] 0 0 Q (F0 m 11 ls []) := by
  obtain ⟨hx, hb, hml, hown, hts⟩ := id C
  intro n
  induction n with
  | zero =>
    intro v3 v4 v6 v8 ls hl hw
    rw [lp_X2_firstUpFrom_11.eq_1] at hw
    exact hw.elim
  | succ n ih =>
    intro v3 v4 v6 v8 ls hl hw
    rw [lp_X2_firstUpFrom_11.eq_2] at hw
    refine lv_iload hx hb dX2_firstUpFrom_11 (lv_at hl 6 rfl) ?_
    refine lv_bipush (v := 60) hx hb dX2_firstUpFrom_13 (by decide) ?_
    refine lv_icmp_ge (tgt := 93) hx hb dX2_firstUpFrom_15 (by decide) (fun hc => ?_) (fun hc => ?_)
    · have hw := hw.1 (hc)
      exact hk93 v3 ls (lv_sub hl [0, 3] rfl) hw
    · have hw := hw.2 hc
      refine lv_aload_n hx hb dX2_firstUpFrom_18 rfl (lv_at hl 0 rfl) ?_
      refine va_get (D := (dC, dI)) (ci := 2) (v := .ref (ad 19)) (C := RX2) (T := TX2) (N := 4) hx hb hts f_X2_firstUpFrom_1 hown hK hP 0 rfl rfl 2 (by decide) (hts _ f_X2_firstUpFrom_0) (fun _ h9 => h9) rfl dX2_firstUpFrom_19 ?_
      refine lv_iload hx hb dX2_firstUpFrom_22 (lv_at hl 6 rfl) ?_
      have hi := hw.1
      have hw := hw.2
      refine va_zald hx hb hK hP 3 2 rfl rfl hi dX2_firstUpFrom_24 ?_
      refine jn3_use (J := fun (j1 : Int32) (j2 : Int64) (j3 : Int64) => ∀ ls : Array Slot, lv_has ls 13 [(0, .ref (ad 16)), (1, .int v1), (2, .int v2), (3, .int j1), (4, .long j2), (6, .long j3), (8, .int v8)] → W p l e rm_X2_firstUpFrom s m args below meth c H [] 0 0 Q (F0 m 87 ls [])) hw (fun j1 j2 j3 hw ls hl => ?_) (fun hw hj0 => ?_)
      · refine lv_iinc (v := (v8 + (1 : Int32))) (lv' := [(8, .int (v8 + (1 : Int32))), (0, .ref (ad 16)), (1, .int v1), (2, .int v2), (3, .int j1), (4, .long j2), (6, .long j3)]) hx hb dX2_firstUpFrom_87 hl (k := 6) rfl rfl (by decide) rfl (fun ls hl => ?_)
        refine lv_goto (tgt := 11) hx hb dX2_firstUpFrom_90 (by decide) ?_
        exact ih j1 j2 j3 (v8 + (1 : Int32)) ls (lv_sub hl [1, 2, 3, 4, 5, 6, 0] rfl) hw
      · have hj5 := hj0
        refine lv_if_eq (tgt := 87) hx hb dX2_firstUpFrom_25 (by decide) (fun hc => ?_) (fun hc => ?_)
        · have hw := hw.1 (hc)
          exact hj5 v3 v4 v6 hw ls (lv_sub hl [0, 1, 2, 3, 4, 5, 6] rfl)
        · have hw := hw.2 hc
          refine lv_aload_n hx hb dX2_firstUpFrom_28 rfl (lv_at hl 0 rfl) ?_
          refine lv_iload hx hb dX2_firstUpFrom_29 (lv_at hl 6 rfl) ?_
          refine lv_iload_n hx hb dX2_firstUpFrom_31 rfl (lv_at hl 1 rfl) ?_
          refine lv_iload_n hx hb dX2_firstUpFrom_32 rfl (lv_at hl 2 rfl) ?_
          refine vp_callSi (W.runV (As := [.int v8, .int v1, .int v2]) (rest := []) C (c_X2_reachesAbove l dC dI cI cJ cZ ad x y u sn v8 v1 v2 hw) (cwV 3 hts gX2_firstUpFrom_X2_reachesAbove rfl rfl rfl (by decide +kernel) ⟨Nat.le_of_ble_eq_true rfl, Nat.le_of_ble_eq_true rfl⟩) ⟨fb_ro, va_recv hK hP (ci := 2) (q0 := 0) rfl rfl, fun U hU hW => ⟨rfl, by rw [hU]; exact hP, va_K.moved hW.alike hK⟩⟩ rfl rfl hl.1 rfl (lv_room (Nat.le_of_ble_eq_true rfl)) dX2_firstUpFrom_33 ⟨Nat.zero_le _, Nat.zero_le _⟩) (fun r6 hw => ?_)
          refine lv_if_eq (tgt := 87) hx hb dX2_firstUpFrom_36 (by decide) (fun hc => ?_) (fun hc => ?_)
          · have hw := hw.1 (hc)
            exact hj5 v3 v4 v6 hw ls (lv_sub hl [0, 1, 2, 3, 4, 5, 6] rfl)
          · have hw := hw.2 hc
            refine lv_aload_n hx hb dX2_firstUpFrom_39 rfl (lv_at hl 0 rfl) ?_
            refine lv_iload hx hb dX2_firstUpFrom_40 (lv_at hl 6 rfl) ?_
            refine lv_iload_n hx hb dX2_firstUpFrom_42 rfl (lv_at hl 1 rfl) ?_
            refine lv_iload_n hx hb dX2_firstUpFrom_43 rfl (lv_at hl 2 rfl) ?_
            refine vp_callSl (W.runV (As := [.int v8, .int v1, .int v2]) (rest := []) C (c_X2_height l dC dI cI cJ cZ ad x y u sn v8 v1 v2 hw) (cwV 3 hts gX2_firstUpFrom_X2_height rfl rfl rfl (by decide +kernel) ⟨Nat.le_of_ble_eq_true rfl, Nat.le_of_ble_eq_true rfl⟩) ⟨fb_ro, va_recv hK hP (ci := 2) (q0 := 0) rfl rfl, fun U hU hW => ⟨rfl, by rw [hU]; exact hP, va_K.moved hW.alike hK⟩⟩ rfl rfl hl.1 rfl (lv_room (Nat.le_of_ble_eq_true rfl)) dX2_firstUpFrom_44 ⟨Nat.zero_le _, Nat.zero_le _⟩) (fun r7 hw => ?_)
            refine lv_lstore (lv' := [(9, .long r7), (0, .ref (ad 16)), (1, .int v1), (2, .int v2), (3, .int v3), (4, .long v4), (6, .long v6), (8, .int v8)]) hx hb dX2_firstUpFrom_47 hl (by decide) rfl (fun ls hl => ?_)
            refine lv_aload_n hx hb dX2_firstUpFrom_49 rfl (lv_at hl 1 rfl) ?_
            refine lv_iload hx hb dX2_firstUpFrom_50 (lv_at hl 7 rfl) ?_
            refine vp_callSl (W.runV (As := [.int v8]) (rest := []) C (c_X2_width l dC dI cI cJ cZ ad x y u sn v8 hw) (cwV 1 hts gX2_firstUpFrom_X2_width rfl rfl rfl (by decide +kernel) ⟨Nat.le_of_ble_eq_true rfl, Nat.le_of_ble_eq_true rfl⟩) ⟨fb_ro, va_recv hK hP (ci := 2) (q0 := 0) rfl rfl, fun U hU hW => ⟨rfl, by rw [hU]; exact hP, va_K.moved hW.alike hK⟩⟩ rfl rfl hl.1 rfl (lv_room (Nat.le_of_ble_eq_true rfl)) dX2_firstUpFrom_52 ⟨Nat.zero_le _, Nat.zero_le _⟩) (fun r8 hw => ?_)
            refine lv_lstore (lv' := [(11, .long r8), (9, .long r7), (0, .ref (ad 16)), (1, .int v1), (2, .int v2), (3, .int v3), (4, .long v4), (6, .long v6), (8, .int v8)]) hx hb dX2_firstUpFrom_55 hl (by decide) rfl (fun ls hl => ?_)
            refine lv_iload_n hx hb dX2_firstUpFrom_57 rfl (lv_at hl 5 rfl) ?_
            refine lv_iconst (v := -1) hx hb dX2_firstUpFrom_58 (by decide) ?_
            refine jn0_use (J := ∀ ls : Array Slot, lv_has ls 13 [(0, .ref (ad 16)), (1, .int v1), (2, .int v2), (8, .int v8), (9, .long r7), (11, .long r8)] → W p l e rm_X2_firstUpFrom s m args below meth c H [] 0 0 Q (F0 m 76 ls [])) hw (fun hw ls hl => ?_) (fun hw hj0 => ?_)
            · refine lv_iload hx hb dX2_firstUpFrom_76 (lv_at hl 3 rfl) ?_
              refine lv_istore_n (lv' := [(3, .int v8), (0, .ref (ad 16)), (1, .int v1), (2, .int v2), (8, .int v8), (9, .long r7), (11, .long r8)]) hx hb dX2_firstUpFrom_78 rfl hl (by decide) rfl (fun ls hl => ?_)
              refine lv_lload hx hb dX2_firstUpFrom_79 (lv_at hl 5 rfl) ?_
              refine lv_lstore (lv' := [(4, .long r7), (3, .int v8), (0, .ref (ad 16)), (1, .int v1), (2, .int v2), (8, .int v8), (9, .long r7), (11, .long r8)]) hx hb dX2_firstUpFrom_81 hl (by decide) rfl (fun ls hl => ?_)
              refine lv_lload hx hb dX2_firstUpFrom_83 (lv_at hl 7 rfl) ?_
              refine lv_lstore (lv' := [(6, .long r8), (4, .long r7), (3, .int v8), (0, .ref (ad 16)), (1, .int v1), (2, .int v2), (8, .int v8), (9, .long r7), (11, .long r8)]) hx hb dX2_firstUpFrom_85 hl (by decide) rfl (fun ls hl => ?_)
              exact hj5 v8 r7 r8 hw ls (lv_sub hl [3, 4, 5, 2, 1, 0, 6] rfl)
            · have hj10 := hj0
              refine lv_icmp_eq (tgt := 76) hx hb dX2_firstUpFrom_59 (by decide) (fun hc => ?_) (fun hc => ?_)
              · have hw := hw.1 (hc)
                exact hj10 hw ls (lv_sub hl [2, 3, 4, 8, 1, 0] rfl)
              · have hw := hw.2 hc
                refine lv_lload hx hb dX2_firstUpFrom_62 (lv_at hl 1 rfl) ?_
                refine lv_lload hx hb dX2_firstUpFrom_64 (lv_at hl 7 rfl) ?_
                refine lv_lmul hx hb dX2_firstUpFrom_66 ?_
                refine lv_lload hx hb dX2_firstUpFrom_67 (lv_at hl 6 rfl) ?_
                refine lv_lload hx hb dX2_firstUpFrom_69 (lv_at hl 0 rfl) ?_
                refine lv_lmul hx hb dX2_firstUpFrom_71 ?_
                refine W.lcmp hx hb dX2_firstUpFrom_72 ?_
                refine lv_if_ge (tgt := 87) hx hb dX2_firstUpFrom_73 (by decide) (fun hc => ?_) (fun hc => ?_)
                · have hw := hw.1 ((lg_cmp_ge _ _).mp hc)
                  exact hj5 v3 v4 v6 hw ls (lv_sub hl [2, 3, 4, 5, 6, 7, 8] rfl)
                · have hw := hw.2 (fun h9 => hc ((lg_cmp_ge _ _).mpr h9))
                  exact hj10 hw ls (lv_sub hl [2, 3, 4, 8, 1, 0] rfl)
set_option maxRecDepth 100000 in
set_option maxHeartbeats 4000000 in
theorem c_X2_firstUpFrom (l : Launch) (dC : Nat → ClassId) (dI : Nat → Nat → Nat) (cI cJ cZ : ClassId) (ad : Nat → Nat) (x : Nat → Int32) (y : Nat → Int32) (u : Nat → Int32) (sn : Int32) (v1 : Int32) (v2 : Int32) {post : Int32 → Prop} (hw : wp_X2_firstUpFrom x y u v1 v2 post) : Met l yX2_firstUpFrom wsX2_firstUpFrom rm_X2_firstUpFrom (va_Pc [.ref (ad 16), .int v1, .int v2] (fun U => va_P (dC, dI) vwCl (wSeg ad cI cJ cZ x y u sn) U.heap ∧ va_K (dC, dI) vwCl (tyL cI cJ cZ) U)) (vp_Si post) 0 0 (fun _ => False) := by
  unfold wp_X2_firstUpFrom at hw
  refine Met.ofW (cc := cX2_firstUpFrom) (maxL := 13) (ret := (some .int)) (by decide) rfl ?_
  intro p e s m args below meth c s₁ B hml hv
  obtain ⟨hav, hP, hK⟩ := hv
  have hx := B.exec
  have hb := B.bytes
  have hr := B.returns
  have hts := atoms_spec (ws := wsX2_firstUpFrom) B.pre
  have hown : s.vm.findClass RX2 = some m.cls := findClass_of_methodNamed B.named
  have hlocks := B.notSynchronized
  have C : CallFix p m c cX2_firstUpFrom 13 s args wsX2_firstUpFrom RX2 := ⟨hx, hb, hml, hown, hts⟩
  obtain ⟨ls, hE, hl⟩ := mx_entry (m := m) [.ref (ad 16), .int v1, .int v2] (n := 13) (Nat.le_of_ble_eq_true rfl)
  have hl : lv_has ls 13 [(0, .ref (ad 16)), (1, .int v1), (2, .int v2)] := hl
  rw [show entryFrame m args 13 = F0 m 0 ls [] by rw [hav]; exact hE]
  obtain ⟨Q, hQ⟩ : ∃ Q, MQ below (vp_Si post) args s 0 0 (fun _ => False) = Q := ⟨_, rfl⟩
  rw [hQ]
  obtain ⟨H, hH⟩ : ∃ H, s.heap = H := ⟨_, rfl⟩
  rw [hH]
  rw [hH] at hP
  show W p l e rm_X2_firstUpFrom s m args below meth c H [] 0 0 Q (F0 m 0 ls [])
  refine lv_iconst (v := -1) hx hb dX2_firstUpFrom_0 (by decide) ?_
  refine lv_istore_n (lv' := [(3, .int (-1 : Int32)), (0, .ref (ad 16)), (1, .int v1), (2, .int v2)]) hx hb dX2_firstUpFrom_1 rfl hl (by decide) rfl (fun ls hl => ?_)
  refine lv_lconst (v := 0) hx hb dX2_firstUpFrom_2 (by decide) ?_
  refine lv_lstore (lv' := [(4, .long (0 : Int64)), (3, .int (-1 : Int32)), (0, .ref (ad 16)), (1, .int v1), (2, .int v2)]) hx hb dX2_firstUpFrom_3 hl (by decide) rfl (fun ls hl => ?_)
  refine lv_lconst (v := 1) hx hb dX2_firstUpFrom_5 (by decide) ?_
  refine lv_lstore (lv' := [(6, .long (1 : Int64)), (4, .long (0 : Int64)), (3, .int (-1 : Int32)), (0, .ref (ad 16)), (1, .int v1), (2, .int v2)]) hx hb dX2_firstUpFrom_6 hl (by decide) rfl (fun ls hl => ?_)
  refine lv_iconst (v := 0) hx hb dX2_firstUpFrom_8 (by decide) ?_
  refine lv_istore (lv' := [(8, .int (0 : Int32)), (6, .long (1 : Int64)), (4, .long (0 : Int64)), (3, .int (-1 : Int32)), (0, .ref (ad 16)), (1, .int v1), (2, .int v2)]) hx hb dX2_firstUpFrom_9 hl (by decide) rfl (fun ls hl => ?_)
  obtain ⟨n12, hw⟩ := hw
  refine l_X2_firstUpFrom_11 C hK hP (fun w11 ls hl hw => ?_) n12 (-1 : Int32) (0 : Int64) (1 : Int64) (0 : Int32) ls (lv_sub hl [4, 5, 6, 3, 2, 1, 0] rfl) hw
  refine lv_iload_n hx hb dX2_firstUpFrom_93 rfl (lv_at hl 1 rfl) ?_
  rw [← hQ]
  exact W.iret (v := w11) hx hb hr (fun t ht hW => ⟨_, rfl, hw, ht.trans hH.symm⟩) (fun q h => by cases h) dX2_firstUpFrom_94
