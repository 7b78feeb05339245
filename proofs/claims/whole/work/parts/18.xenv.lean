/-! what a method that throws needs of its surroundings, beside its tables' words -/
def wEmp (_ad : Nat → Nat) (_cI _cJ _cZ : ClassId) : va_W := []
def xw (U : State) : Prop :=
  va_Nw (.castable "java/lang/IllegalArgumentException" "java/lang/IllegalArgumentException") U ∧ va_Nw (.castable "java/lang/IllegalStateException" "java/lang/IllegalStateException") U ∧ va_Nw (.castable "java/lang/IndexOutOfBoundsException" "java/lang/IndexOutOfBoundsException") U ∧
  va_Nw (.declares (Bundle.initS "java/lang/RuntimeException")) U ∧ va_Nw (.declares (Bundle.initS "java/lang/Exception")) U ∧ va_Nw (.declares (Bundle.initS "java/lang/Throwable")) U ∧ va_Nc "java/lang/IllegalStateException" "java/lang/IllegalArgumentException" U
def xk (U : State) : Prop :=
  (∃ a, vk_R RX3 38 "the ends are the same" a U) ∧ (∃ a, vk_R RX3 51 "there are 60 segments" a U) ∧ (∃ a, vk_R RX3 114 "no such piece" a U) ∧ (∃ a, vk_R RX3 172 "no such half" a U) ∧ (∃ a, vk_R RX3 174 "no such face" a U) ∧ (∃ a, vk_R RX3 176 "a coordinate is out of bounds" a U)
def xe (A : Nat → Prop) (U : State) (H : Heap) : Prop :=
  vx_Zq Bundle.tN "UNASSIGNED_STACK" Bundle.steD A U H ∧ vx_Zq Bundle.tN "SUPPRESSED_SENTINEL" Bundle.listD A U H ∧ xk U ∧ xw U
theorem xw.warm {s U : State} (hW : s.WarmedH U.vm) (h : xw s) : xw U := by
  obtain ⟨h1, h2, h3, h4, h5, h6, h7⟩ := h
  exact ⟨va_Nw.warmC hW h1, va_Nw.warmC hW h2, va_Nw.warmC hW h3, va_Nw.warmD hW h4, va_Nw.warmD hW h5, va_Nw.warmD hW h6, va_Nc.moved hW.alike h7⟩
theorem xk.warm {s U : State} (hW : s.WarmedH U.vm) (h : xk s) : xk U := by
  obtain ⟨⟨a1, h1⟩, ⟨a2, h2⟩, ⟨a3, h3⟩, ⟨a4, h4⟩, ⟨a5, h5⟩, a6, h6⟩ := h
  exact ⟨⟨a1, h1.warm hW⟩, ⟨a2, h2.warm hW⟩, ⟨a3, h3.warm hW⟩, ⟨a4, h4.warm hW⟩, ⟨a5, h5.warm hW⟩, a6, h6.warm hW⟩
theorem xw.same {s U : State} (hv : s.vm = U.vm) (h : xw s) : xw U := by
  obtain ⟨h1, h2, h3, h4, h5, h6, h7⟩ := h
  exact ⟨h1.same rfl hv, h2.same rfl hv, h3.same rfl hv, h4.same rfl hv, h5.same rfl hv, h6.same rfl hv, va_Nc.moved (by rw [hv]; exact Vm.Alike.refl _) h7⟩
theorem xk.same {s U : State} (hv : s.vm = U.vm) (h : xk s) : xk U := by
  obtain ⟨⟨a1, h1⟩, ⟨a2, h2⟩, ⟨a3, h3⟩, ⟨a4, h4⟩, ⟨a5, h5⟩, a6, h6⟩ := h
  exact ⟨⟨a1, h1.same hv.symm⟩, ⟨a2, h2.same hv.symm⟩, ⟨a3, h3.same hv.symm⟩, ⟨a4, h4.same hv.symm⟩, ⟨a5, h5.same hv.symm⟩, a6, h6.same hv.symm⟩
/-- at a call: the callee's region lies within the caller's -/
theorem xe.step {A0 A1 : Nat → Prop} {s U : State} {H : Heap} {locs : List Loc} (h : xe A0 s s.heap) (hS : va_S A0 s.heap H locs) (hF : ∀ q, A1 q → A0 q) (hU : U.heap = H) (hW : s.WarmedH U.vm) : xe A1 U U.heap := by
  obtain ⟨h1, h2, h3, h4⟩ := h
  rw [hU]
  exact ⟨vx_Zq.moved hW.alike ((h1.kept hS.2.1).narrow hF), vx_Zq.moved hW.alike ((h2.kept hS.2.1).narrow hF), h3.warm hW, h4.warm hW⟩
theorem xe.same {A : Nat → Prop} {s U : State} {H : Heap} (hv : s.vm = U.vm) (h : xe A s H) : xe A U H := by
  obtain ⟨h1, h2, h3, h4⟩ := h
  exact ⟨vx_Zq.moved (by rw [hv]; exact Vm.Alike.refl _) h1, vx_Zq.moved (by rw [hv]; exact Vm.Alike.refl _) h2, h3.same hv, h4.same hv⟩
theorem fb_x {av : List Value} {sz : Nat} {D : va_G} {cl : List vw_C} {ws : va_W} {tys : List (ClassId × FieldType)} {A B : Nat → Prop} : FrameBlind (va_Pc av (fun U => U.heap.size = sz ∧ va_P D cl ws U.heap ∧ va_K D cl tys U ∧ va_D A ws ∧ xe B U U.heap)) :=
  fun a U g mk q => ⟨q.1, q.2.1, q.2.2.1, va_K.moved (u := U) (U := U.calling g mk a) (Vm.Alike.refl U.vm) q.2.2.2.1, q.2.2.2.2.1, xe.same (s := U) (U := U.calling g mk a) rfl q.2.2.2.2.2⟩
/-- the words of a throw that a contract's list doesn't hold -/
theorem xw_I {U : State} {A : Array Value} (h : xw U) : ∀ w ∈ [Cond.castable "java/lang/IllegalArgumentException" "java/lang/IllegalArgumentException", .declares (Bundle.initS "java/lang/RuntimeException"), .declares (Bundle.initS "java/lang/Exception"), .declares (Bundle.initS "java/lang/Throwable")], w.before A U = true :=
  vx_c (h.1.use rfl) (vx_c (h.2.2.2.1.use rfl) (vx_c (h.2.2.2.2.1.use rfl) (vx_c (h.2.2.2.2.2.1.use rfl) vx_n)))
theorem xw_S {U : State} {A : Array Value} (h : xw U) : ∀ w ∈ [Cond.castable "java/lang/IllegalStateException" "java/lang/IllegalStateException", .declares (Bundle.initS "java/lang/RuntimeException"), .declares (Bundle.initS "java/lang/Exception"), .declares (Bundle.initS "java/lang/Throwable")], w.before A U = true :=
  vx_c (h.2.1.use rfl) (vx_c (h.2.2.2.1.use rfl) (vx_c (h.2.2.2.2.1.use rfl) (vx_c (h.2.2.2.2.2.1.use rfl) vx_n)))
theorem xw_O {U : State} {A : Array Value} (h : xw U) : ∀ w ∈ [Cond.castable "java/lang/IndexOutOfBoundsException" "java/lang/IndexOutOfBoundsException", .declares (Bundle.initS "java/lang/RuntimeException"), .declares (Bundle.initS "java/lang/Exception"), .declares (Bundle.initS "java/lang/Throwable")], w.before A U = true :=
  vx_c (h.2.2.1.use rfl) (vx_c (h.2.2.2.1.use rfl) (vx_c (h.2.2.2.2.1.use rfl) (vx_c (h.2.2.2.2.2.1.use rfl) vx_n)))
