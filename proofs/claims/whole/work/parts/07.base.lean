/-! base: joins, entries, blindness of contracts to frames -/
def jn0 (t : Prop → Prop) (k : Prop) : Prop := t k
def jn1 {A : Type} (t : (A → Prop) → Prop) (k : A → Prop) : Prop := t k
def jn2 {A B : Type} (t : (A → B → Prop) → Prop) (k : A → B → Prop) : Prop := t k
def jn3 {A B C : Type} (t : (A → B → C → Prop) → Prop) (k : A → B → C → Prop) : Prop := t k
def jn4 {A B C D : Type} (t : (A → B → C → D → Prop) → Prop) (k : A → B → C → D → Prop) : Prop := t k
theorem jn0_use {t : Prop → Prop} {k G J : Prop} (hw : jn0 t k) (h2 : k → J) (h1 : t k → (k → J) → G) : G := h1 hw h2
theorem jn1_use {A : Type} {t : (A → Prop) → Prop} {k : A → Prop} {G : Prop} {J : A → Prop} (hw : jn1 t k) (h2 : ∀ a, k a → J a) (h1 : t k → (∀ a, k a → J a) → G) : G := h1 hw h2
theorem jn2_use {A B : Type} {t : (A → B → Prop) → Prop} {k : A → B → Prop} {G : Prop} {J : A → B → Prop} (hw : jn2 t k) (h2 : ∀ a b, k a b → J a b) (h1 : t k → (∀ a b, k a b → J a b) → G) : G := h1 hw h2
theorem jn3_use {A B C : Type} {t : (A → B → C → Prop) → Prop} {k : A → B → C → Prop} {G : Prop} {J : A → B → C → Prop} (hw : jn3 t k) (h2 : ∀ a b c, k a b c → J a b c) (h1 : t k → (∀ a b c, k a b c → J a b c) → G) : G := h1 hw h2
theorem jn4_use {A B C D : Type} {t : (A → B → C → D → Prop) → Prop} {k : A → B → C → D → Prop} {G : Prop} {J : A → B → C → D → Prop} (hw : jn4 t k) (h2 : ∀ a b c d, k a b c d → J a b c d) (h1 : t k → (∀ a b c d, k a b c d → J a b c d) → G) : G := h1 hw h2
/-- what a boolean method answers -/
def bz (v : Int32) : Prop := v = 0 ∨ v = 1
theorem bz_n {v : Int32} (h : bz v) : narrow .boolean (.int v) = .int v := by
  rcases h with rfl | rfl <;> decide
theorem mx_entry {m : MethodId} (vs : List Value) {n : Nat} (h : (lg_sl vs).length ≤ n) : ∃ ls : Array Slot, entryFrame m vs.toArray n = F0 m 0 ls [] ∧ lv_has ls n (lv_args 0 vs) :=
  ⟨_, lg_entry_eq m vs n, lv_entry vs h⟩
theorem fb_st {av : List Value} : FrameBlind (va_Pc av (fun _ => True)) := fun _ _ _ _ q => q
theorem fb_ro {av : List Value} {D : va_G} {cl : List vw_C} {ws : va_W} {tys : List (ClassId × FieldType)} : FrameBlind (va_Pc av (fun U => va_P D cl ws U.heap ∧ va_K D cl tys U)) :=
  fun a U g mk q => ⟨q.1, q.2.1, va_K.moved (u := U) (U := U.calling g mk a) (Vm.Alike.refl U.vm) q.2.2⟩
theorem fb_rw {av : List Value} {sz : Nat} {D : va_G} {cl : List vw_C} {ws : va_W} {tys : List (ClassId × FieldType)} {A : Nat → Prop} : FrameBlind (va_Pc av (fun U => U.heap.size = sz ∧ va_P D cl ws U.heap ∧ va_K D cl tys U ∧ va_D A ws)) :=
  fun a U g mk q => ⟨q.1, q.2.1, q.2.2.1, va_K.moved (u := U) (U := U.calling g mk a) (Vm.Alike.refl U.vm) q.2.2.2.1, q.2.2.2.2⟩
theorem sw_eq {x : Int32} {k : Nat} (h : x.toInt = k) (hk : k < 2 ^ 31) : x = nI k := Int32.toInt_inj.mp (h.trans (nI_toInt hk).symm)
theorem sw_3 (x : Int32) : (x.toInt < 0 ∨ 3 < x.toInt) ∨ x = 0 ∨ x = 1 ∨ x = 2 ∨ x = 3 := by
  rcases (show (x.toInt < 0 ∨ 3 < x.toInt) ∨ x.toInt = (0 : Nat) ∨ x.toInt = (1 : Nat) ∨ x.toInt = (2 : Nat) ∨ x.toInt = (3 : Nat) by omega) with h | h | h | h | h
  · exact Or.inl h
  · exact Or.inr (Or.inl (sw_eq h (by decide)))
  · exact Or.inr (Or.inr (Or.inl (sw_eq h (by decide))))
  · exact Or.inr (Or.inr (Or.inr (Or.inl (sw_eq h (by decide)))))
  · exact Or.inr (Or.inr (Or.inr (Or.inr (sw_eq h (by decide)))))
theorem sw_5 (x : Int32) : (x.toInt < 0 ∨ 5 < x.toInt) ∨ x = 0 ∨ x = 1 ∨ x = 2 ∨ x = 3 ∨ x = 4 ∨ x = 5 := by
  rcases (show (x.toInt < 0 ∨ 5 < x.toInt) ∨ x.toInt = (0 : Nat) ∨ x.toInt = (1 : Nat) ∨ x.toInt = (2 : Nat) ∨ x.toInt = (3 : Nat) ∨ x.toInt = (4 : Nat) ∨ x.toInt = (5 : Nat) by omega) with h | h | h | h | h | h | h
  · exact Or.inl h
  · exact Or.inr (Or.inl (sw_eq h (by decide)))
  · exact Or.inr (Or.inr (Or.inl (sw_eq h (by decide))))
  · exact Or.inr (Or.inr (Or.inr (Or.inl (sw_eq h (by decide)))))
  · exact Or.inr (Or.inr (Or.inr (Or.inr (Or.inl (sw_eq h (by decide))))))
  · exact Or.inr (Or.inr (Or.inr (Or.inr (Or.inr (Or.inl (sw_eq h (by decide)))))))
  · exact Or.inr (Or.inr (Or.inr (Or.inr (Or.inr (Or.inr (sw_eq h (by decide)))))))
def jn5 {A0 A1 A2 A3 A4 : Type} (t : (A0 → A1 → A2 → A3 → A4 → Prop) → Prop) (k : A0 → A1 → A2 → A3 → A4 → Prop) : Prop := t k
theorem jn5_use {A0 A1 A2 A3 A4 : Type} {t : (A0 → A1 → A2 → A3 → A4 → Prop) → Prop} {k : A0 → A1 → A2 → A3 → A4 → Prop} {G : Prop} {J : A0 → A1 → A2 → A3 → A4 → Prop} (hw : jn5 t k) (h2 : ∀ a0 a1 a2 a3 a4, k a0 a1 a2 a3 a4 → J a0 a1 a2 a3 a4) (h1 : t k → (∀ a0 a1 a2 a3 a4, k a0 a1 a2 a3 a4 → J a0 a1 a2 a3 a4) → G) : G := h1 hw h2
def jn6 {A0 A1 A2 A3 A4 A5 : Type} (t : (A0 → A1 → A2 → A3 → A4 → A5 → Prop) → Prop) (k : A0 → A1 → A2 → A3 → A4 → A5 → Prop) : Prop := t k
theorem jn6_use {A0 A1 A2 A3 A4 A5 : Type} {t : (A0 → A1 → A2 → A3 → A4 → A5 → Prop) → Prop} {k : A0 → A1 → A2 → A3 → A4 → A5 → Prop} {G : Prop} {J : A0 → A1 → A2 → A3 → A4 → A5 → Prop} (hw : jn6 t k) (h2 : ∀ a0 a1 a2 a3 a4 a5, k a0 a1 a2 a3 a4 a5 → J a0 a1 a2 a3 a4 a5) (h1 : t k → (∀ a0 a1 a2 a3 a4 a5, k a0 a1 a2 a3 a4 a5 → J a0 a1 a2 a3 a4 a5) → G) : G := h1 hw h2
def jn7 {A0 A1 A2 A3 A4 A5 A6 : Type} (t : (A0 → A1 → A2 → A3 → A4 → A5 → A6 → Prop) → Prop) (k : A0 → A1 → A2 → A3 → A4 → A5 → A6 → Prop) : Prop := t k
theorem jn7_use {A0 A1 A2 A3 A4 A5 A6 : Type} {t : (A0 → A1 → A2 → A3 → A4 → A5 → A6 → Prop) → Prop} {k : A0 → A1 → A2 → A3 → A4 → A5 → A6 → Prop} {G : Prop} {J : A0 → A1 → A2 → A3 → A4 → A5 → A6 → Prop} (hw : jn7 t k) (h2 : ∀ a0 a1 a2 a3 a4 a5 a6, k a0 a1 a2 a3 a4 a5 a6 → J a0 a1 a2 a3 a4 a5 a6) (h1 : t k → (∀ a0 a1 a2 a3 a4 a5 a6, k a0 a1 a2 a3 a4 a5 a6 → J a0 a1 a2 a3 a4 a5 a6) → G) : G := h1 hw h2
def jn8 {A0 A1 A2 A3 A4 A5 A6 A7 : Type} (t : (A0 → A1 → A2 → A3 → A4 → A5 → A6 → A7 → Prop) → Prop) (k : A0 → A1 → A2 → A3 → A4 → A5 → A6 → A7 → Prop) : Prop := t k
theorem jn8_use {A0 A1 A2 A3 A4 A5 A6 A7 : Type} {t : (A0 → A1 → A2 → A3 → A4 → A5 → A6 → A7 → Prop) → Prop} {k : A0 → A1 → A2 → A3 → A4 → A5 → A6 → A7 → Prop} {G : Prop} {J : A0 → A1 → A2 → A3 → A4 → A5 → A6 → A7 → Prop} (hw : jn8 t k) (h2 : ∀ a0 a1 a2 a3 a4 a5 a6 a7, k a0 a1 a2 a3 a4 a5 a6 a7 → J a0 a1 a2 a3 a4 a5 a6 a7) (h1 : t k → (∀ a0 a1 a2 a3 a4 a5 a6 a7, k a0 a1 a2 a3 a4 a5 a6 a7 → J a0 a1 a2 a3 a4 a5 a6 a7) → G) : G := h1 hw h2
def jn9 {A0 A1 A2 A3 A4 A5 A6 A7 A8 : Type} (t : (A0 → A1 → A2 → A3 → A4 → A5 → A6 → A7 → A8 → Prop) → Prop) (k : A0 → A1 → A2 → A3 → A4 → A5 → A6 → A7 → A8 → Prop) : Prop := t k
theorem jn9_use {A0 A1 A2 A3 A4 A5 A6 A7 A8 : Type} {t : (A0 → A1 → A2 → A3 → A4 → A5 → A6 → A7 → A8 → Prop) → Prop} {k : A0 → A1 → A2 → A3 → A4 → A5 → A6 → A7 → A8 → Prop} {G : Prop} {J : A0 → A1 → A2 → A3 → A4 → A5 → A6 → A7 → A8 → Prop} (hw : jn9 t k) (h2 : ∀ a0 a1 a2 a3 a4 a5 a6 a7 a8, k a0 a1 a2 a3 a4 a5 a6 a7 a8 → J a0 a1 a2 a3 a4 a5 a6 a7 a8) (h1 : t k → (∀ a0 a1 a2 a3 a4 a5 a6 a7 a8, k a0 a1 a2 a3 a4 a5 a6 a7 a8 → J a0 a1 a2 a3 a4 a5 a6 a7 a8) → G) : G := h1 hw h2
def jn10 {A0 A1 A2 A3 A4 A5 A6 A7 A8 A9 : Type} (t : (A0 → A1 → A2 → A3 → A4 → A5 → A6 → A7 → A8 → A9 → Prop) → Prop) (k : A0 → A1 → A2 → A3 → A4 → A5 → A6 → A7 → A8 → A9 → Prop) : Prop := t k
theorem jn10_use {A0 A1 A2 A3 A4 A5 A6 A7 A8 A9 : Type} {t : (A0 → A1 → A2 → A3 → A4 → A5 → A6 → A7 → A8 → A9 → Prop) → Prop} {k : A0 → A1 → A2 → A3 → A4 → A5 → A6 → A7 → A8 → A9 → Prop} {G : Prop} {J : A0 → A1 → A2 → A3 → A4 → A5 → A6 → A7 → A8 → A9 → Prop} (hw : jn10 t k) (h2 : ∀ a0 a1 a2 a3 a4 a5 a6 a7 a8 a9, k a0 a1 a2 a3 a4 a5 a6 a7 a8 a9 → J a0 a1 a2 a3 a4 a5 a6 a7 a8 a9) (h1 : t k → (∀ a0 a1 a2 a3 a4 a5 a6 a7 a8 a9, k a0 a1 a2 a3 a4 a5 a6 a7 a8 a9 → J a0 a1 a2 a3 a4 a5 a6 a7 a8 a9) → G) : G := h1 hw h2
def jn11 {A0 A1 A2 A3 A4 A5 A6 A7 A8 A9 A10 : Type} (t : (A0 → A1 → A2 → A3 → A4 → A5 → A6 → A7 → A8 → A9 → A10 → Prop) → Prop) (k : A0 → A1 → A2 → A3 → A4 → A5 → A6 → A7 → A8 → A9 → A10 → Prop) : Prop := t k
theorem jn11_use {A0 A1 A2 A3 A4 A5 A6 A7 A8 A9 A10 : Type} {t : (A0 → A1 → A2 → A3 → A4 → A5 → A6 → A7 → A8 → A9 → A10 → Prop) → Prop} {k : A0 → A1 → A2 → A3 → A4 → A5 → A6 → A7 → A8 → A9 → A10 → Prop} {G : Prop} {J : A0 → A1 → A2 → A3 → A4 → A5 → A6 → A7 → A8 → A9 → A10 → Prop} (hw : jn11 t k) (h2 : ∀ a0 a1 a2 a3 a4 a5 a6 a7 a8 a9 a10, k a0 a1 a2 a3 a4 a5 a6 a7 a8 a9 a10 → J a0 a1 a2 a3 a4 a5 a6 a7 a8 a9 a10) (h1 : t k → (∀ a0 a1 a2 a3 a4 a5 a6 a7 a8 a9 a10, k a0 a1 a2 a3 a4 a5 a6 a7 a8 a9 a10 → J a0 a1 a2 a3 a4 a5 a6 a7 a8 a9 a10) → G) : G := h1 hw h2
def jn12 {A0 A1 A2 A3 A4 A5 A6 A7 A8 A9 A10 A11 : Type} (t : (A0 → A1 → A2 → A3 → A4 → A5 → A6 → A7 → A8 → A9 → A10 → A11 → Prop) → Prop) (k : A0 → A1 → A2 → A3 → A4 → A5 → A6 → A7 → A8 → A9 → A10 → A11 → Prop) : Prop := t k
theorem jn12_use {A0 A1 A2 A3 A4 A5 A6 A7 A8 A9 A10 A11 : Type} {t : (A0 → A1 → A2 → A3 → A4 → A5 → A6 → A7 → A8 → A9 → A10 → A11 → Prop) → Prop} {k : A0 → A1 → A2 → A3 → A4 → A5 → A6 → A7 → A8 → A9 → A10 → A11 → Prop} {G : Prop} {J : A0 → A1 → A2 → A3 → A4 → A5 → A6 → A7 → A8 → A9 → A10 → A11 → Prop} (hw : jn12 t k) (h2 : ∀ a0 a1 a2 a3 a4 a5 a6 a7 a8 a9 a10 a11, k a0 a1 a2 a3 a4 a5 a6 a7 a8 a9 a10 a11 → J a0 a1 a2 a3 a4 a5 a6 a7 a8 a9 a10 a11) (h1 : t k → (∀ a0 a1 a2 a3 a4 a5 a6 a7 a8 a9 a10 a11, k a0 a1 a2 a3 a4 a5 a6 a7 a8 a9 a10 a11 → J a0 a1 a2 a3 a4 a5 a6 a7 a8 a9 a10 a11) → G) : G := h1 hw h2
def jn13 {A0 A1 A2 A3 A4 A5 A6 A7 A8 A9 A10 A11 A12 : Type} (t : (A0 → A1 → A2 → A3 → A4 → A5 → A6 → A7 → A8 → A9 → A10 → A11 → A12 → Prop) → Prop) (k : A0 → A1 → A2 → A3 → A4 → A5 → A6 → A7 → A8 → A9 → A10 → A11 → A12 → Prop) : Prop := t k
theorem jn13_use {A0 A1 A2 A3 A4 A5 A6 A7 A8 A9 A10 A11 A12 : Type} {t : (A0 → A1 → A2 → A3 → A4 → A5 → A6 → A7 → A8 → A9 → A10 → A11 → A12 → Prop) → Prop} {k : A0 → A1 → A2 → A3 → A4 → A5 → A6 → A7 → A8 → A9 → A10 → A11 → A12 → Prop} {G : Prop} {J : A0 → A1 → A2 → A3 → A4 → A5 → A6 → A7 → A8 → A9 → A10 → A11 → A12 → Prop} (hw : jn13 t k) (h2 : ∀ a0 a1 a2 a3 a4 a5 a6 a7 a8 a9 a10 a11 a12, k a0 a1 a2 a3 a4 a5 a6 a7 a8 a9 a10 a11 a12 → J a0 a1 a2 a3 a4 a5 a6 a7 a8 a9 a10 a11 a12) (h1 : t k → (∀ a0 a1 a2 a3 a4 a5 a6 a7 a8 a9 a10 a11 a12, k a0 a1 a2 a3 a4 a5 a6 a7 a8 a9 a10 a11 a12 → J a0 a1 a2 a3 a4 a5 a6 a7 a8 a9 a10 a11 a12) → G) : G := h1 hw h2
def jn14 {A0 A1 A2 A3 A4 A5 A6 A7 A8 A9 A10 A11 A12 A13 : Type} (t : (A0 → A1 → A2 → A3 → A4 → A5 → A6 → A7 → A8 → A9 → A10 → A11 → A12 → A13 → Prop) → Prop) (k : A0 → A1 → A2 → A3 → A4 → A5 → A6 → A7 → A8 → A9 → A10 → A11 → A12 → A13 → Prop) : Prop := t k
theorem jn14_use {A0 A1 A2 A3 A4 A5 A6 A7 A8 A9 A10 A11 A12 A13 : Type} {t : (A0 → A1 → A2 → A3 → A4 → A5 → A6 → A7 → A8 → A9 → A10 → A11 → A12 → A13 → Prop) → Prop} {k : A0 → A1 → A2 → A3 → A4 → A5 → A6 → A7 → A8 → A9 → A10 → A11 → A12 → A13 → Prop} {G : Prop} {J : A0 → A1 → A2 → A3 → A4 → A5 → A6 → A7 → A8 → A9 → A10 → A11 → A12 → A13 → Prop} (hw : jn14 t k) (h2 : ∀ a0 a1 a2 a3 a4 a5 a6 a7 a8 a9 a10 a11 a12 a13, k a0 a1 a2 a3 a4 a5 a6 a7 a8 a9 a10 a11 a12 a13 → J a0 a1 a2 a3 a4 a5 a6 a7 a8 a9 a10 a11 a12 a13) (h1 : t k → (∀ a0 a1 a2 a3 a4 a5 a6 a7 a8 a9 a10 a11 a12 a13, k a0 a1 a2 a3 a4 a5 a6 a7 a8 a9 a10 a11 a12 a13 → J a0 a1 a2 a3 a4 a5 a6 a7 a8 a9 a10 a11 a12 a13) → G) : G := h1 hw h2
def jn15 {A0 A1 A2 A3 A4 A5 A6 A7 A8 A9 A10 A11 A12 A13 A14 : Type} (t : (A0 → A1 → A2 → A3 → A4 → A5 → A6 → A7 → A8 → A9 → A10 → A11 → A12 → A13 → A14 → Prop) → Prop) (k : A0 → A1 → A2 → A3 → A4 → A5 → A6 → A7 → A8 → A9 → A10 → A11 → A12 → A13 → A14 → Prop) : Prop := t k
theorem jn15_use {A0 A1 A2 A3 A4 A5 A6 A7 A8 A9 A10 A11 A12 A13 A14 : Type} {t : (A0 → A1 → A2 → A3 → A4 → A5 → A6 → A7 → A8 → A9 → A10 → A11 → A12 → A13 → A14 → Prop) → Prop} {k : A0 → A1 → A2 → A3 → A4 → A5 → A6 → A7 → A8 → A9 → A10 → A11 → A12 → A13 → A14 → Prop} {G : Prop} {J : A0 → A1 → A2 → A3 → A4 → A5 → A6 → A7 → A8 → A9 → A10 → A11 → A12 → A13 → A14 → Prop} (hw : jn15 t k) (h2 : ∀ a0 a1 a2 a3 a4 a5 a6 a7 a8 a9 a10 a11 a12 a13 a14, k a0 a1 a2 a3 a4 a5 a6 a7 a8 a9 a10 a11 a12 a13 a14 → J a0 a1 a2 a3 a4 a5 a6 a7 a8 a9 a10 a11 a12 a13 a14) (h1 : t k → (∀ a0 a1 a2 a3 a4 a5 a6 a7 a8 a9 a10 a11 a12 a13 a14, k a0 a1 a2 a3 a4 a5 a6 a7 a8 a9 a10 a11 a12 a13 a14 → J a0 a1 a2 a3 a4 a5 a6 a7 a8 a9 a10 a11 a12 a13 a14) → G) : G := h1 hw h2
def jn16 {A0 A1 A2 A3 A4 A5 A6 A7 A8 A9 A10 A11 A12 A13 A14 A15 : Type} (t : (A0 → A1 → A2 → A3 → A4 → A5 → A6 → A7 → A8 → A9 → A10 → A11 → A12 → A13 → A14 → A15 → Prop) → Prop) (k : A0 → A1 → A2 → A3 → A4 → A5 → A6 → A7 → A8 → A9 → A10 → A11 → A12 → A13 → A14 → A15 → Prop) : Prop := t k
theorem jn16_use {A0 A1 A2 A3 A4 A5 A6 A7 A8 A9 A10 A11 A12 A13 A14 A15 : Type} {t : (A0 → A1 → A2 → A3 → A4 → A5 → A6 → A7 → A8 → A9 → A10 → A11 → A12 → A13 → A14 → A15 → Prop) → Prop} {k : A0 → A1 → A2 → A3 → A4 → A5 → A6 → A7 → A8 → A9 → A10 → A11 → A12 → A13 → A14 → A15 → Prop} {G : Prop} {J : A0 → A1 → A2 → A3 → A4 → A5 → A6 → A7 → A8 → A9 → A10 → A11 → A12 → A13 → A14 → A15 → Prop} (hw : jn16 t k) (h2 : ∀ a0 a1 a2 a3 a4 a5 a6 a7 a8 a9 a10 a11 a12 a13 a14 a15, k a0 a1 a2 a3 a4 a5 a6 a7 a8 a9 a10 a11 a12 a13 a14 a15 → J a0 a1 a2 a3 a4 a5 a6 a7 a8 a9 a10 a11 a12 a13 a14 a15) (h1 : t k → (∀ a0 a1 a2 a3 a4 a5 a6 a7 a8 a9 a10 a11 a12 a13 a14 a15, k a0 a1 a2 a3 a4 a5 a6 a7 a8 a9 a10 a11 a12 a13 a14 a15 → J a0 a1 a2 a3 a4 a5 a6 a7 a8 a9 a10 a11 a12 a13 a14 a15) → G) : G := h1 hw h2
/-! the worlds: what the cells of the class and of the reference hold -/
abbrev tyL (cI cJ cZ : ClassId) : List (ClassId × FieldType) := [(cI, .int), (cJ, .long), (cZ, .boolean)]
def wSeg (ad : Nat → Nat) (cI cJ cZ : ClassId) (x : Nat → Int32) (y : Nat → Int32) (u : Nat → Int32) (sn : Int32) : va_W := [(ad 16, .inr (2, [.ref (ad 17), .ref (ad 18), .ref (ad 19), .int sn])), (ad 17, .inl (cI, 120, .inl x)), (ad 18, .inl (cI, 120, .inl y)), (ad 19, .inl (cZ, 60, .inl u))]
def wRnd (ad : Nat → Nat) (cI cJ cZ : ClassId) (co : Nat → Int32) (fo : Nat → Int32) (ro : Nat → Int32) (po : Nat → Int32) (pn : Int32) (rd : Nat → Int32) (st : Nat → Int32) (tw : Nat → Int64) (od : Nat → Int32) (rn : Int32) (x : Nat → Int32) (y : Nat → Int32) (u : Nat → Int32) (sn : Int32) : va_W := [(ad 7, .inr (1, [.ref (ad 16), .ref (ad 8), .ref (ad 9), .ref (ad 10), .ref (ad 11), .int pn, .ref (ad 12), .ref (ad 13), .ref (ad 14), .ref (ad 15), .int rn])), (ad 8, .inl (cI, 120, .inl co)), (ad 9, .inl (cI, 120, .inl fo)), (ad 10, .inl (cI, 60, .inl ro)), (ad 11, .inl (cI, 60, .inl po)), (ad 12, .inl (cI, 120, .inl rd)), (ad 13, .inl (cI, 120, .inl st)), (ad 14, .inl (cJ, 120, .inr (.inl tw))), (ad 15, .inl (cI, 120, .inl od)), (ad 16, .inr (2, [.ref (ad 17), .ref (ad 18), .ref (ad 19), .int sn])), (ad 17, .inl (cI, 120, .inl x)), (ad 18, .inl (cI, 120, .inl y)), (ad 19, .inl (cZ, 60, .inl u))]
def wFac (ad : Nat → Nat) (cI cJ cZ : ClassId) (ho : Nat → Int32) (nu : Nat → Int32) (fa : Nat → Int32) (ou : Nat → Int32) (sp : Nat → Int32) (fn : Int32) (co : Nat → Int32) (fo : Nat → Int32) (ro : Nat → Int32) (po : Nat → Int32) (pn : Int32) (rd : Nat → Int32) (st : Nat → Int32) (tw : Nat → Int64) (od : Nat → Int32) (rn : Int32) (x : Nat → Int32) (y : Nat → Int32) (u : Nat → Int32) (sn : Int32) : va_W := [(ad 1, .inr (0, [.ref (ad 7), .ref (ad 16), .ref (ad 2), .ref (ad 3), .ref (ad 4), .ref (ad 5), .ref (ad 6), .int fn])), (ad 2, .inl (cI, 120, .inl ho)), (ad 3, .inl (cI, 120, .inl nu)), (ad 4, .inl (cI, 120, .inl fa)), (ad 5, .inl (cI, 60, .inl ou)), (ad 6, .inl (cI, 121, .inl sp)), (ad 7, .inr (1, [.ref (ad 16), .ref (ad 8), .ref (ad 9), .ref (ad 10), .ref (ad 11), .int pn, .ref (ad 12), .ref (ad 13), .ref (ad 14), .ref (ad 15), .int rn])), (ad 8, .inl (cI, 120, .inl co)), (ad 9, .inl (cI, 120, .inl fo)), (ad 10, .inl (cI, 60, .inl ro)), (ad 11, .inl (cI, 60, .inl po)), (ad 12, .inl (cI, 120, .inl rd)), (ad 13, .inl (cI, 120, .inl st)), (ad 14, .inl (cJ, 120, .inr (.inl tw))), (ad 15, .inl (cI, 120, .inl od)), (ad 16, .inr (2, [.ref (ad 17), .ref (ad 18), .ref (ad 19), .int sn])), (ad 17, .inl (cI, 120, .inl x)), (ad 18, .inl (cI, 120, .inl y)), (ad 19, .inl (cZ, 60, .inl u))]
def wPla (ad : Nat → Nat) (cI cJ cZ : ClassId) (sl : Int32) (ho : Nat → Int32) (nu : Nat → Int32) (fa : Nat → Int32) (ou : Nat → Int32) (sp : Nat → Int32) (fn : Int32) (co : Nat → Int32) (fo : Nat → Int32) (ro : Nat → Int32) (po : Nat → Int32) (pn : Int32) (rd : Nat → Int32) (st : Nat → Int32) (tw : Nat → Int64) (od : Nat → Int32) (rn : Int32) (x : Nat → Int32) (y : Nat → Int32) (u : Nat → Int32) (sn : Int32) : va_W := [(ad 0, .inr (3, [.ref (ad 16), .ref (ad 7), .ref (ad 1), .int sl])), (ad 1, .inr (0, [.ref (ad 7), .ref (ad 16), .ref (ad 2), .ref (ad 3), .ref (ad 4), .ref (ad 5), .ref (ad 6), .int fn])), (ad 2, .inl (cI, 120, .inl ho)), (ad 3, .inl (cI, 120, .inl nu)), (ad 4, .inl (cI, 120, .inl fa)), (ad 5, .inl (cI, 60, .inl ou)), (ad 6, .inl (cI, 121, .inl sp)), (ad 7, .inr (1, [.ref (ad 16), .ref (ad 8), .ref (ad 9), .ref (ad 10), .ref (ad 11), .int pn, .ref (ad 12), .ref (ad 13), .ref (ad 14), .ref (ad 15), .int rn])), (ad 8, .inl (cI, 120, .inl co)), (ad 9, .inl (cI, 120, .inl fo)), (ad 10, .inl (cI, 60, .inl ro)), (ad 11, .inl (cI, 60, .inl po)), (ad 12, .inl (cI, 120, .inl rd)), (ad 13, .inl (cI, 120, .inl st)), (ad 14, .inl (cJ, 120, .inr (.inl tw))), (ad 15, .inl (cI, 120, .inl od)), (ad 16, .inr (2, [.ref (ad 17), .ref (ad 18), .ref (ad 19), .int sn])), (ad 17, .inl (cI, 120, .inl x)), (ad 18, .inl (cI, 120, .inl y)), (ad 19, .inl (cZ, 60, .inl u))]
def wMod (ad : Nat → Nat) (cI cJ cZ : ClassId) (mre : Int32) (mth : Nat → Int32) (mxs : Nat → Int32) (mys : Nat → Int32) (mcu : Int32) (mnx : Nat → Int32) (mpo : Nat → Int32) (mpn : Int32) (mrn : Int32) (mrd : Nat → Int32) (mfi : Nat → Int32) (mar : Nat → Int64) (mfn : Int32) (mfa : Nat → Int32) (mnu : Nat → Int32) (mst : Nat → Int32) : va_W := [(ad 0, .inr (4, [.int mre, .ref (ad 1), .ref (ad 2), .ref (ad 3), .int mcu, .ref (ad 4), .ref (ad 5), .int mpn, .int mrn, .ref (ad 6), .ref (ad 7), .ref (ad 8), .int mfn, .ref (ad 9), .ref (ad 10), .ref (ad 11)])), (ad 1, .inl (cZ, 60, .inl mth)), (ad 2, .inl (cI, 120, .inl mxs)), (ad 3, .inl (cI, 120, .inl mys)), (ad 4, .inl (cI, 120, .inl mnx)), (ad 5, .inl (cI, 120, .inl mpo)), (ad 6, .inl (cI, 120, .inl mrd)), (ad 7, .inl (cI, 120, .inl mfi)), (ad 8, .inl (cJ, 120, .inr (.inl mar))), (ad 9, .inl (cI, 120, .inl mfa)), (ad 10, .inl (cI, 122, .inl mnu)), (ad 11, .inl (cI, 122, .inl mst))]
/-! java.util.Arrays.fill(int[], int) -/
abbrev rm_fill : Room := { frames := 0, cells := 0, slots := 0, locals := 0 }
set_option maxRecDepth 100000 in
set_option maxHeartbeats 4000000 in
theorem l_fill {p : Program} {l : Launch} {e : Env} {s : State} {m : MethodId} {args : Array Value} {below : List Frame} {meth : Method} {c : Code} {Q : State → Prop} {dC : Nat → ClassId} {dI : Nat → Nat → Nat} {cI cJ cZ : ClassId} {a n : Nat} {v : Int32} (hn : n < 2 ^ 31) (C : CallFix p m c cJ7_fill_53178 4 s args wsJ7_fill_53178 RJ7) (hK : va_K (dC, dI) vwCl (tyL cI cJ cZ) s) {A : Nat → Prop}
    (hk : ∀ (f : Nat → Int32) (ls : Array Slot) (H : Heap) (locs : List Loc), (∀ i, i < n → f i = v) → va_P (dC, dI) vwCl [(a, .inl (cI, n, .inl f))] H → va_D A [(a, .inl (cI, n, .inl f))] → va_S A s.heap H locs → W p l e rm_fill s m args below meth c H locs 0 0 Q (F0 m 20 ls [])) :
    ∀ (k i : Nat) (f : Nat → Int32) (ls : Array Slot) (H : Heap) (locs : List Loc), i + k = n → (∀ j, j < i → f j = v) → lv_has ls 4 [(0, .ref a), (1, .int v), (2, .int (nI i)), (3, .int (nI n))] → va_P (dC, dI) vwCl [(a, .inl (cI, n, .inl f))] H → va_D A [(a, .inl (cI, n, .inl f))] → va_S A s.heap H locs → W p l e rm_fill s m args below meth c H locs 0 0 Q (F0 m 5 ls []) := by
  obtain ⟨hx, hb, hml, hown, hts⟩ := id C
  intro k
  induction k with
  | zero =>
    intro i f ls H locs hik hf hl hP hD hS
    refine lv_iload_n hx hb dJ7_fill_53178_5 rfl (lv_at hl 2 rfl) ?_
    refine lv_iload_n hx hb dJ7_fill_53178_6 rfl (lv_at hl 3 rfl) ?_
    refine lv_icmp_ge (tgt := 20) hx hb dJ7_fill_53178_7 (by decide) (fun hc => ?_) (fun hc => ?_)
    · exact hk f ls H locs (fun j hj => hf j (by omega)) hP hD hS
    · exact absurd (nI_le (by omega) (by omega)) hc
  | succ k ih =>
    intro i f ls H locs hik hf hl hP hD hS
    refine lv_iload_n hx hb dJ7_fill_53178_5 rfl (lv_at hl 2 rfl) ?_
    refine lv_iload_n hx hb dJ7_fill_53178_6 rfl (lv_at hl 3 rfl) ?_
    refine lv_icmp_ge (tgt := 20) hx hb dJ7_fill_53178_7 (by decide) (fun hc => ?_) (fun hc => ?_)
    · exact absurd hc (nI_ge (by omega) hn)
    · refine lv_aload_n hx hb dJ7_fill_53178_10 rfl (lv_at hl 0 rfl) ?_
      refine lv_iload_n hx hb dJ7_fill_53178_11 rfl (lv_at hl 2 rfl) ?_
      refine lv_iload_n hx hb dJ7_fill_53178_12 rfl (lv_at hl 1 rfl) ?_
      refine va_iast hx hb hK hP hD hS 0 0 rfl rfl (vp_in_nI (by omega) hn) dJ7_fill_53178_13 (fun H locs hP hD hS => ?_)
      rw [nI_clamp (show i < 2 ^ 31 by omega)] at hP hD
      have hP : va_P (dC, dI) vwCl [(a, .inl (cI, n, .inl (upd f i v)))] H := hP
      have hD : va_D A [(a, .inl (cI, n, .inl (upd f i v)))] := hD
      refine lv_iinc (v := nI (i + 1)) (lv' := [(2, .int (nI (i + 1))), (0, .ref a), (1, .int v), (3, .int (nI n))]) hx hb dJ7_fill_53178_14 hl (k := 2) rfl (nI_1 i) (by decide) rfl (fun ls hl => ?_)
      refine lv_goto (tgt := 5) hx hb dJ7_fill_53178_17 (by decide) ?_
      refine ih (i + 1) (upd f i v) ls H locs (by omega) (fun j hj => ?_) (lv_sub hl [1, 2, 0, 3] rfl) hP hD hS
      by_cases e : j = i
      · subst e; exact pk_us
      · rw [pk_un e]; exact hf j (by omega)
set_option maxRecDepth 100000 in
set_option maxHeartbeats 4000000 in
theorem c_fill (l : Launch) (dC : Nat → ClassId) (dI : Nat → Nat → Nat) (cI cJ cZ : ClassId) (sz a n : Nat) (hn : n < 2 ^ 31) (f : Nat → Int32) (v : Int32) : Met l yJ7_fill_53178 wsJ7_fill_53178 rm_fill (va_Pc [.ref a, .int v] (fun U => U.heap.size = sz ∧ va_P (dC, dI) vwCl [(a, .inl (cI, n, .inl f))] U.heap ∧ va_K (dC, dI) vwCl (tyL cI cJ cZ) U ∧ va_D (fun _ => True) [(a, .inl (cI, n, .inl f))]))
    (va_Qv (fun f2 : Nat → Int32 => ∀ i, i < n → f2 i = v) (fun (f2 : Nat → Int32) (t : State) => va_P (dC, dI) vwCl [(a, .inl (cI, n, .inl f2))] t.heap ∧ va_D (va_A [(a, .inl (cI, n, .inl f))] sz) [(a, .inl (cI, n, .inl f2))]) (va_A [(a, .inl (cI, n, .inl f))] sz)) 0 0 (va_A [(a, .inl (cI, n, .inl f))] sz) := by
  refine Met.ofW (cc := cJ7_fill_53178) (maxL := 4) (ret := none) (by decide) rfl ?_
  intro p e s m args below meth c s₁ B hml hv
  obtain ⟨hav, hsz, hP, hK, hD0⟩ := hv
  have hx := B.exec
  have hb := B.bytes
  have hr := B.returns
  have hts := atoms_spec (ws := wsJ7_fill_53178) B.pre
  have hown : s.vm.findClass RJ7 = some m.cls := findClass_of_methodNamed B.named
  have hlocks := B.notSynchronized
  have C : CallFix p m c cJ7_fill_53178 4 s args wsJ7_fill_53178 RJ7 := ⟨hx, hb, hml, hown, hts⟩
  obtain ⟨ls, hE, hl⟩ := mx_entry (m := m) [.ref a, .int v] (n := 4) (Nat.le_of_ble_eq_true rfl)
  have hl : lv_has ls 4 [(0, .ref a), (1, .int v)] := hl
  rw [show entryFrame m args 4 = F0 m 0 ls [] by rw [hav]; exact hE]
  subst hsz
  have hD := hD0.self (sz := s.heap.size)
  generalize hAe : va_A [(a, .inl (cI, n, .inl f))] s.heap.size = A at hD ⊢
  have hA : ∀ q : Nat, s.heap.size ≤ q → A q := fun q h => by rw [← hAe]; exact Or.inr h
  have hS : va_S A s.heap s.heap [] := va_S.rf
  show W p l e rm_fill s m args below meth c s.heap [] 0 0 _ (F0 m 0 ls [])
  refine lv_iconst (v := 0) hx hb dJ7_fill_53178_0 (by decide) ?_
  refine lv_istore_n (lv' := [(2, .int (0 : Int32)), (0, .ref a), (1, .int v)]) hx hb dJ7_fill_53178_1 rfl hl (by decide) rfl (fun ls hl => ?_)
  refine lv_aload_n hx hb dJ7_fill_53178_2 rfl (lv_at hl 1 rfl) ?_
  refine va_alen hx hb hK hP 0 0 rfl rfl (v := nI n) rfl dJ7_fill_53178_3 ?_
  refine lv_istore_n (lv' := [(3, .int (nI n)), (2, .int (0 : Int32)), (0, .ref a), (1, .int v)]) hx hb dJ7_fill_53178_4 rfl hl (by decide) rfl (fun ls hl => ?_)
  refine l_fill hn C hK (fun f2 ls H locs hq hP hD hS => ?_) n 0 f ls _ _ (by omega) (fun j hj => absurd hj (Nat.not_lt_zero j)) (by rw [nI_0]; exact lv_sub hl [2, 3, 1, 0] rfl) hP hD hS
  exact W.vret hx hb hr (fun t ht hW => ⟨⟨f2, rfl, hq, by rw [ht]; exact hP, hD⟩, hS.F ht⟩) hS.2.2 dJ7_fill_53178_20
