/-! constructors: of a message -/
section INM
variable {l : Launch} {g : Gx} {Pw : Heap → Prop} {b : Nat}
def cMsg (i s h : Int32) (a1 a2 a3 a4 : Nat) : va_E := .inr (2, [.int i, .int s, .int h, .ref a1, .ref a2, .ref a3, .ref a4, .int (-1), .int (-1), .int 0])
def fNeg : Nat → Int32 := flf (fun _ => 0) (-1) 4
theorem c_iMsg (hl : l.stackTraces = false) {i s h : Int32} : CtH (fun _ => True) l g yX1_init cX1_init 4 none 2 43 4 16 [.ref b, .int i, .int s, .int h] (NX g Pw [(b, .inr (2, [.int 0, .int 0, .int 0, .null, .null, .null, .null, .int 0, .int 0, .int 0]))]) (fun v H => v = none ∧ ∃ a1 a2 a3 a4, NX g Pw [(b, cMsg i s h a1 a2 a3 a4), (a1, cI4 g (fun _ => 0)), (a2, cI4 g (fun _ => 0)), (a3, cI4 g fNeg), (a4, cI4 g fNeg)] H) := by
  refine CtH.ofN (by decide) hl (by simp [Value.category]) (by simp) (fun κ h1 h2 _ hx hr hkk hl9 hnm => ?_)
  subst h1
  subst hl9
  refine H_aload_n (i := 0) (t := b) hx dX1_init_0 rfl (H_objInit (v := .null) hx rfl um_X1_3 ui_java_lang_Object__init____V uc_java_lang_Object__init____V (by decide) (by decide) dX1_init_1 ?_)
  refine H_aload_n (i := 0) (t := b) hx dX1_init_4 rfl (H_iload_n (i := 1) hx dX1_init_5 rfl ?_)
  refine N_putF hx hnm 0 rfl in_X1 (C := RX1) (T := TX1) (N := 10) tyX1 tyX1_ok nmX1 rfl (slot := 0) rfl (by decide) uf_X1_9 rfl (ty := .int) rfl rfl rfl (by simp) dX1_init_6 ?_
  refine H_aload_n (i := 0) (t := b) hx dX1_init_9 rfl (H_iload_n (i := 2) hx dX1_init_10 rfl ?_)
  refine N_putF hx hnm 0 rfl in_X1 (C := RX1) (T := TX1) (N := 10) tyX1 tyX1_ok nmX1 rfl (slot := 1) rfl (by decide) uf_X1_15 rfl (ty := .int) rfl rfl rfl (by simp) dX1_init_11 ?_
  refine H_aload_n (i := 0) (t := b) hx dX1_init_14 rfl (H_iload_n (i := 3) hx dX1_init_15 rfl ?_)
  refine N_putF hx hnm 0 rfl in_X1 (C := RX1) (T := TX1) (N := 10) tyX1 tyX1_ok nmX1 rfl (slot := 2) rfl (by decide) uf_X1_18 rfl (ty := .int) rfl rfl rfl (by simp) dX1_init_16 ?_
  refine H_aload_n (i := 0) (t := b) hx dX1_init_19 rfl (H_iconst (v := nI 4) hx dX1_init_20 (by decide) (N_newi hx (by decide) (by rw [h2]; decide) (by rw [h2]; decide) dX1_init_21 (fun a1 => ?_)))
  refine N_putF hx hnm 0 rfl in_X1 (C := RX1) (T := TX1) (N := 10) tyX1 tyX1_ok nmX1 rfl (slot := 3) rfl (by decide) uf_X1_21 rfl (ty := .array .int) rfl rfl rfl (by simp) dX1_init_23 ?_
  refine H_aload_n (i := 0) (t := b) hx dX1_init_26 rfl (H_iconst (v := nI 4) hx dX1_init_27 (by decide) (N_newi hx (by decide) (by rw [h2]; decide) (by rw [h2]; decide) dX1_init_28 (fun a2 => ?_)))
  refine N_putF hx hnm 0 rfl in_X1 (C := RX1) (T := TX1) (N := 10) tyX1 tyX1_ok nmX1 rfl (slot := 4) rfl (by decide) uf_X1_25 rfl (ty := .array .int) rfl rfl rfl (by simp) dX1_init_30 ?_
  refine H_aload_n (i := 0) (t := b) hx dX1_init_33 rfl (H_iconst (v := nI 4) hx dX1_init_34 (by decide) (N_newi hx (by decide) (by rw [h2]; decide) (by rw [h2]; decide) dX1_init_35 (fun a3 => ?_)))
  refine N_putF hx hnm 0 rfl in_X1 (C := RX1) (T := TX1) (N := 10) tyX1 tyX1_ok nmX1 rfl (slot := 5) rfl (by decide) uf_X1_28 rfl (ty := .array .int) rfl rfl rfl (by simp) dX1_init_37 ?_
  refine H_aload_n (i := 0) (t := b) hx dX1_init_40 rfl (H_iconst (v := nI 4) hx dX1_init_41 (by decide) (N_newi hx (by decide) (by rw [h2]; decide) (by rw [h2]; decide) dX1_init_42 (fun a4 => ?_)))
  refine N_putF hx hnm 0 rfl in_X1 (C := RX1) (T := TX1) (N := 10) tyX1 tyX1_ok nmX1 rfl (slot := 6) rfl (by decide) uf_X1_31 rfl (ty := .array .int) rfl rfl rfl (by simp) dX1_init_44 ?_
  refine H_aload_n (i := 0) (t := b) hx dX1_init_47 rfl (N_get hx 0 rfl in_X1 (C := RX1) (ref := RX1) (T := TX1) (N := 10) rfl (slot := 5) (Or.inl rfl) (by decide) uf_X1_28 (v := .ref a3) rfl dX1_init_48 (H_iconst (v := -1) hx dX1_init_51 (by decide) ?_))
  refine H_callS (as := [.ref a3, .int (-1)]) (rest := []) hx XT_T rfl (c_fillH hl (i := 3) (n := 4) rfl (by decide)) trivial (fun H h => h) uc_J7_fill_53178 um_X1_34 ut_J7_fill_53178 un_J7 ⟨by decide, by decide, rfl⟩ (by decide) (by decide) (by decide) (by rw [h2]; decide) (by rw [h2]; decide) dX1_init_52 (fun v => ?_)
  refine AcH.pure (P := v = none) (fun hv => ?_) (fun H h => h.1)
  subst hv
  refine AcH.mono (fun H h => h.2) ?_
  refine H_aload_n (i := 0) (t := b) hx dX1_init_55 rfl (N_get hx 0 rfl in_X1 (C := RX1) (ref := RX1) (T := TX1) (N := 10) rfl (slot := 6) (Or.inl rfl) (by decide) uf_X1_31 (v := .ref a4) rfl dX1_init_56 (H_iconst (v := -1) hx dX1_init_59 (by decide) ?_))
  refine H_callS (as := [.ref a4, .int (-1)]) (rest := []) hx XT_T rfl (c_fillH hl (i := 4) (n := 4) rfl (by decide)) trivial (fun H h => h) uc_J7_fill_53178 um_X1_34 ut_J7_fill_53178 un_J7 ⟨by decide, by decide, rfl⟩ (by decide) (by decide) (by decide) (by rw [h2]; decide) (by rw [h2]; decide) dX1_init_60 (fun v => ?_)
  refine AcH.pure (P := v = none) (fun hv => ?_) (fun H h => h.1)
  subst hv
  refine AcH.mono (fun H h => h.2) ?_
  refine H_aload_n (i := 0) (t := b) hx dX1_init_63 rfl (H_iconst (v := -1) hx dX1_init_64 (by decide) ?_)
  refine N_put hx 0 rfl in_X1 (C := RX1) (ref := RX1) (T := TX1) (N := 10) tyX1 tyX1_ok nmX1 rfl (slot := 7) (Or.inl rfl) (by decide) uf_X1_40 rfl (ty := .int) rfl rfl rfl (by simp) dX1_init_65 ?_
  refine H_aload_n (i := 0) (t := b) hx dX1_init_68 rfl (H_iconst (v := -1) hx dX1_init_69 (by decide) ?_)
  refine N_put hx 0 rfl in_X1 (C := RX1) (ref := RX1) (T := TX1) (N := 10) tyX1 tyX1_ok nmX1 rfl (slot := 8) (Or.inl rfl) (by decide) uf_X1_43 rfl (ty := .int) rfl rfl rfl (by simp) dX1_init_70 ?_
  exact H_vret hx hr dX1_init_73 hkk (by rw [h2]; decide) (by rw [h2]; decide) (fun H h9 => ⟨rfl, a1, a2, a3, a4, h9⟩)
end INM
