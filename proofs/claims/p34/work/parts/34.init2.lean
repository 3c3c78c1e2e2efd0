/-! constructors: of the lists, of a member, of a message -/
section INI
variable {l : Launch} {g : Gx} {Pw : Heap → Prop} {b : Nat}
abbrev cAL (a : Nat) : va_E := .inr (0, [.int 0, .ref a, .int 0])
theorem c_iAC (hl : l.stackTraces = false) {P : Heap → Prop} : CtH (fun _ => True) l g yJxa1e45_init_da8c8 cJxa1e45_init_da8c8 1 none 1 12 0 0 [.ref b] P (fun v H => v = none ∧ P H) := by
  refine CtH.of (by decide) hl (by simp [Value.category]) (by simp) (fun κ h1 h2 _ hx hr hkk hl9 => ?_)
  subst h1
  exact H_aload_n (i := 0) (t := b) hx dJxa1e45_init_da8c8_0 rfl (H_objInit (v := .null) hx rfl um_Jxa1e45_1 ui_java_lang_Object__init____V uc_java_lang_Object__init____V (by decide) (by decide) dJxa1e45_init_da8c8_1 (H_vret hx hr dJxa1e45_init_da8c8_4 hkk (Nat.zero_le _) (Nat.zero_le _) (fun H h => ⟨rfl, h⟩)))
theorem c_iAb (hl : l.stackTraces = false) : CtH (fun _ => True) l g yJxc12de_init_da8c8 cJxc12de_init_da8c8 1 none 2 32 0 0 [.ref b] (NX g Pw [(b, .inr (0, [.int 0, .null, .int 0]))]) (fun v H => v = none ∧ NX g Pw [(b, .inr (0, [.int 0, .null, .int 0]))] H) := by
  refine CtH.of (by decide) hl (by simp [Value.category]) (by simp) (fun κ h1 h2 _ hx hr hkk hl9 => ?_)
  subst h1
  subst hl9
  refine H_aload_n (i := 0) (t := b) hx dJxc12de_init_da8c8_0 rfl ?_
  refine H_callI (as := []) (rest := []) (b := b) hx XT_T rfl (c_iAC hl) trivial (fun H h => h) uc_Jxa1e45_init_da8c8 um_Jxc12de_1 ui_Jxa1e45_init_da8c8 un_Jxa1e45 ⟨rfl, by decide, by decide, rfl⟩ (by decide) (by decide) (by decide) (Nat.zero_le _) (Nat.zero_le _) dJxc12de_init_da8c8_1 (fun v => ?_)
  refine AcH.pure (P := v = none) (fun hv => ?_) (fun H h => h.1)
  subst hv
  refine AcH.mono (fun H h => h.2) ?_
  refine H_aload_n (i := 0) (t := b) hx dJxc12de_init_da8c8_4 rfl (H_iconst (v := 0) hx dJxc12de_init_da8c8_5 (by decide) ?_)
  exact N_put hx 0 rfl in_JA (C := RJx4a65c) (ref := "java/util/AbstractList") (T := TJx4a65c) (N := 3) tyJx4a65c tyJx4a65c_ok nmJx4a65c rfl (slot := 0) (Or.inl rfl) (by decide) uf_Jxc12de_7 rfl (ty := .int) rfl rfl rfl (by simp) dJxc12de_init_da8c8_6 (H_vret hx hr dJxc12de_init_da8c8_9 hkk (Nat.zero_le _) (Nat.zero_le _) (fun H h => ⟨rfl, h⟩))
theorem c_iAL (hl : l.stackTraces = false) : CtH (fun _ => True) l g yJx4a65c_init_da8c8 cJx4a65c_init_da8c8 1 none 3 52 0 0 [.ref b] (NX g Pw [(b, .inr (0, [.int 0, .null, .int 0]))]) (fun v H => v = none ∧ NX g Pw [(b, cAL g.2.2.2)] H) := by
  refine CtH.of (by decide) hl (by simp [Value.category]) (by simp) (fun κ h1 h2 _ hx hr hkk hl9 => ?_)
  subst h1
  subst hl9
  refine H_aload_n (i := 0) (t := b) hx dJx4a65c_init_da8c8_0 rfl ?_
  refine H_callI (as := []) (rest := []) (b := b) hx XT_T rfl (c_iAb hl) trivial (fun H h => h) uc_Jxc12de_init_da8c8 um_Jx4a65c_1 ui_Jxc12de_init_da8c8 un_Jxc12de ⟨rfl, by decide, by decide, rfl⟩ (by decide) (by decide) (by decide) (Nat.zero_le _) (Nat.zero_le _) dJx4a65c_init_da8c8_1 (fun v => ?_)
  refine AcH.pure (P := v = none) (fun hv => ?_) (fun H h => h.1)
  subst hv
  refine AcH.mono (fun H h => h.2) ?_
  refine H_aload_n (i := 0) (t := b) hx dJx4a65c_init_da8c8_4 rfl (H_gets hx uf_Jx4a65c_39 dJx4a65c_init_da8c8_5 ?_)
  exact N_put hx 0 rfl in_JA (C := RJx4a65c) (ref := RJx4a65c) (T := TJx4a65c) (N := 3) tyJx4a65c tyJx4a65c_ok nmJx4a65c rfl (slot := 1) (Or.inl rfl) (by decide) uf_Jx4a65c_9 rfl (ty := .array (.object "java/lang/Object")) rfl rfl rfl (by simp) dJx4a65c_init_da8c8_8 (H_vret hx hr dJx4a65c_init_da8c8_11 hkk (Nat.zero_le _) (Nat.zero_le _) (fun H h => ⟨rfl, h⟩))
/-- new ArrayList<>(): by itself, at the end of the new cells -/
theorem N_list {κ : Kx} {cc : ByteArray} {nL fX lX : Nat} {own : String} {pc : Nat} {st : List AV} {lc : LcT} {nc ns : Nat} {ws : va_W} (hx : Hx κ cc nL own fX lX) {i1 i2 : Nat} (hlc : lc.length = nL) (hl : Cond.classLink own i1 RJx4a65c ∈ UW) (um : Cond.methodLink own i2 yJx4a65c_init_da8c8 ∈ UW) (hw : ∀ a, wt (aq a :: st) ≤ 8) (hf : 4 ≤ fX) (hlo : 72 ≤ lX) (hst : (kl κ).stackTraces = false) (hc : nc + 1 ≤ (kr κ).1) (hs : ns + 3 ≤ (kr κ).2)
    (d0 : decode cc pc = .ok (.new i1, 3)) (d1 : decode cc (pc + 3) = .ok (.dup, 1)) (d2 : decode cc (pc + 3 + 1) = .ok (.invokespecial i2, 3)) (k : ∀ a : Nat, AcH κ (NX (kg κ) Pw (ws ++ [(a, cAL (kg κ).2.2.2)])) (nc + 1) (ns + 3) (pc + 3 + 1 + 3) (aq a :: st) lc) : AcH κ (NX (kg κ) Pw ws) nc ns pc st lc := by
  refine N_newc hx in_JA tyJx4a65c tyJx4a65c_ok (ci := 0) rfl hl ux_Jx4a65c un_Jx4a65c (fs := [.int 0, .null, .int 0]) (by decide) hc hs d0 (fun a => ?_)
  refine H_dup hx (Or.inr ⟨_, rfl⟩) d1 ?_
  refine H_callI (as := []) (rest := aq a :: st) (b := a) hx XT_T hlc (c_iAL hst) trivial (fun H h => h) uc_Jx4a65c_init_da8c8 um ui_Jx4a65c_init_da8c8 un_Jx4a65c ⟨rfl, by decide, by decide, rfl⟩ (hw a) (by omega) (by omega) (by omega) (by omega) d2 (fun v => ?_)
  refine AcH.pure (P := v = none) (fun hv => ?_) (fun H h => h.1)
  subst hv
  exact AcH.mono (fun H h => h.2.flat) (k a)
def cMem (i : Int32) (c r h : Nat) : va_E := .inr (1, [.int i, .ref c, .ref r, .ref h, .int 0, .int 0, .int 1, .int 1, .int 0])
abbrev cI4 (g : Gx) (f : Nat → Int32) : va_E := .inl (g.2.1 0, 4, .inl f)
theorem c_iMem (hl : l.stackTraces = false) {i : Int32} : CtH (fun _ => True) l g yX0_init cX0_init 2 none 4 80 3 10 [.ref b, .int i] (NX g Pw [(b, .inr (1, [.int 0, .null, .null, .null, .int 0, .int 0, .int 0, .int 0, .int 0]))]) (fun v H => v = none ∧ ∃ c r h, NX g Pw [(b, cMem i c r h), (c, cI4 g (fun _ => 0)), (r, cAL g.2.2.2), (h, cAL g.2.2.2)] H) := by
  refine CtH.ofN (by decide) hl (by simp [Value.category]) (by simp) (fun κ h1 h2 _ hx hr hkk hl9 hnm => ?_)
  subst h1
  subst hl9
  refine H_aload_n (i := 0) (t := b) hx dX0_init_0 rfl (H_objInit (v := .null) hx rfl um_X0_3 ui_java_lang_Object__init____V uc_java_lang_Object__init____V (by decide) (by decide) dX0_init_1 ?_)
  refine H_aload_n (i := 0) (t := b) hx dX0_init_4 rfl (H_iload_n (i := 1) hx dX0_init_5 rfl ?_)
  refine N_putF hx hnm 0 rfl in_X0 (C := RX0) (T := TX0) (N := 9) tyX0 tyX0_ok nmX0 rfl (slot := 0) rfl (by decide) uf_X0_9 rfl (ty := .int) rfl rfl rfl (by simp) dX0_init_6 ?_
  refine H_aload_n (i := 0) (t := b) hx dX0_init_9 rfl (H_iconst (v := nI 4) hx dX0_init_10 (by decide) (N_newi hx (by decide) (by rw [h2]; decide) (by rw [h2]; decide) dX0_init_11 (fun c => ?_)))
  refine N_putF hx hnm 0 rfl in_X0 (C := RX0) (T := TX0) (N := 9) tyX0 tyX0_ok nmX0 rfl (slot := 1) rfl (by decide) uf_X0_15 rfl (ty := .array .int) rfl rfl rfl (by simp) dX0_init_13 ?_
  refine H_aload_n (i := 0) (t := b) hx dX0_init_16 rfl (N_list hx rfl ul_X0_19 um_X0_21 (by simp [wt, wtA, Value.category]) (by decide) (by decide) hl (by rw [h2]; decide) (by rw [h2]; decide) dX0_init_17 dX0_init_20 dX0_init_21 (fun r => ?_))
  refine N_putF hx hnm 0 rfl in_X0 (C := RX0) (T := TX0) (N := 9) tyX0 tyX0_ok nmX0 rfl (slot := 2) rfl (by decide) uf_X0_22 rfl (ty := .object "java/util/ArrayList") rfl rfl rfl (by simp) dX0_init_24 ?_
  refine H_aload_n (i := 0) (t := b) hx dX0_init_27 rfl (N_list hx rfl ul_X0_19 um_X0_21 (by simp [wt, wtA, Value.category]) (by decide) (by decide) hl (by rw [h2]; decide) (by rw [h2]; decide) dX0_init_28 dX0_init_31 dX0_init_32 (fun h => ?_))
  refine N_putF hx hnm 0 rfl in_X0 (C := RX0) (T := TX0) (N := 9) tyX0 tyX0_ok nmX0 rfl (slot := 3) rfl (by decide) uf_X0_26 rfl (ty := .object "java/util/ArrayList") rfl rfl rfl (by simp) dX0_init_35 ?_
  refine H_aload_n (i := 0) (t := b) hx dX0_init_38 rfl (H_iconst (v := 1) hx dX0_init_39 (by decide) ?_)
  refine N_put hx 0 rfl in_X0 (C := RX0) (ref := RX0) (T := TX0) (N := 9) tyX0 tyX0_ok nmX0 rfl (slot := 6) (Or.inl rfl) (by decide) uf_X0_29 rfl (ty := .boolean) rfl (by decide) rfl (by simp) dX0_init_40 ?_
  refine H_aload_n (i := 0) (t := b) hx dX0_init_43 rfl (H_iconst (v := 1) hx dX0_init_44 (by decide) ?_)
  refine N_put hx 0 rfl in_X0 (C := RX0) (ref := RX0) (T := TX0) (N := 9) tyX0 tyX0_ok nmX0 rfl (slot := 7) (Or.inl rfl) (by decide) uf_X0_33 rfl (ty := .boolean) rfl (by decide) rfl (by simp) dX0_init_45 ?_
  exact H_vret hx hr dX0_init_48 hkk (by rw [h2]; decide) (by rw [h2]; decide) (fun H h9 => ⟨rfl, c, r, h, h9⟩)
end INI
