/-! the law reads its script -/
def Scr (κ : Kx) (b n : Nat) (xs : Nat → Int32) : Prop := va_X b n xs (ks κ) (ks κ).heap ∧ b < (ks κ).heap.size ∧ ¬ gA (kg κ) b
def PcQ (g : Gx) (L : Tg → Nat) (σ : Sg) (b n : Nat) (xs : Nat → Int32) : State → Prop := fun U => (va_X b n xs U U.heap ∧ b < U.heap.size) ∧ PcF g L σ U
def vCell (n : Nat) (xs : Nat → Int32) (k : Nat) : Int32 := if k < n then xs k else 1272047983 * (nI k + 2)
theorem W_cs {p : Program} {l : Launch} {e : Env} {R : Room} {s : State} {m : MethodId} {args : Array Value} {below : List Frame} {meth : Method} {c : Code} {H : Heap} {locs : List Loc} {a b a' b' : Nat} {Q : State → Prop} {F : JFrame} (h : W p l e R s m args below meth c H locs a b Q F) (e1 : a = a') (e2 : b = b') : W p l e R s m args below meth c H locs a' b' Q F := by
  subst e1 e2
  exact h
section CELL
variable {κ : Kx} {cc : ByteArray} {nL fX lX : Nat} {own : String} {pc : Nat} {st : List AV} {lc : LcT} {σ σF : Sg} {ret retY : Option FieldType}
theorem A_sld (hx : Hx κ cc nL own fX lX) {b n : Nat} {xs : Nat → Int32} (hs : Scr κ b n xs) {i : Int32} (hin : vp_in i n) (d : decode cc pc = .ok (.iaload, 1)) (k : Acf κ (pc + 1) (ai (xs i.toNatClampNeg) :: st) lc σ) : Acf κ pc (ai i :: aq b :: st) lc σ := by
  obtain ⟨p, l, e, R, s, m, args, below, meth, c, Q, g, L, c0, s0, fc, fs⟩ := κ
  obtain ⟨⟨hxe, hxb, hxl, hxo, hxw⟩, hxk, hxz, hxc, hxs, hxt, hxf, hxr⟩ := hx
  intro H locs ls h1 h2 h3 h4 h5 h6 h7 h8
  exact va_sld hxe hxb hs.1 hs.2.1 hs.2.2 h4 hin d (k H locs ls h1 h2 h3 h4 h5 h6 h7 h8)
theorem A_slen (hx : Hx κ cc nL own fX lX) {b n : Nat} {xs : Nat → Int32} (hs : Scr κ b n xs) (d : decode cc pc = .ok (.arraylength, 1)) (k : Acf κ (pc + 1) (ai (nI n) :: st) lc σ) : Acf κ pc (aq b :: st) lc σ := by
  obtain ⟨p, l, e, R, s, m, args, below, meth, c, Q, g, L, c0, s0, fc, fs⟩ := κ
  obtain ⟨⟨hxe, hxb, hxl, hxo, hxw⟩, hxk, hxz, hxc, hxs, hxt, hxf, hxr⟩ := hx
  intro H locs ls h1 h2 h3 h4 h5 h6 h7 h8
  exact va_slen hxe hxb hs.1 hs.2.1 hs.2.2 h4 d (k H locs ls h1 h2 h3 h4 h5 h6 h7 h8)
theorem A_aload_nQ (hx : Hx κ cc nL own fX lX) {i : Fin 4} {t : Nat} (d : decode cc pc = .ok (.aload_n i, 1)) (hl : lc[(i : Nat)]? = some (some (aq t))) (k : Acf κ (pc + 1) (aq t :: st) lc σ) : Acf κ pc st lc σ := by
  obtain ⟨p, l, e, R, s, m, args, below, meth, c, Q, g, L, c0, s0, fc, fs⟩ := κ
  obtain ⟨⟨hxe, hxb, hxl, hxo, hxw⟩, hxk, hxz, hxc, hxs, hxt, hxf, hxr⟩ := hx
  intro H locs ls h1 h2 h3 h4 h5 h6 h7 h8
  exact lv_aload_n hxe hxb d rfl (h1.2.2 _ _ hl (Or.inl rfl)) (k H locs ls h1 h2 h3 h4 h5 h6 h7 h8)
theorem blindQ {g : Gx} {L : Tg → Nat} {b n : Nat} {xs : Nat → Int32} {av : List Value} : FrameBlind (va_Pc av (PcQ g L σ b n xs)) := by
  intro a U fr mk h
  exact ⟨h.1, ⟨va_X.moved (U := U.calling fr mk a) (State.WarmedH.refl U).alike h.2.1.1, h.2.1.2⟩, h.2.2.1, GF.same (U := U.calling fr mk a) h.2.2.2.1 rfl, h.2.2.2.2⟩
theorem c_cell {l : Launch} {g : Gx} (hl : l.stackTraces = false) {b n k : Nat} {xs : Nat → Int32} (hn : n < 65536) (hk : k < 65536) (hb : ¬ gA g b) (L : Tg → Nat) (σ : Sg) : vx_Met l yL_cell (Cond.code yL_cell cL_cell 2 (some .int) :: UW) { frames := 1, cells := sC σ - sC σ, slots := sS σ - sS σ, locals := 20 } (va_Pc ([aq b, ai (nI k)].map (cv L)) (PcQ g L σ b n xs)) (QcF g L (.inl (some (ai (vCell n xs k)))) σ) (XcF g L (.inl (some (ai (vCell n xs k)))) σ) (sC σ - sC σ) (sS σ - sS σ) (gA g) := by
  refine vx_ofW (by decide) rfl ?_
  intro p e s m args below meth c s₁ B hml hex hv
  obtain ⟨rfl, ⟨hX, hbl⟩, hP, hG, hz⟩ := hv
  have hts := atoms_spec (ws := Cond.code yL_cell cL_cell 2 (some .int) :: UW) B.pre
  have hx : Hx (p, l, e, { frames := 1, cells := sC σ - sC σ, slots := sS σ - sS σ, locals := 20 }, s, m, ([aq b, ai (nI k)].map (cv L)).toArray, below, meth, c, vx_MQ below (QcF g L (.inl (some (ai (vCell n xs k)))) σ) (XcF g L (.inl (some (ai (vCell n xs k)))) σ) ([aq b, ai (nI k)].map (cv L)).toArray s (sC σ - sC σ) (sS σ - sS σ) (gA g), g, L, sC σ, sS σ, sC σ, sS σ) cL_cell 2 RL 1 20 :=
    ⟨⟨B.exec, B.bytes, hml, findClass_of_methodNamed B.named, fun w hw => hts w (List.mem_cons_of_mem _ hw)⟩, B.notSynchronized, hz, rfl, rfl, hl, rfl, rfl⟩
  have hr : Hr (p, l, e, { frames := 1, cells := sC σ - sC σ, slots := sS σ - sS σ, locals := 20 }, s, m, ([aq b, ai (nI k)].map (cv L)).toArray, below, meth, c, vx_MQ below (QcF g L (.inl (some (ai (vCell n xs k)))) σ) (XcF g L (.inl (some (ai (vCell n xs k)))) σ) ([aq b, ai (nI k)].map (cv L)).toArray s (sC σ - sC σ) (sS σ - sS σ) (gA g), g, L, sC σ, sS σ, sC σ, sS σ) (some .int) := ⟨B.returns, hex⟩
  have hS : Scr (p, l, e, { frames := 1, cells := sC σ - sC σ, slots := sS σ - sS σ, locals := 20 }, s, m, ([aq b, ai (nI k)].map (cv L)).toArray, below, meth, c, vx_MQ below (QcF g L (.inl (some (ai (vCell n xs k)))) σ) (XcF g L (.inl (some (ai (vCell n xs k)))) σ) ([aq b, ai (nI k)].map (cv L)).toArray s (sC σ - sC σ) (sS σ - sS σ) (gA g), g, L, sC σ, sS σ, sC σ, sS σ) b n xs := ⟨hX, hbl, hb⟩
  have hR : Rt (p, l, e, { frames := 1, cells := sC σ - sC σ, slots := sS σ - sS σ, locals := 20 }, s, m, ([aq b, ai (nI k)].map (cv L)).toArray, below, meth, c, vx_MQ below (QcF g L (.inl (some (ai (vCell n xs k)))) σ) (XcF g L (.inl (some (ai (vCell n xs k)))) σ) ([aq b, ai (nI k)].map (cv L)).toArray s (sC σ - sC σ) (sS σ - sS σ) (gA g), g, L, sC σ, sS σ, sC σ, sS σ) (.inl (some (ai (vCell n xs k)))) σ := ⟨Nat.le_refl _, Nat.le_refl _, Nat.le_refl _, Nat.le_refl _, _, _, rfl, fun _ _ _ h => h, fun _ _ _ h => h⟩
  have hA : Acf (p, l, e, { frames := 1, cells := sC σ - sC σ, slots := sS σ - sS σ, locals := 20 }, s, m, ([aq b, ai (nI k)].map (cv L)).toArray, below, meth, c, vx_MQ below (QcF g L (.inl (some (ai (vCell n xs k)))) σ) (XcF g L (.inl (some (ai (vCell n xs k)))) σ) ([aq b, ai (nI k)].map (cv L)).toArray s (sC σ - sC σ) (sS σ - sS σ) (gA g), g, L, sC σ, sS σ, sC σ, sS σ) 0 [] [some (aq b), some (ai (nI k))] σ := by
    refine A_iload_n (i := 1) hx dL_cell_0 rfl (A_aload_nQ (i := 0) hx dL_cell_1 rfl (A_slen hx hS dL_cell_2 (A_icmp_ge (tgt := 12) hx dL_cell_3 (by decide) (fun q => ?_) (fun q => ?_))))
    · have hge : ¬ k < n := fun z => by
        have := (nI_leI (by omega) (by omega)).mp q
        omega
      have e : vCell n xs k = 1272047983 * (nI k + 2) := if_neg hge
      rw [e] at hR
      exact A_ldcI hx dL_cell_12 uz_constant_1_121 (A_iload_n (i := 1) hx dL_cell_14 rfl (A_iconst (v := 2) hx dL_cell_15 (by decide) (A_iadd hx dL_cell_16 (A_imul hx dL_cell_17 (A_iret hx hr rfl dL_cell_18 (by rw [e]; exact hR))))))
    · have hlt : k < n := by
        rcases Nat.lt_or_ge k n with z | z
        · exact z
        · exact absurd ((nI_leI (by omega) (by omega)).mpr z) q
      have e : vCell n xs k = xs k := if_pos hlt
      refine A_aload_nQ (i := 0) hx dL_cell_6 rfl (A_iload_n (i := 1) hx dL_cell_7 rfl (A_sld hx hS (vp_in_nI hlt (by omega)) dL_cell_8 (A_goto (tgt := 18) hx dL_cell_9 (by decide) (A_iret hx hr rfl dL_cell_18 ?_))))
      rw [nI_clamp (by omega), ← e]
      exact hR
  have hls := lv_entry ([aq b, ai (nI k)].map (cv L)) (n := 2) (show 2 ≤ 2 by decide)
  rw [lg_entry_eq]
  generalize (lg_sl ([aq b, ai (nI k)].map (cv L)) ++ List.replicate (2 - (lg_sl ([aq b, ai (nI k)].map (cv L))).length) Slot.unset).toArray = ls at hls ⊢
  have hlv : lvA L [some (aq b), some (ai (nI k))] ls := ⟨hls.1, hls.2.1, fun i v hi _ => by
    match i, hi with
    | 0, hi => cases hi; exact hls.2.2 (0, .ref b) (by simp [lv_args, cv])
    | 1, hi => cases hi; exact hls.2.2 (1, .int (nI k)) (by simp [lv_args, cv, Value.category])
    | i + 2, hi => cases hi⟩
  have hW := hA s.heap [] ls hlv hP hG va_S.rf (Nat.le_refl _) (Nat.le_refl _) (Nat.le_refl _) (Nat.le_refl _)
  exact W_cs hW (Nat.sub_self _) (Nat.sub_self _)
theorem A_cell (hx : Hx κ cc nL RL fX lX) (hst : (kl κ).stackTraces = false) {b n k : Nat} {xs : Nat → Int32} {rest : List AV} (hlc : lc.length = nL) (hS : Scr κ b n xs) (hn : n < 65536) (hk : k < 65536) (hw : wt rest ≤ 8) (hf : 2 ≤ fX) (hl : 41 ≤ lX) (d : decode cc pc = .ok (.invokestatic 209, 3))
    (kr : Acf κ (pc + 3) (ai (vCell n xs k) :: rest) lc σ) : Acf κ pc (ai (nI k) :: aq b :: rest) lc σ := by
  obtain ⟨p, l, e, R, s, m, args, below, meth, c, Q, g, L, c0, s0, fc, fs⟩ := κ
  obtain ⟨⟨hxe, hxb, hxl, hxo, hxw⟩, hxk, hxz, hxc, hxs, hxt, hxf, hxr⟩ := hx
  intro H locs ls h1 h2 h3 h4 h5 h6 h7 h8
  have hMet := c_cell (l := l) (g := g) hst hn hk hS.2.2 L σ (xs := xs)
  have e1 : sC σ - c0 + (sC σ - sC σ) = sC σ - c0 := by omega
  have e2 : sS σ - s0 + (sS σ - sS σ) = sS σ - s0 := by omega
  have hst9 : ((ai (nI k) :: aq b :: rest) : List AV).map (cv L) = ([aq b, ai (nI k)].map (cv L)).reverse ++ rest.map (cv L) := rfl
  rw [hst9]
  refine vx_go (g := g) (L := L) (r := .inl (some (ai (vCell n xs k)))) (σ := σ) (a := ([aq b, ai (nI k)].map (cv L)).toArray) (mc := sC σ - sC σ) (ms := sS σ - sS σ) (rest := rest.map (cv L))
    (vx_runS (As := [aq b, ai (nI k)].map (cv L)) (rest := rest.map (cv L)) ⟨hxe, hxb, hxl, hxo, hxw⟩ hMet ⟨callB_of 2 hxw (UW_in uc_L_cell) rfl rfl rfl (hxw _ un_L) (hxw _ um_L_209) ⟨by decide, by decide, rfl⟩ ⟨by rw [hxf]; exact hf, by rw [hxr]; exact hl⟩, hxw _ ut_L_cell⟩ ⟨blindQ, fun U hU hW => ⟨rfl, ⟨by
      rw [hU]
      exact (va_X.moved hW.alike hS.1).kept (h4.2.1 b hS.2.1 hS.2.2), by rw [hU]; exact Nat.lt_of_lt_of_le hS.2.1 h4.1⟩, by rw [hU]; exact h2, by rw [hU]; exact h3.warm hW, by rw [hU]; exact Nat.le_trans hxz h4.1⟩⟩ rfl rfl (by show ls.size = nL; rw [h1.1, hlc]) rfl (by show 2 * 0 + _ ≤ 8; rw [Nat.mul_zero, Nat.zero_add, wt_cv]; exact hw) d ⟨by rw [hxc, e1]; omega, by rw [hxs, e2]; omega⟩) h4 ?_ ?_
  · intro v H1 locs1 hv9 hR hk9 hS1
    rw [e1, e2]
    cases hv9
    exact kr H1 locs1 ls h1 hR (h3.kept hk9) hS1 h5 h6 h7 h8
  · intro n9 H1 locs1 q9 ce hv9
    cases hv9
end CELL
