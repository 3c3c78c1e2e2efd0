/-! rows of the law's loop: the script, the long, the helpers' calls -/
def Scr (κ : Kx) (b n : Nat) (xs : Nat → Int32) : Prop := va_X b n xs (ks κ) (ks κ).heap ∧ b < (ks κ).heap.size ∧ ¬ gA (kg κ) b
section LAWC
variable {κ : Kx} {cc : ByteArray} {nL fX lX : Nat} {own : String} {pc : Nat} {st : List AV} {lc : LcT} {σ σF : Sg} {ret retY : Option FieldType}
theorem A_sld (hx : Hx κ cc nL own fX lX) {b n : Nat} {xs : Nat → Int32} (hs : Scr κ b n xs) {i : Int32} (hin : vp_in i n) (d : decode cc pc = .ok (.iaload, 1)) (k : Acf κ (pc + 1) (ai (xs i.toNatClampNeg) :: st) lc σ) : Acf κ pc (ai i :: aq b :: st) lc σ := by
  obtain ⟨p, l, e, R, s, m, args, below, meth, c, Q, g, L, c0, s0, fc, fs⟩ := κ
  obtain ⟨⟨hxe, hxb, hxl, hxo, hxw⟩, hxk, hxz, hxc, hxs, hxt, hxf, hxr⟩ := hx
  intro H locs ls h1 h2 h3 h4 h5 h6 h7 h8
  exact va_sld hxe hxb hs.1 hs.2.1 hs.2.2 h4 hin d (k H locs ls h1 h2 h3 h4 h5 h6 h7 h8)
theorem A_slen (hx : Hx κ cc nL own fX lX) {b n : Nat} {xs : Nat → Int32} (hs : Scr κ b n xs) (d : decode cc pc = .ok (.arraylength, 1)) (k : Acf κ (pc + 1) (ai (nI n) :: st) lc σ) : Acf κ pc (aq b :: st) lc σ := by
  obtain ⟨p, l, e, R, s, m, args, below, meth, c, Q, g, L, c0, s0, fc, fs⟩ := κ
  obtain ⟨⟨hxe, hxb, hxl, hxo, hxw⟩, hxk, hxz, hxc, hxs, hxt, hxf, hxr⟩ := hx
  intro H locs ls h1 h2 h3 h4 h5 h6 h7 h8
  exact va_slen hxe hxb hs.1 hs.2.1 hs.2.2 h4 d (k H locs ls h1 h2 h3 h4 h5 h6 h7 h8)
theorem A_aload_nQ (hx : Hx κ cc nL own fX lX) {i : Fin 4} {t : Nat} (d : decode cc pc = .ok (.aload_n i, 1)) (hl : lc[(i : Nat)]? = some (some (aq t))) (k : Acf κ (pc + 1) (aq t :: st) lc σ) : Acf κ pc st lc σ := by
  obtain ⟨p, l, e, R, s, m, args, below, meth, c, Q, g, L, c0, s0, fc, fs⟩ := κ
  obtain ⟨⟨hxe, hxb, hxl, hxo, hxw⟩, hxk, hxz, hxc, hxs, hxt, hxf, hxr⟩ := hx
  intro H locs ls h1 h2 h3 h4 h5 h6 h7 h8
  exact lv_aload_n hxe hxb d rfl (h1.2.2 _ _ hl).1 (k H locs ls h1 h2 h3 h4 h5 h6 h7 h8)
theorem A_laldJ (hx : Hx κ cc nL own fX lX) (d : decode cc pc = .ok (.laload, 1)) (k : Acf κ (pc + 1) (al σ.2.2.2 :: st) lc σ) : Acf κ pc (ai 0 :: ar (14, 0) :: st) lc σ := by
  obtain ⟨p, l, e, R, s, m, args, below, meth, c, Q, g, L, c0, s0, fc, fs⟩ := κ
  obtain ⟨⟨hxe, hxb, hxl, hxo, hxw⟩, hxk, hxz, hxc, hxs, hxt, hxf, hxr⟩ := hx
  intro H locs ls h1 h2 h3 h4 h5 h6 h7 h8
  obtain ⟨L', hL, r1, r2, r3, r4, r5⟩ := id h2
  have hat : va_at g.1 vwCl (L' (14, 0), .inl (g.2.1 4, 1, .inr (.inl (fun _ => σ.2.2.2)))) H := r1 (14, 0) rfl
  rw [hL (14, 0) (show (14 : Nat) ≠ 5 by decide)] at hat
  exact va_lald hxe hxb h3.1 (vP1 hat) 0 4 rfl rfl (by unfold vp_in; decide) d (k H locs ls h1 h2 h3 h4 h5 h6 h7 h8)
theorem A_lcmpE (hx : Hx κ cc nL own fX lX) {x : Int64} (d : decode cc pc = .ok (.lcmp, 1)) (k : Acf κ (pc + 1) (ai 0 :: st) lc σ) : Acf κ pc (al x :: al x :: st) lc σ := by
  obtain ⟨p, l, e, R, s, m, args, below, meth, c, Q, g, L, c0, s0, fc, fs⟩ := κ
  obtain ⟨⟨hxe, hxb, hxl, hxo, hxw⟩, hxk, hxz, hxc, hxs, hxt, hxf, hxr⟩ := hx
  intro H locs ls h1 h2 h3 h4 h5 h6 h7 h8
  refine W.lcmp hxe hxb d ?_
  have e0 : lg_cmp x x = 0 := by simp [lg_cmp]
  rw [e0]
  exact k H locs ls h1 h2 h3 h4 h5 h6 h7 h8
/-- locals that aren't needed any more -/
theorem Acf.drop {lc' : LcT} (hl : lc'.length = lc.length) (h : ∀ (i : Nat) (v : AV), lc'[i]? = some (some v) → lc[i]? = some (some v)) (k : Acf κ pc st lc' σ) : Acf κ pc st lc σ := by
  obtain ⟨p, l, e, R, s, m, args, below, meth, c, Q, g, L, c0, s0, fc, fs⟩ := κ
  intro H locs ls h1 h2 h3 h4 h5 h6 h7 h8
  exact k H locs ls ⟨by rw [h1.1, hl], h1.2.1, fun i v hv => h1.2.2 i v (h i v hv)⟩ h2 h3 h4 h5 h6 h7 h8
theorem UW_SW {own : String} {idx : Nat} {y : MethodName} {bytes : ByteArray} {maxL : Nat} {ret : Option FieldType} {hh : List (Nat × Nat × Nat × Nat)} (uc : Cond.codeWith y bytes maxL ret hh ∈ UW) (um : Cond.methodLink own idx y ∈ UW) (ut : Cond.static y ∈ UW) (un : Cond.initialized y.cls ∈ UW) : GoodIn UW (va_wsS own idx y (Cond.codeWith y bytes maxL ret hh :: UW)) := by
  intro w hw
  have h : w ∈ UW := by
    simp only [va_wsS, List.cons_append, List.nil_append, List.mem_cons] at hw
    rcases hw with rfl | rfl | rfl | rfl | hw
    · exact um
    · exact ut
    · exact un
    · exact uc
    · exact hw
  exact ⟨h, good_of_word (UW_good h)⟩
theorem blindX {X : State → Prop} (hX : XT X) {g : Gx} {L : Tg → Nat} {σ : Sg} {av : List Value} : FrameBlind (va_Pc av (fun U => X U ∧ PcF g L σ U)) := by
  intro a U fr mk h
  exact ⟨h.1, hX U (U.calling fr mk a) h.2.1 (State.WarmedH.refl U), h.2.2.1, GF.same (U := U.calling fr mk a) h.2.2.2.1 rfl, h.2.2.2.2⟩
theorem A_callSW (hx : Hx κ cc nL own fX lX) {X : State → Prop} (hX : XT X) (hXs : X (ks κ)) {y : MethodName} {bytes : ByteArray} {maxL fr lo idx : Nat} {hh : List (Nat × Nat × Nat × Nat)} {sem : Sem} {as rest : List AV} {r : Res} (hlc : lc.length = nL)
    (hM : CtW X (kl κ) (kg κ) y bytes maxL retY hh fr lo sem) (hsem : sem as σ = some (r, σF)) (hr9 : ∃ v, r = .inl v) (hle : sle σ σF) (hsg : ∀ v ∈ as, sg v)
    (uc : Cond.codeWith y bytes maxL retY hh ∈ UW) (um : Cond.methodLink own idx y ∈ UW) (ut : Cond.static y ∈ UW) (un : Cond.initialized y.cls ∈ UW)
    (hd : y.cls ≠ "java/lang/invoke/MethodHandle" ∧ y.cls ≠ "java/lang/invoke/VarHandle" ∧ (parseMethodDescriptor y.desc).map (fun d => d.parameters.length) = some as.length)
    (hw : wt rest ≤ 8) (hf : fr + 1 ≤ fX) (hl : 8 + (maxL + 11) + lo ≤ lX) (d : decode cc pc = .ok (.invokestatic idx, 3))
    (fit : Fit κ σF) (hlcs : ∀ w, some w ∈ lc → vA σ w) (hrs : ∀ w ∈ rest, vA σ w) (kr : ∀ L2 : Tg → Nat, (∀ u, vld σ u = true → L2 u = kL κ u) → ∀ v, r = .inl v → Acf (wL κ L2) (pc + 3) (v.toList ++ rest) lc σF) : Acf κ pc (as.reverse ++ rest) lc σ := by
  obtain ⟨p, l, e, R, s, m, args, below, meth, c, Q, g, L, c0, s0, fc, fs⟩ := κ
  obtain ⟨⟨hxe, hxb, hxl, hxo, hxw⟩, hxk, hxz, hxc, hxs, hxt, hxf, hxr⟩ := hx
  obtain ⟨fit1, fit2⟩ := fit
  obtain ⟨le1, le2⟩ := hle
  intro H locs ls h1 h2 h3 h4 h5 h6 h7 h8
  have hMet := hM L as σ σF r hsg hsem
  have e1 : sC σ - c0 + (sC σF - sC σ) = sC σF - c0 := by omega
  have e2 : sS σ - s0 + (sS σF - sS σ) = sS σF - s0 := by omega
  have hst : (as.reverse ++ rest).map (cv L) = (as.map (cv L)).reverse ++ rest.map (cv L) := by rw [List.map_append, List.map_reverse]
  rw [hst]
  refine vx_goS (g := g) (L := L) (σ0 := σ) (r := r) (σ := σF) (a := (as.map (cv L)).toArray) (mc := sC σF - sC σ) (ms := sS σF - sS σ) (rest := rest.map (cv L))
    (vx_runSX (As := as.map (cv L)) (rest := rest.map (cv L)) ⟨hxe, hxb, hxl, hxo, hxw⟩ hMet (vx_cwSW as.length hxw (UW_SW uc um ut un) rfl rfl rfl hd ⟨by rw [hxf]; exact hf, by rw [hxr]; exact hl⟩) ⟨blindX hX, fun U hU hW => ⟨rfl, hX s U hXs hW, by rw [hU]; exact h2, by rw [hU]; exact h3.warm hW, by rw [hU]; exact Nat.le_trans hxz h4.1⟩⟩ rfl (List.length_map _) (by show ls.size = nL; rw [h1.1, hlc]) rfl (by show 2 * 0 + _ ≤ 8; rw [Nat.mul_zero, Nat.zero_add, wt_cv]; exact hw) d ⟨by rw [hxc, e1]; omega, by rw [hxs, e2]; omega⟩) h4 ?_ ?_
  · intro L2 v H1 locs1 hL2 hv9 hR hk hS1
    rw [e1, e2]
    have hk9 := kr L2 hL2 v hv9 H1 locs1 ls (h1.vA hL2 hlcs) hR (h3.kept hk) hS1 (Nat.le_trans h5 le1) (Nat.le_trans h6 le2) fit1 fit2
    rw [List.map_append, rest_vA hL2 hrs] at hk9
    cases v <;> exact hk9
  · intro L2 n H1 locs1 q9 ce hL2 hv9
    obtain ⟨v, hv⟩ := hr9
    rw [hv] at hv9
    cases hv9
theorem Scr.wL {b n : Nat} {xs : Nat → Int32} {L2 : Tg → Nat} (h : Scr κ b n xs) : Scr (wL κ L2) b n xs := by
  obtain ⟨p, l, e, R, s, m, args, below, meth, c, Q, g, L, c0, s0, fc, fs⟩ := κ
  exact h
end LAWC
