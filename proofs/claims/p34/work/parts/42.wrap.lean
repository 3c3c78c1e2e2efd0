/-! calls whose throws are caught; the contracts of the law's helpers -/
def kc (κ : Kx) : Code := κ.2.2.2.2.2.2.2.2.2.1
/-- the handler that takes exception n at pc, and what it goes on to -/
def Hand (κ : Kx) (own : String) (pc n : Nat) (lc : LcT) (σ : Sg) : Prop := ∃ (pre : List ExceptionTableEntry) (x : ExceptionTableEntry) (suf : List ExceptionTableEntry) (name : String), (kc κ).exceptionTable.toList = pre ++ x :: suf ∧ (∀ z ∈ pre, covers z pc = false ∨ (z.catchType ≠ 0 ∧ exn n = "java/lang/IllegalStateException" ∧ Cond.classLink own z.catchType "java/lang/IndexOutOfBoundsException" ∈ UW)) ∧ covers x pc = true ∧ x.catchType ≠ 0 ∧ Cond.classLink own x.catchType name ∈ UW ∧ Cond.castable (exn n) name ∈ FW ∧ ∀ q : Nat, Acf κ x.handlerPc [aq q] lc σ
section WRAP
variable {κ : Kx} {cc : ByteArray} {nL fX lX : Nat} {own : String} {pc : Nat} {st : List AV} {lc : LcT} {σ σF : Sg} {ret retY : Option FieldType}
theorem A_astore_nQ (hx : Hx κ cc nL own fX lX) {i : Fin 4} {q : Nat} (d : decode cc pc = .ok (.astore_n i, 1)) (hi : (i : Nat) < lc.length) (k : Acf κ (pc + 1) st (lc.set (i : Nat) (some (aq q))) σ) : Acf κ pc (aq q :: st) lc σ := by
  obtain ⟨p, l, e, R, s, m, args, below, meth, c, Q, g, L, c0, s0, fc, fs⟩ := κ
  obtain ⟨⟨hxe, hxb, hxl, hxo, hxw⟩, hxk, hxz, hxc, hxs, hxt, hxf, hxr⟩ := hx
  intro H locs ls h1 h2 h3 h4 h5 h6 h7 h8
  exact lv_astore_n hxe hxb d rfl h1.has hi rfl (fun ls' h' => k H locs ls' (h1.set (v := aq q) hi rfl h') h2 h3 h4 h5 h6 h7 h8)
theorem A_astoreQ (hx : Hx κ cc nL own fX lX) {i q : Nat} (d : decode cc pc = .ok (.astore i, 2)) (hi : i < lc.length) (k : Acf κ (pc + 2) st (lc.set i (some (aq q))) σ) : Acf κ pc (aq q :: st) lc σ := by
  obtain ⟨p, l, e, R, s, m, args, below, meth, c, Q, g, L, c0, s0, fc, fs⟩ := κ
  obtain ⟨⟨hxe, hxb, hxl, hxo, hxw⟩, hxk, hxz, hxc, hxs, hxt, hxf, hxr⟩ := hx
  intro H locs ls h1 h2 h3 h4 h5 h6 h7 h8
  exact lv_astore hxe hxb d h1.has hi rfl (fun ls' h' => k H locs ls' (h1.set (v := aq q) hi rfl h') h2 h3 h4 h5 h6 h7 h8)
theorem A_iretW (hx : Hx κ cc nL own fX lX) {x : Int32} (hr : (km κ).sig.returnType = some .int) (d : decode cc pc = .ok (.ireturn, 1)) (k : Rt κ (.inl (some (ai x))) σ) : Acf κ pc [ai x] lc σ := by
  obtain ⟨p, l, e, R, s, m, args, below, meth, c, Q, g, L, c0, s0, fc, fs⟩ := κ
  obtain ⟨⟨hxe, hxb, hxl, hxo, hxw⟩, hxk, hxz, hxc, hxs, hxt, hxf, hxr⟩ := hx
  obtain ⟨k1, k2, k3, k4, Qc, XC, rfl, kq, kx⟩ := k
  intro H locs ls h1 h2 h3 h4 h5 h6 h7 h8
  exact W.widen (Nat.sub_le_sub_right h7 _) (Nat.sub_le_sub_right h8 _) (vx_ret (W.zret hxe hxb hr rfl (fun t ht _ => kq _ _ _ ⟨⟨some (ai x), rfl, rfl, by rw [ht]; exact h2⟩, h4.F ht⟩) h4.2.2 d hxk))
theorem A_callVX (hx : Hx κ cc nL own fX lX) {y : MethodName} {bytes : ByteArray} {maxL fr lo idx N : Nat} {sem : Sem} {C : String} {T : u_T} {b : Tg} {as rest : List AV} {r : Res} (hlc : lc.length = nL)
    (hM : CtX (kl κ) (kg κ) y bytes maxL retY fr lo sem) (hsem : sem (ar b :: as) σ = some (r, σF)) (hle : sle σ σF) (hsg : ∀ v ∈ as, sg v)
    (uc : Cond.code y bytes maxL retY ∈ UW) (um : Cond.methodLink own idx y ∈ UW) (ui : Cond.instanceMethod y ∈ UW) (us : Cond.selects C y y ∈ UW) (un : Cond.initialized C ∈ UW)
    (hd : y.cls = C ∧ y.cls ≠ "java/lang/invoke/MethodHandle" ∧ y.cls ≠ "java/lang/invoke/VarHandle" ∧ (parseMethodDescriptor y.desc).map (fun d => d.parameters.length) = some as.length)
    (hcl : vwCl[cix b.1]? = some (C, T, N)) (ho : isRc b.1 = true) (hv : vld σ b = true) (hw : wt rest ≤ 8) (hf : fr + 1 ≤ fX) (hl : 8 + (maxL + 11) + lo ≤ lX) (d : decode cc pc = .ok (.invokevirtual idx, 3))
    (fit : Fit κ σF) (kr : ∀ v, r = .inl v → Acf κ (pc + 3) (v.toList ++ rest) lc σF) (kx : ∀ n, r = .inr n → Hand κ own pc n lc σF) : Acf κ pc (as.reverse ++ ar b :: rest) lc σ := by
  obtain ⟨p, l, e, R, s, m, args, below, meth, c, Q, g, L, c0, s0, fc, fs⟩ := κ
  obtain ⟨⟨hxe, hxb, hxl, hxo, hxw⟩, hxk, hxz, hxc, hxs, hxt, hxf, hxr⟩ := hx
  obtain ⟨fit1, fit2⟩ := fit
  obtain ⟨le1, le2⟩ := hle
  intro H locs ls h1 h2 h3 h4 h5 h6 h7 h8
  obtain ⟨L', hL, r1, r2, r3, r4, r5⟩ := id h2
  have hat := r1 b hv
  obtain ⟨⟨fs9, hc9⟩, h59⟩ := cell_rc ho L' g.2.1 σ
  rw [hc9, hL b h59] at hat
  have hMet := hM L (ar b :: as) σ σF r (fun v hv9 => by rcases List.mem_cons.mp hv9 with rfl | hv9; exact Or.inr (Or.inl ⟨_, rfl⟩); exact hsg v hv9) hsem
  have e1 : sC σ - c0 + (sC σF - sC σ) = sC σF - c0 := by omega
  have e2 : sS σ - s0 + (sS σF - sS σ) = sS σF - s0 := by omega
  have hst : (as.reverse ++ ar b :: rest).map (cv L) = (as.map (cv L)).reverse ++ Value.ref (L b) :: rest.map (cv L) := by rw [List.map_append, List.map_reverse]; rfl
  rw [hst]
  refine vx_go (g := g) (L := L) (r := r) (σ := σF) (a := (Value.ref (L b) :: as.map (cv L)).toArray) (mc := sC σF - sC σ) (ms := sS σF - sS σ) (rest := rest.map (cv L))
    (vx_runV (C := C) (b := L b) (As := as.map (cv L)) (rest := rest.map (cv L)) ⟨hxe, hxb, hxl, hxo, hxw⟩ hMet (cwV as.length hxw (UW_V uc um ui us un) rfl rfl rfl hd ⟨by rw [hxf]; exact hf, by rw [hxr]; exact hl⟩) ⟨blindF, va_recv h3.1 (vP1 hat) hcl (q0 := 0) rfl, fun U hU hW => ⟨rfl, by rw [hU]; exact h2, by rw [hU]; exact h3.warm hW, by rw [hU]; exact Nat.le_trans hxz h4.1⟩⟩ rfl (List.length_map _) (by show ls.size = nL; rw [h1.1, hlc]) rfl (by show 2 * 0 + _ ≤ 8; rw [Nat.mul_zero, Nat.zero_add, wt_cv]; exact hw) d ⟨by rw [hxc, e1]; omega, by rw [hxs, e2]; omega⟩) h4 ?_ ?_
  · intro v H1 locs1 hv9 hR hk hS1
    rw [e1, e2]
    have hk9 := kr v hv9 H1 locs1 ls h1 hR (h3.kept hk) hS1 (Nat.le_trans h5 le1) (Nat.le_trans h6 le2) fit1 fit2
    rw [List.map_append] at hk9
    cases v <;> exact hk9
  · intro n H1 locs1 q9 ce hv9 hR hk hS1 hce hcv hcn
    rw [e1, e2]
    obtain ⟨pre, x, suf, name, t1, t2, t3, t4, t5, t6, t7⟩ := kx n hv9
    refine vx_catch (E := exn n) hxo pre x suf t1 (fun z hz => ?_) t3 t4 (hxw _ t5) (va_Nw.use (FW_face t6).1 (h3.2.2.2.2.2.1 _ t6)) hce hcv hcn ?_
    · rcases t2 z hz with q | ⟨q1, q3, q2⟩
      · exact Or.inl q
      · exact Or.inr ⟨q1, _, hxw _ q2, by rw [q3]; exact h3.2.2.2.2.2.2.2.2.2⟩
    · exact t7 q9 H1 locs1 ls h1 hR (h3.kept hk) hS1 (Nat.le_trans h5 le1) (Nat.le_trans h6 le2) fit1 fit2
theorem UW_SW {own : String} {idx : Nat} {y : MethodName} {bytes : ByteArray} {maxL : Nat} {ret : Option FieldType} {hh : List (Nat × Nat × Nat × Nat)} (uc : Cond.codeWith y bytes maxL ret hh ∈ UW) (um : Cond.methodLink own idx y ∈ UW) (ut : Cond.static y ∈ UW) (un : Cond.initialized y.cls ∈ UW) : GoodIn UW (va_wsS own idx y (Cond.codeWith y bytes maxL ret hh :: UW)) := by
  intro w hw
  have h : w ∈ UW := by
    simp only [va_wsS, List.cons_append, List.nil_append, List.mem_cons] at hw
    rcases hw with rfl | rfl | rfl | rfl | hw
    · exact um
    · exact ut
    · exact un
    · exact uc
    · exact hw
  exact ⟨h, good_of_word (UW_good h)⟩
end WRAP
def CtN (l : Launch) (g : Gx) (y : MethodName) (cc : ByteArray) (maxL : Nat) (ret : Option FieldType) (hh : List (Nat × Nat × Nat × Nat)) (fr lo : Nat) (sem : Sem) : Prop :=
  ∀ (L : Tg → Nat) (as : List AV) (σ σF : Sg) (r : Res), (∀ v ∈ as, sg v) → sem as σ = some (r, σF) → vx_Met l y (Cond.codeWith y cc maxL ret hh :: UW) { frames := fr, cells := sC σF - sC σ, slots := sS σF - sS σ, locals := lo } (va_Pc (as.map (cv L)) (PcF g L σ)) (QcF g L r σF) (XcF g L r σF) (sC σF - sC σ) (sS σF - sS σ) (gA g)
theorem CtN.of {l : Launch} {g : Gx} {y : MethodName} {cc : ByteArray} {maxL : Nat} {ret : Option FieldType} {hh : List (Nat × Nat × Nat × Nat)} {fr lo : Nat} {sem : Sem} (hy : plainName y.cls = true) (hl : l.stackTraces = false)
    (body : ∀ κ : Kx, kl κ = l → kg κ = g → Hx κ cc maxL y.cls fr lo → (km κ).sig.returnType = ret → (kc κ).exceptionTable.toList = tableOf hh → ∀ (as : List AV) (σ σF : Sg) (r : Res), (∀ v ∈ as, sg v) → sem as σ = some (r, σF) → (lcOf as).length ≤ maxL ∧ sle σ σF ∧ (Rt κ r σF → Acf κ 0 [] (lcOf as ++ List.replicate (maxL - (lcOf as).length) none) σ)) : CtN l g y cc maxL ret hh fr lo sem := by
  intro L as σ σF r hs hsem
  refine vx_ofWH hy rfl ?_
  intro p e s m args below meth c s₁ B hml hv
  obtain ⟨rfl, hP, hG, hz⟩ := hv
  have hts := atoms_spec (ws := Cond.codeWith y cc maxL ret hh :: UW) B.pre
  obtain ⟨b1, b2, b3⟩ := body (p, l, e, { frames := fr, cells := sC σF - sC σ, slots := sS σF - sS σ, locals := lo }, s, m, (as.map (cv L)).toArray, below, meth, c, vx_MQ below (QcF g L r σF) (XcF g L r σF) (as.map (cv L)).toArray s (sC σF - sC σ) (sS σF - sS σ) (gA g), g, L, sC σ, sS σ, sC σF, sS σF) rfl rfl
    ⟨⟨B.exec, B.bytes, hml, findClass_of_methodNamed B.named, fun w hw => hts w (List.mem_cons_of_mem _ hw)⟩, B.notSynchronized, hz, rfl, rfl, hl, rfl, rfl⟩ B.returns (vx_table (x := y) B (hts (Cond.codeWith y cc maxL ret hh) List.mem_cons_self)) as σ σF r hs hsem
  have hA := b3 ⟨Nat.le_refl _, Nat.le_refl _, b2.1, b2.2, _, _, rfl, fun _ _ _ h => h, fun _ _ _ h => h⟩
  have hlen : (lg_sl (as.map (cv L))).length ≤ maxL := by rw [args_len L as hs]; exact b1
  have hls := lv_entry (as.map (cv L)) (n := maxL) hlen
  rw [lg_entry_eq]
  generalize (lg_sl (as.map (cv L)) ++ List.replicate (maxL - (lg_sl (as.map (cv L))).length) Slot.unset).toArray = ls at hls ⊢
  have hlv : lvA L (lcOf as ++ List.replicate (maxL - (lcOf as).length) none) ls := lvA.entry hs b1 hls
  have hW := hA s.heap [] ls hlv hP hG va_S.rf (Nat.le_refl _) (Nat.le_refl _) b2.1 b2.2
  rw [Nat.sub_self, Nat.sub_self] at hW
  exact hW
theorem fw_11 : Cond.castable (exn 1) "java/lang/IndexOutOfBoundsException" ∈ FW := List.mem_filter.mpr ⟨(by decide +kernel : Cond.castable (exn 1) "java/lang/IndexOutOfBoundsException" ∈ lw_tbl), (by decide +kernel)⟩
theorem fw_22 : Cond.castable (exn 2) "java/lang/IllegalStateException" ∈ FW := List.mem_filter.mpr ⟨(by decide +kernel : Cond.castable (exn 2) "java/lang/IllegalStateException" ∈ lw_tbl), (by decide +kernel)⟩
section WRAP2
variable {κ : Kx} {cc : ByteArray} {nL fX lX : Nat} {own : String} {w pc pc1 pc2 : Nat} {st : List AV} {lc : LcT} {σ σF : Sg} {ret retY : Option FieldType}
theorem A_callSN (hx : Hx κ cc nL own fX lX) {y : MethodName} {bytes : ByteArray} {maxL fr lo idx : Nat} {hh : List (Nat × Nat × Nat × Nat)} {sem : Sem} {as rest : List AV} {r : Res} (hlc : lc.length = nL)
    (hM : CtN (kl κ) (kg κ) y bytes maxL retY hh fr lo sem) (hsem : sem as σ = some (r, σF)) (hle : sle σ σF) (hsg : ∀ v ∈ as, sg v)
    (uc : Cond.codeWith y bytes maxL retY hh ∈ UW) (um : Cond.methodLink own idx y ∈ UW) (ut : Cond.static y ∈ UW) (un : Cond.initialized y.cls ∈ UW)
    (hd : y.cls ≠ "java/lang/invoke/MethodHandle" ∧ y.cls ≠ "java/lang/invoke/VarHandle" ∧ (parseMethodDescriptor y.desc).map (fun d => d.parameters.length) = some as.length)
    (hw : wt rest ≤ 8) (hf : fr + 1 ≤ fX) (hl : 8 + (maxL + 11) + lo ≤ lX) (d : decode cc pc = .ok (.invokestatic idx, 3))
    (fit : Fit κ σF) (kr : ∀ v, r = .inl v → Acf κ (pc + 3) (v.toList ++ rest) lc σF) (kx : ∀ n, r = .inr n → Rt κ (.inr n) σF) (hr : Hr κ ret) : Acf κ pc (as.reverse ++ rest) lc σ := by
  obtain ⟨p, l, e, R, s, m, args, below, meth, c, Q, g, L, c0, s0, fc, fs⟩ := κ
  obtain ⟨⟨hxe, hxb, hxl, hxo, hxw⟩, hxk, hxz, hxc, hxs, hxt, hxf, hxr⟩ := hx
  obtain ⟨fit1, fit2⟩ := fit
  obtain ⟨le1, le2⟩ := hle
  intro H locs ls h1 h2 h3 h4 h5 h6 h7 h8
  have hMet := hM L as σ σF r hsg hsem
  have e1 : sC σ - c0 + (sC σF - sC σ) = sC σF - c0 := by omega
  have e2 : sS σ - s0 + (sS σF - sS σ) = sS σF - s0 := by omega
  have hst : (as.reverse ++ rest).map (cv L) = (as.map (cv L)).reverse ++ rest.map (cv L) := by rw [List.map_append, List.map_reverse]
  rw [hst]
  refine vx_go (g := g) (L := L) (r := r) (σ := σF) (a := (as.map (cv L)).toArray) (mc := sC σF - sC σ) (ms := sS σF - sS σ) (rest := rest.map (cv L))
    (vx_runSX (As := as.map (cv L)) (rest := rest.map (cv L)) ⟨hxe, hxb, hxl, hxo, hxw⟩ hMet (vx_cwSW as.length hxw (UW_SW uc um ut un) rfl rfl rfl hd ⟨by rw [hxf]; exact hf, by rw [hxr]; exact hl⟩) ⟨blindF, fun U hU hW => ⟨rfl, by rw [hU]; exact h2, by rw [hU]; exact h3.warm hW, by rw [hU]; exact Nat.le_trans hxz h4.1⟩⟩ rfl (List.length_map _) (by show ls.size = nL; rw [h1.1, hlc]) rfl (by show 2 * 0 + _ ≤ 8; rw [Nat.mul_zero, Nat.zero_add, wt_cv]; exact hw) d ⟨by rw [hxc, e1]; omega, by rw [hxs, e2]; omega⟩) h4 ?_ ?_
  · intro v H1 locs1 hv9 hR hk hS1
    rw [e1, e2]
    have hk9 := kr v hv9 H1 locs1 ls h1 hR (h3.kept hk) hS1 (Nat.le_trans h5 le1) (Nat.le_trans h6 le2) fit1 fit2
    rw [List.map_append] at hk9
    cases v <;> exact hk9
  · intro n H1 locs1 q9 ce hv9 hR hk hS1 hce hcv hcn
    rw [e1, e2]
    obtain ⟨k1, k2, k3, k4, Qc, XC, hQ, kq, kx9⟩ := kx n hv9
    subst hQ
    exact vx_out (fun x hx9 => (hr.2 x hx9).elim) hxk hce hcv hcn (fun t ht _ => kx9 _ _ _ ⟨⟨n, rfl, rfl, by rw [ht]; exact hR⟩, hS1.F ht⟩) hS1.2.2 (by omega) (by omega)
def CN (κ : Kx) (own : String) (fX lX idx n : Nat) (sem : Sem) : Prop := ∃ (y : MethodName) (bytes : ByteArray) (maxL : Nat) (retY : Option FieldType) (hh : List (Nat × Nat × Nat × Nat)) (fr lo : Nat), CtN (kl κ) (kg κ) y bytes maxL retY hh fr lo sem ∧ Cond.codeWith y bytes maxL retY hh ∈ UW ∧ Cond.methodLink own idx y ∈ UW ∧ Cond.static y ∈ UW ∧ Cond.initialized y.cls ∈ UW ∧ (y.cls ≠ "java/lang/invoke/MethodHandle" ∧ y.cls ≠ "java/lang/invoke/VarHandle" ∧ (parseMethodDescriptor y.desc).map (fun d => d.parameters.length) = some n) ∧ fr + 1 ≤ fX ∧ 8 + (maxL + 11) + lo ≤ lX
theorem R_N (hx : Hx κ cc nL own fX lX) (hr : Hr κ ret) {n idx : Nat} {sem : Sem} {as : Ex (List AV)} (ha : Es κ nL n w pc pc2 as) (hc : CN κ own fX lX idx n sem) (h8 : w ≤ 8) (d : decode cc pc2 = .ok (.invokestatic idx, 3)) : Er κ nL w pc (pc2 + 3) (xS sem as) := by
  intro st lc σ v σ' hlc hw h
  obtain ⟨q, hq, h⟩ := obs h
  obtain ⟨hsem, hle⟩ := ask_s h
  obtain ⟨n2, g2, l2, k2⟩ := ha st lc σ _ _ hlc hw hq
  obtain ⟨y, bytes, maxL, retY, hh, fr, lo, u1, u2, u3, u4, u5, u6, u7, u8⟩ := hc
  subst n2
  exact ⟨l2.trans hle, fun hf kv kx => k2 (hf.le hle) (A_callSN hx hlc u1 hsem hle g2 u2 u3 u4 u5 u6 (Nat.le_trans hw h8) u7 u8 d hf kv kx hr)⟩
end WRAP2
