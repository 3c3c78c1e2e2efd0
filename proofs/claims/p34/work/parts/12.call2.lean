/-! calls by contract, and a contract out of its body -/
def Fit (κ : Kx) (σ : Sg) : Prop := match κ with
  | (p, l, e, R, s, m, args, below, meth, c, Q, g, L, c0, s0, fc, fs) => sC σ ≤ fc ∧ sS σ ≤ fs
theorem Rt.fit {κ : Kx} {r : Res} {σ : Sg} (h : Rt κ r σ) : Fit κ σ := by
  obtain ⟨p, l, e, R, s, m, args, below, meth, c, Q, g, L, c0, s0, fc, fs⟩ := κ
  exact ⟨h.1, h.2.1⟩
theorem UW_V {own C : String} {idx : Nat} {y : MethodName} {bytes : ByteArray} {maxL : Nat} {ret : Option FieldType} (uc : Cond.code y bytes maxL ret ∈ UW) (um : Cond.methodLink own idx y ∈ UW) (ui : Cond.instanceMethod y ∈ UW) (us : Cond.selects C y y ∈ UW) (un : Cond.initialized C ∈ UW) : GoodIn UW (wsV own idx C y (Cond.code y bytes maxL ret :: UW)) := by
  intro w hw
  have h : w ∈ UW := by
    simp only [wsV, List.cons_append, List.nil_append, List.mem_cons] at hw
    rcases hw with rfl | rfl | rfl | rfl | rfl | hw
    · exact um
    · exact ui
    · exact us
    · exact un
    · exact uc
    · exact hw
  exact ⟨h, good_of_word (UW_good h)⟩
def isRc (k : Nat) : Bool := isOb k || k == 4
theorem cell_rc {t : Tg} (h : isRc t.1 = true) (L : Tg → Nat) (cy : Nat → ClassId) (σ : Sg) : (∃ fs, cellOf L cy σ t = .inr (cix t.1, fs)) ∧ t.1 ≠ 5 := by
  by_cases ho : isOb t.1 = true
  · exact ⟨⟨_, cell_ob ho⟩, (isOb_5 ho).1⟩
  · have h4 : t.1 = 4 := by simp [isRc, ho] at h; exact h
    obtain ⟨tk, i⟩ := t
    dsimp only at h4
    subst h4
    exact ⟨⟨_, rfl⟩, show (4 : Nat) ≠ 5 by decide⟩
section CALL2
variable {κ : Kx} {cc : ByteArray} {nL fX lX : Nat} {own : String} {pc : Nat} {st : List AV} {lc : LcT} {σ σF : Sg} {ret retY : Option FieldType}
theorem A_callV (hx : Hx κ cc nL own fX lX) (hr : Hr κ ret) {y : MethodName} {bytes : ByteArray} {maxL fr lo idx N : Nat} {sem : Sem} {C : String} {T : u_T} {b : Tg} {as rest : List AV} {r : Res} (hlc : lc.length = nL)
    (hM : CtX (kl κ) (kg κ) y bytes maxL retY fr lo sem) (hsem : sem (ar b :: as) σ = some (r, σF)) (hle : sle σ σF) (hsg : ∀ v ∈ as, sg v)
    (uc : Cond.code y bytes maxL retY ∈ UW) (um : Cond.methodLink own idx y ∈ UW) (ui : Cond.instanceMethod y ∈ UW) (us : Cond.selects C y y ∈ UW) (un : Cond.initialized C ∈ UW)
    (hd : y.cls = C ∧ y.cls ≠ "java/lang/invoke/MethodHandle" ∧ y.cls ≠ "java/lang/invoke/VarHandle" ∧ (parseMethodDescriptor y.desc).map (fun d => d.parameters.length) = some as.length)
    (hcl : vwCl[cix b.1]? = some (C, T, N)) (ho : isRc b.1 = true) (hv : vld σ b = true) (hw : wt rest ≤ 8) (hf : fr + 1 ≤ fX) (hl : 8 + (maxL + 11) + lo ≤ lX) (d : decode cc pc = .ok (.invokevirtual idx, 3))
    (fit : Fit κ σF) (kr : ∀ v, r = .inl v → Acf κ (pc + 3) (v.toList ++ rest) lc σF) (kx : ∀ n, r = .inr n → Rt κ (.inr n) σF) : Acf κ pc (as.reverse ++ ar b :: rest) lc σ := by
  obtain ⟨p, l, e, R, s, m, args, below, meth, c, Q, g, L, c0, s0, fc, fs⟩ := κ
  obtain ⟨⟨hxe, hxb, hxl, hxo, hxw⟩, hxk, hxz, hxc, hxs, hxt, hxf, hxr⟩ := hx
  obtain ⟨fit1, fit2⟩ := fit
  obtain ⟨le1, le2⟩ := hle
  intro H locs ls h1 h2 h3 h4 h5 h6 h7 h8
  obtain ⟨L', hL, r1, r2, r3, r4, r5⟩ := id h2
  have hat := r1 b hv
  obtain ⟨⟨fs9, hc9⟩, h59⟩ := cell_rc ho L' g.2.1 σ
  rw [hc9, hL b h59] at hat
  have hMet := hM L (ar b :: as) σ σF r (fun v hv9 => by rcases List.mem_cons.mp hv9 with rfl | hv9; exact Or.inr (Or.inl ⟨_, rfl⟩); exact hsg v hv9) hsem
  have e1 : sC σ - c0 + (sC σF - sC σ) = sC σF - c0 := by omega
  have e2 : sS σ - s0 + (sS σF - sS σ) = sS σF - s0 := by omega
  have hst : (as.reverse ++ ar b :: rest).map (cv L) = (as.map (cv L)).reverse ++ Value.ref (L b) :: rest.map (cv L) := by rw [List.map_append, List.map_reverse]; rfl
  rw [hst]
  refine vx_go (g := g) (L := L) (r := r) (σ := σF) (a := (Value.ref (L b) :: as.map (cv L)).toArray) (mc := sC σF - sC σ) (ms := sS σF - sS σ) (rest := rest.map (cv L))
    (vx_runV (C := C) (b := L b) (As := as.map (cv L)) (rest := rest.map (cv L)) ⟨hxe, hxb, hxl, hxo, hxw⟩ hMet (cwV as.length hxw (UW_V uc um ui us un) rfl rfl rfl hd ⟨by rw [hxf]; exact hf, by rw [hxr]; exact hl⟩) ⟨blindF, va_recv h3.1 (vP1 hat) hcl (q0 := 0) rfl, fun U hU hW => ⟨rfl, by rw [hU]; exact h2, by rw [hU]; exact h3.warm hW, by rw [hU]; exact Nat.le_trans hxz h4.1⟩⟩ rfl (List.length_map _) (by show ls.size = nL; rw [h1.1, hlc]) rfl (by show 2 * 0 + _ ≤ 8; rw [Nat.mul_zero, Nat.zero_add, wt_cv]; exact hw) d ⟨by rw [hxc, e1]; omega, by rw [hxs, e2]; omega⟩) h4 ?_ ?_
  · intro v H1 locs1 hv9 hR hk hS1
    rw [e1, e2]
    have hk9 := kr v hv9 H1 locs1 ls h1 hR (h3.kept hk) hS1 (Nat.le_trans h5 le1) (Nat.le_trans h6 le2) fit1 fit2
    rw [List.map_append] at hk9
    cases v <;> exact hk9
  · intro n H1 locs1 q9 ce hv9 hR hk hS1 hce hcv hcn
    rw [e1, e2]
    obtain ⟨k1, k2, k3, k4, Qc, XC, hQ, kq, kx9⟩ := kx n hv9
    subst hQ
    exact vx_out (fun x hx9 => (hr.2 x hx9).elim) hxk hce hcv hcn (fun t ht _ => kx9 _ _ _ ⟨⟨n, rfl, rfl, by rw [ht]; exact hR⟩, hS1.F ht⟩) hS1.2.2 (by omega) (by omega)
theorem A_callS (hx : Hx κ cc nL own fX lX) (hr : Hr κ ret) {y : MethodName} {bytes : ByteArray} {maxL fr lo idx : Nat} {sem : Sem} {as rest : List AV} {r : Res} (hlc : lc.length = nL)
    (hM : CtX (kl κ) (kg κ) y bytes maxL retY fr lo sem) (hsem : sem as σ = some (r, σF)) (hle : sle σ σF) (hsg : ∀ v ∈ as, sg v)
    (uc : Cond.code y bytes maxL retY ∈ UW) (um : Cond.methodLink own idx y ∈ UW) (ut : Cond.static y ∈ UW) (un : Cond.initialized y.cls ∈ UW)
    (hd : y.cls ≠ "java/lang/invoke/MethodHandle" ∧ y.cls ≠ "java/lang/invoke/VarHandle" ∧ (parseMethodDescriptor y.desc).map (fun d => d.parameters.length) = some as.length)
    (hw : wt rest ≤ 8) (hf : fr + 1 ≤ fX) (hl : 8 + (maxL + 11) + lo ≤ lX) (d : decode cc pc = .ok (.invokestatic idx, 3))
    (fit : Fit κ σF) (kr : ∀ v, r = .inl v → Acf κ (pc + 3) (v.toList ++ rest) lc σF) (kx : ∀ n, r = .inr n → Rt κ (.inr n) σF) : Acf κ pc (as.reverse ++ rest) lc σ := by
  obtain ⟨p, l, e, R, s, m, args, below, meth, c, Q, g, L, c0, s0, fc, fs⟩ := κ
  obtain ⟨⟨hxe, hxb, hxl, hxo, hxw⟩, hxk, hxz, hxc, hxs, hxt, hxf, hxr⟩ := hx
  obtain ⟨fit1, fit2⟩ := fit
  obtain ⟨le1, le2⟩ := hle
  intro H locs ls h1 h2 h3 h4 h5 h6 h7 h8
  have hMet := hM L as σ σF r hsg hsem
  have e1 : sC σ - c0 + (sC σF - sC σ) = sC σF - c0 := by omega
  have e2 : sS σ - s0 + (sS σF - sS σ) = sS σF - s0 := by omega
  have hst : (as.reverse ++ rest).map (cv L) = (as.map (cv L)).reverse ++ rest.map (cv L) := by rw [List.map_append, List.map_reverse]
  rw [hst]
  refine vx_go (g := g) (L := L) (r := r) (σ := σF) (a := (as.map (cv L)).toArray) (mc := sC σF - sC σ) (ms := sS σF - sS σ) (rest := rest.map (cv L))
    (vx_runS (As := as.map (cv L)) (rest := rest.map (cv L)) ⟨hxe, hxb, hxl, hxo, hxw⟩ hMet ⟨callB_of as.length hxw (UW_in uc) rfl rfl rfl (hxw _ un) (hxw _ um) hd ⟨by rw [hxf]; exact hf, by rw [hxr]; exact hl⟩, hxw _ ut⟩ ⟨blindF, fun U hU hW => ⟨rfl, by rw [hU]; exact h2, by rw [hU]; exact h3.warm hW, by rw [hU]; exact Nat.le_trans hxz h4.1⟩⟩ rfl (List.length_map _) (by show ls.size = nL; rw [h1.1, hlc]) rfl (by show 2 * 0 + _ ≤ 8; rw [Nat.mul_zero, Nat.zero_add, wt_cv]; exact hw) d ⟨by rw [hxc, e1]; omega, by rw [hxs, e2]; omega⟩) h4 ?_ ?_
  · intro v H1 locs1 hv9 hR hk hS1
    rw [e1, e2]
    have hk9 := kr v hv9 H1 locs1 ls h1 hR (h3.kept hk) hS1 (Nat.le_trans h5 le1) (Nat.le_trans h6 le2) fit1 fit2
    rw [List.map_append] at hk9
    cases v <;> exact hk9
  · intro n H1 locs1 q9 ce hv9 hR hk hS1 hce hcv hcn
    rw [e1, e2]
    obtain ⟨k1, k2, k3, k4, Qc, XC, hQ, kq, kx9⟩ := kx n hv9
    subst hQ
    exact vx_out (fun x hx9 => (hr.2 x hx9).elim) hxk hce hcv hcn (fun t ht _ => kx9 _ _ _ ⟨⟨n, rfl, rfl, by rw [ht]; exact hR⟩, hS1.F ht⟩) hS1.2.2 (by omega) (by omega)
end CALL2
theorem args_cat (L : Tg → Nat) : ∀ (as : List AV) (k : Nat), (∀ v ∈ as, sg v) → ∀ (i : Nat) (v : AV), (lcOf as)[i]? = some (some v) → (k + i, cv L v) ∈ lv_args k (as.map (cv L))
  | [], k, _, i, v, h => by simp [lcOf] at h
  | a :: r, k, hs, i, v, h => by
    have ih := args_cat L r
    have hr : ∀ v ∈ r, sg v := fun v hv => hs v (List.mem_cons_of_mem _ hv)
    have one : ∀ a : AV, (cv L a).category = 1 → lcOf (a :: r) = some a :: lcOf r → (lcOf (a :: r))[i]? = some (some v) → (k + i, cv L v) ∈ lv_args k ((a :: r).map (cv L)) := fun a hc e h => by
      rw [e] at h
      have e2 : lv_args k ((a :: r).map (cv L)) = (k, cv L a) :: lv_args (k + 1) (r.map (cv L)) := by
        show (k, cv L a) :: lv_args (if (cv L a).category = 2 then k + 2 else k + 1) _ = _
        rw [if_neg (by omega)]
      rw [e2]
      match i, h with
      | 0, h =>
        cases h
        exact List.mem_cons_self
      | i + 1, h =>
        have := ih (k + 1) hr i v h
        rw [show k + (i + 1) = k + 1 + i by omega]
        exact List.mem_cons_of_mem _ this
    rcases hs a List.mem_cons_self with ⟨x, rfl⟩ | ⟨t, rfl⟩ | rfl | ⟨x, rfl⟩
    · exact one _ rfl rfl h
    · exact one _ rfl rfl h
    · exact one _ rfl rfl h
    · have e2 : lv_args k (((.inl (.long x) : AV) :: r).map (cv L)) = (k, .long x) :: lv_args (k + 2) (r.map (cv L)) := rfl
      rw [e2]
      match i, h with
      | 0, h =>
        cases h
        exact List.mem_cons_self
      | 1, h => cases h
      | i + 2, h =>
        have := ih (k + 2) hr i v h
        rw [show k + (i + 2) = k + 2 + i by omega]
        exact List.mem_cons_of_mem _ this
theorem args_len (L : Tg → Nat) : ∀ as : List AV, (∀ v ∈ as, sg v) → (lg_sl (as.map (cv L))).length = (lcOf as).length
  | [], _ => rfl
  | a :: r, hs => by
    have ih := args_len L r (fun v hv => hs v (List.mem_cons_of_mem _ hv))
    have e9 : ∀ (v : Value) (l : List Value), lg_sl (v :: l) = (if v.category = 2 then [Slot.val v, Slot.second] else [Slot.val v]) ++ lg_sl l := fun v l => by simp [lg_sl]
    rcases hs a List.mem_cons_self with ⟨x, rfl⟩ | ⟨t, rfl⟩ | rfl | ⟨x, rfl⟩ <;> simp [lcOf, e9, cv, Value.category, ih]
/-- the locals at a method's entry -/
theorem lvA.entry {L : Tg → Nat} {as : List AV} {maxL : Nat} {ls : Array Slot} (hs : ∀ v ∈ as, sg v) (hl : (lcOf as).length ≤ maxL) (hls : lv_has ls maxL (lv_args 0 (as.map (cv L)))) : lvA L (lcOf as ++ List.replicate (maxL - (lcOf as).length) none) ls := by
  refine ⟨by rw [hls.1, List.length_append, List.length_replicate]; omega, hls.2.1, fun i v hi _ => ?_⟩
  rcases Nat.lt_or_ge i (lcOf as).length with q | q
  · rw [List.getElem?_append_left q] at hi
    have := args_cat L as 0 hs i v hi
    rw [Nat.zero_add] at this
    exact hls.2.2 (i, cv L v) this
  · rw [List.getElem?_append_right q, List.getElem?_replicate] at hi
    split at hi <;> cases hi
theorem CtX.of {l : Launch} {g : Gx} {y : MethodName} {cc : ByteArray} {maxL : Nat} {ret : Option FieldType} {fr lo : Nat} {sem : Sem} (hy : plainName y.cls = true) (hl : l.stackTraces = false)
    (body : ∀ κ : Kx, kl κ = l → kg κ = g → Hx κ cc maxL y.cls fr lo → Hr κ ret → ∀ (as : List AV) (σ σF : Sg) (r : Res), (∀ v ∈ as, sg v) → sem as σ = some (r, σF) → (lcOf as).length ≤ maxL ∧ sle σ σF ∧ (Rt κ r σF → Acf κ 0 [] (lcOf as ++ List.replicate (maxL - (lcOf as).length) none) σ)) : CtX l g y cc maxL ret fr lo sem := by
  intro L as σ σF r hs hsem
  refine vx_ofW hy rfl ?_
  intro p e s m args below meth c s₁ B hml hex hv
  obtain ⟨rfl, hP, hG, hz⟩ := hv
  have hts := atoms_spec (ws := Cond.code y cc maxL ret :: UW) B.pre
  obtain ⟨b1, b2, b3⟩ := body (p, l, e, { frames := fr, cells := sC σF - sC σ, slots := sS σF - sS σ, locals := lo }, s, m, (as.map (cv L)).toArray, below, meth, c, vx_MQ below (QcF g L r σF) (XcF g L r σF) (as.map (cv L)).toArray s (sC σF - sC σ) (sS σF - sS σ) (gA g), g, L, sC σ, sS σ, sC σF, sS σF) rfl rfl
    ⟨⟨B.exec, B.bytes, hml, findClass_of_methodNamed B.named, fun w hw => hts w (List.mem_cons_of_mem _ hw)⟩, B.notSynchronized, hz, rfl, rfl, hl, rfl, rfl⟩ ⟨B.returns, hex⟩ as σ σF r hs hsem
  have hA := b3 ⟨Nat.le_refl _, Nat.le_refl _, b2.1, b2.2, _, _, rfl, fun _ _ _ h => h, fun _ _ _ h => h⟩
  have hlen : (lg_sl (as.map (cv L))).length ≤ maxL := by rw [args_len L as hs]; exact b1
  have hls := lv_entry (as.map (cv L)) (n := maxL) hlen
  rw [lg_entry_eq]
  generalize (lg_sl (as.map (cv L)) ++ List.replicate (maxL - (lg_sl (as.map (cv L))).length) Slot.unset).toArray = ls at hls ⊢
  have hlv : lvA L (lcOf as ++ List.replicate (maxL - (lcOf as).length) none) ls := lvA.entry hs b1 hls
  have hW := hA s.heap [] ls hlv hP hG va_S.rf (Nat.le_refl _) (Nat.le_refl _) b2.1 b2.2
  rw [Nat.sub_self, Nat.sub_self] at hW
  exact hW
