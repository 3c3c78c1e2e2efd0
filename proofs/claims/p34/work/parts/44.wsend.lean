/-! the helper of send: behind the call the new message has its addresses -/
def vA (σ : Sg) : AV → Prop
  | .inl _ => True
  | .inr t => vld σ t = true
theorem cv_vA {σ : Sg} {L L2 : Tg → Nat} (hL2 : ∀ u, vld σ u = true → L2 u = L u) {w : AV} (h : vA σ w) : cv L2 w = cv L w := by
  cases w with
  | inl v => rfl
  | inr t =>
    show Value.ref _ = Value.ref _
    rw [hL2 t h]
theorem rest_vA {σ : Sg} {L L2 : Tg → Nat} (hL2 : ∀ u, vld σ u = true → L2 u = L u) {st : List AV} (h : ∀ w ∈ st, vA σ w) : st.map (cv L2) = st.map (cv L) := List.map_congr_left fun w hw => cv_vA hL2 (h w hw)
theorem lvA.vA {σ : Sg} {L L2 : Tg → Nat} {lc : LcT} {ls : Array Slot} (h1 : lvA L lc ls) (hL2 : ∀ u, vld σ u = true → L2 u = L u) (h : ∀ w, some w ∈ lc → vA σ w) : lvA L2 lc ls := by
  refine ⟨h1.1, h1.2.1, fun i v hv ho => ?_⟩
  rw [cv_vA hL2 (h v (List.mem_of_getElem? hv))] at ho ⊢
  exact h1.2.2 i v hv ho
section GOS
variable {p : Program} {l : Launch} {e : Env} {R : Room} {s : State} {m : MethodId} {args : Array Value} {below : List Frame} {meth : Method} {c : Code} {H : Heap} {locs : List Loc} {cells slots : Nat} {Q : State → Prop}
theorem vx_goS {pc mc ms : Nat} {ls : Array Slot} {st0 rest : List Value} {a : Array Value} {g : Gx} {L : Tg → Nat} {r : Res} {σ σ0 : Sg} (hr : vx_Run p l e R s m args below meth c H locs cells slots mc ms (F0 m pc ls st0) rest (QcS g L σ0 r σ a) (XcS g L σ0 r σ) (gA g)) (hS : va_S (gA g) s.heap H locs)
    (kr : ∀ (L2 : Tg → Nat) (v : Option AV) (H1 : Heap) (locs1 : List Loc), (∀ u, vld σ0 u = true → L2 u = L u) → r = .inl v → RepX g L2 σ H1 → (∀ q : Nat, q < H.size → ¬ gA g q → H1[q]? = H[q]?) → va_S (gA g) s.heap H1 locs1 → W p l e R s m args below meth c H1 locs1 (cells + mc) (slots + ms) Q (F0 m (pc + 3) ls ((v.map (cv L2)).toList ++ rest)))
    (kx : ∀ (L2 : Tg → Nat) (n : Nat) (H1 : Heap) (locs1 : List Loc) (q9 : Addr) (ce : Cell), (∀ u, vld σ0 u = true → L2 u = L u) → r = .inr n → RepX g L2 σ H1 → (∀ q : Nat, q < H.size → ¬ gA g q → H1[q]? = H[q]?) → va_S (gA g) s.heap H1 locs1 → H1[q9]? = some ce → ce.vm = .none → s.vm.findClass (exn n) = some ce.cls → vx_W p l e R s m args below meth c H1 locs1 (cells + mc) (slots + ms) Q (F0 m pc ls rest) q9) : W p l e R s m args below meth c H locs cells slots Q (F0 m pc ls st0) := by
  intro T hT X
  rcases hr T hT X with ⟨v, st₀, t, T', L9, h0, X', hL, e1, e2, ⟨⟨L2, hL2, u, hv, hp, hb⟩, hF⟩, st⟩ | ⟨q, st₀, t, T', L9, E, ce, h0, X', hL, e1, e2, ⟨⟨L2, hL2, n, hv, hp, hb⟩, hF⟩, hce, hcv, hcl, st⟩
  · cases hp
    obtain ⟨k1, k2, k3⟩ := vx_keep h0 e1 hS (fun _ _ h => h) (fun _ h => h) hL hF
    obtain ⟨t2, a1, b1⟩ := kr L2 u T'.heap (locs ++ L9) hL2 hv (by rw [e1]; exact hb) k2 k3 T' rfl X'
    exact ⟨t2, st t2 a1, b1⟩
  · subst hp
    obtain ⟨k1, k2, k3⟩ := vx_keep h0 e1 hS (fun _ _ h => h) (fun _ h => h) hL hF
    obtain ⟨t2, a1, b1⟩ := kx L2 n T'.heap (locs ++ L9) q ce hL2 hv (by rw [e1]; exact hb) k2 k3 (by rw [e1]; exact hce) hcv hcl T' rfl X'
    exact ⟨t2, st.trans a1, b1⟩
end GOS
section SND
variable {κ : Kx} {cc : ByteArray} {nL fX lX : Nat} {own : String} {pc : Nat} {st : List AV} {lc : LcT} {σ σF : Sg} {ret retY : Option FieldType}
theorem A_callVXS (hx : Hx κ cc nL own fX lX) {y : MethodName} {bytes : ByteArray} {maxL fr lo idx N : Nat} {sem : Sem} {C : String} {T : u_T} {b : Tg} {as rest : List AV} {r : Res} (hlc : lc.length = nL)
    (hM : CtS (kl κ) (kg κ) y bytes maxL retY fr lo sem) (hsem : sem (ar b :: as) σ = some (r, σF)) (hle : sle σ σF) (hsg : ∀ v ∈ as, sg v)
    (uc : Cond.code y bytes maxL retY ∈ UW) (um : Cond.methodLink own idx y ∈ UW) (ui : Cond.instanceMethod y ∈ UW) (us : Cond.selects C y y ∈ UW) (un : Cond.initialized C ∈ UW)
    (hd : y.cls = C ∧ y.cls ≠ "java/lang/invoke/MethodHandle" ∧ y.cls ≠ "java/lang/invoke/VarHandle" ∧ (parseMethodDescriptor y.desc).map (fun d => d.parameters.length) = some as.length)
    (hcl : vwCl[cix b.1]? = some (C, T, N)) (ho : isRc b.1 = true) (hv : vld σ b = true) (hw : wt rest ≤ 8) (hf : fr + 1 ≤ fX) (hl : 8 + (maxL + 11) + lo ≤ lX) (d : decode cc pc = .ok (.invokevirtual idx, 3))
    (fit : Fit κ σF) (hlcs : ∀ w, some w ∈ lc → vA σ w) (hrs : ∀ w ∈ rest, vA σ w) (kr : ∀ L2 : Tg → Nat, (∀ u, vld σ u = true → L2 u = kL κ u) → ∀ v, r = .inl v → Acf (wL κ L2) (pc + 3) (v.toList ++ rest) lc σF) (kx : ∀ L2 : Tg → Nat, (∀ u, vld σ u = true → L2 u = kL κ u) → ∀ n, r = .inr n → Hand (wL κ L2) own pc n lc σF) : Acf κ pc (as.reverse ++ ar b :: rest) lc σ := by
  obtain ⟨p, l, e, R, s, m, args, below, meth, c, Q, g, L, c0, s0, fc, fs⟩ := κ
  obtain ⟨⟨hxe, hxb, hxl, hxo, hxw⟩, hxk, hxz, hxc, hxs, hxt, hxf, hxr⟩ := hx
  obtain ⟨fit1, fit2⟩ := fit
  obtain ⟨le1, le2⟩ := hle
  intro H locs ls h1 h2 h3 h4 h5 h6 h7 h8
  obtain ⟨L', hL, r1, r2, r3, r4, r5⟩ := id h2
  have hat := r1 b hv
  obtain ⟨⟨fs9, hc9⟩, h59⟩ := cell_rc ho L' g.2.1 σ
  rw [hc9, hL b h59] at hat
  have hMet := hM L (ar b :: as) σ σF r (fun v hv9 => by rcases List.mem_cons.mp hv9 with rfl | hv9; exact Or.inr (Or.inl ⟨_, rfl⟩); exact hsg v hv9) hsem
  have e1 : sC σ - c0 + (sC σF - sC σ) = sC σF - c0 := by omega
  have e2 : sS σ - s0 + (sS σF - sS σ) = sS σF - s0 := by omega
  have hst : (as.reverse ++ ar b :: rest).map (cv L) = (as.map (cv L)).reverse ++ Value.ref (L b) :: rest.map (cv L) := by rw [List.map_append, List.map_reverse]; rfl
  rw [hst]
  refine vx_goS (g := g) (L := L) (σ0 := σ) (r := r) (σ := σF) (a := (Value.ref (L b) :: as.map (cv L)).toArray) (mc := sC σF - sC σ) (ms := sS σF - sS σ) (rest := rest.map (cv L))
    (vx_runV (C := C) (b := L b) (As := as.map (cv L)) (rest := rest.map (cv L)) ⟨hxe, hxb, hxl, hxo, hxw⟩ hMet (cwV as.length hxw (UW_V uc um ui us un) rfl rfl rfl hd ⟨by rw [hxf]; exact hf, by rw [hxr]; exact hl⟩) ⟨blindF, va_recv h3.1 (vP1 hat) hcl (q0 := 0) rfl, fun U hU hW => ⟨rfl, by rw [hU]; exact h2, by rw [hU]; exact h3.warm hW, by rw [hU]; exact Nat.le_trans hxz h4.1⟩⟩ rfl (List.length_map _) (by show ls.size = nL; rw [h1.1, hlc]) rfl (by show 2 * 0 + _ ≤ 8; rw [Nat.mul_zero, Nat.zero_add, wt_cv]; exact hw) d ⟨by rw [hxc, e1]; omega, by rw [hxs, e2]; omega⟩) h4 ?_ ?_
  · intro L2 v H1 locs1 hL2 hv9 hR hk hS1
    rw [e1, e2]
    have hk9 := kr L2 hL2 v hv9 H1 locs1 ls (h1.vA hL2 hlcs) hR (h3.kept hk) hS1 (Nat.le_trans h5 le1) (Nat.le_trans h6 le2) fit1 fit2
    rw [List.map_append, rest_vA hL2 hrs] at hk9
    cases v <;> exact hk9
  · intro L2 n H1 locs1 q9 ce hL2 hv9 hR hk hS1 hce hcv hcn
    rw [e1, e2]
    obtain ⟨pre, x, suf, name, t1, t2, t3, t4, t5, t6, t7⟩ := kx L2 hL2 n hv9
    refine vx_catch (E := exn n) hxo pre x suf t1 (fun z hz => ?_) t3 t4 (hxw _ t5) (va_Nw.use (FW_face t6).1 (h3.2.2.2.2.2.1 _ t6)) hce hcv hcn ?_
    · rcases t2 z hz with q | ⟨q1, q3, q2⟩
      · exact Or.inl q
      · exact Or.inr ⟨q1, _, hxw _ q2, by rw [q3]; exact h3.2.2.2.2.2.2.2.2.2⟩
    · exact t7 q9 H1 locs1 ls (h1.vA hL2 hlcs) hR (h3.kept hk) hS1 (Nat.le_trans h5 le1) (Nat.le_trans h6 le2) fit1 fit2
end SND
theorem hrt_wL {κ : Kx} {L2 : Tg → Nat} {ret : Option FieldType} (h : (km κ).sig.returnType = ret) : (km (wL κ L2)).sig.returnType = ret := by
  obtain ⟨p, l, e, R, s, m, args, below, meth, c, Q, g, L, c0, s0, fc, fs⟩ := κ
  exact h
theorem htb_wL {κ : Kx} {L2 : Tg → Nat} {x : List ExceptionTableEntry} (h : (kc κ).exceptionTable.toList = x) : (kc (wL κ L2)).exceptionTable.toList = x := by
  obtain ⟨p, l, e, R, s, m, args, below, meth, c, Q, g, L, c0, s0, fc, fs⟩ := κ
  exact h
def CtW (l : Launch) (g : Gx) (y : MethodName) (cc : ByteArray) (maxL : Nat) (ret : Option FieldType) (hh : List (Nat × Nat × Nat × Nat)) (fr lo : Nat) (sem : Sem) : Prop :=
  ∀ (L : Tg → Nat) (as : List AV) (σ σF : Sg) (r : Res), (∀ v ∈ as, sg v) → sem as σ = some (r, σF) → vx_Met l y (Cond.codeWith y cc maxL ret hh :: UW) { frames := fr, cells := sC σF - sC σ, slots := sS σF - sS σ, locals := lo } (va_Pc (as.map (cv L)) (PcF g L σ)) (QcS g L σ r σF) (XcS g L σ r σF) (sC σF - sC σ) (sS σF - sS σ) (gA g)
theorem CtW.of {l : Launch} {g : Gx} {y : MethodName} {cc : ByteArray} {maxL : Nat} {ret : Option FieldType} {hh : List (Nat × Nat × Nat × Nat)} {fr lo : Nat} {sem : Sem} (hy : plainName y.cls = true) (hl : l.stackTraces = false)
    (body : ∀ κ : Kx, kl κ = l → kg κ = g → Hx κ cc maxL y.cls fr lo → (km κ).sig.returnType = ret → (kc κ).exceptionTable.toList = tableOf hh → ∀ (as : List AV) (σ σF : Sg) (r : Res), (∀ v ∈ as, sg v) → sem as σ = some (r, σF) → (lcOf as).length ≤ maxL ∧ sle σ σF ∧ ((∀ L2 : Tg → Nat, (∀ u, vld σ u = true → L2 u = kL κ u) → Rt (wL κ L2) r σF) → Acf κ 0 [] (lcOf as ++ List.replicate (maxL - (lcOf as).length) none) σ)) : CtW l g y cc maxL ret hh fr lo sem := by
  intro L as σ σF r hs hsem
  refine vx_ofWH hy rfl ?_
  intro p e s m args below meth c s₁ B hml hv
  obtain ⟨rfl, hP, hG, hz⟩ := hv
  have hts := atoms_spec (ws := Cond.codeWith y cc maxL ret hh :: UW) B.pre
  obtain ⟨b1, b2, b3⟩ := body (p, l, e, { frames := fr, cells := sC σF - sC σ, slots := sS σF - sS σ, locals := lo }, s, m, (as.map (cv L)).toArray, below, meth, c, vx_MQ below (QcS g L σ r σF) (XcS g L σ r σF) (as.map (cv L)).toArray s (sC σF - sC σ) (sS σF - sS σ) (gA g), g, L, sC σ, sS σ, sC σF, sS σF) rfl rfl
    ⟨⟨B.exec, B.bytes, hml, findClass_of_methodNamed B.named, fun w hw => hts w (List.mem_cons_of_mem _ hw)⟩, B.notSynchronized, hz, rfl, rfl, hl, rfl, rfl⟩ B.returns (vx_table (x := y) B (hts (Cond.codeWith y cc maxL ret hh) List.mem_cons_self)) as σ σF r hs hsem
  have hA := b3 (fun L2 hL2 => ⟨Nat.le_refl _, Nat.le_refl _, b2.1, b2.2, _, _, rfl, fun _ _ _ h => ⟨⟨L2, hL2, h.1⟩, h.2⟩, fun _ _ _ h => ⟨⟨L2, hL2, h.1⟩, h.2⟩⟩)
  have hlen : (lg_sl (as.map (cv L))).length ≤ maxL := by rw [args_len L as hs]; exact b1
  have hls := lv_entry (as.map (cv L)) (n := maxL) hlen
  rw [lg_entry_eq]
  generalize (lg_sl (as.map (cv L)) ++ List.replicate (maxL - (lg_sl (as.map (cv L))).length) Slot.unset).toArray = ls at hls ⊢
  have hlv : lvA L (lcOf as ++ List.replicate (maxL - (lcOf as).length) none) ls := lvA.entry hs b1 hls
  have hW := hA s.heap [] ls hlv hP hG va_S.rf (Nat.le_refl _) (Nat.le_refl _) b2.1 b2.2
  rw [Nat.sub_self, Nat.sub_self] at hW
  exact hW
def f_L_send : Sem := fun as σ => match as with
  | [.inr (0, 0), .inl (.int a)] => (f_X2_send [ar (0, 0), ai a] σ).bind fun o => if sleB σ o.2 = true then (match o.1 with
    | .inl (some (.inl (.int v))) => some (.inl (some (ai v)), o.2)
    | .inr 1 => some (.inl (some (ai (-71))), o.2)
    | .inr 2 => some (.inl (some (ai (-72))), o.2)
    | _ => none) else none
  | _ => none
theorem c_L_send {l : Launch} {g : Gx} (hl : l.stackTraces = false) : CtW l g yL_send cL_send 4 (some .int) [(0, 6, 9, 14), (0, 6, 13, 16)] 10 242 f_L_send := by
  refine CtW.of (by decide) hl (fun κ h1 h2 hx hr ht as σ σF r hs hsem => ?_)
  have hst := hx.st
  unfold f_L_send at hsem
  split at hsem
  · rename_i a
    obtain ⟨⟨ro, τ⟩, ho, hsem⟩ := obs hsem
    dsimp only at hsem
    have hlcs : ∀ w, some w ∈ [some (ar (0, 0)), some (ai a), none, none] → vA σ w := fun w hw => by
      simp at hw
      rcases hw with rfl | rfl
      · exact (rfl : vld σ (0, 0) = true)
      · exact trivial
    have hrs : ∀ w ∈ ([] : List AV), vA σ w := fun w hw => by cases hw
    split at hsem
    · rename_i hsl
      have hle := sleB_sle hsl
      split at hsem
      · rename_i v
        cases hsem
        refine ⟨by simp [lcOf], hle, fun k9 => ?_⟩
        have hself := k9 (kL κ) (fun _ _ => rfl)
        rw [wL_self] at hself
        refine A_aload_n (i := 0) hx dL_send_0 rfl (A_iload_n (i := 1) hx dL_send_1 rfl (?_))
        refine A_callVXS (as := [ai a]) (rest := []) (b := (0, 0)) hx rfl (c_X2_send hst) ho hle (fun v hv => by simp at hv; subst hv; exact Or.inl ⟨_, rfl⟩) uc_X2_send um_L_8 ui_X2_send us_X2_send un_X2 ⟨rfl, by decide, by decide, rfl⟩ rfl rfl rfl (by simp [wt]) (by decide) (by decide) dL_send_2 hself.fit hlcs hrs (fun L2 hL2 v9 hv9 => ?_) (fun L2 hL2 n hn => by cases hn)
        cases hv9
        exact A_istore_n (i := 2) hx.wL dL_send_5 (by show 2 < 4; decide) (A_goto (tgt := 17) hx.wL dL_send_6 (by decide) (A_iload_n (i := 2) hx.wL dL_send_17 rfl (A_iretW hx.wL (hrt_wL hr) dL_send_18 (k9 L2 hL2))))
      · skip
        cases hsem
        refine ⟨by simp [lcOf], hle, fun k9 => ?_⟩
        have hself := k9 (kL κ) (fun _ _ => rfl)
        rw [wL_self] at hself
        refine A_aload_n (i := 0) hx dL_send_0 rfl (A_iload_n (i := 1) hx dL_send_1 rfl (?_))
        refine A_callVXS (as := [ai a]) (rest := []) (b := (0, 0)) hx rfl (c_X2_send hst) ho hle (fun v hv => by simp at hv; subst hv; exact Or.inl ⟨_, rfl⟩) uc_X2_send um_L_8 ui_X2_send us_X2_send un_X2 ⟨rfl, by decide, by decide, rfl⟩ rfl rfl rfl (by simp [wt]) (by decide) (by decide) dL_send_2 hself.fit hlcs hrs (fun L2 hL2 v9 hv9 => by cases hv9) (fun L2 hL2 n hn => ?_)
        cases hn
        exact ⟨[], ⟨0, 6, 9, 14⟩, [⟨0, 6, 13, 16⟩], "java/lang/IndexOutOfBoundsException", (htb_wL ht).trans rfl, (fun z hz => by cases hz), (by decide), (by decide), ul_L_14, fw_11, fun q => A_astore_nQ (i := 3) hx.wL dL_send_9 (by show 3 < 4; decide) (A_bipush (v := (-71)) hx.wL dL_send_10 (by decide) (A_iretW hx.wL (hrt_wL hr) dL_send_12 (k9 L2 hL2)))⟩
      · skip
        cases hsem
        refine ⟨by simp [lcOf], hle, fun k9 => ?_⟩
        have hself := k9 (kL κ) (fun _ _ => rfl)
        rw [wL_self] at hself
        refine A_aload_n (i := 0) hx dL_send_0 rfl (A_iload_n (i := 1) hx dL_send_1 rfl (?_))
        refine A_callVXS (as := [ai a]) (rest := []) (b := (0, 0)) hx rfl (c_X2_send hst) ho hle (fun v hv => by simp at hv; subst hv; exact Or.inl ⟨_, rfl⟩) uc_X2_send um_L_8 ui_X2_send us_X2_send un_X2 ⟨rfl, by decide, by decide, rfl⟩ rfl rfl rfl (by simp [wt]) (by decide) (by decide) dL_send_2 hself.fit hlcs hrs (fun L2 hL2 v9 hv9 => by cases hv9) (fun L2 hL2 n hn => ?_)
        cases hn
        exact ⟨[⟨0, 6, 9, 14⟩], ⟨0, 6, 13, 16⟩, [], "java/lang/IllegalStateException", (htb_wL ht).trans rfl, (fun z hz => by rw [List.mem_singleton.mp hz]; exact Or.inr ⟨(by decide), rfl, ul_L_14⟩), (by decide), (by decide), ul_L_16, fw_22, fun q => A_astore_nQ (i := 3) hx.wL dL_send_13 (by show 3 < 4; decide) (A_bipush (v := (-72)) hx.wL dL_send_14 (by decide) (A_iretW hx.wL (hrt_wL hr) dL_send_16 (k9 L2 hL2)))⟩
      · cases hsem
    · cases hsem
  · cases hsem
section SWC
variable {κ : Kx} {cc : ByteArray} {nL fX lX : Nat} {own : String} {w pc pc1 pc2 pc3 pT pF pE : Nat} {st : List AV} {lc : LcT} {σ σF : Sg} {ret retY : Option FieldType}
theorem A_callSW (hx : Hx κ cc nL own fX lX) {y : MethodName} {bytes : ByteArray} {maxL fr lo idx : Nat} {hh : List (Nat × Nat × Nat × Nat)} {sem : Sem} {as rest : List AV} {r : Res} (hlc : lc.length = nL)
    (hM : CtW (kl κ) (kg κ) y bytes maxL retY hh fr lo sem) (hsem : sem as σ = some (r, σF)) (hr9 : ∃ v, r = .inl v) (hle : sle σ σF) (hsg : ∀ v ∈ as, sg v)
    (uc : Cond.codeWith y bytes maxL retY hh ∈ UW) (um : Cond.methodLink own idx y ∈ UW) (ut : Cond.static y ∈ UW) (un : Cond.initialized y.cls ∈ UW)
    (hd : y.cls ≠ "java/lang/invoke/MethodHandle" ∧ y.cls ≠ "java/lang/invoke/VarHandle" ∧ (parseMethodDescriptor y.desc).map (fun d => d.parameters.length) = some as.length)
    (hw : wt rest ≤ 8) (hf : fr + 1 ≤ fX) (hl : 8 + (maxL + 11) + lo ≤ lX) (d : decode cc pc = .ok (.invokestatic idx, 3))
    (fit : Fit κ σF) (hlcs : ∀ w, some w ∈ lc → vA σ w) (hrs : ∀ w ∈ rest, vA σ w) (kr : ∀ L2 : Tg → Nat, (∀ u, vld σ u = true → L2 u = kL κ u) → ∀ v, r = .inl v → Acf (wL κ L2) (pc + 3) (v.toList ++ rest) lc σF) : Acf κ pc (as.reverse ++ rest) lc σ := by
  obtain ⟨p, l, e, R, s, m, args, below, meth, c, Q, g, L, c0, s0, fc, fs⟩ := κ
  obtain ⟨⟨hxe, hxb, hxl, hxo, hxw⟩, hxk, hxz, hxc, hxs, hxt, hxf, hxr⟩ := hx
  obtain ⟨fit1, fit2⟩ := fit
  obtain ⟨le1, le2⟩ := hle
  intro H locs ls h1 h2 h3 h4 h5 h6 h7 h8
  have hMet := hM L as σ σF r hsg hsem
  have e1 : sC σ - c0 + (sC σF - sC σ) = sC σF - c0 := by omega
  have e2 : sS σ - s0 + (sS σF - sS σ) = sS σF - s0 := by omega
  have hst : (as.reverse ++ rest).map (cv L) = (as.map (cv L)).reverse ++ rest.map (cv L) := by rw [List.map_append, List.map_reverse]
  rw [hst]
  refine vx_goS (g := g) (L := L) (σ0 := σ) (r := r) (σ := σF) (a := (as.map (cv L)).toArray) (mc := sC σF - sC σ) (ms := sS σF - sS σ) (rest := rest.map (cv L))
    (vx_runSX (As := as.map (cv L)) (rest := rest.map (cv L)) ⟨hxe, hxb, hxl, hxo, hxw⟩ hMet (vx_cwSW as.length hxw (UW_SW uc um ut un) rfl rfl rfl hd ⟨by rw [hxf]; exact hf, by rw [hxr]; exact hl⟩) ⟨blindF, fun U hU hW => ⟨rfl, by rw [hU]; exact h2, by rw [hU]; exact h3.warm hW, by rw [hU]; exact Nat.le_trans hxz h4.1⟩⟩ rfl (List.length_map _) (by show ls.size = nL; rw [h1.1, hlc]) rfl (by show 2 * 0 + _ ≤ 8; rw [Nat.mul_zero, Nat.zero_add, wt_cv]; exact hw) d ⟨by rw [hxc, e1]; omega, by rw [hxs, e2]; omega⟩) h4 ?_ ?_
  · intro L2 v H1 locs1 hL2 hv9 hR hk hS1
    rw [e1, e2]
    have hk9 := kr L2 hL2 v hv9 H1 locs1 ls (h1.vA hL2 hlcs) hR (h3.kept hk) hS1 (Nat.le_trans h5 le1) (Nat.le_trans h6 le2) fit1 fit2
    rw [List.map_append, rest_vA hL2 hrs] at hk9
    cases v <;> exact hk9
  · intro L2 n H1 locs1 q9 ce hL2 hv9
    obtain ⟨v, hv⟩ := hr9
    rw [hv] at hv9
    cases hv9
/-- objects that are there whatever was sent -/
def vcT (t : Tg) : Bool := match t.1 with
  | 0 => t.2 == 0
  | 1 => t.2 == 0
  | 2 => decide (t.2 < 4)
  | 3 => decide (t.2 < 4)
  | 4 => decide (t.2 < 11)
  | 12 => decide (t.2 < 5)
  | 14 => decide (t.2 < 5)
  | _ => false
theorem vcT_vld {σ : Sg} {t : Tg} (h : vcT t = true) : vld σ t = true := by
  obtain ⟨tk, i⟩ := t
  unfold vcT at h
  unfold vld
  dsimp only at h ⊢
  split at h
  all_goals first | exact h | cases h
def okA : AV → Bool
  | .inl _ => true
  | .inr t => vcT t
def okO : Option AV → Bool
  | some v => okA v
  | none => true
def okC (lc : LcT) : Bool := lc.all okO
def okS (st : List AV) : Bool := st.all okA
def agC (κ : Kx) (L2 : Tg → Nat) : Prop := ∀ u, vcT u = true → L2 u = kL κ u
theorem kL_wL {L2 : Tg → Nat} : kL (wL κ L2) = L2 := by
  obtain ⟨p, l, e, R, s, m, args, below, meth, c, Q, g, L, c0, s0, fc, fs⟩ := κ
  rfl
theorem wL_wL {L2 L3 : Tg → Nat} : wL (wL κ L2) L3 = wL κ L3 := by
  obtain ⟨p, l, e, R, s, m, args, below, meth, c, Q, g, L, c0, s0, fc, fs⟩ := κ
  rfl
theorem fit_wL {L2 : Tg → Nat} {σ : Sg} (h : Fit κ σ) : Fit (wL κ L2) σ := by
  obtain ⟨p, l, e, R, s, m, args, below, meth, c, Q, g, L, c0, s0, fc, fs⟩ := κ
  exact h
theorem agC.rf {L0 : Tg → Nat} : agC (wL κ L0) L0 := fun u _ => by rw [kL_wL]
theorem agC.tr {L0 L2 L3 : Tg → Nat} (h : agC (wL κ L0) L2) (h' : agC (wL κ L2) L3) : agC (wL κ L0) L3 := fun u hu => by
  rw [h' u hu, kL_wL]
  exact h u hu
def EvS {α : Type} (κ : Kx) (nL : Nat) (inj : α → AV) (w pc pc' : Nat) (f : Ex α) : Prop := ∀ (L0 : Tg → Nat) (st : List AV) (lc : LcT) (σ : Sg) (v : α) (σ' : Sg), lc.length = nL → wt st ≤ w → okC lc = true → okS st = true → f lc σ = some (v, σ') → sle σ σ' ∧ (Fit κ σ' → (∀ L2, agC (wL κ L0) L2 → Acf (wL κ L2) pc' (inj v :: st) lc σ') → Acf (wL κ L0) pc st lc σ)
def CjS (κ : Kx) (nL w pc pT pF : Nat) (c : Ex Bool) : Prop := ∀ (L0 : Tg → Nat) (st : List AV) (lc : LcT) (σ : Sg) (b : Bool) (σ' : Sg), lc.length = nL → wt st ≤ w → okC lc = true → okS st = true → c lc σ = some (b, σ') → sle σ σ' ∧ (Fit κ σ' → (∀ L2, agC (wL κ L0) L2 → b = true → Acf (wL κ L2) pT st lc σ') → (∀ L2, agC (wL κ L0) L2 → b = false → Acf (wL κ L2) pF st lc σ') → Acf (wL κ L0) pc st lc σ)
def StS (κ : Kx) (nL pc pc' : Nat) (b : Sx) : Prop := ∀ (L0 : Tg → Nat) (lc : LcT) (σ : Sg), lc.length = nL → okC lc = true → (∀ lc' σ', b lc σ = some (.inl (lc', σ')) → lc'.length = nL ∧ sle σ σ' ∧ (Fit κ σ' → (∀ L2, agC (wL κ L0) L2 → Acf (wL κ L2) pc' [] lc' σ') → Acf (wL κ L0) pc [] lc σ)) ∧ (∀ r σ', b lc σ = some (.inr (r, σ')) → sle σ σ' ∧ ((∀ L2, agC (wL κ L0) L2 → Rt (wL κ L2) r σ') → Acf (wL κ L0) pc [] lc σ))
theorem ES_of {α : Type} {inj : α → AV} {f : Ex α} (h : ∀ L0, Ev (wL κ L0) nL inj w pc pc1 f) : EvS κ nL inj w pc pc1 f := by
  intro L0 st lc σ v σ' hlc hw _ _ hq
  obtain ⟨l1, k1⟩ := h L0 st lc σ v σ' hlc hw hq
  exact ⟨l1, fun hf k => k1 (fit_wL hf) (k L0 agC.rf)⟩
theorem CS_of {c : Ex Bool} (h : ∀ L0, Cj (wL κ L0) nL w pc pT pF c) : CjS κ nL w pc pT pF c := by
  intro L0 st lc σ v σ' hlc hw _ _ hq
  obtain ⟨l1, k1⟩ := h L0 st lc σ v σ' hlc hw hq
  exact ⟨l1, fun hf kt kf => k1 (fit_wL hf) (kt L0 agC.rf) (kf L0 agC.rf)⟩
theorem TS_of {b : Sx} (h : ∀ L0, St (wL κ L0) nL pc pc1 b) : StS κ nL pc pc1 b := by
  intro L0 lc σ hlc _
  obtain ⟨h1, h2⟩ := h L0 lc σ hlc
  refine ⟨fun lc' σ' hq => ?_, fun r σ' hq => ?_⟩
  · obtain ⟨n1, l1, k1⟩ := h1 lc' σ' hq
    exact ⟨n1, l1, fun hf k => k1 (fit_wL hf) (k L0 agC.rf)⟩
  · obtain ⟨l1, k1⟩ := h2 r σ' hq
    exact ⟨l1, fun k => k1 (k L0 agC.rf)⟩
theorem CS_and {a b : Ex Bool} (ha : CjS κ nL w pc pc1 pF a) (hb : CjS κ nL w pc1 pT pF b) : CjS κ nL w pc pT pF (cAnd a b) := by
  intro L0 st lc σ v σ' hlc hw ho hs h
  obtain ⟨r, hr, h⟩ := obs h
  obtain ⟨l1, k1⟩ := ha L0 st lc σ _ _ hlc hw ho hs hr
  obtain ⟨b9, σ1⟩ := r
  cases b9 with
  | true =>
    have hb2 := fun L2 => hb L2 st lc _ _ _ hlc hw ho hs h
    exact ⟨l1.trans (hb2 L0).1, fun hf kt kf => k1 (hf.le (hb2 L0).1) (fun L2 h2 _ => (hb2 L2).2 hf (fun L3 h3 => kt L3 (h2.tr h3)) (fun L3 h3 => kf L3 (h2.tr h3))) (fun _ _ z => by cases z)⟩
  | false =>
    cases h
    exact ⟨l1, fun hf kt kf => k1 hf (fun _ _ z => by cases z) (fun L2 h2 _ => kf L2 h2 rfl)⟩
theorem CS_eqF (hx : Hx κ cc nL own fX lX) {a b : Ex Int32} (ha : EvS κ nL ai w pc pc1 a) (hb : EvS κ nL ai (w + 1) pc1 pc2 b) {off : Int} (d : decode cc pc2 = .ok (.if_icmp .ne off, 3)) (ht : (pc2 : Int) + off = (pF : Int)) : CjS κ nL w pc (pc2 + 3) pF (cCmp (bop 4) a b) := by
  intro L0 st lc σ v σ' hlc hw ho hs h
  obtain ⟨r, hr, h⟩ := obs h
  obtain ⟨q, hq, h⟩ := obs h
  cases h
  obtain ⟨l1, k1⟩ := ha L0 st lc σ _ _ hlc hw ho hs hr
  have hb2 := fun L2 => hb L2 (ai r.1 :: st) lc r.2 _ _ hlc (by rw [wt_c]; show 1 + _ ≤ _; omega) ho (by show (okA (ai r.1) && okS st) = true; rw [hs]; rfl) hq
  refine ⟨l1.trans (hb2 L0).1, fun hf kt kf => k1 (hf.le (hb2 L0).1) (fun L2 h2 => (hb2 L2).2 hf (fun L3 h3 => A_icmp_ne hx.wL d ht (fun z => kf L3 (h2.tr h3) (by simp [bop]; exact z)) (fun z => kt L3 (h2.tr h3) (by simp [bop]; exact z))))⟩
theorem ES_tern (hx : Hx κ cc nL own fX lX) {off : Int} {c : Ex Bool} {a b : Ex Int32} (hc : CjS κ nL w pc pT pF c) (ha : EvS κ nL ai w pT pc1 a) (d : decode cc pc1 = .ok (.goto off, 3)) (ht : (pc1 : Int) + off = (pE : Int)) (hb : EvS κ nL ai w pF pE b) : EvS κ nL ai w pc pE (xTern c a b) := by
  intro L0 st lc σ v σ' hlc hw ho hs h
  obtain ⟨r, hr, h⟩ := obs h
  obtain ⟨l1, k1⟩ := hc L0 st lc σ _ _ hlc hw ho hs hr
  obtain ⟨b9, σ1⟩ := r
  cases b9 with
  | true =>
    have ha2 := fun L2 => ha L2 st lc _ _ _ hlc hw ho hs h
    exact ⟨l1.trans (ha2 L0).1, fun hf k => k1 (hf.le (ha2 L0).1) (fun L2 h2 _ => (ha2 L2).2 hf (fun L3 h3 => A_goto hx.wL d ht (k L3 (h2.tr h3)))) (fun _ _ z => by cases z)⟩
  | false =>
    have hb2 := fun L2 => hb L2 st lc _ _ _ hlc hw ho hs h
    exact ⟨l1.trans (hb2 L0).1, fun hf k => k1 (hf.le (hb2 L0).1) (fun _ _ z => by cases z) (fun L2 h2 _ => (hb2 L2).2 hf (fun L3 h3 => k L3 (h2.tr h3)))⟩
/-- a then b, the locals checked between them -/
def sSeqC (a b : Sx) : Sx := fun lc σ => (a lc σ).bind fun o => match o with
  | .inl q => if okC q.1 = true then b q.1 q.2 else none
  | .inr q => some (.inr q)
theorem TS_seq {a b : Sx} (ha : StS κ nL pc pc1 a) (hb : StS κ nL pc1 pc2 b) : StS κ nL pc pc2 (sSeqC a b) := by
  intro L0 lc σ hlc ho
  constructor
  · intro lc' σ' h
    obtain ⟨o, ho9, h⟩ := obs h
    cases o with
    | inl q =>
      dsimp only at h
      split at h
      · rename_i hok
        obtain ⟨n1, l1, k1⟩ := (ha L0 lc σ hlc ho).1 _ _ ho9
        have hb2 := fun L2 => (hb L2 q.1 q.2 n1 hok).1 _ _ h
        exact ⟨(hb2 L0).1, l1.trans (hb2 L0).2.1, fun hf k => k1 (hf.le (hb2 L0).2.1) (fun L2 h2 => (hb2 L2).2.2 hf (fun L3 h3 => k L3 (h2.tr h3)))⟩
      · cases h
    | inr q => cases h
  · intro r σ' h
    obtain ⟨o, ho9, h⟩ := obs h
    cases o with
    | inl q =>
      dsimp only at h
      split at h
      · rename_i hok
        obtain ⟨n1, l1, k1⟩ := (ha L0 lc σ hlc ho).1 _ _ ho9
        have hb2 := fun L2 => (hb L2 q.1 q.2 n1 hok).2 _ _ h
        refine ⟨l1.trans (hb2 L0).1, fun k => k1 ((Fit.wL (k L0 agC.rf).fit).le (hb2 L0).1) (fun L2 h2 => (hb2 L2).2 (fun L3 h3 => k L3 (h2.tr h3)))⟩
      · cases h
    | inr q =>
      cases h
      exact (ha L0 lc σ hlc ho).2 _ _ ho9
theorem TS_if {c : Ex Bool} {a b : Sx} (hc : ∀ L0, Cj (wL κ L0) nL 0 pc pT pF c) (ha : StS κ nL pT pE a) (hb : StS κ nL pF pE b) : StS κ nL pc pE (sIf c a b) := by
  intro L0 lc σ hlc ho
  constructor
  · intro lc' σ' h
    obtain ⟨⟨b9, σ1⟩, hr, h⟩ := obs h
    obtain ⟨l1, k1⟩ := hc L0 [] lc σ _ _ hlc (Nat.le_refl 0) hr
    cases b9 with
    | true =>
      obtain ⟨n2, l2, k2⟩ := (ha L0 lc _ hlc ho).1 _ _ h
      exact ⟨n2, l1.trans l2, fun hf k => k1 (fit_wL (hf.le l2)) (fun _ => k2 hf k) (fun z => by cases z)⟩
    | false =>
      obtain ⟨n2, l2, k2⟩ := (hb L0 lc _ hlc ho).1 _ _ h
      exact ⟨n2, l1.trans l2, fun hf k => k1 (fit_wL (hf.le l2)) (fun z => by cases z) (fun _ => k2 hf k)⟩
  · intro r σ' h
    obtain ⟨⟨b9, σ1⟩, hr, h⟩ := obs h
    obtain ⟨l1, k1⟩ := hc L0 [] lc σ _ _ hlc (Nat.le_refl 0) hr
    cases b9 with
    | true =>
      obtain ⟨l2, k2⟩ := (ha L0 lc _ hlc ho).2 _ _ h
      exact ⟨l1.trans l2, fun k => k1 (((k L0 agC.rf).fit).le l2) (fun _ => k2 k) (fun z => by cases z)⟩
    | false =>
      obtain ⟨l2, k2⟩ := (hb L0 lc _ hlc ho).2 _ _ h
      exact ⟨l1.trans l2, fun k => k1 (((k L0 agC.rf).fit).le l2) (fun z => by cases z) (fun _ => k2 k)⟩
theorem TS_ret (hx : Hx κ cc nL own fX lX) {b : Bool} {e : Ex Int32} (hr : Hr κ (some (if b then .boolean else .int))) (he : EvS κ nL ai 0 pc pc1 e) (d : decode cc pc1 = .ok (.ireturn, 1)) : StS κ nL pc pE (sRet b e) := by
  intro L0 lc σ hlc ho
  constructor
  · intro lc' σ' h
    obtain ⟨r, hr9, h⟩ := obs h
    split at h <;> cases h
  · intro r σ' h
    obtain ⟨⟨x, σ1⟩, hr9, h⟩ := obs h
    split at h
    · rename_i hc
      cases h
      obtain ⟨l1, k1⟩ := he L0 [] lc σ _ _ hlc (Nat.le_refl 0) ho rfl hr9
      refine ⟨l1, fun k => k1 (Fit.wL (k L0 agC.rf).fit) (fun L2 h2 => A_iret hx.wL (Hr.wL hr) ?_ d (k L2 h2))⟩
      cases b with
      | true => exact (nar01 (hc rfl)).1
      | false => rfl
    · cases h
theorem TS_sw (hx : Hx κ cc nL own fX lX) {e : Ex Int32} {lo : Nat} {bs : List Sx} {df : Sx} {dflt : Int} {hi : Int} {offs : Array Int} {len : Nat} {pD : Nat} {ts : List Nat} (he : ∀ L0, Ev (wL κ L0) nL ai 0 pc pc1 e) (d : decode cc pc1 = .ok (.tableswitch dflt (lo : Int) hi offs, len)) (hhi : hi + 1 = (lo : Int) + (bs.length : Int)) (hdf : (pc1 : Int) + dflt = (pD : Int)) (hts : ∀ i, i < bs.length → ∃ off tgt, offs[i]? = some off ∧ ts[i]? = some tgt ∧ (pc1 : Int) + off = (tgt : Int)) (hb : ∀ (i : Nat) (b : Sx) (t : Nat), bs[i]? = some b → ts[i]? = some t → StS κ nL t pE b) (hd : StS κ nL pD pE df) : StS κ nL pc pE (sSw e lo bs df) := by
  intro L0 lc σ hlc hok
  have key : ∀ o, sSw e lo bs df lc σ = some o → ∃ x σ1, e lc σ = some (x, σ1) ∧ ((∃ (i : Nat) (b : Sx) (t : Nat), bs[i]? = some b ∧ ts[i]? = some t ∧ b lc σ1 = some o ∧ (Acf (wL κ L0) t [] lc σ1 → Acf (wL κ L0) pc1 [ai x] lc σ1)) ∨ (df lc σ1 = some o ∧ (Acf (wL κ L0) pD [] lc σ1 → Acf (wL κ L0) pc1 [ai x] lc σ1))) := fun o h => by
    obtain ⟨⟨x, σ1⟩, hr, h⟩ := obs h
    dsimp only at h
    refine ⟨x, σ1, hr, ?_⟩
    split at h
    · rename_i hc
      obtain ⟨c1, c2, c3⟩ := hc
      obtain ⟨off, tgt, t1, t2, t3⟩ := hts _ c3
      have hx9 := toInt_cl c1
      have hbi : bs[x.toNatClampNeg - lo]? = some (bs.getD (x.toNatClampNeg - lo) sSkip) := by
        rw [List.getD_eq_getElem?_getD, List.getElem?_eq_getElem c3]
        rfl
      refine Or.inl ⟨_, _, _, hbi, t2, h, fun k => A_tabIn hx.wL d (by omega) (by omega) ?_ t3 k⟩
      rw [hx9, show ((x.toNatClampNeg : Int) - (lo : Int)).toNat = x.toNatClampNeg - lo by omega]
      exact t1
    · rename_i hc
      refine Or.inr ⟨h, fun k => A_tabOut hx.wL d ?_ hdf k⟩
      by_cases c1 : 0 ≤ x
      · have hx9 := toInt_cl c1
        rw [hx9]
        by_cases c2 : lo ≤ x.toNatClampNeg
        · exact Or.inr (by have : ¬ x.toNatClampNeg - lo < bs.length := fun q => hc ⟨c1, c2, q⟩; omega)
        · exact Or.inl (by omega)
      · have : x.toInt < 0 := by
          have := Int32.not_le.mp c1
          have := Int32.lt_iff_toInt_lt.mp this
          simpa using this
        exact Or.inl (by omega)
  constructor
  · intro lc' σ' h
    obtain ⟨x, σ1, hr, h9⟩ := key _ h
    obtain ⟨l1, k1⟩ := he L0 [] lc σ _ _ hlc (Nat.le_refl 0) hr
    rcases h9 with ⟨i, b, t, q1, q2, q3, q4⟩ | ⟨q3, q4⟩
    · obtain ⟨n2, l2, k2⟩ := (hb i b t q1 q2 L0 lc σ1 hlc hok).1 _ _ q3
      exact ⟨n2, l1.trans l2, fun hf k => k1 (fit_wL (hf.le l2)) (q4 (k2 hf k))⟩
    · obtain ⟨n2, l2, k2⟩ := (hd L0 lc σ1 hlc hok).1 _ _ q3
      exact ⟨n2, l1.trans l2, fun hf k => k1 (fit_wL (hf.le l2)) (q4 (k2 hf k))⟩
  · intro r σ' h
    obtain ⟨x, σ1, hr, h9⟩ := key _ h
    obtain ⟨l1, k1⟩ := he L0 [] lc σ _ _ hlc (Nat.le_refl 0) hr
    rcases h9 with ⟨i, b, t, q1, q2, q3, q4⟩ | ⟨q3, q4⟩
    · obtain ⟨l2, k2⟩ := (hb i b t q1 q2 L0 lc σ1 hlc hok).2 _ _ q3
      exact ⟨l1.trans l2, fun k => k1 (((k L0 agC.rf).fit).le l2) (q4 (k2 k))⟩
    · obtain ⟨l2, k2⟩ := (hd L0 lc σ1 hlc hok).2 _ _ q3
      exact ⟨l1.trans l2, fun k => k1 (((k L0 agC.rf).fit).le l2) (q4 (k2 k))⟩
theorem kl_wL {L2 : Tg → Nat} : kl (wL κ L2) = kl κ ∧ kg (wL κ L2) = kg κ := by
  obtain ⟨p, l, e, R, s, m, args, below, meth, c, Q, g, L, c0, s0, fc, fs⟩ := κ
  exact ⟨rfl, rfl⟩
theorem okC_vA {lc : LcT} (h : okC lc = true) : ∀ w, some w ∈ lc → vA σ w := fun w hw => by
  have := List.all_eq_true.mp h _ hw
  cases w with
  | inl v => exact trivial
  | inr t => exact vcT_vld this
theorem okS_vA {st : List AV} (h : okS st = true) : ∀ w ∈ st, vA σ w := fun w hw => by
  have := List.all_eq_true.mp h _ hw
  cases w with
  | inl v => exact trivial
  | inr t => exact vcT_vld this
theorem ES_send (hx : Hx κ cc nL own fX lX) (hst : (kl κ).stackTraces = false) {idx : Nat} {as : Ex (List AV)} (ha : ∀ L0, Es (wL κ L0) nL 2 w pc pc2 as) (um : Cond.methodLink own idx yL_send ∈ UW) (h8 : w ≤ 8) (hf : 10 + 1 ≤ fX) (hl : 8 + (4 + 11) + 242 ≤ lX) (d : decode cc pc2 = .ok (.invokestatic idx, 3)) : EvS κ nL ai w pc (pc2 + 3) (xCI (xS f_L_send as)) := by
  intro L0 st lc σ v σ' hlc hw ho hs h
  obtain ⟨⟨r, σ1⟩, hr9, h⟩ := obs h
  obtain ⟨q, hq, hr9⟩ := obs hr9
  obtain ⟨hsem, hle⟩ := ask_s hr9
  obtain ⟨n2, g2, l2, k2⟩ := ha L0 st lc σ _ _ hlc hw hq
  unfold rI at h
  split at h
  · rename_i x τ e
    cases h
    cases e
    refine ⟨l2.trans hle, fun hf9 k => k2 (fit_wL (hf9.le hle)) (A_callSW hx.wL hlc (c_L_send (by rw [kl_wL.1]; exact hst)) hsem ⟨_, rfl⟩ hle g2 uw_L_send um ut_L_send un_L ⟨by decide, by decide, by rw [n2]; rfl⟩ (Nat.le_trans hw h8) hf hl d (fit_wL hf9) (okC_vA ho) (okS_vA hs) (fun L2 hL2 v9 hv9 => ?_))⟩
    cases hv9
    rw [wL_wL]
    exact k L2 (fun u hu => hL2 u (vcT_vld hu))
  · cases h
end SWC
def QcC (g : Gx) (L : Tg → Nat) (r : Res) (σF : Sg) : Array Value → State → Outcome → State → Prop := fun _ st o t => (∃ L2 : Tg → Nat, (∀ u, vcT u = true → L2 u = L u) ∧ ∃ v, r = .inl v ∧ o = .returned (v.map (cv L2)) ∧ RepX g L2 σF t.heap) ∧ va_F (gA g) st t
def XcC (g : Gx) (L : Tg → Nat) (r : Res) (σF : Sg) : String → State → State → Prop := fun E st t => (∃ L2 : Tg → Nat, (∀ u, vcT u = true → L2 u = L u) ∧ ∃ n, r = .inr n ∧ E = exn n ∧ RepX g L2 σF t.heap) ∧ va_F (gA g) st t
def CtC (l : Launch) (g : Gx) (y : MethodName) (cc : ByteArray) (maxL : Nat) (ret : Option FieldType) (fr lo : Nat) (sem : Sem) : Prop :=
  ∀ (L : Tg → Nat) (as : List AV) (σ σF : Sg) (r : Res), (∀ v ∈ as, sg v) → sem as σ = some (r, σF) → vx_Met l y (Cond.code y cc maxL ret :: UW) { frames := fr, cells := sC σF - sC σ, slots := sS σF - sS σ, locals := lo } (va_Pc (as.map (cv L)) (PcF g L σ)) (QcC g L r σF) (XcC g L r σF) (sC σF - sC σ) (sS σF - sS σ) (gA g)
theorem CtC.of {l : Launch} {g : Gx} {y : MethodName} {cc : ByteArray} {maxL : Nat} {ret : Option FieldType} {fr lo : Nat} {sem : Sem} (hy : plainName y.cls = true) (hl : l.stackTraces = false)
    (body : ∀ κ : Kx, kl κ = l → kg κ = g → Hx κ cc maxL y.cls fr lo → Hr κ ret → ∀ (as : List AV) (σ σF : Sg) (r : Res), (∀ v ∈ as, sg v) → sem as σ = some (r, σF) → (lcOf as).length ≤ maxL ∧ sle σ σF ∧ ((∀ L2 : Tg → Nat, agC κ L2 → Rt (wL κ L2) r σF) → Acf κ 0 [] (lcOf as ++ List.replicate (maxL - (lcOf as).length) none) σ)) : CtC l g y cc maxL ret fr lo sem := by
  intro L as σ σF r hs hsem
  refine vx_ofW hy rfl ?_
  intro p e s m args below meth c s₁ B hml hex hv
  obtain ⟨rfl, hP, hG, hz⟩ := hv
  have hts := atoms_spec (ws := Cond.code y cc maxL ret :: UW) B.pre
  obtain ⟨b1, b2, b3⟩ := body (p, l, e, { frames := fr, cells := sC σF - sC σ, slots := sS σF - sS σ, locals := lo }, s, m, (as.map (cv L)).toArray, below, meth, c, vx_MQ below (QcC g L r σF) (XcC g L r σF) (as.map (cv L)).toArray s (sC σF - sC σ) (sS σF - sS σ) (gA g), g, L, sC σ, sS σ, sC σF, sS σF) rfl rfl
    ⟨⟨B.exec, B.bytes, hml, findClass_of_methodNamed B.named, fun w hw => hts w (List.mem_cons_of_mem _ hw)⟩, B.notSynchronized, hz, rfl, rfl, hl, rfl, rfl⟩ ⟨B.returns, hex⟩ as σ σF r hs hsem
  have hA := b3 (fun L2 hL2 => ⟨Nat.le_refl _, Nat.le_refl _, b2.1, b2.2, _, _, rfl, fun _ _ _ h => ⟨⟨L2, hL2, h.1⟩, h.2⟩, fun _ _ _ h => ⟨⟨L2, hL2, h.1⟩, h.2⟩⟩)
  have hlen : (lg_sl (as.map (cv L))).length ≤ maxL := by rw [args_len L as hs]; exact b1
  have hls := lv_entry (as.map (cv L)) (n := maxL) hlen
  rw [lg_entry_eq]
  generalize (lg_sl (as.map (cv L)) ++ List.replicate (maxL - (lg_sl (as.map (cv L))).length) Slot.unset).toArray = ls at hls ⊢
  have hlv : lvA L (lcOf as ++ List.replicate (maxL - (lcOf as).length) none) ls := lvA.entry hs b1 hls
  have hW := hA s.heap [] ls hlv hP hG va_S.rf (Nat.le_refl _) (Nat.le_refl _) b2.1 b2.2
  rw [Nat.sub_self, Nat.sub_self] at hW
  exact hW
