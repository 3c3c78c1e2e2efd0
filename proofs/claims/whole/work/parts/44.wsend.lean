/-! the helper of send: behind the call the new message has its addresses -/
def vA (σ : Sg) : AV → Prop
  | .inl _ => True
  | .inr t => vld σ t = true
theorem cv_vA {σ : Sg} {L L2 : Tg → Nat} (hL2 : ∀ u, vld σ u = true → L2 u = L u) {w : AV} (h : vA σ w) : cv L2 w = cv L w := by
  cases w with
  | inl v => rfl
  | inr t =>
    show Value.ref _ = Value.ref _
    rw [hL2 t h]
theorem rest_vA {σ : Sg} {L L2 : Tg → Nat} (hL2 : ∀ u, vld σ u = true → L2 u = L u) {st : List AV} (h : ∀ w ∈ st, vA σ w) : st.map (cv L2) = st.map (cv L) := List.map_congr_left fun w hw => cv_vA hL2 (h w hw)
theorem lvA.vA {σ : Sg} {L L2 : Tg → Nat} {lc : LcT} {ls : Array Slot} (h1 : lvA L lc ls) (hL2 : ∀ u, vld σ u = true → L2 u = L u) (h : ∀ w, some w ∈ lc → vA σ w) : lvA L2 lc ls := by
  refine ⟨h1.1, h1.2.1, fun i v hv => ?_⟩
  rw [cv_vA hL2 (h v (List.mem_of_getElem? hv))]
  exact h1.2.2 i v hv
section GOS
variable {p : Program} {l : Launch} {e : Env} {R : Room} {s : State} {m : MethodId} {args : Array Value} {below : List Frame} {meth : Method} {c : Code} {H : Heap} {locs : List Loc} {cells slots : Nat} {Q : State → Prop}
theorem vx_goS {pc mc ms : Nat} {ls : Array Slot} {st0 rest : List Value} {a : Array Value} {g : Gx} {L : Tg → Nat} {r : Res} {σ σ0 : Sg} (hr : vx_Run p l e R s m args below meth c H locs cells slots mc ms (F0 m pc ls st0) rest (QcS g L σ0 r σ a) (XcS g L σ0 r σ) (gA g)) (hS : va_S (gA g) s.heap H locs)
    (kr : ∀ (L2 : Tg → Nat) (v : Option AV) (H1 : Heap) (locs1 : List Loc), (∀ u, vld σ0 u = true → L2 u = L u) → r = .inl v → RepX g L2 σ H1 → (∀ q : Nat, q < H.size → ¬ gA g q → H1[q]? = H[q]?) → va_S (gA g) s.heap H1 locs1 → W p l e R s m args below meth c H1 locs1 (cells + mc) (slots + ms) Q (F0 m (pc + 3) ls ((v.map (cv L2)).toList ++ rest)))
    (kx : ∀ (L2 : Tg → Nat) (n : Nat) (H1 : Heap) (locs1 : List Loc) (q9 : Addr) (ce : Cell), (∀ u, vld σ0 u = true → L2 u = L u) → r = .inr n → RepX g L2 σ H1 → (∀ q : Nat, q < H.size → ¬ gA g q → H1[q]? = H[q]?) → va_S (gA g) s.heap H1 locs1 → H1[q9]? = some ce → ce.vm = .none → s.vm.findClass (exn n) = some ce.cls → vx_W p l e R s m args below meth c H1 locs1 (cells + mc) (slots + ms) Q (F0 m pc ls rest) q9) : W p l e R s m args below meth c H locs cells slots Q (F0 m pc ls st0) := by
  intro T hT X
  rcases hr T hT X with ⟨v, st₀, t, T', L9, h0, X', hL, e1, e2, ⟨⟨L2, hL2, u, hv, hp, hb⟩, hF⟩, st⟩ | ⟨q, st₀, t, T', L9, E, ce, h0, X', hL, e1, e2, ⟨⟨L2, hL2, n, hv, hp, hb⟩, hF⟩, hce, hcv, hcl, st⟩
  · cases hp
    obtain ⟨k1, k2, k3⟩ := vx_keep h0 e1 hS (fun _ _ h => h) (fun _ h => h) hL hF
    obtain ⟨t2, a1, b1⟩ := kr L2 u T'.heap (locs ++ L9) hL2 hv (by rw [e1]; exact hb) k2 k3 T' rfl X'
    exact ⟨t2, st t2 a1, b1⟩
  · subst hp
    obtain ⟨k1, k2, k3⟩ := vx_keep h0 e1 hS (fun _ _ h => h) (fun _ h => h) hL hF
    obtain ⟨t2, a1, b1⟩ := kx L2 n T'.heap (locs ++ L9) q ce hL2 hv (by rw [e1]; exact hb) k2 k3 (by rw [e1]; exact hce) hcv hcl T' rfl X'
    exact ⟨t2, st.trans a1, b1⟩
end GOS
section SND
variable {κ : Kx} {cc : ByteArray} {nL fX lX : Nat} {own : String} {pc : Nat} {st : List AV} {lc : LcT} {σ σF : Sg} {ret retY : Option FieldType}
theorem A_callVXS (hx : Hx κ cc nL own fX lX) {y : MethodName} {bytes : ByteArray} {maxL fr lo idx N : Nat} {sem : Sem} {C : String} {T : u_T} {b : Tg} {as rest : List AV} {r : Res} (hlc : lc.length = nL)
    (hM : CtS (kl κ) (kg κ) y bytes maxL retY fr lo sem) (hsem : sem (ar b :: as) σ = some (r, σF)) (hle : sle σ σF) (hsg : ∀ v ∈ as, sg v)
    (uc : Cond.code y bytes maxL retY ∈ UW) (um : Cond.methodLink own idx y ∈ UW) (ui : Cond.instanceMethod y ∈ UW) (us : Cond.selects C y y ∈ UW) (un : Cond.initialized C ∈ UW)
    (hd : y.cls = C ∧ y.cls ≠ "java/lang/invoke/MethodHandle" ∧ y.cls ≠ "java/lang/invoke/VarHandle" ∧ (parseMethodDescriptor y.desc).map (fun d => d.parameters.length) = some as.length)
    (hcl : vwCl[cix b.1]? = some (C, T, N)) (ho : isRc b.1 = true) (hv : vld σ b = true) (hw : wt rest ≤ 8) (hf : fr + 1 ≤ fX) (hl : 8 + (maxL + 11) + lo ≤ lX) (d : decode cc pc = .ok (.invokevirtual idx, 3))
    (fit : Fit κ σF) (hlcs : ∀ w, some w ∈ lc → vA σ w) (hrs : ∀ w ∈ rest, vA σ w) (kr : ∀ L2 : Tg → Nat, (∀ u, vld σ u = true → L2 u = kL κ u) → ∀ v, r = .inl v → Acf (wL κ L2) (pc + 3) (v.toList ++ rest) lc σF) (kx : ∀ L2 : Tg → Nat, (∀ u, vld σ u = true → L2 u = kL κ u) → ∀ n, r = .inr n → Hand (wL κ L2) own pc n lc σF) : Acf κ pc (as.reverse ++ ar b :: rest) lc σ := by
  obtain ⟨p, l, e, R, s, m, args, below, meth, c, Q, g, L, c0, s0, fc, fs⟩ := κ
  obtain ⟨⟨hxe, hxb, hxl, hxo, hxw⟩, hxk, hxz, hxc, hxs, hxt, hxf, hxr⟩ := hx
  obtain ⟨fit1, fit2⟩ := fit
  obtain ⟨le1, le2⟩ := hle
  intro H locs ls h1 h2 h3 h4 h5 h6 h7 h8
  obtain ⟨L', hL, r1, r2, r3, r4, r5⟩ := id h2
  have hat := r1 b hv
  obtain ⟨⟨fs9, hc9⟩, h59⟩ := cell_rc ho L' g.2.1 σ
  rw [hc9, hL b h59] at hat
  have hMet := hM L (ar b :: as) σ σF r (fun v hv9 => by rcases List.mem_cons.mp hv9 with rfl | hv9; exact Or.inr (Or.inl ⟨_, rfl⟩); exact hsg v hv9) hsem
  have e1 : sC σ - c0 + (sC σF - sC σ) = sC σF - c0 := by omega
  have e2 : sS σ - s0 + (sS σF - sS σ) = sS σF - s0 := by omega
  have hst : (as.reverse ++ ar b :: rest).map (cv L) = (as.map (cv L)).reverse ++ Value.ref (L b) :: rest.map (cv L) := by rw [List.map_append, List.map_reverse]; rfl
  rw [hst]
  refine vx_goS (g := g) (L := L) (σ0 := σ) (r := r) (σ := σF) (a := (Value.ref (L b) :: as.map (cv L)).toArray) (mc := sC σF - sC σ) (ms := sS σF - sS σ) (rest := rest.map (cv L))
    (vx_runV (C := C) (b := L b) (As := as.map (cv L)) (rest := rest.map (cv L)) ⟨hxe, hxb, hxl, hxo, hxw⟩ hMet (cwV as.length hxw (UW_V uc um ui us un) rfl rfl rfl hd ⟨by rw [hxf]; exact hf, by rw [hxr]; exact hl⟩) ⟨blindF, va_recv h3.1 (vP1 hat) hcl (q0 := 0) rfl, fun U hU hW => ⟨rfl, by rw [hU]; exact h2, by rw [hU]; exact h3.warm hW, by rw [hU]; exact Nat.le_trans hxz h4.1⟩⟩ rfl (List.length_map _) (by show ls.size = nL; rw [h1.1, hlc]) rfl (by show 2 * 0 + _ ≤ 8; rw [Nat.mul_zero, Nat.zero_add, wt_cv]; exact hw) d ⟨by rw [hxc, e1]; omega, by rw [hxs, e2]; omega⟩) h4 ?_ ?_
  · intro L2 v H1 locs1 hL2 hv9 hR hk hS1
    rw [e1, e2]
    have hk9 := kr L2 hL2 v hv9 H1 locs1 ls (h1.vA hL2 hlcs) hR (h3.kept hk) hS1 (Nat.le_trans h5 le1) (Nat.le_trans h6 le2) fit1 fit2
    rw [List.map_append, rest_vA hL2 hrs] at hk9
    cases v <;> exact hk9
  · intro L2 n H1 locs1 q9 ce hL2 hv9 hR hk hS1 hce hcv hcn
    rw [e1, e2]
    obtain ⟨pre, x, suf, name, t1, t2, t3, t4, t5, t6, t7⟩ := kx L2 hL2 n hv9
    refine vx_catch (E := exn n) hxo pre x suf t1 (fun z hz => ?_) t3 t4 (hxw _ t5) (va_Nw.use (FW_face t6).1 (h3.2.2.2.2.2.1 _ t6)) hce hcv hcn ?_
    · rcases t2 z hz with q | ⟨q1, nm, q2, q3⟩
      · exact Or.inl q
      · exact Or.inr ⟨q1, nm, hxw _ q2, q3⟩
    · exact t7 q9 H1 locs1 ls (h1.vA hL2 hlcs) hR (h3.kept hk) hS1 (Nat.le_trans h5 le1) (Nat.le_trans h6 le2) fit1 fit2
end SND
theorem hrt_wL {κ : Kx} {L2 : Tg → Nat} {ret : Option FieldType} (h : (km κ).sig.returnType = ret) : (km (wL κ L2)).sig.returnType = ret := by
  obtain ⟨p, l, e, R, s, m, args, below, meth, c, Q, g, L, c0, s0, fc, fs⟩ := κ
  exact h
theorem htb_wL {κ : Kx} {L2 : Tg → Nat} {x : List ExceptionTableEntry} (h : (kc κ).exceptionTable.toList = x) : (kc (wL κ L2)).exceptionTable.toList = x := by
  obtain ⟨p, l, e, R, s, m, args, below, meth, c, Q, g, L, c0, s0, fc, fs⟩ := κ
  exact h
theorem hXn_wL {κ : Kx} {L2 : Tg → Nat} (h : xNI (ks κ)) : xNI (ks (wL κ L2)) := by
  obtain ⟨p, l, e, R, s, m, args, below, meth, c, Q, g, L, c0, s0, fc, fs⟩ := κ
  exact h
def w_send : Sem := fun as σ => match as with
  | [.inr (0, 0), .inl (.int a), .inr (14, 0)] => (f_X2_send [ar (0, 0), ai a] σ).bind fun o => if sleB σ o.2 = true then (match o.1 with
    | .inl (some (.inl (.int v))) => some (.inl (some (ai 0)), upJ o.2 v.toInt64)
    | .inr 1 => some (.inl (some (ai 1)), o.2)
    | .inr 2 => some (.inl (some (ai 2)), o.2)
    | _ => none) else none
  | _ => none
theorem c_W_send {l : Launch} {g : Gx} (hl : l.stackTraces = false) : CtW xNI l g yL_send cL_send 4 (some .int) [(0, 9, 12, 13), (0, 9, 15, 15)] 10 251 w_send := by
  refine CtW.of (by decide) hl (fun κ h1 h2 hX hx hr ht as σ σF r hs hsem => ?_)
  have hst := hx.st
  unfold w_send at hsem
  split at hsem
  · rename_i a
    obtain ⟨⟨ro, τ⟩, ho, hsem⟩ := obs hsem
    dsimp only at hsem
    have hlcs : ∀ w, some w ∈ [some (ar (0, 0)), some (ai a), some (ar (14, 0)), none] → vA σ w := fun w hw => by
      simp at hw
      rcases hw with rfl | rfl | rfl
      · exact (rfl : vld σ (0, 0) = true)
      · exact trivial
      · exact (rfl : vld σ (14, 0) = true)
    have hrs : ∀ w ∈ [ai 0, ar (14, 0)], vA σ w := fun w hw => by
      simp at hw
      rcases hw with rfl | rfl
      · exact trivial
      · exact (rfl : vld σ (14, 0) = true)
    split at hsem
    · rename_i hsl
      have hle := sleB_sle hsl
      split at hsem
      · rename_i v
        cases hsem
        refine ⟨by simp, hle, fun k9 => ?_⟩
        have hself := k9 (kL κ) (fun _ _ => rfl)
        rw [wL_self] at hself
        refine A_aload_n (i := 2) hx dL_send_0 rfl (A_iconst (v := 0) hx dL_send_1 (by decide) (A_aload_n (i := 0) hx dL_send_2 rfl (A_iload_n (i := 1) hx dL_send_3 rfl ?_)))
        refine A_callVXS (as := [ai a]) (rest := [ai 0, ar (14, 0)]) (b := (0, 0)) hx rfl (c_X2_send hst) ho hle (fun v hv => by simp at hv; subst hv; exact Or.inl ⟨_, rfl⟩) uc_X2_send um_L_7 ui_X2_send us_X2_send un_X2 ⟨rfl, by decide, by decide, rfl⟩ rfl rfl rfl (by simp [wt, wtA, Value.category]) (by decide) (by decide) dL_send_4 hself.fit.J hlcs hrs (fun L2 hL2 v9 hv9 => ?_) (fun L2 hL2 n hn => by cases hn)
        cases hv9
        exact A_i2l hx.wL dL_send_7 (A_lastJ hx.wL dL_send_8 (A_goto (tgt := 18) hx.wL dL_send_9 (by decide) (A_iconst (v := 0) hx.wL dL_send_18 (by decide) (A_iretW hx.wL (hrt_wL hr) dL_send_19 (k9 L2 hL2)))))
      · skip
        cases hsem
        refine ⟨by simp, hle, fun k9 => ?_⟩
        have hself := k9 (kL κ) (fun _ _ => rfl)
        rw [wL_self] at hself
        refine A_aload_n (i := 2) hx dL_send_0 rfl (A_iconst (v := 0) hx dL_send_1 (by decide) (A_aload_n (i := 0) hx dL_send_2 rfl (A_iload_n (i := 1) hx dL_send_3 rfl ?_)))
        refine A_callVXS (as := [ai a]) (rest := [ai 0, ar (14, 0)]) (b := (0, 0)) hx rfl (c_X2_send hst) ho hle (fun v hv => by simp at hv; subst hv; exact Or.inl ⟨_, rfl⟩) uc_X2_send um_L_7 ui_X2_send us_X2_send un_X2 ⟨rfl, by decide, by decide, rfl⟩ rfl rfl rfl (by simp [wt, wtA, Value.category]) (by decide) (by decide) dL_send_4 hself.fit hlcs hrs (fun L2 hL2 v9 hv9 => by cases hv9) (fun L2 hL2 n hn => ?_)
        cases hn
        exact ⟨[], ⟨0, 9, 12, 13⟩, [⟨0, 9, 15, 15⟩], "java/lang/IndexOutOfBoundsException", (htb_wL ht).trans rfl, (fun z hz => by cases hz), (by decide), (by decide), ul_L_13, fw_11, fun q => A_astore_nQ (i := 3) hx.wL dL_send_12 (by show 3 < 4; decide) (A_iconst (v := 1) hx.wL dL_send_13 (by decide) (A_iretW hx.wL (hrt_wL hr) dL_send_14 (k9 L2 hL2)))⟩
      · skip
        cases hsem
        refine ⟨by simp, hle, fun k9 => ?_⟩
        have hself := k9 (kL κ) (fun _ _ => rfl)
        rw [wL_self] at hself
        refine A_aload_n (i := 2) hx dL_send_0 rfl (A_iconst (v := 0) hx dL_send_1 (by decide) (A_aload_n (i := 0) hx dL_send_2 rfl (A_iload_n (i := 1) hx dL_send_3 rfl ?_)))
        refine A_callVXS (as := [ai a]) (rest := [ai 0, ar (14, 0)]) (b := (0, 0)) hx rfl (c_X2_send hst) ho hle (fun v hv => by simp at hv; subst hv; exact Or.inl ⟨_, rfl⟩) uc_X2_send um_L_7 ui_X2_send us_X2_send un_X2 ⟨rfl, by decide, by decide, rfl⟩ rfl rfl rfl (by simp [wt, wtA, Value.category]) (by decide) (by decide) dL_send_4 hself.fit hlcs hrs (fun L2 hL2 v9 hv9 => by cases hv9) (fun L2 hL2 n hn => ?_)
        cases hn
        exact ⟨[⟨0, 9, 12, 13⟩], ⟨0, 9, 15, 15⟩, [], "java/lang/IllegalStateException", (htb_wL ht).trans rfl, (fun z hz => by rw [List.mem_singleton.mp hz]; exact Or.inr ⟨(by decide), _, ul_L_13, hXn_wL hX⟩), (by decide), (by decide), ul_L_15, fw_22, fun q => A_astore_nQ (i := 3) hx.wL dL_send_15 (by show 3 < 4; decide) (A_iconst (v := 2) hx.wL dL_send_16 (by decide) (A_iretW hx.wL (hrt_wL hr) dL_send_17 (k9 L2 hL2)))⟩
      · cases hsem
    · cases hsem
  · cases hsem
