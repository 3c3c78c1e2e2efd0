/-! the law's loop: turn after turn -/
theorem cv_okA {L L2 : Tg → Nat} (hL2 : ∀ u, vcT u = true → L2 u = L u) {w : AV} (h : okA w = true) : cv L2 w = cv L w := by
  cases w with
  | inl v => rfl
  | inr t => exact congrArg Value.ref (hL2 t h)
theorem rest_okA {L L2 : Tg → Nat} (hL2 : ∀ u, vcT u = true → L2 u = L u) {st : List AV} (h : okS st = true) : st.map (cv L2) = st.map (cv L) := List.map_congr_left fun w hw => cv_okA hL2 (List.all_eq_true.mp h w hw)
theorem lvA.okA {L L2 : Tg → Nat} {lc : LcT} {ls : Array Slot} (h1 : lvA L lc ls) (hL2 : ∀ u, vcT u = true → L2 u = L u) (h : okC lc = true) : lvA L2 lc ls := by
  refine ⟨h1.1, h1.2.1, fun i v hv ho => ?_⟩
  have hok : Jvm.Pilot.@@N@@.okA v = true := List.all_eq_true.mp h (some v) (List.mem_of_getElem? hv)
  rw [cv_okA hL2 hok] at ho ⊢
  exact h1.2.2 i v hv ho
section GOC
variable {p : Program} {l : Launch} {e : Env} {R : Room} {s : State} {m : MethodId} {args : Array Value} {below : List Frame} {meth : Method} {c : Code} {H : Heap} {locs : List Loc} {cells slots : Nat} {Q : State → Prop}
theorem vx_goC {pc mc ms : Nat} {ls : Array Slot} {st0 rest : List Value} {a : Array Value} {g : Gx} {L : Tg → Nat} {r : Res} {σ : Sg} (hr : vx_Run p l e R s m args below meth c H locs cells slots mc ms (F0 m pc ls st0) rest (QcC g L r σ a) (XcC g L r σ) (gA g)) (hS : va_S (gA g) s.heap H locs)
    (kr : ∀ (L2 : Tg → Nat) (v : Option AV) (H1 : Heap) (locs1 : List Loc), (∀ u, vcT u = true → L2 u = L u) → r = .inl v → RepX g L2 σ H1 → (∀ q : Nat, q < H.size → ¬ gA g q → H1[q]? = H[q]?) → va_S (gA g) s.heap H1 locs1 → W p l e R s m args below meth c H1 locs1 (cells + mc) (slots + ms) Q (F0 m (pc + 3) ls ((v.map (cv L2)).toList ++ rest)))
    (kx : ∀ n, r ≠ .inr n) : W p l e R s m args below meth c H locs cells slots Q (F0 m pc ls st0) := by
  intro T hT X
  rcases hr T hT X with ⟨v, st₀, t, T', L9, h0, X', hL, e1, e2, ⟨⟨L2, hL2, u, hv, hp, hb⟩, hF⟩, st⟩ | ⟨q, st₀, t, T', L9, E, ce, h0, X', hL, e1, e2, ⟨⟨L2, hL2, n, hv, hp, hb⟩, hF⟩, hce, hcv, hcl, st⟩
  · cases hp
    obtain ⟨k1, k2, k3⟩ := vx_keep h0 e1 hS (fun _ _ h => h) (fun _ h => h) hL hF
    obtain ⟨t2, a1, b1⟩ := kr L2 u T'.heap (locs ++ L9) hL2 hv (by rw [e1]; exact hb) k2 k3 T' rfl X'
    exact ⟨t2, st t2 a1, b1⟩
  · exact absurd hv (kx n)
end GOC
section LOOP
variable {κ : Kx} {cc : ByteArray} {nL fX lX : Nat} {own : String} {pc : Nat} {st : List AV} {lc : LcT} {σ σF : Sg} {ret retY : Option FieldType}
theorem A_callSC (hx : Hx κ cc nL own fX lX) {y : MethodName} {bytes : ByteArray} {maxL fr lo idx : Nat} {sem : Sem} {as rest : List AV} {r : Res} (hlc : lc.length = nL)
    (hM : CtC (kl κ) (kg κ) y bytes maxL retY fr lo sem) (hsem : sem as σ = some (r, σF)) (hr9 : ∃ v, r = .inl v) (hle : sle σ σF) (hsg : ∀ v ∈ as, sg v)
    (uc : Cond.code y bytes maxL retY ∈ UW) (um : Cond.methodLink own idx y ∈ UW) (ut : Cond.static y ∈ UW) (un : Cond.initialized y.cls ∈ UW)
    (hd : y.cls ≠ "java/lang/invoke/MethodHandle" ∧ y.cls ≠ "java/lang/invoke/VarHandle" ∧ (parseMethodDescriptor y.desc).map (fun d => d.parameters.length) = some as.length)
    (hw : wt rest ≤ 8) (hf : fr + 1 ≤ fX) (hl : 8 + (maxL + 11) + lo ≤ lX) (d : decode cc pc = .ok (.invokestatic idx, 3))
    (fit : Fit κ σF) (hlcs : okC lc = true) (hrs : okS rest = true) (kr : ∀ L2 : Tg → Nat, (∀ u, vcT u = true → L2 u = kL κ u) → ∀ v, r = .inl v → Acf (wL κ L2) (pc + 3) (v.toList ++ rest) lc σF) : Acf κ pc (as.reverse ++ rest) lc σ := by
  obtain ⟨p, l, e, R, s, m, args, below, meth, c, Q, g, L, c0, s0, fc, fs⟩ := κ
  obtain ⟨⟨hxe, hxb, hxl, hxo, hxw⟩, hxk, hxz, hxc, hxs, hxt, hxf, hxr⟩ := hx
  obtain ⟨fit1, fit2⟩ := fit
  obtain ⟨le1, le2⟩ := hle
  intro H locs ls h1 h2 h3 h4 h5 h6 h7 h8
  have hMet := hM L as σ σF r hsg hsem
  have e1 : sC σ - c0 + (sC σF - sC σ) = sC σF - c0 := by omega
  have e2 : sS σ - s0 + (sS σF - sS σ) = sS σF - s0 := by omega
  have hst : (as.reverse ++ rest).map (cv L) = (as.map (cv L)).reverse ++ rest.map (cv L) := by rw [List.map_append, List.map_reverse]
  rw [hst]
  refine vx_goC (g := g) (L := L) (r := r) (σ := σF) (a := (as.map (cv L)).toArray) (mc := sC σF - sC σ) (ms := sS σF - sS σ) (rest := rest.map (cv L))
    (vx_runS (As := as.map (cv L)) (rest := rest.map (cv L)) ⟨hxe, hxb, hxl, hxo, hxw⟩ hMet ⟨callB_of as.length hxw (UW_in uc) rfl rfl rfl (hxw _ un) (hxw _ um) hd ⟨by rw [hxf]; exact hf, by rw [hxr]; exact hl⟩, hxw _ ut⟩ ⟨blindF, fun U hU hW => ⟨rfl, by rw [hU]; exact h2, by rw [hU]; exact h3.warm hW, by rw [hU]; exact Nat.le_trans hxz h4.1⟩⟩ rfl (List.length_map _) (by show ls.size = nL; rw [h1.1, hlc]) rfl (by show 2 * 0 + _ ≤ 8; rw [Nat.mul_zero, Nat.zero_add, wt_cv]; exact hw) d ⟨by rw [hxc, e1]; omega, by rw [hxs, e2]; omega⟩) h4 ?_ ?_
  · intro L2 v H1 locs1 hL2 hv9 hR hk hS1
    rw [e1, e2]
    have hk9 := kr L2 hL2 v hv9 H1 locs1 ls (h1.okA hL2 hlcs) hR (h3.kept hk) hS1 (Nat.le_trans h5 le1) (Nat.le_trans h6 le2) fit1 fit2
    rw [List.map_append, rest_okA hL2 hrs] at hk9
    cases v <;> exact hk9
  · intro n hn
    obtain ⟨v, hv⟩ := hr9
    rw [hv] at hn
    cases hn
theorem Scr.wL {L2 : Tg → Nat} {b n : Nat} {xs : Nat → Int32} (h : Scr κ b n xs) : Scr (Jvm.Pilot.@@N@@.wL κ L2) b n xs := by
  obtain ⟨p, l, e, R, s, m, args, below, meth, c, Q, g, L, c0, s0, fc, fs⟩ := κ
  exact h
def lcL (bs t : Nat) (v13 v14 : Option AV) : LcT := [some (aq bs), some (ar (0, 0)), some (ar (12, 0)), some (ar (14, 0)), some (ar (14, 1)), some (ar (14, 2)), some (ar (14, 3)), some (ar (14, 4)), some (ar (12, 1)), some (ar (12, 2)), some (ar (12, 3)), some (ar (12, 4)), some (ai (nI t)), v13, v14]
/-- after t turns that began at σb -/
def Jv (σb : Sg) (t : Nat) (σ : Sg) : Prop := ∃ B A, RK B A σ ∧ B ≤ 2 * t + 48 * outs σ ∧ A ≤ t + 192 * outs σ ∧ cD (12 + 20 * t) (72 + 116 * t) σb σ
theorem Jv.fit {σb : Sg} {t : Nat} (h : Jv σb t σ) (ht : t ≤ 160) : sC σ ≤ sC σb + 5000 ∧ sS σ ≤ sS σb + 30000 := by
  obtain ⟨B, A, K, -, -, c1, c2⟩ := h
  have := rm_le K.W
  omega
theorem sgs {x y : Int32} : ∀ v ∈ [ar (0, 0), ai x, ai y, ar (12, 0), ar (14, 0), ar (14, 1), ar (14, 2), ar (14, 3), ar (14, 4), ar (12, 1), ar (12, 2), ar (12, 3), ar (12, 4)], sg v := by
  intro v hv
  simp only [List.mem_cons, List.not_mem_nil, or_false] at hv
  rcases hv with rfl | rfl | rfl | rfl | rfl | rfl | rfl | rfl | rfl | rfl | rfl | rfl | rfl
  all_goals first | exact Or.inl ⟨_, rfl⟩ | exact Or.inr (Or.inl ⟨_, rfl⟩)
theorem sgr {y : Int32} : ∀ v ∈ [ar (0, 0), ai y, ar (12, 0), ar (14, 0), ar (14, 1), ar (14, 2), ar (14, 3), ar (14, 4), ar (12, 1), ar (12, 2), ar (12, 3), ar (12, 4)], sg v := by
  intro v hv
  simp only [List.mem_cons, List.not_mem_nil, or_false] at hv
  rcases hv with rfl | rfl | rfl | rfl | rfl | rfl | rfl | rfl | rfl | rfl | rfl | rfl
  all_goals first | exact Or.inl ⟨_, rfl⟩ | exact Or.inr (Or.inl ⟨_, rfl⟩)
def fcs (κ : Kx) : Nat × Nat := match κ with
  | (_, _, _, _, _, _, _, _, _, _, _, _, _, _, _, fc, fs) => (fc, fs)
theorem Fit.of (h1 : sC σ ≤ (fcs κ).1) (h2 : sS σ ≤ (fcs κ).2) : Fit κ σ := by
  obtain ⟨p, l, e, R, s, m, args, below, meth, c, Q, g, L, c0, s0, fc, fs⟩ := κ
  exact ⟨h1, h2⟩
theorem fcs_wL {L2 : Tg → Nat} : fcs (Jvm.Pilot.@@N@@.wL κ L2) = fcs κ := by
  obtain ⟨p, l, e, R, s, m, args, below, meth, c, Q, g, L, c0, s0, fc, fs⟩ := κ
  rfl
theorem kl_wL1 {L2 : Tg → Nat} : kl (Jvm.Pilot.@@N@@.wL κ L2) = kl κ := kl_wL.1
set_option maxHeartbeats 4000000 in
theorem L_loop {bs n : Nat} {xs : Nat → Int32} (hn : n < 65000) {σb : Sg} : ∀ (d : Nat) (κ : Kx), Hx κ cL_law 15 RL 17 712 → Hr κ (some .boolean) → (kl κ).stackTraces = false → Scr κ bs n xs → sC σb + 5000 ≤ (fcs κ).1 → sS σb + 30000 ≤ (fcs κ).2 → (∀ (L2 : Tg → Nat) (lc : LcT) (σ : Sg), Acf (wL κ L2) 207 [] lc σ) → ∀ (t : Nat) (σ : Sg) (v13 v14 : Option AV), t + d = 160 → Jv σb t σ → Acf κ 97 [] (lcL bs t v13 v14) σ := by
  intro d
  induction d with
  | zero =>
    intro κ hx hr hst hS f1 f2 kend t σ v13 v14 ht hJ
    have k9 := kend (kL κ) (lcL bs t v13 v14) σ
    rw [wL_self] at k9
    refine A_iload (i := 12) hx dL_law_97 rfl (A_sipush (v := nI 160) hx dL_law_99 (by decide) (A_icmp_ge (tgt := 207) hx dL_law_102 (by decide) (fun _ => k9) (fun q => ?_)))
    exact absurd ((nI_leI (by omega) (by omega)).mpr (by omega)) q
  | succ d ih =>
    intro κ hx hr hst hS f1 f2 kend t σ v13 v14 ht hJ
    refine A_iload (i := 12) hx dL_law_97 rfl (A_sipush (v := nI 160) hx dL_law_99 (by decide) (A_icmp_ge (tgt := 207) hx dL_law_102 (by decide) (fun q => ?_) (fun _ => ?_)))
    · exact absurd ((nI_leI (by omega) (by omega)).mp q) (by omega)
    have e2t : (2 : Int32) * nI t = nI (2 * t) := (Int32.ofNat_mul 2 t).symm
    refine A_aload_nQ (i := 0) hx dL_law_105 rfl (A_iconst (v := 2) hx dL_law_106 (by decide) (A_iload (i := 12) hx dL_law_107 rfl (A_imul hx dL_law_109 ?_)))
    rw [e2t]
    refine A_cell hx hst rfl hS (by omega) (by omega) (by decide) (by decide) (by decide) dL_law_110 (A_istore (i := 13) hx dL_law_113 (by show 13 < 15; decide) ?_)
    refine A_aload_nQ (i := 0) hx dL_law_115 rfl (A_iconst (v := 2) hx dL_law_116 (by decide) (A_iload (i := 12) hx dL_law_117 rfl (A_imul hx dL_law_119 (A_iconst (v := 1) hx dL_law_120 (by decide) (A_iadd hx dL_law_121 ?_)))))
    rw [e2t, n_ad1]
    refine A_cell hx hst rfl hS (by omega) (by omega) (by decide) (by decide) (by decide) dL_law_122 (A_istore (i := 14) hx dL_law_125 (by show 14 < 15; decide) ?_)
    generalize vCell n xs (2 * t) = x
    generalize vCell n xs (2 * t + 1) = y
    have join : ∀ x' : Int32, Acf κ 140 [ai x', ar (0, 0)] (lcL bs t (some (ai x)) (some (ai y))) σ := fun x' => by
      obtain ⟨B, A, K, hB, hA, hc⟩ := id hJ
      have ho := outs_le (σ := σ)
      obtain ⟨υ, hk, B', A', K', hB', hA', hc', hs'⟩ := e_keeps (x := x') (y := y) K (by omega) (by omega)
      have ho' := outs_le (σ := υ)
      have hcu : cD (12 + 20 * t + 8) (72 + 116 * t + 44) σb υ := hc.tr hc'
      have hcx : cD (12 + 20 * (t + 1)) (72 + 116 * (t + 1)) σb (gx υ 12) := (hcu.tr (cl_gx 12)).mono (by omega) (by omega)
      have hJ' : Jv σb (t + 1) (gx υ 12) := ⟨B', A', K'.xx 12, by rw [outs_gx]; omega, by rw [outs_gx]; omega, hcx⟩
      have hfit := hJ'.fit (by omega)
      have fitx : Fit κ (gx υ 12) := Fit.of (by omega) (by omega)
      have slx : sle υ (gx υ 12) := sleB_sle (sl_gx 12)
      have fitu : Fit κ υ := fitx.le slx
      refine A_iload (i := 14) hx dL_law_140 rfl (A_aload_n (i := 2) hx dL_law_142 rfl (A_aload_n (i := 3) hx dL_law_143 rfl (A_aload (i := 4) hx dL_law_144 rfl (A_aload (i := 5) hx dL_law_146 rfl (A_aload (i := 6) hx dL_law_148 rfl (A_aload (i := 7) hx dL_law_150 rfl (A_aload (i := 8) hx dL_law_152 rfl (A_aload (i := 9) hx dL_law_154 rfl (A_aload (i := 10) hx dL_law_156 rfl (A_aload (i := 11) hx dL_law_158 rfl ?_))))))))))
      refine A_callSC (as := [ar (0, 0), ai x', ai y, ar (12, 0), ar (14, 0), ar (14, 1), ar (14, 2), ar (14, 3), ar (14, 4), ar (12, 1), ar (12, 2), ar (12, 3), ar (12, 4)]) (rest := []) hx rfl (c_L_keeps hst) hk ⟨_, rfl⟩ (sleB_sle hs') sgs uc_L_keeps um_L_213 ut_L_keeps un_L ⟨by decide, by decide, rfl⟩ (by decide) (by decide) (by decide) dL_law_160 fitu rfl rfl (fun L2 hL2 v hv => ?_)
      cases hv
      refine A_if_eq (tgt := 199) hx.wL dL_law_163 (by decide) (fun q => absurd q (by decide)) (fun _ => ?_)
      have hr2 := e_read (y := iShr x 6 ^^^ y) (K'.rd (by omega) (by omega))
      refine A_aload_n (i := 1) hx.wL dL_law_166 rfl (A_iload (i := 13) hx.wL dL_law_167 rfl (A_bipush (v := 6) hx.wL dL_law_169 (by decide) (A_ishr hx.wL dL_law_171 (A_iload (i := 14) hx.wL dL_law_172 rfl (A_ixor hx.wL dL_law_174 (A_aload_n (i := 2) hx.wL dL_law_175 rfl (A_aload_n (i := 3) hx.wL dL_law_176 rfl (A_aload (i := 4) hx.wL dL_law_177 rfl (A_aload (i := 5) hx.wL dL_law_179 rfl (A_aload (i := 6) hx.wL dL_law_181 rfl (A_aload (i := 7) hx.wL dL_law_183 rfl (A_aload (i := 8) hx.wL dL_law_185 rfl (A_aload (i := 9) hx.wL dL_law_187 rfl (A_aload (i := 10) hx.wL dL_law_189 rfl (A_aload (i := 11) hx.wL dL_law_191 rfl ?_)))))))))))))))
      refine A_callS (as := [ar (0, 0), ai (iShr x 6 ^^^ y), ar (12, 0), ar (14, 0), ar (14, 1), ar (14, 2), ar (14, 3), ar (14, 4), ar (12, 1), ar (12, 2), ar (12, 3), ar (12, 4)]) (rest := []) hx.wL hr.wL rfl (c_L_isRead (by rw [kl_wL1]; exact hst)) hr2 slx sgr uc_L_isRead um_L_205 ut_L_isRead un_L ⟨by decide, by decide, rfl⟩ (by decide) (by decide) (by decide) dL_law_193 (fit_wL fitx) (fun v hv => ?_) (fun n9 hn9 => by cases hn9)
      cases hv
      refine A_if_ne (tgt := 201) hx.wL dL_law_196 (by decide) (fun _ => ?_) (fun q => absurd q (by decide))
      refine A_iinc (v := nI (t + 1)) hx.wL dL_law_201 rfl n_ad1 (A_goto (tgt := 97) hx.wL dL_law_204 (by decide) ?_)
      exact ih (wL κ L2) hx.wL hr.wL (by rw [kl_wL1]; exact hst) hS.wL (by rw [fcs_wL]; exact f1) (by rw [fcs_wL]; exact f2) (fun L3 lc σ9 => by rw [wL_wL]; exact kend L3 lc σ9) (t + 1) (gx υ 12) _ _ (by omega) hJ'
    refine A_aload_n (i := 1) hx dL_law_127 rfl (A_iload (i := 12) hx dL_law_128 rfl (A_iconst (v := 4) hx dL_law_130 (by decide) (A_icmp_ge (tgt := 138) hx dL_law_131 (by decide) (fun _ => ?_) (fun _ => ?_))))
    · exact A_iload (i := 13) hx dL_law_138 rfl (join x)
    · exact A_iconst (v := 0) hx dL_law_134 (by decide) (A_goto (tgt := 140) hx dL_law_135 (by decide) (join 0))
end LOOP
