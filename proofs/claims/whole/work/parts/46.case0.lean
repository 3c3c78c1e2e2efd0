/-! one round of the law's loop, case by case (laid by wip/whole/gen/cases.py) -/
abbrev lcL (bs i : Nat) (v5 v6 : Option AV) : LcT := [some (aq bs), some (ar (0, 0)), some (ar (11, 0)), some (ar (14, 0)), some (ai (nI i)), v5, v6]
section ARG
variable {κ : Kx} {cc : ByteArray} {nL fX lX : Nat} {own : String} {pc : Nat} {st : List AV} {lc : LcT} {σ : Sg}
theorem A_arg1 (hx : Hx κ cc nL own fX lX) {bs n i : Nat} {xs : Nat → Int32} {x : Int32} (hS : Scr κ bs n xs) (hi : i + 2 < n) (hn : n < 65536) (hxs : xs (i + 1) = x) (l0 : lc[0]? = some (some (aq bs))) (l4 : lc[4]? = some (some (ai (nI i)))) (d0 : decode cc pc = .ok (.aload_n 0, 1)) (d1 : decode cc (pc + 1) = .ok (.iload 4, 2)) (d2 : decode cc (pc + 1 + 2) = .ok (.iconst 1, 1)) (d3 : decode cc (pc + 1 + 2 + 1) = .ok (.iadd, 1)) (d4 : decode cc (pc + 1 + 2 + 1 + 1) = .ok (.iaload, 1)) (k : Acf κ (pc + 1 + 2 + 1 + 1 + 1) (ai x :: st) lc σ) : Acf κ pc st lc σ := by
  refine A_aload_nQ (i := 0) hx d0 l0 (A_iload hx d1 l4 (A_iconst (v := nI 1) hx d2 (by decide) (A_iadd hx d3 ?_)))
  rw [nI_add]
  refine A_sld hx hS (vp_in_nI (by omega) (by omega)) d4 ?_
  rw [nI_clamp (by omega), hxs]
  exact k
theorem A_arg2 (hx : Hx κ cc nL own fX lX) {bs n i : Nat} {xs : Nat → Int32} {x : Int32} (hS : Scr κ bs n xs) (hi : i + 2 < n) (hn : n < 65536) (hxs : xs (i + 2) = x) (l0 : lc[0]? = some (some (aq bs))) (l4 : lc[4]? = some (some (ai (nI i)))) (d0 : decode cc pc = .ok (.aload_n 0, 1)) (d1 : decode cc (pc + 1) = .ok (.iload 4, 2)) (d2 : decode cc (pc + 1 + 2) = .ok (.iconst 2, 1)) (d3 : decode cc (pc + 1 + 2 + 1) = .ok (.iadd, 1)) (d4 : decode cc (pc + 1 + 2 + 1 + 1) = .ok (.iaload, 1)) (k : Acf κ (pc + 1 + 2 + 1 + 1 + 1) (ai x :: st) lc σ) : Acf κ pc st lc σ := by
  refine A_aload_nQ (i := 0) hx d0 l0 (A_iload hx d1 l4 (A_iconst (v := nI 2) hx d2 (by decide) (A_iadd hx d3 ?_)))
  rw [nI_add]
  refine A_sld hx hS (vp_in_nI (by omega) (by omega)) d4 ?_
  rw [nI_clamp (by omega), hxs]
  exact k
end ARG
theorem fX0 {σ : Sg} {w : AV} {bs i : Nat} (h : some w ∈ lcL bs i none none) : vA σ w := by
  simp at h
  rcases h with rfl | rfl | rfl | rfl | rfl
  · exact trivial
  · exact (rfl : vld σ (0, 0) = true)
  · exact (rfl : vld σ (11, 0) = true)
  · exact (rfl : vld σ (14, 0) = true)
  · exact trivial
theorem kst {κ : Kx} {L2 : Tg → Nat} : kl (wL κ L2) = kl κ := by
  obtain ⟨p, l, e, R, s, m, args, below, meth, c, Q, g, L, c0, s0, fc, fs⟩ := κ
  rfl
theorem fit_wL {κ : Kx} {L2 : Tg → Nat} {σ : Sg} (h : Fit κ σ) : Fit (wL κ L2) σ := by
  obtain ⟨p, l, e, R, s, m, args, below, meth, c, Q, g, L, c0, s0, fc, fs⟩ := κ
  exact h
theorem wL_wL {κ : Kx} {L2 L3 : Tg → Nat} : wL (wL κ L2) L3 = wL κ L3 := by
  obtain ⟨p, l, e, R, s, m, args, below, meth, c, Q, g, L, c0, s0, fc, fs⟩ := κ
  rfl
def q_0 (a _ : Int32) (σ : Sg) : Option Sg := (w_send [ar (0, 0), ai a, ar (14, 0)] σ).bind fun o => (f_X3_send [ar (11, 0), ai a] o.2).bind fun p => (f_X3_thrown [ar (11, 0)] p.2).bind fun t => match o.1, p.1, t.1 with
  | .inl (some (.inl (.int kk))), .inl (some (.inl (.int v))), .inl (some (.inl (.int h))) => if sleB σ o.2 = true ∧ sleB o.2 p.2 = true ∧ sleB p.2 t.2 = true ∧ h = kk ∧ (kk = 0 → t.2.2.2.2 = v.toInt64) then some t.2 else none
  | _, _, _ => none
theorem u_0 {κ : Kx} (hx : Hx κ cL_law 7 RL 16 620) (hr : Hr κ (some .boolean)) (hX : xNI (ks κ)) {bs n i : Nat} {xs : Nat → Int32} {a b : Int32} (hS : Scr κ bs n xs) (hi : i + 2 < n) (hn : n < 65536) (ha : xs (i + 1) = a) (hb : xs (i + 2) = b) {σ σF : Sg} (hq : q_0 a b σ = some σF) (fit : Fit κ σF) (k : ∀ L2 : Tg → Nat, (∀ u, vld σ u = true → L2 u = kL κ u) → ∀ v5 v6, Acf (wL κ L2) 1864 [] (lcL bs i v5 v6) σF) : sle σ σF ∧ Acf κ 176 [] (lcL bs i none none) σ := by
  have hst := hx.st
  unfold q_0 at hq
  obtain ⟨⟨r1, τ1⟩, h1, hq⟩ := obs hq
  obtain ⟨⟨r2, τ2⟩, h2, hq⟩ := obs hq
  obtain ⟨⟨r3, τ3⟩, h3, hq⟩ := obs hq
  dsimp only at hq h2 h3
  split at hq
  · rename_i kk v h
    obtain ⟨⟨s1, s2, s3, e, ej⟩, hq⟩ := ite_s hq
    cases hq
    subst e
    have s1 := sleB_sle s1
    have s2 := sleB_sle s2
    have s3 := sleB_sle s3
    refine ⟨s1.trans (s2.trans s3), ?_⟩
    refine A_aload_n (i := 1) hx dL_law_176 rfl (A_arg1 hx hS hi hn ha rfl rfl dL_law_177 dL_law_178 dL_law_180 dL_law_181 dL_law_182 (A_aload_n (i := 3) hx dL_law_183 rfl (?_)))
    refine A_callSW (as := [ar (0, 0), ai a, ar (14, 0)]) (rest := []) hx XT_N hX rfl (c_W_send hst) h1 ⟨_, rfl⟩ s1 (fun v hv => by simp at hv; rcases hv with rfl | rfl | rfl; exact Or.inr (Or.inl ⟨_, rfl⟩); exact Or.inl ⟨_, rfl⟩; exact Or.inr (Or.inl ⟨_, rfl⟩)) uw_L_send um_L_105 ut_L_send un_L ⟨by decide, by decide, rfl⟩ (by decide) (by decide) (by decide) dL_law_184 (fit.le (s2.trans s3)) (fun w hw => fX0 hw) (fun w hw => by cases hw) (fun L2 hL2 v9 hv9 => ?_)
    cases hv9
    have hx2 : Hx (wL κ L2) cL_law 7 RL 16 620 := hx.wL
    have hr2 : Hr (wL κ L2) (some .boolean) := hr.wL
    have hS2 : Scr (wL κ L2) bs n xs := hS.wL
    have hst2 := hx2.st
    have k9 := k L2 hL2
    have fit2 := fit_wL (L2 := L2) fit
    refine A_istore hx2 dL_law_187 (by show 5 < 7; decide) ?_
    refine A_aload_n (i := 2) hx2 dL_law_189 rfl (A_arg1 hx2 hS2 hi hn ha rfl rfl dL_law_190 dL_law_191 dL_law_193 dL_law_194 dL_law_195 (?_))
    refine A_callV (as := [ai a]) (rest := []) (b := (11, 0)) hx2 hr2 rfl (c_X3_send hst2) h2 s2 (fun v hv => by simp at hv; subst hv; exact Or.inl ⟨_, rfl⟩) uc_X3_send um_L_110 ui_X3_send us_X3_send un_X3 ⟨rfl, by decide, by decide, rfl⟩ rfl rfl rfl (by decide) (by decide) (by decide) dL_law_196 (fit2.le s3) (fun v9 hv9 => ?_) (fun n hn => by cases hn)
    cases hv9
    refine A_istore hx2 dL_law_199 (by show 6 < 7; decide) ?_
    refine A_aload_n (i := 2) hx2 dL_law_201 rfl ?_
    refine A_callV (as := []) (rest := []) (b := (11, 0)) hx2 hr2 rfl (c_X3_thrown hst2) h3 s3 (fun v hv => by cases hv) uc_X3_thrown um_L_111 ui_X3_thrown us_X3_thrown un_X3 ⟨rfl, by decide, by decide, rfl⟩ rfl rfl rfl (by decide) (by decide) (by decide) dL_law_202 fit2 (fun v9 hv9 => ?_) (fun n hn => by cases hn)
    cases hv9
    refine A_iload hx2 dL_law_205 rfl (A_icmp_eq (tgt := 212) hx2 dL_law_207 (by decide) (fun _ => ?_) (fun q => absurd rfl q))
    refine A_iload hx2 dL_law_212 rfl (A_if_ne (tgt := 229) hx2 dL_law_214 (by decide) (fun _ => ?_) (fun q => ?_))
    · exact A_goto (tgt := 1864) hx2 dL_law_229 (by decide) (k9 (some (ai _)) (some (ai _)))
    · have ej := ej q
      refine A_aload_n (i := 3) hx2 dL_law_217 rfl (A_iconst (v := 0) hx2 dL_law_218 (by decide) (A_laldJ hx2 dL_law_219 (A_iload hx2 dL_law_220 rfl (A_i2l hx2 dL_law_222 ?_))))
      rw [ej]
      exact A_lcmpE hx2 dL_law_223 (A_if_eq (tgt := 229) hx2 dL_law_224 (by decide) (fun _ => A_goto (tgt := 1864) hx2 dL_law_229 (by decide) (k9 (some (ai _)) (some (ai _)))) (fun q => absurd rfl q))
  · cases hq
def q_1 (a b : Int32) (σ : Sg) : Option Sg := (w_arrive [ar (0, 0), ai a, ai b, ar (14, 0)] σ).bind fun o => (f_X3_arrive [ar (11, 0), ai a, ai b] o.2).bind fun p => (f_X3_thrown [ar (11, 0)] p.2).bind fun t => match o.1, p.1, t.1 with
  | .inl (some (.inl (.int kk))), .inl (some (.inl (.int v))), .inl (some (.inl (.int h))) => if sleB σ o.2 = true ∧ sleB o.2 p.2 = true ∧ sleB p.2 t.2 = true ∧ h = kk ∧ (kk = 0 → t.2.2.2.2 = v.toInt64) then some t.2 else none
  | _, _, _ => none
theorem u_1 {κ : Kx} (hx : Hx κ cL_law 7 RL 16 620) (hr : Hr κ (some .boolean)) (hX : xNI (ks κ)) {bs n i : Nat} {xs : Nat → Int32} {a b : Int32} (hS : Scr κ bs n xs) (hi : i + 2 < n) (hn : n < 65536) (ha : xs (i + 1) = a) (hb : xs (i + 2) = b) {σ σF : Sg} (hq : q_1 a b σ = some σF) (fit : Fit κ σF) (k : ∀ L2 : Tg → Nat, (∀ u, vld σ u = true → L2 u = kL κ u) → ∀ v5 v6, Acf (wL κ L2) 1864 [] (lcL bs i v5 v6) σF) : sle σ σF ∧ Acf κ 232 [] (lcL bs i none none) σ := by
  have hst := hx.st
  unfold q_1 at hq
  obtain ⟨⟨r1, τ1⟩, h1, hq⟩ := obs hq
  obtain ⟨⟨r2, τ2⟩, h2, hq⟩ := obs hq
  obtain ⟨⟨r3, τ3⟩, h3, hq⟩ := obs hq
  dsimp only at hq h2 h3
  split at hq
  · rename_i kk v h
    obtain ⟨⟨s1, s2, s3, e, ej⟩, hq⟩ := ite_s hq
    cases hq
    subst e
    have s1 := sleB_sle s1
    have s2 := sleB_sle s2
    have s3 := sleB_sle s3
    refine ⟨s1.trans (s2.trans s3), ?_⟩
    refine A_aload_n (i := 1) hx dL_law_232 rfl (A_arg1 hx hS hi hn ha rfl rfl dL_law_233 dL_law_234 dL_law_236 dL_law_237 dL_law_238 (A_arg2 hx hS hi hn hb rfl rfl dL_law_239 dL_law_240 dL_law_242 dL_law_243 dL_law_244 (A_aload_n (i := 3) hx dL_law_245 rfl (?_))))
    refine A_callSW (as := [ar (0, 0), ai a, ai b, ar (14, 0)]) (rest := []) hx XT_N hX rfl (c_W_arrive hst) h1 ⟨_, rfl⟩ s1 (fun v hv => by simp at hv; rcases hv with rfl | rfl | rfl | rfl; exact Or.inr (Or.inl ⟨_, rfl⟩); exact Or.inl ⟨_, rfl⟩; exact Or.inl ⟨_, rfl⟩; exact Or.inr (Or.inl ⟨_, rfl⟩)) uw_L_arrive um_L_114 ut_L_arrive un_L ⟨by decide, by decide, rfl⟩ (by decide) (by decide) (by decide) dL_law_246 (fit.le (s2.trans s3)) (fun w hw => fX0 hw) (fun w hw => by cases hw) (fun L2 hL2 v9 hv9 => ?_)
    cases hv9
    have hx2 : Hx (wL κ L2) cL_law 7 RL 16 620 := hx.wL
    have hr2 : Hr (wL κ L2) (some .boolean) := hr.wL
    have hS2 : Scr (wL κ L2) bs n xs := hS.wL
    have hst2 := hx2.st
    have k9 := k L2 hL2
    have fit2 := fit_wL (L2 := L2) fit
    refine A_istore hx2 dL_law_249 (by show 5 < 7; decide) ?_
    refine A_aload_n (i := 2) hx2 dL_law_251 rfl (A_arg1 hx2 hS2 hi hn ha rfl rfl dL_law_252 dL_law_253 dL_law_255 dL_law_256 dL_law_257 (A_arg2 hx2 hS2 hi hn hb rfl rfl dL_law_258 dL_law_259 dL_law_261 dL_law_262 dL_law_263 (?_)))
    refine A_callV (as := [ai a, ai b]) (rest := []) (b := (11, 0)) hx2 hr2 rfl (c_X3_arrive hst2) h2 s2 (fun v hv => by simp at hv; rcases hv with rfl | rfl; exact Or.inl ⟨_, rfl⟩; exact Or.inl ⟨_, rfl⟩) uc_X3_arrive um_L_117 ui_X3_arrive us_X3_arrive un_X3 ⟨rfl, by decide, by decide, rfl⟩ rfl rfl rfl (by decide) (by decide) (by decide) dL_law_264 (fit2.le s3) (fun v9 hv9 => ?_) (fun n hn => by cases hn)
    cases hv9
    refine A_istore hx2 dL_law_267 (by show 6 < 7; decide) ?_
    refine A_aload_n (i := 2) hx2 dL_law_269 rfl ?_
    refine A_callV (as := []) (rest := []) (b := (11, 0)) hx2 hr2 rfl (c_X3_thrown hst2) h3 s3 (fun v hv => by cases hv) uc_X3_thrown um_L_111 ui_X3_thrown us_X3_thrown un_X3 ⟨rfl, by decide, by decide, rfl⟩ rfl rfl rfl (by decide) (by decide) (by decide) dL_law_270 fit2 (fun v9 hv9 => ?_) (fun n hn => by cases hn)
    cases hv9
    refine A_iload hx2 dL_law_273 rfl (A_icmp_eq (tgt := 280) hx2 dL_law_275 (by decide) (fun _ => ?_) (fun q => absurd rfl q))
    refine A_iload hx2 dL_law_280 rfl (A_if_ne (tgt := 297) hx2 dL_law_282 (by decide) (fun _ => ?_) (fun q => ?_))
    · exact A_goto (tgt := 1864) hx2 dL_law_297 (by decide) (k9 (some (ai _)) (some (ai _)))
    · have ej := ej q
      refine A_aload_n (i := 3) hx2 dL_law_285 rfl (A_iconst (v := 0) hx2 dL_law_286 (by decide) (A_laldJ hx2 dL_law_287 (A_iload hx2 dL_law_288 rfl (A_i2l hx2 dL_law_290 ?_))))
      rw [ej]
      exact A_lcmpE hx2 dL_law_291 (A_if_eq (tgt := 297) hx2 dL_law_292 (by decide) (fun _ => A_goto (tgt := 1864) hx2 dL_law_297 (by decide) (k9 (some (ai _)) (some (ai _)))) (fun q => absurd rfl q))
  · cases hq
def q_2 (a b : Int32) (σ : Sg) : Option Sg := (w_lose [ar (0, 0), ai a, ai b] σ).bind fun o => (f_X3_lose [ar (11, 0), ai a, ai b] o.2).bind fun p => (f_X3_thrown [ar (11, 0)] p.2).bind fun t => match o.1, p.1, t.1 with
  | .inl (some (.inl (.int kk))), .inl none, .inl (some (.inl (.int h))) => if sleB σ o.2 = true ∧ sleB o.2 p.2 = true ∧ sleB p.2 t.2 = true ∧ h = kk then some t.2 else none
  | _, _, _ => none
theorem u_2 {κ : Kx} (hx : Hx κ cL_law 7 RL 16 620) (hr : Hr κ (some .boolean)) (hX : xNI (ks κ)) {bs n i : Nat} {xs : Nat → Int32} {a b : Int32} (hS : Scr κ bs n xs) (hi : i + 2 < n) (hn : n < 65536) (ha : xs (i + 1) = a) (hb : xs (i + 2) = b) {σ σF : Sg} (hq : q_2 a b σ = some σF) (fit : Fit κ σF) (k : ∀ L2 : Tg → Nat, (∀ u, vld σ u = true → L2 u = kL κ u) → ∀ v5 v6, Acf (wL κ L2) 1864 [] (lcL bs i v5 v6) σF) : sle σ σF ∧ Acf κ 300 [] (lcL bs i none none) σ := by
  have hst := hx.st
  unfold q_2 at hq
  obtain ⟨⟨r1, τ1⟩, h1, hq⟩ := obs hq
  obtain ⟨⟨r2, τ2⟩, h2, hq⟩ := obs hq
  obtain ⟨⟨r3, τ3⟩, h3, hq⟩ := obs hq
  dsimp only at hq h2 h3
  split at hq
  · rename_i kk h
    obtain ⟨⟨s1, s2, s3, e⟩, hq⟩ := ite_s hq
    cases hq
    subst e
    have s1 := sleB_sle s1
    have s2 := sleB_sle s2
    have s3 := sleB_sle s3
    refine ⟨s1.trans (s2.trans s3), ?_⟩
    refine A_aload_n (i := 1) hx dL_law_300 rfl (A_arg1 hx hS hi hn ha rfl rfl dL_law_301 dL_law_302 dL_law_304 dL_law_305 dL_law_306 (A_arg2 hx hS hi hn hb rfl rfl dL_law_307 dL_law_308 dL_law_310 dL_law_311 dL_law_312 (?_)))
    refine A_callSW (as := [ar (0, 0), ai a, ai b]) (rest := []) hx XT_N hX rfl (c_W_lose hst) h1 ⟨_, rfl⟩ s1 (fun v hv => by simp at hv; rcases hv with rfl | rfl | rfl; exact Or.inr (Or.inl ⟨_, rfl⟩); exact Or.inl ⟨_, rfl⟩; exact Or.inl ⟨_, rfl⟩) uw_L_lose um_L_118 ut_L_lose un_L ⟨by decide, by decide, rfl⟩ (by decide) (by decide) (by decide) dL_law_313 (fit.le (s2.trans s3)) (fun w hw => fX0 hw) (fun w hw => by cases hw) (fun L2 hL2 v9 hv9 => ?_)
    cases hv9
    have hx2 : Hx (wL κ L2) cL_law 7 RL 16 620 := hx.wL
    have hr2 : Hr (wL κ L2) (some .boolean) := hr.wL
    have hS2 : Scr (wL κ L2) bs n xs := hS.wL
    have hst2 := hx2.st
    have k9 := k L2 hL2
    have fit2 := fit_wL (L2 := L2) fit
    refine A_istore hx2 dL_law_316 (by show 5 < 7; decide) ?_
    refine A_aload_n (i := 2) hx2 dL_law_318 rfl (A_arg1 hx2 hS2 hi hn ha rfl rfl dL_law_319 dL_law_320 dL_law_322 dL_law_323 dL_law_324 (A_arg2 hx2 hS2 hi hn hb rfl rfl dL_law_325 dL_law_326 dL_law_328 dL_law_329 dL_law_330 (?_)))
    refine A_callV (as := [ai a, ai b]) (rest := []) (b := (11, 0)) hx2 hr2 rfl (c_X3_lose hst2) h2 s2 (fun v hv => by simp at hv; rcases hv with rfl | rfl; exact Or.inl ⟨_, rfl⟩; exact Or.inl ⟨_, rfl⟩) uc_X3_lose um_L_121 ui_X3_lose us_X3_lose un_X3 ⟨rfl, by decide, by decide, rfl⟩ rfl rfl rfl (by decide) (by decide) (by decide) dL_law_331 (fit2.le s3) (fun v9 hv9 => ?_) (fun n hn => by cases hn)
    cases hv9
    refine A_aload_n (i := 2) hx2 dL_law_334 rfl ?_
    refine A_callV (as := []) (rest := []) (b := (11, 0)) hx2 hr2 rfl (c_X3_thrown hst2) h3 s3 (fun v hv => by cases hv) uc_X3_thrown um_L_111 ui_X3_thrown us_X3_thrown un_X3 ⟨rfl, by decide, by decide, rfl⟩ rfl rfl rfl (by decide) (by decide) (by decide) dL_law_335 fit2 (fun v9 hv9 => ?_) (fun n hn => by cases hn)
    cases hv9
    refine A_iload hx2 dL_law_338 rfl (A_icmp_eq (tgt := 345) hx2 dL_law_340 (by decide) (fun _ => ?_) (fun q => absurd rfl q))
    exact A_goto (tgt := 1864) hx2 dL_law_345 (by decide) (k9 (some (ai _)) none)
  · cases hq
def q_3 (a b : Int32) (σ : Sg) : Option Sg := (w_sendAgain [ar (0, 0), ai a, ai b] σ).bind fun o => (f_X3_sendAgain [ar (11, 0), ai a, ai b] o.2).bind fun p => (f_X3_thrown [ar (11, 0)] p.2).bind fun t => match o.1, p.1, t.1 with
  | .inl (some (.inl (.int kk))), .inl none, .inl (some (.inl (.int h))) => if sleB σ o.2 = true ∧ sleB o.2 p.2 = true ∧ sleB p.2 t.2 = true ∧ h = kk then some t.2 else none
  | _, _, _ => none
theorem u_3 {κ : Kx} (hx : Hx κ cL_law 7 RL 16 620) (hr : Hr κ (some .boolean)) (hX : xNI (ks κ)) {bs n i : Nat} {xs : Nat → Int32} {a b : Int32} (hS : Scr κ bs n xs) (hi : i + 2 < n) (hn : n < 65536) (ha : xs (i + 1) = a) (hb : xs (i + 2) = b) {σ σF : Sg} (hq : q_3 a b σ = some σF) (fit : Fit κ σF) (k : ∀ L2 : Tg → Nat, (∀ u, vld σ u = true → L2 u = kL κ u) → ∀ v5 v6, Acf (wL κ L2) 1864 [] (lcL bs i v5 v6) σF) : sle σ σF ∧ Acf κ 348 [] (lcL bs i none none) σ := by
  have hst := hx.st
  unfold q_3 at hq
  obtain ⟨⟨r1, τ1⟩, h1, hq⟩ := obs hq
  obtain ⟨⟨r2, τ2⟩, h2, hq⟩ := obs hq
  obtain ⟨⟨r3, τ3⟩, h3, hq⟩ := obs hq
  dsimp only at hq h2 h3
  split at hq
  · rename_i kk h
    obtain ⟨⟨s1, s2, s3, e⟩, hq⟩ := ite_s hq
    cases hq
    subst e
    have s1 := sleB_sle s1
    have s2 := sleB_sle s2
    have s3 := sleB_sle s3
    refine ⟨s1.trans (s2.trans s3), ?_⟩
    refine A_aload_n (i := 1) hx dL_law_348 rfl (A_arg1 hx hS hi hn ha rfl rfl dL_law_349 dL_law_350 dL_law_352 dL_law_353 dL_law_354 (A_arg2 hx hS hi hn hb rfl rfl dL_law_355 dL_law_356 dL_law_358 dL_law_359 dL_law_360 (?_)))
    refine A_callSW (as := [ar (0, 0), ai a, ai b]) (rest := []) hx XT_N hX rfl (c_W_sendAgain hst) h1 ⟨_, rfl⟩ s1 (fun v hv => by simp at hv; rcases hv with rfl | rfl | rfl; exact Or.inr (Or.inl ⟨_, rfl⟩); exact Or.inl ⟨_, rfl⟩; exact Or.inl ⟨_, rfl⟩) uw_L_sendAgain um_L_122 ut_L_sendAgain un_L ⟨by decide, by decide, rfl⟩ (by decide) (by decide) (by decide) dL_law_361 (fit.le (s2.trans s3)) (fun w hw => fX0 hw) (fun w hw => by cases hw) (fun L2 hL2 v9 hv9 => ?_)
    cases hv9
    have hx2 : Hx (wL κ L2) cL_law 7 RL 16 620 := hx.wL
    have hr2 : Hr (wL κ L2) (some .boolean) := hr.wL
    have hS2 : Scr (wL κ L2) bs n xs := hS.wL
    have hst2 := hx2.st
    have k9 := k L2 hL2
    have fit2 := fit_wL (L2 := L2) fit
    refine A_istore hx2 dL_law_364 (by show 5 < 7; decide) ?_
    refine A_aload_n (i := 2) hx2 dL_law_366 rfl (A_arg1 hx2 hS2 hi hn ha rfl rfl dL_law_367 dL_law_368 dL_law_370 dL_law_371 dL_law_372 (A_arg2 hx2 hS2 hi hn hb rfl rfl dL_law_373 dL_law_374 dL_law_376 dL_law_377 dL_law_378 (?_)))
    refine A_callV (as := [ai a, ai b]) (rest := []) (b := (11, 0)) hx2 hr2 rfl (c_X3_sendAgain hst2) h2 s2 (fun v hv => by simp at hv; rcases hv with rfl | rfl; exact Or.inl ⟨_, rfl⟩; exact Or.inl ⟨_, rfl⟩) uc_X3_sendAgain um_L_124 ui_X3_sendAgain us_X3_sendAgain un_X3 ⟨rfl, by decide, by decide, rfl⟩ rfl rfl rfl (by decide) (by decide) (by decide) dL_law_379 (fit2.le s3) (fun v9 hv9 => ?_) (fun n hn => by cases hn)
    cases hv9
    refine A_aload_n (i := 2) hx2 dL_law_382 rfl ?_
    refine A_callV (as := []) (rest := []) (b := (11, 0)) hx2 hr2 rfl (c_X3_thrown hst2) h3 s3 (fun v hv => by cases hv) uc_X3_thrown um_L_111 ui_X3_thrown us_X3_thrown un_X3 ⟨rfl, by decide, by decide, rfl⟩ rfl rfl rfl (by decide) (by decide) (by decide) dL_law_383 fit2 (fun v9 hv9 => ?_) (fun n hn => by cases hn)
    cases hv9
    refine A_iload hx2 dL_law_386 rfl (A_icmp_eq (tgt := 393) hx2 dL_law_388 (by decide) (fun _ => ?_) (fun q => absurd rfl q))
    exact A_goto (tgt := 1864) hx2 dL_law_393 (by decide) (k9 (some (ai _)) none)
  · cases hq
def q_4 (_ _ : Int32) (σ : Sg) : Option Sg := (f_X2_messages [ar (0, 0)] σ).bind fun o => (f_X3_messages [ar (11, 0)] o.2).bind fun p => match o.1, p.1 with
  | .inl (some (.inl (.int v))), .inl (some (.inl (.int w))) => if sleB σ o.2 = true ∧ sleB o.2 p.2 = true ∧ v = w then some p.2 else none
  | _, _ => none
theorem u_4 {κ : Kx} (hx : Hx κ cL_law 7 RL 16 620) (hr : Hr κ (some .boolean)) (hX : xNI (ks κ)) {bs n i : Nat} {xs : Nat → Int32} {a b : Int32} (hS : Scr κ bs n xs) (hi : i + 2 < n) (hn : n < 65536) (ha : xs (i + 1) = a) (hb : xs (i + 2) = b) {σ σF : Sg} (hq : q_4 a b σ = some σF) (fit : Fit κ σF) (k : ∀ L2 : Tg → Nat, (∀ u, vld σ u = true → L2 u = kL κ u) → ∀ v5 v6, Acf (wL κ L2) 1864 [] (lcL bs i v5 v6) σF) : sle σ σF ∧ Acf κ 396 [] (lcL bs i none none) σ := by
  have hst := hx.st
  unfold q_4 at hq
  obtain ⟨⟨r1, τ1⟩, h1, hq⟩ := obs hq
  obtain ⟨⟨r2, τ2⟩, h2, hq⟩ := obs hq
  dsimp only at hq h2
  split at hq
  · rename_i v w
    obtain ⟨⟨s1, s2, e⟩, hq⟩ := ite_s hq
    cases hq
    subst e
    have s1 := sleB_sle s1
    have s2 := sleB_sle s2
    refine ⟨s1.trans s2, ?_⟩
    have k9 := k (kL κ) (fun _ _ => rfl) none none
    rw [wL_self] at k9
    refine A_aload_n (i := 1) hx dL_law_396 rfl (A_callV (as := []) (rest := []) (b := (0, 0)) hx hr rfl (c_X2_messages hst) h1 s1 (fun v hv => by cases hv) uc_X2_messages um_L_125 ui_X2_messages us_X2_messages un_X2 ⟨rfl, by decide, by decide, rfl⟩ rfl rfl rfl (by decide) (by decide) (by decide) dL_law_397 (fit.le s2) (fun v9 hv9 => ?_) (fun n hn => by cases hn))
    cases hv9
    refine A_aload_n (i := 2) hx dL_law_400 rfl (A_callV (as := []) (rest := [ai _]) (b := (11, 0)) hx hr rfl (c_X3_messages hst) h2 s2 (fun v hv => by cases hv) uc_X3_messages um_L_128 ui_X3_messages us_X3_messages un_X3 ⟨rfl, by decide, by decide, rfl⟩ rfl rfl rfl (by simp [wt, wtA, Value.category]) (by decide) (by decide) dL_law_401 fit (fun v9 hv9 => ?_) (fun n hn => by cases hn))
    cases hv9
    exact A_icmp_eq (tgt := 1864) hx dL_law_404 (by decide) (fun _ => k9) (fun q => absurd rfl q)
  · cases hq
def q_5 (a _ : Int32) (σ : Sg) : Option Sg := (w_sender [ar (0, 0), ai a, ar (14, 0)] σ).bind fun o => (f_X3_sender [ar (11, 0), ai a] o.2).bind fun p => (f_X3_thrown [ar (11, 0)] p.2).bind fun t => match o.1, p.1, t.1 with
  | .inl (some (.inl (.int kk))), .inl (some (.inl (.int v))), .inl (some (.inl (.int h))) => if sleB σ o.2 = true ∧ sleB o.2 p.2 = true ∧ sleB p.2 t.2 = true ∧ h = kk ∧ (kk = 0 → t.2.2.2.2 = v.toInt64) then some t.2 else none
  | _, _, _ => none
theorem u_5 {κ : Kx} (hx : Hx κ cL_law 7 RL 16 620) (hr : Hr κ (some .boolean)) (hX : xNI (ks κ)) {bs n i : Nat} {xs : Nat → Int32} {a b : Int32} (hS : Scr κ bs n xs) (hi : i + 2 < n) (hn : n < 65536) (ha : xs (i + 1) = a) (hb : xs (i + 2) = b) {σ σF : Sg} (hq : q_5 a b σ = some σF) (fit : Fit κ σF) (k : ∀ L2 : Tg → Nat, (∀ u, vld σ u = true → L2 u = kL κ u) → ∀ v5 v6, Acf (wL κ L2) 1864 [] (lcL bs i v5 v6) σF) : sle σ σF ∧ Acf κ 409 [] (lcL bs i none none) σ := by
  have hst := hx.st
  unfold q_5 at hq
  obtain ⟨⟨r1, τ1⟩, h1, hq⟩ := obs hq
  obtain ⟨⟨r2, τ2⟩, h2, hq⟩ := obs hq
  obtain ⟨⟨r3, τ3⟩, h3, hq⟩ := obs hq
  dsimp only at hq h2 h3
  split at hq
  · rename_i kk v h
    obtain ⟨⟨s1, s2, s3, e, ej⟩, hq⟩ := ite_s hq
    cases hq
    subst e
    have s1 := sleB_sle s1
    have s2 := sleB_sle s2
    have s3 := sleB_sle s3
    refine ⟨s1.trans (s2.trans s3), ?_⟩
    refine A_aload_n (i := 1) hx dL_law_409 rfl (A_arg1 hx hS hi hn ha rfl rfl dL_law_410 dL_law_411 dL_law_413 dL_law_414 dL_law_415 (A_aload_n (i := 3) hx dL_law_416 rfl (?_)))
    refine A_callSW (as := [ar (0, 0), ai a, ar (14, 0)]) (rest := []) hx XT_N hX rfl (c_W_sender hst) h1 ⟨_, rfl⟩ s1 (fun v hv => by simp at hv; rcases hv with rfl | rfl | rfl; exact Or.inr (Or.inl ⟨_, rfl⟩); exact Or.inl ⟨_, rfl⟩; exact Or.inr (Or.inl ⟨_, rfl⟩)) uw_L_sender um_L_129 ut_L_sender un_L ⟨by decide, by decide, rfl⟩ (by decide) (by decide) (by decide) dL_law_417 (fit.le (s2.trans s3)) (fun w hw => fX0 hw) (fun w hw => by cases hw) (fun L2 hL2 v9 hv9 => ?_)
    cases hv9
    have hx2 : Hx (wL κ L2) cL_law 7 RL 16 620 := hx.wL
    have hr2 : Hr (wL κ L2) (some .boolean) := hr.wL
    have hS2 : Scr (wL κ L2) bs n xs := hS.wL
    have hst2 := hx2.st
    have k9 := k L2 hL2
    have fit2 := fit_wL (L2 := L2) fit
    refine A_istore hx2 dL_law_420 (by show 5 < 7; decide) ?_
    refine A_aload_n (i := 2) hx2 dL_law_422 rfl (A_arg1 hx2 hS2 hi hn ha rfl rfl dL_law_423 dL_law_424 dL_law_426 dL_law_427 dL_law_428 (?_))
    refine A_callV (as := [ai a]) (rest := []) (b := (11, 0)) hx2 hr2 rfl (c_X3_sender hst2) h2 s2 (fun v hv => by simp at hv; subst hv; exact Or.inl ⟨_, rfl⟩) uc_X3_sender um_L_131 ui_X3_sender us_X3_sender un_X3 ⟨rfl, by decide, by decide, rfl⟩ rfl rfl rfl (by decide) (by decide) (by decide) dL_law_429 (fit2.le s3) (fun v9 hv9 => ?_) (fun n hn => by cases hn)
    cases hv9
    refine A_istore hx2 dL_law_432 (by show 6 < 7; decide) ?_
    refine A_aload_n (i := 2) hx2 dL_law_434 rfl ?_
    refine A_callV (as := []) (rest := []) (b := (11, 0)) hx2 hr2 rfl (c_X3_thrown hst2) h3 s3 (fun v hv => by cases hv) uc_X3_thrown um_L_111 ui_X3_thrown us_X3_thrown un_X3 ⟨rfl, by decide, by decide, rfl⟩ rfl rfl rfl (by decide) (by decide) (by decide) dL_law_435 fit2 (fun v9 hv9 => ?_) (fun n hn => by cases hn)
    cases hv9
    refine A_iload hx2 dL_law_438 rfl (A_icmp_eq (tgt := 445) hx2 dL_law_440 (by decide) (fun _ => ?_) (fun q => absurd rfl q))
    refine A_iload hx2 dL_law_445 rfl (A_if_ne (tgt := 462) hx2 dL_law_447 (by decide) (fun _ => ?_) (fun q => ?_))
    · exact A_goto (tgt := 1864) hx2 dL_law_462 (by decide) (k9 (some (ai _)) (some (ai _)))
    · have ej := ej q
      refine A_aload_n (i := 3) hx2 dL_law_450 rfl (A_iconst (v := 0) hx2 dL_law_451 (by decide) (A_laldJ hx2 dL_law_452 (A_iload hx2 dL_law_453 rfl (A_i2l hx2 dL_law_455 ?_))))
      rw [ej]
      exact A_lcmpE hx2 dL_law_456 (A_if_eq (tgt := 462) hx2 dL_law_457 (by decide) (fun _ => A_goto (tgt := 1864) hx2 dL_law_462 (by decide) (k9 (some (ai _)) (some (ai _)))) (fun q => absurd rfl q))
  · cases hq
def q_6 (a b : Int32) (σ : Sg) : Option Sg := (w_copy [ar (0, 0), ai a, ai b, ar (14, 0)] σ).bind fun o => (f_X3_copy [ar (11, 0), ai a, ai b] o.2).bind fun p => (f_X3_thrown [ar (11, 0)] p.2).bind fun t => match o.1, p.1, t.1 with
  | .inl (some (.inl (.int kk))), .inl (some (.inl (.int v))), .inl (some (.inl (.int h))) => if sleB σ o.2 = true ∧ sleB o.2 p.2 = true ∧ sleB p.2 t.2 = true ∧ h = kk ∧ (kk = 0 → t.2.2.2.2 = v.toInt64) then some t.2 else none
  | _, _, _ => none
theorem u_6 {κ : Kx} (hx : Hx κ cL_law 7 RL 16 620) (hr : Hr κ (some .boolean)) (hX : xNI (ks κ)) {bs n i : Nat} {xs : Nat → Int32} {a b : Int32} (hS : Scr κ bs n xs) (hi : i + 2 < n) (hn : n < 65536) (ha : xs (i + 1) = a) (hb : xs (i + 2) = b) {σ σF : Sg} (hq : q_6 a b σ = some σF) (fit : Fit κ σF) (k : ∀ L2 : Tg → Nat, (∀ u, vld σ u = true → L2 u = kL κ u) → ∀ v5 v6, Acf (wL κ L2) 1864 [] (lcL bs i v5 v6) σF) : sle σ σF ∧ Acf κ 465 [] (lcL bs i none none) σ := by
  have hst := hx.st
  unfold q_6 at hq
  obtain ⟨⟨r1, τ1⟩, h1, hq⟩ := obs hq
  obtain ⟨⟨r2, τ2⟩, h2, hq⟩ := obs hq
  obtain ⟨⟨r3, τ3⟩, h3, hq⟩ := obs hq
  dsimp only at hq h2 h3
  split at hq
  · rename_i kk v h
    obtain ⟨⟨s1, s2, s3, e, ej⟩, hq⟩ := ite_s hq
    cases hq
    subst e
    have s1 := sleB_sle s1
    have s2 := sleB_sle s2
    have s3 := sleB_sle s3
    refine ⟨s1.trans (s2.trans s3), ?_⟩
    refine A_aload_n (i := 1) hx dL_law_465 rfl (A_arg1 hx hS hi hn ha rfl rfl dL_law_466 dL_law_467 dL_law_469 dL_law_470 dL_law_471 (A_arg2 hx hS hi hn hb rfl rfl dL_law_472 dL_law_473 dL_law_475 dL_law_476 dL_law_477 (A_aload_n (i := 3) hx dL_law_478 rfl (?_))))
    refine A_callSW (as := [ar (0, 0), ai a, ai b, ar (14, 0)]) (rest := []) hx XT_N hX rfl (c_W_copy hst) h1 ⟨_, rfl⟩ s1 (fun v hv => by simp at hv; rcases hv with rfl | rfl | rfl | rfl; exact Or.inr (Or.inl ⟨_, rfl⟩); exact Or.inl ⟨_, rfl⟩; exact Or.inl ⟨_, rfl⟩; exact Or.inr (Or.inl ⟨_, rfl⟩)) uw_L_copy um_L_132 ut_L_copy un_L ⟨by decide, by decide, rfl⟩ (by decide) (by decide) (by decide) dL_law_479 (fit.le (s2.trans s3)) (fun w hw => fX0 hw) (fun w hw => by cases hw) (fun L2 hL2 v9 hv9 => ?_)
    cases hv9
    have hx2 : Hx (wL κ L2) cL_law 7 RL 16 620 := hx.wL
    have hr2 : Hr (wL κ L2) (some .boolean) := hr.wL
    have hS2 : Scr (wL κ L2) bs n xs := hS.wL
    have hst2 := hx2.st
    have k9 := k L2 hL2
    have fit2 := fit_wL (L2 := L2) fit
    refine A_istore hx2 dL_law_482 (by show 5 < 7; decide) ?_
    refine A_aload_n (i := 2) hx2 dL_law_484 rfl (A_arg1 hx2 hS2 hi hn ha rfl rfl dL_law_485 dL_law_486 dL_law_488 dL_law_489 dL_law_490 (A_arg2 hx2 hS2 hi hn hb rfl rfl dL_law_491 dL_law_492 dL_law_494 dL_law_495 dL_law_496 (?_)))
    refine A_callV (as := [ai a, ai b]) (rest := []) (b := (11, 0)) hx2 hr2 rfl (c_X3_copy hst2) h2 s2 (fun v hv => by simp at hv; rcases hv with rfl | rfl; exact Or.inl ⟨_, rfl⟩; exact Or.inl ⟨_, rfl⟩) uc_X3_copy um_L_134 ui_X3_copy us_X3_copy un_X3 ⟨rfl, by decide, by decide, rfl⟩ rfl rfl rfl (by decide) (by decide) (by decide) dL_law_497 (fit2.le s3) (fun v9 hv9 => ?_) (fun n hn => by cases hn)
    cases hv9
    refine A_istore hx2 dL_law_500 (by show 6 < 7; decide) ?_
    refine A_aload_n (i := 2) hx2 dL_law_502 rfl ?_
    refine A_callV (as := []) (rest := []) (b := (11, 0)) hx2 hr2 rfl (c_X3_thrown hst2) h3 s3 (fun v hv => by cases hv) uc_X3_thrown um_L_111 ui_X3_thrown us_X3_thrown un_X3 ⟨rfl, by decide, by decide, rfl⟩ rfl rfl rfl (by decide) (by decide) (by decide) dL_law_503 fit2 (fun v9 hv9 => ?_) (fun n hn => by cases hn)
    cases hv9
    refine A_iload hx2 dL_law_506 rfl (A_icmp_eq (tgt := 513) hx2 dL_law_508 (by decide) (fun _ => ?_) (fun q => absurd rfl q))
    refine A_iload hx2 dL_law_513 rfl (A_if_ne (tgt := 530) hx2 dL_law_515 (by decide) (fun _ => ?_) (fun q => ?_))
    · exact A_goto (tgt := 1864) hx2 dL_law_530 (by decide) (k9 (some (ai _)) (some (ai _)))
    · have ej := ej q
      refine A_aload_n (i := 3) hx2 dL_law_518 rfl (A_iconst (v := 0) hx2 dL_law_519 (by decide) (A_laldJ hx2 dL_law_520 (A_iload hx2 dL_law_521 rfl (A_i2l hx2 dL_law_523 ?_))))
      rw [ej]
      exact A_lcmpE hx2 dL_law_524 (A_if_eq (tgt := 530) hx2 dL_law_525 (by decide) (fun _ => A_goto (tgt := 1864) hx2 dL_law_530 (by decide) (k9 (some (ai _)) (some (ai _)))) (fun q => absurd rfl q))
  · cases hq
def q_7 (a b : Int32) (σ : Sg) : Option Sg := (w_clock [ar (0, 0), ai a, ai b, ar (14, 0)] σ).bind fun o => (f_X3_clock [ar (11, 0), ai a, ai b] o.2).bind fun p => (f_X3_thrown [ar (11, 0)] p.2).bind fun t => match o.1, p.1, t.1 with
  | .inl (some (.inl (.int kk))), .inl (some (.inl (.int v))), .inl (some (.inl (.int h))) => if sleB σ o.2 = true ∧ sleB o.2 p.2 = true ∧ sleB p.2 t.2 = true ∧ h = kk ∧ (kk = 0 → t.2.2.2.2 = v.toInt64) then some t.2 else none
  | _, _, _ => none
theorem u_7 {κ : Kx} (hx : Hx κ cL_law 7 RL 16 620) (hr : Hr κ (some .boolean)) (hX : xNI (ks κ)) {bs n i : Nat} {xs : Nat → Int32} {a b : Int32} (hS : Scr κ bs n xs) (hi : i + 2 < n) (hn : n < 65536) (ha : xs (i + 1) = a) (hb : xs (i + 2) = b) {σ σF : Sg} (hq : q_7 a b σ = some σF) (fit : Fit κ σF) (k : ∀ L2 : Tg → Nat, (∀ u, vld σ u = true → L2 u = kL κ u) → ∀ v5 v6, Acf (wL κ L2) 1864 [] (lcL bs i v5 v6) σF) : sle σ σF ∧ Acf κ 533 [] (lcL bs i none none) σ := by
  have hst := hx.st
  unfold q_7 at hq
  obtain ⟨⟨r1, τ1⟩, h1, hq⟩ := obs hq
  obtain ⟨⟨r2, τ2⟩, h2, hq⟩ := obs hq
  obtain ⟨⟨r3, τ3⟩, h3, hq⟩ := obs hq
  dsimp only at hq h2 h3
  split at hq
  · rename_i kk v h
    obtain ⟨⟨s1, s2, s3, e, ej⟩, hq⟩ := ite_s hq
    cases hq
    subst e
    have s1 := sleB_sle s1
    have s2 := sleB_sle s2
    have s3 := sleB_sle s3
    refine ⟨s1.trans (s2.trans s3), ?_⟩
    refine A_aload_n (i := 1) hx dL_law_533 rfl (A_arg1 hx hS hi hn ha rfl rfl dL_law_534 dL_law_535 dL_law_537 dL_law_538 dL_law_539 (A_arg2 hx hS hi hn hb rfl rfl dL_law_540 dL_law_541 dL_law_543 dL_law_544 dL_law_545 (A_aload_n (i := 3) hx dL_law_546 rfl (?_))))
    refine A_callSW (as := [ar (0, 0), ai a, ai b, ar (14, 0)]) (rest := []) hx XT_N hX rfl (c_W_clock hst) h1 ⟨_, rfl⟩ s1 (fun v hv => by simp at hv; rcases hv with rfl | rfl | rfl | rfl; exact Or.inr (Or.inl ⟨_, rfl⟩); exact Or.inl ⟨_, rfl⟩; exact Or.inl ⟨_, rfl⟩; exact Or.inr (Or.inl ⟨_, rfl⟩)) uw_L_clock um_L_135 ut_L_clock un_L ⟨by decide, by decide, rfl⟩ (by decide) (by decide) (by decide) dL_law_547 (fit.le (s2.trans s3)) (fun w hw => fX0 hw) (fun w hw => by cases hw) (fun L2 hL2 v9 hv9 => ?_)
    cases hv9
    have hx2 : Hx (wL κ L2) cL_law 7 RL 16 620 := hx.wL
    have hr2 : Hr (wL κ L2) (some .boolean) := hr.wL
    have hS2 : Scr (wL κ L2) bs n xs := hS.wL
    have hst2 := hx2.st
    have k9 := k L2 hL2
    have fit2 := fit_wL (L2 := L2) fit
    refine A_istore hx2 dL_law_550 (by show 5 < 7; decide) ?_
    refine A_aload_n (i := 2) hx2 dL_law_552 rfl (A_arg1 hx2 hS2 hi hn ha rfl rfl dL_law_553 dL_law_554 dL_law_556 dL_law_557 dL_law_558 (A_arg2 hx2 hS2 hi hn hb rfl rfl dL_law_559 dL_law_560 dL_law_562 dL_law_563 dL_law_564 (?_)))
    refine A_callV (as := [ai a, ai b]) (rest := []) (b := (11, 0)) hx2 hr2 rfl (c_X3_clock hst2) h2 s2 (fun v hv => by simp at hv; rcases hv with rfl | rfl; exact Or.inl ⟨_, rfl⟩; exact Or.inl ⟨_, rfl⟩) uc_X3_clock um_L_137 ui_X3_clock us_X3_clock un_X3 ⟨rfl, by decide, by decide, rfl⟩ rfl rfl rfl (by decide) (by decide) (by decide) dL_law_565 (fit2.le s3) (fun v9 hv9 => ?_) (fun n hn => by cases hn)
    cases hv9
    refine A_istore hx2 dL_law_568 (by show 6 < 7; decide) ?_
    refine A_aload_n (i := 2) hx2 dL_law_570 rfl ?_
    refine A_callV (as := []) (rest := []) (b := (11, 0)) hx2 hr2 rfl (c_X3_thrown hst2) h3 s3 (fun v hv => by cases hv) uc_X3_thrown um_L_111 ui_X3_thrown us_X3_thrown un_X3 ⟨rfl, by decide, by decide, rfl⟩ rfl rfl rfl (by decide) (by decide) (by decide) dL_law_571 fit2 (fun v9 hv9 => ?_) (fun n hn => by cases hn)
    cases hv9
    refine A_iload hx2 dL_law_574 rfl (A_icmp_eq (tgt := 581) hx2 dL_law_576 (by decide) (fun _ => ?_) (fun q => absurd rfl q))
    refine A_iload hx2 dL_law_581 rfl (A_if_ne (tgt := 598) hx2 dL_law_583 (by decide) (fun _ => ?_) (fun q => ?_))
    · exact A_goto (tgt := 1864) hx2 dL_law_598 (by decide) (k9 (some (ai _)) (some (ai _)))
    · have ej := ej q
      refine A_aload_n (i := 3) hx2 dL_law_586 rfl (A_iconst (v := 0) hx2 dL_law_587 (by decide) (A_laldJ hx2 dL_law_588 (A_iload hx2 dL_law_589 rfl (A_i2l hx2 dL_law_591 ?_))))
      rw [ej]
      exact A_lcmpE hx2 dL_law_592 (A_if_eq (tgt := 598) hx2 dL_law_593 (by decide) (fun _ => A_goto (tgt := 1864) hx2 dL_law_598 (by decide) (k9 (some (ai _)) (some (ai _)))) (fun q => absurd rfl q))
  · cases hq
