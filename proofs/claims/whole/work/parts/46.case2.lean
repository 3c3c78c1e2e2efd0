/-! one round of the law's loop, further cases (laid by wip/whole/gen/cases.py) -/
def q_16 (a b : Int32) (σ : Sg) : Option Sg := (w_needs [ar (0, 0), ai a, ai b, ar (14, 0)] σ).bind fun o => (f_X3_needs [ar (11, 0), ai a, ai b] o.2).bind fun p => (f_X3_thrown [ar (11, 0)] p.2).bind fun t => match o.1, p.1, t.1 with
  | .inl (some (.inl (.int kk))), .inl (some (.inl (.int v))), .inl (some (.inl (.int h))) => if sleB σ o.2 = true ∧ sleB o.2 p.2 = true ∧ sleB p.2 t.2 = true ∧ h = kk ∧ (kk = 0 → t.2.2.2.2 = v.toInt64) then some t.2 else none
  | _, _, _ => none
theorem u_16 {κ : Kx} (hx : Hx κ cL_law 7 RL 16 620) (hr : Hr κ (some .boolean)) (hX : xNI (ks κ)) {bs n i : Nat} {xs : Nat → Int32} {a b : Int32} (hS : Scr κ bs n xs) (hi : i + 2 < n) (hn : n < 65536) (ha : xs (i + 1) = a) (hb : xs (i + 2) = b) {σ σF : Sg} (hq : q_16 a b σ = some σF) (fit : Fit κ σF) (k : ∀ L2 : Tg → Nat, (∀ u, vld σ u = true → L2 u = kL κ u) → ∀ v5 v6, Acf (wL κ L2) 1864 [] (lcL bs i v5 v6) σF) : sle σ σF ∧ Acf κ 1142 [] (lcL bs i none none) σ := by
  have hst := hx.st
  unfold q_16 at hq
  obtain ⟨⟨r1, τ1⟩, h1, hq⟩ := obs hq
  obtain ⟨⟨r2, τ2⟩, h2, hq⟩ := obs hq
  obtain ⟨⟨r3, τ3⟩, h3, hq⟩ := obs hq
  dsimp only at hq h2 h3
  split at hq
  · rename_i kk v h
    obtain ⟨⟨s1, s2, s3, e, ej⟩, hq⟩ := ite_s hq
    cases hq
    subst e
    have s1 := sleB_sle s1
    have s2 := sleB_sle s2
    have s3 := sleB_sle s3
    refine ⟨s1.trans (s2.trans s3), ?_⟩
    refine A_aload_n (i := 1) hx dL_law_1142 rfl (A_arg1 hx hS hi hn ha rfl rfl dL_law_1143 dL_law_1144 dL_law_1146 dL_law_1147 dL_law_1148 (A_arg2 hx hS hi hn hb rfl rfl dL_law_1149 dL_law_1150 dL_law_1152 dL_law_1153 dL_law_1154 (A_aload_n (i := 3) hx dL_law_1155 rfl (?_))))
    refine A_callSW (as := [ar (0, 0), ai a, ai b, ar (14, 0)]) (rest := []) hx XT_N hX rfl (c_W_needs hst) h1 ⟨_, rfl⟩ s1 (fun v hv => by simp at hv; rcases hv with rfl | rfl | rfl | rfl; exact Or.inr (Or.inl ⟨_, rfl⟩); exact Or.inl ⟨_, rfl⟩; exact Or.inl ⟨_, rfl⟩; exact Or.inr (Or.inl ⟨_, rfl⟩)) uw_L_needs um_L_162 ut_L_needs un_L ⟨by decide, by decide, rfl⟩ (by decide) (by decide) (by decide) dL_law_1156 (fit.le (s2.trans s3)) (fun w hw => fX0 hw) (fun w hw => by cases hw) (fun L2 hL2 v9 hv9 => ?_)
    cases hv9
    have hx2 : Hx (wL κ L2) cL_law 7 RL 16 620 := hx.wL
    have hr2 : Hr (wL κ L2) (some .boolean) := hr.wL
    have hS2 : Scr (wL κ L2) bs n xs := hS.wL
    have hst2 := hx2.st
    have k9 := k L2 hL2
    have fit2 := fit_wL (L2 := L2) fit
    refine A_istore hx2 dL_law_1159 (by show 5 < 7; decide) ?_
    refine A_aload_n (i := 2) hx2 dL_law_1161 rfl (A_arg1 hx2 hS2 hi hn ha rfl rfl dL_law_1162 dL_law_1163 dL_law_1165 dL_law_1166 dL_law_1167 (A_arg2 hx2 hS2 hi hn hb rfl rfl dL_law_1168 dL_law_1169 dL_law_1171 dL_law_1172 dL_law_1173 (?_)))
    refine A_callV (as := [ai a, ai b]) (rest := []) (b := (11, 0)) hx2 hr2 rfl (c_X3_needs hst2) h2 s2 (fun v hv => by simp at hv; rcases hv with rfl | rfl; exact Or.inl ⟨_, rfl⟩; exact Or.inl ⟨_, rfl⟩) uc_X3_needs um_L_164 ui_X3_needs us_X3_needs un_X3 ⟨rfl, by decide, by decide, rfl⟩ rfl rfl rfl (by decide) (by decide) (by decide) dL_law_1174 (fit2.le s3) (fun v9 hv9 => ?_) (fun n hn => by cases hn)
    cases hv9
    refine A_istore hx2 dL_law_1177 (by show 6 < 7; decide) ?_
    refine A_aload_n (i := 2) hx2 dL_law_1179 rfl ?_
    refine A_callV (as := []) (rest := []) (b := (11, 0)) hx2 hr2 rfl (c_X3_thrown hst2) h3 s3 (fun v hv => by cases hv) uc_X3_thrown um_L_111 ui_X3_thrown us_X3_thrown un_X3 ⟨rfl, by decide, by decide, rfl⟩ rfl rfl rfl (by decide) (by decide) (by decide) dL_law_1180 fit2 (fun v9 hv9 => ?_) (fun n hn => by cases hn)
    cases hv9
    refine A_iload hx2 dL_law_1183 rfl (A_icmp_eq (tgt := 1190) hx2 dL_law_1185 (by decide) (fun _ => ?_) (fun q => absurd rfl q))
    refine A_iload hx2 dL_law_1190 rfl (A_if_ne (tgt := 1207) hx2 dL_law_1192 (by decide) (fun _ => ?_) (fun q => ?_))
    · exact A_goto (tgt := 1864) hx2 dL_law_1207 (by decide) (k9 (some (ai _)) (some (ai _)))
    · have ej := ej q
      refine A_aload_n (i := 3) hx2 dL_law_1195 rfl (A_iconst (v := 0) hx2 dL_law_1196 (by decide) (A_laldJ hx2 dL_law_1197 (A_iload hx2 dL_law_1198 rfl (A_i2l hx2 dL_law_1200 ?_))))
      rw [ej]
      exact A_lcmpE hx2 dL_law_1201 (A_if_eq (tgt := 1207) hx2 dL_law_1202 (by decide) (fun _ => A_goto (tgt := 1864) hx2 dL_law_1207 (by decide) (k9 (some (ai _)) (some (ai _)))) (fun q => absurd rfl q))
  · cases hq
def q_17 (a b : Int32) (σ : Sg) : Option Sg := (w_firstNeeded [ar (0, 0), ai a, ai b, ar (14, 0)] σ).bind fun o => (f_X3_firstNeeded [ar (11, 0), ai a, ai b] o.2).bind fun p => (f_X3_thrown [ar (11, 0)] p.2).bind fun t => match o.1, p.1, t.1 with
  | .inl (some (.inl (.int kk))), .inl (some (.inl (.int v))), .inl (some (.inl (.int h))) => if sleB σ o.2 = true ∧ sleB o.2 p.2 = true ∧ sleB p.2 t.2 = true ∧ h = kk ∧ (kk = 0 → t.2.2.2.2 = v.toInt64) then some t.2 else none
  | _, _, _ => none
theorem u_17 {κ : Kx} (hx : Hx κ cL_law 7 RL 16 620) (hr : Hr κ (some .boolean)) (hX : xNI (ks κ)) {bs n i : Nat} {xs : Nat → Int32} {a b : Int32} (hS : Scr κ bs n xs) (hi : i + 2 < n) (hn : n < 65536) (ha : xs (i + 1) = a) (hb : xs (i + 2) = b) {σ σF : Sg} (hq : q_17 a b σ = some σF) (fit : Fit κ σF) (k : ∀ L2 : Tg → Nat, (∀ u, vld σ u = true → L2 u = kL κ u) → ∀ v5 v6, Acf (wL κ L2) 1864 [] (lcL bs i v5 v6) σF) : sle σ σF ∧ Acf κ 1210 [] (lcL bs i none none) σ := by
  have hst := hx.st
  unfold q_17 at hq
  obtain ⟨⟨r1, τ1⟩, h1, hq⟩ := obs hq
  obtain ⟨⟨r2, τ2⟩, h2, hq⟩ := obs hq
  obtain ⟨⟨r3, τ3⟩, h3, hq⟩ := obs hq
  dsimp only at hq h2 h3
  split at hq
  · rename_i kk v h
    obtain ⟨⟨s1, s2, s3, e, ej⟩, hq⟩ := ite_s hq
    cases hq
    subst e
    have s1 := sleB_sle s1
    have s2 := sleB_sle s2
    have s3 := sleB_sle s3
    refine ⟨s1.trans (s2.trans s3), ?_⟩
    refine A_aload_n (i := 1) hx dL_law_1210 rfl (A_arg1 hx hS hi hn ha rfl rfl dL_law_1211 dL_law_1212 dL_law_1214 dL_law_1215 dL_law_1216 (A_arg2 hx hS hi hn hb rfl rfl dL_law_1217 dL_law_1218 dL_law_1220 dL_law_1221 dL_law_1222 (A_aload_n (i := 3) hx dL_law_1223 rfl (?_))))
    refine A_callSW (as := [ar (0, 0), ai a, ai b, ar (14, 0)]) (rest := []) hx XT_N hX rfl (c_W_firstNeeded hst) h1 ⟨_, rfl⟩ s1 (fun v hv => by simp at hv; rcases hv with rfl | rfl | rfl | rfl; exact Or.inr (Or.inl ⟨_, rfl⟩); exact Or.inl ⟨_, rfl⟩; exact Or.inl ⟨_, rfl⟩; exact Or.inr (Or.inl ⟨_, rfl⟩)) uw_L_firstNeeded um_L_165 ut_L_firstNeeded un_L ⟨by decide, by decide, rfl⟩ (by decide) (by decide) (by decide) dL_law_1224 (fit.le (s2.trans s3)) (fun w hw => fX0 hw) (fun w hw => by cases hw) (fun L2 hL2 v9 hv9 => ?_)
    cases hv9
    have hx2 : Hx (wL κ L2) cL_law 7 RL 16 620 := hx.wL
    have hr2 : Hr (wL κ L2) (some .boolean) := hr.wL
    have hS2 : Scr (wL κ L2) bs n xs := hS.wL
    have hst2 := hx2.st
    have k9 := k L2 hL2
    have fit2 := fit_wL (L2 := L2) fit
    refine A_istore hx2 dL_law_1227 (by show 5 < 7; decide) ?_
    refine A_aload_n (i := 2) hx2 dL_law_1229 rfl (A_arg1 hx2 hS2 hi hn ha rfl rfl dL_law_1230 dL_law_1231 dL_law_1233 dL_law_1234 dL_law_1235 (A_arg2 hx2 hS2 hi hn hb rfl rfl dL_law_1236 dL_law_1237 dL_law_1239 dL_law_1240 dL_law_1241 (?_)))
    refine A_callV (as := [ai a, ai b]) (rest := []) (b := (11, 0)) hx2 hr2 rfl (c_X3_firstNeeded hst2) h2 s2 (fun v hv => by simp at hv; rcases hv with rfl | rfl; exact Or.inl ⟨_, rfl⟩; exact Or.inl ⟨_, rfl⟩) uc_X3_firstNeeded um_L_167 ui_X3_firstNeeded us_X3_firstNeeded un_X3 ⟨rfl, by decide, by decide, rfl⟩ rfl rfl rfl (by decide) (by decide) (by decide) dL_law_1242 (fit2.le s3) (fun v9 hv9 => ?_) (fun n hn => by cases hn)
    cases hv9
    refine A_istore hx2 dL_law_1245 (by show 6 < 7; decide) ?_
    refine A_aload_n (i := 2) hx2 dL_law_1247 rfl ?_
    refine A_callV (as := []) (rest := []) (b := (11, 0)) hx2 hr2 rfl (c_X3_thrown hst2) h3 s3 (fun v hv => by cases hv) uc_X3_thrown um_L_111 ui_X3_thrown us_X3_thrown un_X3 ⟨rfl, by decide, by decide, rfl⟩ rfl rfl rfl (by decide) (by decide) (by decide) dL_law_1248 fit2 (fun v9 hv9 => ?_) (fun n hn => by cases hn)
    cases hv9
    refine A_iload hx2 dL_law_1251 rfl (A_icmp_eq (tgt := 1258) hx2 dL_law_1253 (by decide) (fun _ => ?_) (fun q => absurd rfl q))
    refine A_iload hx2 dL_law_1258 rfl (A_if_ne (tgt := 1275) hx2 dL_law_1260 (by decide) (fun _ => ?_) (fun q => ?_))
    · exact A_goto (tgt := 1864) hx2 dL_law_1275 (by decide) (k9 (some (ai _)) (some (ai _)))
    · have ej := ej q
      refine A_aload_n (i := 3) hx2 dL_law_1263 rfl (A_iconst (v := 0) hx2 dL_law_1264 (by decide) (A_laldJ hx2 dL_law_1265 (A_iload hx2 dL_law_1266 rfl (A_i2l hx2 dL_law_1268 ?_))))
      rw [ej]
      exact A_lcmpE hx2 dL_law_1269 (A_if_eq (tgt := 1275) hx2 dL_law_1270 (by decide) (fun _ => A_goto (tgt := 1864) hx2 dL_law_1275 (by decide) (k9 (some (ai _)) (some (ai _)))) (fun q => absurd rfl q))
  · cases hq
def q_18 (_ _ : Int32) (σ : Sg) : Option Sg := (f_X2_holder [ar (0, 0)] σ).bind fun o => (f_X3_holder [ar (11, 0)] o.2).bind fun p => match o.1, p.1 with
  | .inl (some (.inl (.int v))), .inl (some (.inl (.int w))) => if sleB σ o.2 = true ∧ sleB o.2 p.2 = true ∧ v = w then some p.2 else none
  | _, _ => none
theorem u_18 {κ : Kx} (hx : Hx κ cL_law 7 RL 16 620) (hr : Hr κ (some .boolean)) (hX : xNI (ks κ)) {bs n i : Nat} {xs : Nat → Int32} {a b : Int32} (hS : Scr κ bs n xs) (hi : i + 2 < n) (hn : n < 65536) (ha : xs (i + 1) = a) (hb : xs (i + 2) = b) {σ σF : Sg} (hq : q_18 a b σ = some σF) (fit : Fit κ σF) (k : ∀ L2 : Tg → Nat, (∀ u, vld σ u = true → L2 u = kL κ u) → ∀ v5 v6, Acf (wL κ L2) 1864 [] (lcL bs i v5 v6) σF) : sle σ σF ∧ Acf κ 1278 [] (lcL bs i none none) σ := by
  have hst := hx.st
  unfold q_18 at hq
  obtain ⟨⟨r1, τ1⟩, h1, hq⟩ := obs hq
  obtain ⟨⟨r2, τ2⟩, h2, hq⟩ := obs hq
  dsimp only at hq h2
  split at hq
  · rename_i v w
    obtain ⟨⟨s1, s2, e⟩, hq⟩ := ite_s hq
    cases hq
    subst e
    have s1 := sleB_sle s1
    have s2 := sleB_sle s2
    refine ⟨s1.trans s2, ?_⟩
    have k9 := k (kL κ) (fun _ _ => rfl) none none
    rw [wL_self] at k9
    refine A_aload_n (i := 1) hx dL_law_1278 rfl (A_callV (as := []) (rest := []) (b := (0, 0)) hx hr rfl (c_X2_holder hst) h1 s1 (fun v hv => by cases hv) uc_X2_holder um_L_168 ui_X2_holder us_X2_holder un_X2 ⟨rfl, by decide, by decide, rfl⟩ rfl rfl rfl (by decide) (by decide) (by decide) dL_law_1279 (fit.le s2) (fun v9 hv9 => ?_) (fun n hn => by cases hn))
    cases hv9
    refine A_aload_n (i := 2) hx dL_law_1282 rfl (A_callV (as := []) (rest := [ai _]) (b := (11, 0)) hx hr rfl (c_X3_holder hst) h2 s2 (fun v hv => by cases hv) uc_X3_holder um_L_171 ui_X3_holder us_X3_holder un_X3 ⟨rfl, by decide, by decide, rfl⟩ rfl rfl rfl (by simp [wt, wtA, Value.category]) (by decide) (by decide) dL_law_1283 fit (fun v9 hv9 => ?_) (fun n hn => by cases hn))
    cases hv9
    exact A_icmp_eq (tgt := 1864) hx dL_law_1286 (by decide) (fun _ => k9) (fun q => absurd rfl q)
  · cases hq
def q_19 (a _ : Int32) (σ : Sg) : Option Sg := (w_passToken [ar (0, 0), ai a, ar (14, 0)] σ).bind fun o => (f_X3_passToken [ar (11, 0), ai a] o.2).bind fun p => (f_X3_thrown [ar (11, 0)] p.2).bind fun t => match o.1, p.1, t.1 with
  | .inl (some (.inl (.int kk))), .inl (some (.inl (.int v))), .inl (some (.inl (.int h))) => if sleB σ o.2 = true ∧ sleB o.2 p.2 = true ∧ sleB p.2 t.2 = true ∧ h = kk ∧ (kk = 0 → t.2.2.2.2 = v.toInt64) then some t.2 else none
  | _, _, _ => none
theorem u_19 {κ : Kx} (hx : Hx κ cL_law 7 RL 16 620) (hr : Hr κ (some .boolean)) (hX : xNI (ks κ)) {bs n i : Nat} {xs : Nat → Int32} {a b : Int32} (hS : Scr κ bs n xs) (hi : i + 2 < n) (hn : n < 65536) (ha : xs (i + 1) = a) (hb : xs (i + 2) = b) {σ σF : Sg} (hq : q_19 a b σ = some σF) (fit : Fit κ σF) (k : ∀ L2 : Tg → Nat, (∀ u, vld σ u = true → L2 u = kL κ u) → ∀ v5 v6, Acf (wL κ L2) 1864 [] (lcL bs i v5 v6) σF) : sle σ σF ∧ Acf κ 1291 [] (lcL bs i none none) σ := by
  have hst := hx.st
  unfold q_19 at hq
  obtain ⟨⟨r1, τ1⟩, h1, hq⟩ := obs hq
  obtain ⟨⟨r2, τ2⟩, h2, hq⟩ := obs hq
  obtain ⟨⟨r3, τ3⟩, h3, hq⟩ := obs hq
  dsimp only at hq h2 h3
  split at hq
  · rename_i kk v h
    obtain ⟨⟨s1, s2, s3, e, ej⟩, hq⟩ := ite_s hq
    cases hq
    subst e
    have s1 := sleB_sle s1
    have s2 := sleB_sle s2
    have s3 := sleB_sle s3
    refine ⟨s1.trans (s2.trans s3), ?_⟩
    refine A_aload_n (i := 1) hx dL_law_1291 rfl (A_arg1 hx hS hi hn ha rfl rfl dL_law_1292 dL_law_1293 dL_law_1295 dL_law_1296 dL_law_1297 (A_aload_n (i := 3) hx dL_law_1298 rfl (?_)))
    refine A_callSW (as := [ar (0, 0), ai a, ar (14, 0)]) (rest := []) hx XT_N hX rfl (c_W_passToken hst) h1 ⟨_, rfl⟩ s1 (fun v hv => by simp at hv; rcases hv with rfl | rfl | rfl; exact Or.inr (Or.inl ⟨_, rfl⟩); exact Or.inl ⟨_, rfl⟩; exact Or.inr (Or.inl ⟨_, rfl⟩)) uw_L_passToken um_L_172 ut_L_passToken un_L ⟨by decide, by decide, rfl⟩ (by decide) (by decide) (by decide) dL_law_1299 (fit.le (s2.trans s3)) (fun w hw => fX0 hw) (fun w hw => by cases hw) (fun L2 hL2 v9 hv9 => ?_)
    cases hv9
    have hx2 : Hx (wL κ L2) cL_law 7 RL 16 620 := hx.wL
    have hr2 : Hr (wL κ L2) (some .boolean) := hr.wL
    have hS2 : Scr (wL κ L2) bs n xs := hS.wL
    have hst2 := hx2.st
    have k9 := k L2 hL2
    have fit2 := fit_wL (L2 := L2) fit
    refine A_istore hx2 dL_law_1302 (by show 5 < 7; decide) ?_
    refine A_aload_n (i := 2) hx2 dL_law_1304 rfl (A_arg1 hx2 hS2 hi hn ha rfl rfl dL_law_1305 dL_law_1306 dL_law_1308 dL_law_1309 dL_law_1310 (?_))
    refine A_callV (as := [ai a]) (rest := []) (b := (11, 0)) hx2 hr2 rfl (c_X3_passToken hst2) h2 s2 (fun v hv => by simp at hv; subst hv; exact Or.inl ⟨_, rfl⟩) uc_X3_passToken um_L_174 ui_X3_passToken us_X3_passToken un_X3 ⟨rfl, by decide, by decide, rfl⟩ rfl rfl rfl (by decide) (by decide) (by decide) dL_law_1311 (fit2.le s3) (fun v9 hv9 => ?_) (fun n hn => by cases hn)
    cases hv9
    refine A_istore hx2 dL_law_1314 (by show 6 < 7; decide) ?_
    refine A_aload_n (i := 2) hx2 dL_law_1316 rfl ?_
    refine A_callV (as := []) (rest := []) (b := (11, 0)) hx2 hr2 rfl (c_X3_thrown hst2) h3 s3 (fun v hv => by cases hv) uc_X3_thrown um_L_111 ui_X3_thrown us_X3_thrown un_X3 ⟨rfl, by decide, by decide, rfl⟩ rfl rfl rfl (by decide) (by decide) (by decide) dL_law_1317 fit2 (fun v9 hv9 => ?_) (fun n hn => by cases hn)
    cases hv9
    refine A_iload hx2 dL_law_1320 rfl (A_icmp_eq (tgt := 1327) hx2 dL_law_1322 (by decide) (fun _ => ?_) (fun q => absurd rfl q))
    refine A_iload hx2 dL_law_1327 rfl (A_if_ne (tgt := 1344) hx2 dL_law_1329 (by decide) (fun _ => ?_) (fun q => ?_))
    · exact A_goto (tgt := 1864) hx2 dL_law_1344 (by decide) (k9 (some (ai _)) (some (ai _)))
    · have ej := ej q
      refine A_aload_n (i := 3) hx2 dL_law_1332 rfl (A_iconst (v := 0) hx2 dL_law_1333 (by decide) (A_laldJ hx2 dL_law_1334 (A_iload hx2 dL_law_1335 rfl (A_i2l hx2 dL_law_1337 ?_))))
      rw [ej]
      exact A_lcmpE hx2 dL_law_1338 (A_if_eq (tgt := 1344) hx2 dL_law_1339 (by decide) (fun _ => A_goto (tgt := 1864) hx2 dL_law_1344 (by decide) (k9 (some (ai _)) (some (ai _)))) (fun q => absurd rfl q))
  · cases hq
def q_20 (a _ : Int32) (σ : Sg) : Option Sg := (w_tell [ar (0, 0), ai a, ar (14, 0)] σ).bind fun o => (f_X3_tell [ar (11, 0), ai a] o.2).bind fun p => (f_X3_thrown [ar (11, 0)] p.2).bind fun t => match o.1, p.1, t.1 with
  | .inl (some (.inl (.int kk))), .inl (some (.inl (.int v))), .inl (some (.inl (.int h))) => if sleB σ o.2 = true ∧ sleB o.2 p.2 = true ∧ sleB p.2 t.2 = true ∧ h = kk ∧ (kk = 0 → t.2.2.2.2 = v.toInt64) then some t.2 else none
  | _, _, _ => none
theorem u_20 {κ : Kx} (hx : Hx κ cL_law 7 RL 16 620) (hr : Hr κ (some .boolean)) (hX : xNI (ks κ)) {bs n i : Nat} {xs : Nat → Int32} {a b : Int32} (hS : Scr κ bs n xs) (hi : i + 2 < n) (hn : n < 65536) (ha : xs (i + 1) = a) (hb : xs (i + 2) = b) {σ σF : Sg} (hq : q_20 a b σ = some σF) (fit : Fit κ σF) (k : ∀ L2 : Tg → Nat, (∀ u, vld σ u = true → L2 u = kL κ u) → ∀ v5 v6, Acf (wL κ L2) 1864 [] (lcL bs i v5 v6) σF) : sle σ σF ∧ Acf κ 1347 [] (lcL bs i none none) σ := by
  have hst := hx.st
  unfold q_20 at hq
  obtain ⟨⟨r1, τ1⟩, h1, hq⟩ := obs hq
  obtain ⟨⟨r2, τ2⟩, h2, hq⟩ := obs hq
  obtain ⟨⟨r3, τ3⟩, h3, hq⟩ := obs hq
  dsimp only at hq h2 h3
  split at hq
  · rename_i kk v h
    obtain ⟨⟨s1, s2, s3, e, ej⟩, hq⟩ := ite_s hq
    cases hq
    subst e
    have s1 := sleB_sle s1
    have s2 := sleB_sle s2
    have s3 := sleB_sle s3
    refine ⟨s1.trans (s2.trans s3), ?_⟩
    refine A_aload_n (i := 1) hx dL_law_1347 rfl (A_arg1 hx hS hi hn ha rfl rfl dL_law_1348 dL_law_1349 dL_law_1351 dL_law_1352 dL_law_1353 (A_aload_n (i := 3) hx dL_law_1354 rfl (?_)))
    refine A_callSW (as := [ar (0, 0), ai a, ar (14, 0)]) (rest := []) hx XT_N hX rfl (c_W_tell hst) h1 ⟨_, rfl⟩ s1 (fun v hv => by simp at hv; rcases hv with rfl | rfl | rfl; exact Or.inr (Or.inl ⟨_, rfl⟩); exact Or.inl ⟨_, rfl⟩; exact Or.inr (Or.inl ⟨_, rfl⟩)) uw_L_tell um_L_175 ut_L_tell un_L ⟨by decide, by decide, rfl⟩ (by decide) (by decide) (by decide) dL_law_1355 (fit.le (s2.trans s3)) (fun w hw => fX0 hw) (fun w hw => by cases hw) (fun L2 hL2 v9 hv9 => ?_)
    cases hv9
    have hx2 : Hx (wL κ L2) cL_law 7 RL 16 620 := hx.wL
    have hr2 : Hr (wL κ L2) (some .boolean) := hr.wL
    have hS2 : Scr (wL κ L2) bs n xs := hS.wL
    have hst2 := hx2.st
    have k9 := k L2 hL2
    have fit2 := fit_wL (L2 := L2) fit
    refine A_istore hx2 dL_law_1358 (by show 5 < 7; decide) ?_
    refine A_aload_n (i := 2) hx2 dL_law_1360 rfl (A_arg1 hx2 hS2 hi hn ha rfl rfl dL_law_1361 dL_law_1362 dL_law_1364 dL_law_1365 dL_law_1366 (?_))
    refine A_callV (as := [ai a]) (rest := []) (b := (11, 0)) hx2 hr2 rfl (c_X3_tell hst2) h2 s2 (fun v hv => by simp at hv; subst hv; exact Or.inl ⟨_, rfl⟩) uc_X3_tell um_L_177 ui_X3_tell us_X3_tell un_X3 ⟨rfl, by decide, by decide, rfl⟩ rfl rfl rfl (by decide) (by decide) (by decide) dL_law_1367 (fit2.le s3) (fun v9 hv9 => ?_) (fun n hn => by cases hn)
    cases hv9
    refine A_istore hx2 dL_law_1370 (by show 6 < 7; decide) ?_
    refine A_aload_n (i := 2) hx2 dL_law_1372 rfl ?_
    refine A_callV (as := []) (rest := []) (b := (11, 0)) hx2 hr2 rfl (c_X3_thrown hst2) h3 s3 (fun v hv => by cases hv) uc_X3_thrown um_L_111 ui_X3_thrown us_X3_thrown un_X3 ⟨rfl, by decide, by decide, rfl⟩ rfl rfl rfl (by decide) (by decide) (by decide) dL_law_1373 fit2 (fun v9 hv9 => ?_) (fun n hn => by cases hn)
    cases hv9
    refine A_iload hx2 dL_law_1376 rfl (A_icmp_eq (tgt := 1383) hx2 dL_law_1378 (by decide) (fun _ => ?_) (fun q => absurd rfl q))
    refine A_iload hx2 dL_law_1383 rfl (A_if_ne (tgt := 1400) hx2 dL_law_1385 (by decide) (fun _ => ?_) (fun q => ?_))
    · exact A_goto (tgt := 1864) hx2 dL_law_1400 (by decide) (k9 (some (ai _)) (some (ai _)))
    · have ej := ej q
      refine A_aload_n (i := 3) hx2 dL_law_1388 rfl (A_iconst (v := 0) hx2 dL_law_1389 (by decide) (A_laldJ hx2 dL_law_1390 (A_iload hx2 dL_law_1391 rfl (A_i2l hx2 dL_law_1393 ?_))))
      rw [ej]
      exact A_lcmpE hx2 dL_law_1394 (A_if_eq (tgt := 1400) hx2 dL_law_1395 (by decide) (fun _ => A_goto (tgt := 1864) hx2 dL_law_1400 (by decide) (k9 (some (ai _)) (some (ai _)))) (fun q => absurd rfl q))
  · cases hq
def q_21 (_ _ : Int32) (σ : Sg) : Option Sg := (f_X2_numbered [ar (0, 0)] σ).bind fun o => (f_X3_numbered [ar (11, 0)] o.2).bind fun p => match o.1, p.1 with
  | .inl (some (.inl (.int v))), .inl (some (.inl (.int w))) => if sleB σ o.2 = true ∧ sleB o.2 p.2 = true ∧ v = w then some p.2 else none
  | _, _ => none
theorem u_21 {κ : Kx} (hx : Hx κ cL_law 7 RL 16 620) (hr : Hr κ (some .boolean)) (hX : xNI (ks κ)) {bs n i : Nat} {xs : Nat → Int32} {a b : Int32} (hS : Scr κ bs n xs) (hi : i + 2 < n) (hn : n < 65536) (ha : xs (i + 1) = a) (hb : xs (i + 2) = b) {σ σF : Sg} (hq : q_21 a b σ = some σF) (fit : Fit κ σF) (k : ∀ L2 : Tg → Nat, (∀ u, vld σ u = true → L2 u = kL κ u) → ∀ v5 v6, Acf (wL κ L2) 1864 [] (lcL bs i v5 v6) σF) : sle σ σF ∧ Acf κ 1403 [] (lcL bs i none none) σ := by
  have hst := hx.st
  unfold q_21 at hq
  obtain ⟨⟨r1, τ1⟩, h1, hq⟩ := obs hq
  obtain ⟨⟨r2, τ2⟩, h2, hq⟩ := obs hq
  dsimp only at hq h2
  split at hq
  · rename_i v w
    obtain ⟨⟨s1, s2, e⟩, hq⟩ := ite_s hq
    cases hq
    subst e
    have s1 := sleB_sle s1
    have s2 := sleB_sle s2
    refine ⟨s1.trans s2, ?_⟩
    have k9 := k (kL κ) (fun _ _ => rfl) none none
    rw [wL_self] at k9
    refine A_aload_n (i := 1) hx dL_law_1403 rfl (A_callV (as := []) (rest := []) (b := (0, 0)) hx hr rfl (c_X2_numbered hst) h1 s1 (fun v hv => by cases hv) uc_X2_numbered um_L_178 ui_X2_numbered us_X2_numbered un_X2 ⟨rfl, by decide, by decide, rfl⟩ rfl rfl rfl (by decide) (by decide) (by decide) dL_law_1404 (fit.le s2) (fun v9 hv9 => ?_) (fun n hn => by cases hn))
    cases hv9
    refine A_aload_n (i := 2) hx dL_law_1407 rfl (A_callV (as := []) (rest := [ai _]) (b := (11, 0)) hx hr rfl (c_X3_numbered hst) h2 s2 (fun v hv => by cases hv) uc_X3_numbered um_L_181 ui_X3_numbered us_X3_numbered un_X3 ⟨rfl, by decide, by decide, rfl⟩ rfl rfl rfl (by simp [wt, wtA, Value.category]) (by decide) (by decide) dL_law_1408 fit (fun v9 hv9 => ?_) (fun n hn => by cases hn))
    cases hv9
    exact A_icmp_eq (tgt := 1864) hx dL_law_1411 (by decide) (fun _ => k9) (fun q => absurd rfl q)
  · cases hq
def q_22 (a _ : Int32) (σ : Sg) : Option Sg := (w_numberOf [ar (0, 0), ai a, ar (14, 0)] σ).bind fun o => (f_X3_numberOf [ar (11, 0), ai a] o.2).bind fun p => (f_X3_thrown [ar (11, 0)] p.2).bind fun t => match o.1, p.1, t.1 with
  | .inl (some (.inl (.int kk))), .inl (some (.inl (.int v))), .inl (some (.inl (.int h))) => if sleB σ o.2 = true ∧ sleB o.2 p.2 = true ∧ sleB p.2 t.2 = true ∧ h = kk ∧ (kk = 0 → t.2.2.2.2 = v.toInt64) then some t.2 else none
  | _, _, _ => none
theorem u_22 {κ : Kx} (hx : Hx κ cL_law 7 RL 16 620) (hr : Hr κ (some .boolean)) (hX : xNI (ks κ)) {bs n i : Nat} {xs : Nat → Int32} {a b : Int32} (hS : Scr κ bs n xs) (hi : i + 2 < n) (hn : n < 65536) (ha : xs (i + 1) = a) (hb : xs (i + 2) = b) {σ σF : Sg} (hq : q_22 a b σ = some σF) (fit : Fit κ σF) (k : ∀ L2 : Tg → Nat, (∀ u, vld σ u = true → L2 u = kL κ u) → ∀ v5 v6, Acf (wL κ L2) 1864 [] (lcL bs i v5 v6) σF) : sle σ σF ∧ Acf κ 1416 [] (lcL bs i none none) σ := by
  have hst := hx.st
  unfold q_22 at hq
  obtain ⟨⟨r1, τ1⟩, h1, hq⟩ := obs hq
  obtain ⟨⟨r2, τ2⟩, h2, hq⟩ := obs hq
  obtain ⟨⟨r3, τ3⟩, h3, hq⟩ := obs hq
  dsimp only at hq h2 h3
  split at hq
  · rename_i kk v h
    obtain ⟨⟨s1, s2, s3, e, ej⟩, hq⟩ := ite_s hq
    cases hq
    subst e
    have s1 := sleB_sle s1
    have s2 := sleB_sle s2
    have s3 := sleB_sle s3
    refine ⟨s1.trans (s2.trans s3), ?_⟩
    refine A_aload_n (i := 1) hx dL_law_1416 rfl (A_arg1 hx hS hi hn ha rfl rfl dL_law_1417 dL_law_1418 dL_law_1420 dL_law_1421 dL_law_1422 (A_aload_n (i := 3) hx dL_law_1423 rfl (?_)))
    refine A_callSW (as := [ar (0, 0), ai a, ar (14, 0)]) (rest := []) hx XT_N hX rfl (c_W_numberOf hst) h1 ⟨_, rfl⟩ s1 (fun v hv => by simp at hv; rcases hv with rfl | rfl | rfl; exact Or.inr (Or.inl ⟨_, rfl⟩); exact Or.inl ⟨_, rfl⟩; exact Or.inr (Or.inl ⟨_, rfl⟩)) uw_L_numberOf um_L_182 ut_L_numberOf un_L ⟨by decide, by decide, rfl⟩ (by decide) (by decide) (by decide) dL_law_1424 (fit.le (s2.trans s3)) (fun w hw => fX0 hw) (fun w hw => by cases hw) (fun L2 hL2 v9 hv9 => ?_)
    cases hv9
    have hx2 : Hx (wL κ L2) cL_law 7 RL 16 620 := hx.wL
    have hr2 : Hr (wL κ L2) (some .boolean) := hr.wL
    have hS2 : Scr (wL κ L2) bs n xs := hS.wL
    have hst2 := hx2.st
    have k9 := k L2 hL2
    have fit2 := fit_wL (L2 := L2) fit
    refine A_istore hx2 dL_law_1427 (by show 5 < 7; decide) ?_
    refine A_aload_n (i := 2) hx2 dL_law_1429 rfl (A_arg1 hx2 hS2 hi hn ha rfl rfl dL_law_1430 dL_law_1431 dL_law_1433 dL_law_1434 dL_law_1435 (?_))
    refine A_callV (as := [ai a]) (rest := []) (b := (11, 0)) hx2 hr2 rfl (c_X3_numberOf hst2) h2 s2 (fun v hv => by simp at hv; subst hv; exact Or.inl ⟨_, rfl⟩) uc_X3_numberOf um_L_184 ui_X3_numberOf us_X3_numberOf un_X3 ⟨rfl, by decide, by decide, rfl⟩ rfl rfl rfl (by decide) (by decide) (by decide) dL_law_1436 (fit2.le s3) (fun v9 hv9 => ?_) (fun n hn => by cases hn)
    cases hv9
    refine A_istore hx2 dL_law_1439 (by show 6 < 7; decide) ?_
    refine A_aload_n (i := 2) hx2 dL_law_1441 rfl ?_
    refine A_callV (as := []) (rest := []) (b := (11, 0)) hx2 hr2 rfl (c_X3_thrown hst2) h3 s3 (fun v hv => by cases hv) uc_X3_thrown um_L_111 ui_X3_thrown us_X3_thrown un_X3 ⟨rfl, by decide, by decide, rfl⟩ rfl rfl rfl (by decide) (by decide) (by decide) dL_law_1442 fit2 (fun v9 hv9 => ?_) (fun n hn => by cases hn)
    cases hv9
    refine A_iload hx2 dL_law_1445 rfl (A_icmp_eq (tgt := 1452) hx2 dL_law_1447 (by decide) (fun _ => ?_) (fun q => absurd rfl q))
    refine A_iload hx2 dL_law_1452 rfl (A_if_ne (tgt := 1469) hx2 dL_law_1454 (by decide) (fun _ => ?_) (fun q => ?_))
    · exact A_goto (tgt := 1864) hx2 dL_law_1469 (by decide) (k9 (some (ai _)) (some (ai _)))
    · have ej := ej q
      refine A_aload_n (i := 3) hx2 dL_law_1457 rfl (A_iconst (v := 0) hx2 dL_law_1458 (by decide) (A_laldJ hx2 dL_law_1459 (A_iload hx2 dL_law_1460 rfl (A_i2l hx2 dL_law_1462 ?_))))
      rw [ej]
      exact A_lcmpE hx2 dL_law_1463 (A_if_eq (tgt := 1469) hx2 dL_law_1464 (by decide) (fun _ => A_goto (tgt := 1864) hx2 dL_law_1469 (by decide) (k9 (some (ai _)) (some (ai _)))) (fun q => absurd rfl q))
  · cases hq
def q_23 (a _ : Int32) (σ : Sg) : Option Sg := (w_ordered [ar (0, 0), ai a, ar (14, 0)] σ).bind fun o => (f_X3_ordered [ar (11, 0), ai a] o.2).bind fun p => (f_X3_thrown [ar (11, 0)] p.2).bind fun t => match o.1, p.1, t.1 with
  | .inl (some (.inl (.int kk))), .inl (some (.inl (.int v))), .inl (some (.inl (.int h))) => if sleB σ o.2 = true ∧ sleB o.2 p.2 = true ∧ sleB p.2 t.2 = true ∧ h = kk ∧ (kk = 0 → t.2.2.2.2 = v.toInt64) then some t.2 else none
  | _, _, _ => none
theorem u_23 {κ : Kx} (hx : Hx κ cL_law 7 RL 16 620) (hr : Hr κ (some .boolean)) (hX : xNI (ks κ)) {bs n i : Nat} {xs : Nat → Int32} {a b : Int32} (hS : Scr κ bs n xs) (hi : i + 2 < n) (hn : n < 65536) (ha : xs (i + 1) = a) (hb : xs (i + 2) = b) {σ σF : Sg} (hq : q_23 a b σ = some σF) (fit : Fit κ σF) (k : ∀ L2 : Tg → Nat, (∀ u, vld σ u = true → L2 u = kL κ u) → ∀ v5 v6, Acf (wL κ L2) 1864 [] (lcL bs i v5 v6) σF) : sle σ σF ∧ Acf κ 1472 [] (lcL bs i none none) σ := by
  have hst := hx.st
  unfold q_23 at hq
  obtain ⟨⟨r1, τ1⟩, h1, hq⟩ := obs hq
  obtain ⟨⟨r2, τ2⟩, h2, hq⟩ := obs hq
  obtain ⟨⟨r3, τ3⟩, h3, hq⟩ := obs hq
  dsimp only at hq h2 h3
  split at hq
  · rename_i kk v h
    obtain ⟨⟨s1, s2, s3, e, ej⟩, hq⟩ := ite_s hq
    cases hq
    subst e
    have s1 := sleB_sle s1
    have s2 := sleB_sle s2
    have s3 := sleB_sle s3
    refine ⟨s1.trans (s2.trans s3), ?_⟩
    refine A_aload_n (i := 1) hx dL_law_1472 rfl (A_arg1 hx hS hi hn ha rfl rfl dL_law_1473 dL_law_1474 dL_law_1476 dL_law_1477 dL_law_1478 (A_aload_n (i := 3) hx dL_law_1479 rfl (?_)))
    refine A_callSW (as := [ar (0, 0), ai a, ar (14, 0)]) (rest := []) hx XT_N hX rfl (c_W_ordered hst) h1 ⟨_, rfl⟩ s1 (fun v hv => by simp at hv; rcases hv with rfl | rfl | rfl; exact Or.inr (Or.inl ⟨_, rfl⟩); exact Or.inl ⟨_, rfl⟩; exact Or.inr (Or.inl ⟨_, rfl⟩)) uw_L_ordered um_L_185 ut_L_ordered un_L ⟨by decide, by decide, rfl⟩ (by decide) (by decide) (by decide) dL_law_1480 (fit.le (s2.trans s3)) (fun w hw => fX0 hw) (fun w hw => by cases hw) (fun L2 hL2 v9 hv9 => ?_)
    cases hv9
    have hx2 : Hx (wL κ L2) cL_law 7 RL 16 620 := hx.wL
    have hr2 : Hr (wL κ L2) (some .boolean) := hr.wL
    have hS2 : Scr (wL κ L2) bs n xs := hS.wL
    have hst2 := hx2.st
    have k9 := k L2 hL2
    have fit2 := fit_wL (L2 := L2) fit
    refine A_istore hx2 dL_law_1483 (by show 5 < 7; decide) ?_
    refine A_aload_n (i := 2) hx2 dL_law_1485 rfl (A_arg1 hx2 hS2 hi hn ha rfl rfl dL_law_1486 dL_law_1487 dL_law_1489 dL_law_1490 dL_law_1491 (?_))
    refine A_callV (as := [ai a]) (rest := []) (b := (11, 0)) hx2 hr2 rfl (c_X3_ordered hst2) h2 s2 (fun v hv => by simp at hv; subst hv; exact Or.inl ⟨_, rfl⟩) uc_X3_ordered um_L_187 ui_X3_ordered us_X3_ordered un_X3 ⟨rfl, by decide, by decide, rfl⟩ rfl rfl rfl (by decide) (by decide) (by decide) dL_law_1492 (fit2.le s3) (fun v9 hv9 => ?_) (fun n hn => by cases hn)
    cases hv9
    refine A_istore hx2 dL_law_1495 (by show 6 < 7; decide) ?_
    refine A_aload_n (i := 2) hx2 dL_law_1497 rfl ?_
    refine A_callV (as := []) (rest := []) (b := (11, 0)) hx2 hr2 rfl (c_X3_thrown hst2) h3 s3 (fun v hv => by cases hv) uc_X3_thrown um_L_111 ui_X3_thrown us_X3_thrown un_X3 ⟨rfl, by decide, by decide, rfl⟩ rfl rfl rfl (by decide) (by decide) (by decide) dL_law_1498 fit2 (fun v9 hv9 => ?_) (fun n hn => by cases hn)
    cases hv9
    refine A_iload hx2 dL_law_1501 rfl (A_icmp_eq (tgt := 1508) hx2 dL_law_1503 (by decide) (fun _ => ?_) (fun q => absurd rfl q))
    refine A_iload hx2 dL_law_1508 rfl (A_if_ne (tgt := 1525) hx2 dL_law_1510 (by decide) (fun _ => ?_) (fun q => ?_))
    · exact A_goto (tgt := 1864) hx2 dL_law_1525 (by decide) (k9 (some (ai _)) (some (ai _)))
    · have ej := ej q
      refine A_aload_n (i := 3) hx2 dL_law_1513 rfl (A_iconst (v := 0) hx2 dL_law_1514 (by decide) (A_laldJ hx2 dL_law_1515 (A_iload hx2 dL_law_1516 rfl (A_i2l hx2 dL_law_1518 ?_))))
      rw [ej]
      exact A_lcmpE hx2 dL_law_1519 (A_if_eq (tgt := 1525) hx2 dL_law_1520 (by decide) (fun _ => A_goto (tgt := 1864) hx2 dL_law_1525 (by decide) (k9 (some (ai _)) (some (ai _)))) (fun q => absurd rfl q))
  · cases hq
