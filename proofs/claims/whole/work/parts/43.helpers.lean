/-! the law's helpers (laid by wip/whole/gen/wrap.py) -/
theorem Fit.J {κ : Kx} {σ : Sg} {x : Int64} (h : Fit κ (upJ σ x)) : Fit κ σ := by
  obtain ⟨p, l, e, R, s, m, args, below, meth, c, Q, g, L, c0, s0, fc, fs⟩ := κ
  exact h
def xNI : State → Prop := fun U => va_Nc "java/lang/IllegalStateException" "java/lang/IndexOutOfBoundsException" U
def b2l (v : Int32) : Int64 := if v = 0 then 0 else 1
def w_arrive : Sem := fun as σ => match as with
  | [.inr (0, 0), .inl (.int a), .inl (.int b), .inr (14, 0)] => (f_X2_arrive [ar (0, 0), ai a, ai b] σ).bind fun o => if sleB σ o.2 = true then (match o.1 with
    | .inl (some (.inl (.int v))) => some (.inl (some (ai 0)), upJ o.2 v.toInt64)
    | .inr 1 => some (.inl (some (ai 1)), o.2)
    | .inr 2 => some (.inl (some (ai 2)), o.2)
    | _ => none) else none
  | _ => none
theorem c_W_arrive {l : Launch} {g : Gx} (hl : l.stackTraces = false) : CtW xNI l g yL_arrive cL_arrive 5 (some .int) [(0, 10, 13, 13), (0, 10, 17, 15)] 12 285 w_arrive := by
  refine CtW.of (by decide) hl (fun κ h1 h2 hX hx hr ht as σ σF r hs hsem => ?_)
  have hst := hx.st
  unfold w_arrive at hsem
  split at hsem
  · rename_i a b
    obtain ⟨⟨ro, τ⟩, ho, hsem⟩ := obs hsem
    dsimp only at hsem
    split at hsem
    · rename_i hsl
      have hle := sleB_sle hsl
      split at hsem
      · rename_i v
        cases hsem
        refine ⟨by simp, hle, fun k9 => ?_⟩
        have hself := k9 (kL κ) (fun _ _ => rfl)
        rw [wL_self] at hself
        refine A_aload_n (i := 3) hx dL_arrive_0 rfl (A_iconst (v := 0) hx dL_arrive_1 (by decide) (A_aload_n (i := 0) hx dL_arrive_2 rfl (A_iload_n (i := 1) hx dL_arrive_3 rfl (A_iload_n (i := 2) hx dL_arrive_4 rfl (?_)))))
        refine A_callVX (as := [ai a, ai b]) (rest := [ai 0, ar (14, 0)]) (b := (0, 0)) hx rfl (c_X2_arrive hst) ho hle (fun v hv => by simp at hv; rcases hv with rfl | rfl; exact Or.inl ⟨_, rfl⟩; exact Or.inl ⟨_, rfl⟩) uc_X2_arrive um_L_17 ui_X2_arrive us_X2_arrive un_X2 ⟨rfl, by decide, by decide, rfl⟩ rfl rfl rfl (by simp [wt, wtA, Value.category]) (by decide) (by decide) dL_arrive_5 hself.fit.J (fun v9 hv9 => ?_) (fun n hn => by cases hn)
        cases hv9
        exact A_i2l hx dL_arrive_8 (A_lastJ hx dL_arrive_9 (A_goto (tgt := 21) hx dL_arrive_10 (by decide) (A_iconst (v := 0) hx dL_arrive_21 (by decide) (A_iretW hx hr dL_arrive_22 hself))))
      · skip
        cases hsem
        refine ⟨by simp, hle, fun k9 => ?_⟩
        have hself := k9 (kL κ) (fun _ _ => rfl)
        rw [wL_self] at hself
        refine A_aload_n (i := 3) hx dL_arrive_0 rfl (A_iconst (v := 0) hx dL_arrive_1 (by decide) (A_aload_n (i := 0) hx dL_arrive_2 rfl (A_iload_n (i := 1) hx dL_arrive_3 rfl (A_iload_n (i := 2) hx dL_arrive_4 rfl (?_)))))
        refine A_callVX (as := [ai a, ai b]) (rest := [ai 0, ar (14, 0)]) (b := (0, 0)) hx rfl (c_X2_arrive hst) ho hle (fun v hv => by simp at hv; rcases hv with rfl | rfl; exact Or.inl ⟨_, rfl⟩; exact Or.inl ⟨_, rfl⟩) uc_X2_arrive um_L_17 ui_X2_arrive us_X2_arrive un_X2 ⟨rfl, by decide, by decide, rfl⟩ rfl rfl rfl (by simp [wt, wtA, Value.category]) (by decide) (by decide) dL_arrive_5 hself.fit (fun v9 hv9 => by cases hv9) (fun n hn => ?_)
        cases hn
        exact ⟨[], ⟨0, 10, 13, 13⟩, [⟨0, 10, 17, 15⟩], "java/lang/IndexOutOfBoundsException", ht.trans rfl, (fun z hz => by cases hz), (by decide), (by decide), ul_L_13, fw_11, fun q => A_astoreQ hx dL_arrive_13 (by show 4 < 5; decide) (A_iconst (v := 1) hx dL_arrive_15 (by decide) (A_iretW hx hr dL_arrive_16 hself))⟩
      · skip
        cases hsem
        refine ⟨by simp, hle, fun k9 => ?_⟩
        have hself := k9 (kL κ) (fun _ _ => rfl)
        rw [wL_self] at hself
        refine A_aload_n (i := 3) hx dL_arrive_0 rfl (A_iconst (v := 0) hx dL_arrive_1 (by decide) (A_aload_n (i := 0) hx dL_arrive_2 rfl (A_iload_n (i := 1) hx dL_arrive_3 rfl (A_iload_n (i := 2) hx dL_arrive_4 rfl (?_)))))
        refine A_callVX (as := [ai a, ai b]) (rest := [ai 0, ar (14, 0)]) (b := (0, 0)) hx rfl (c_X2_arrive hst) ho hle (fun v hv => by simp at hv; rcases hv with rfl | rfl; exact Or.inl ⟨_, rfl⟩; exact Or.inl ⟨_, rfl⟩) uc_X2_arrive um_L_17 ui_X2_arrive us_X2_arrive un_X2 ⟨rfl, by decide, by decide, rfl⟩ rfl rfl rfl (by simp [wt, wtA, Value.category]) (by decide) (by decide) dL_arrive_5 hself.fit (fun v9 hv9 => by cases hv9) (fun n hn => ?_)
        cases hn
        exact ⟨[⟨0, 10, 13, 13⟩], ⟨0, 10, 17, 15⟩, [], "java/lang/IllegalStateException", ht.trans rfl, (fun z hz => by rw [List.mem_singleton.mp hz]; exact Or.inr ⟨(by decide), _, ul_L_13, hX⟩), (by decide), (by decide), ul_L_15, fw_22, fun q => A_astoreQ hx dL_arrive_17 (by show 4 < 5; decide) (A_iconst (v := 2) hx dL_arrive_19 (by decide) (A_iretW hx hr dL_arrive_20 hself))⟩
      · cases hsem
    · cases hsem
  · cases hsem
def w_lose : Sem := fun as σ => match as with
  | [.inr (0, 0), .inl (.int a), .inl (.int b)] => (f_X2_lose [ar (0, 0), ai a, ai b] σ).bind fun o => if sleB σ o.2 = true then (match o.1 with
    | .inl none => some (.inl (some (ai 0)), o.2)
    | .inr 1 => some (.inl (some (ai 1)), o.2)
    | .inr 2 => some (.inl (some (ai 2)), o.2)
    | _ => none) else none
  | _ => none
theorem c_W_lose {l : Launch} {g : Gx} (hl : l.stackTraces = false) : CtW xNI l g yL_lose cL_lose 4 (some .int) [(0, 6, 9, 13), (0, 6, 12, 15)] 9 147 w_lose := by
  refine CtW.of (by decide) hl (fun κ h1 h2 hX hx hr ht as σ σF r hs hsem => ?_)
  have hst := hx.st
  unfold w_lose at hsem
  split at hsem
  · rename_i a b
    obtain ⟨⟨ro, τ⟩, ho, hsem⟩ := obs hsem
    dsimp only at hsem
    split at hsem
    · rename_i hsl
      have hle := sleB_sle hsl
      split at hsem
      · skip
        cases hsem
        refine ⟨by simp, hle, fun k9 => ?_⟩
        have hself := k9 (kL κ) (fun _ _ => rfl)
        rw [wL_self] at hself
        refine A_aload_n (i := 0) hx dL_lose_0 rfl (A_iload_n (i := 1) hx dL_lose_1 rfl (A_iload_n (i := 2) hx dL_lose_2 rfl (?_)))
        refine A_callVX (as := [ai a, ai b]) (rest := []) (b := (0, 0)) hx rfl (c_X2_lose hst) ho hle (fun v hv => by simp at hv; rcases hv with rfl | rfl; exact Or.inl ⟨_, rfl⟩; exact Or.inl ⟨_, rfl⟩) uc_X2_lose um_L_21 ui_X2_lose us_X2_lose un_X2 ⟨rfl, by decide, by decide, rfl⟩ rfl rfl rfl (by simp [wt, wtA, Value.category]) (by decide) (by decide) dL_lose_3 hself.fit (fun v9 hv9 => ?_) (fun n hn => by cases hn)
        cases hv9
        exact A_goto (tgt := 15) hx dL_lose_6 (by decide) (A_iconst (v := 0) hx dL_lose_15 (by decide) (A_iretW hx hr dL_lose_16 hself))
      · skip
        cases hsem
        refine ⟨by simp, hle, fun k9 => ?_⟩
        have hself := k9 (kL κ) (fun _ _ => rfl)
        rw [wL_self] at hself
        refine A_aload_n (i := 0) hx dL_lose_0 rfl (A_iload_n (i := 1) hx dL_lose_1 rfl (A_iload_n (i := 2) hx dL_lose_2 rfl (?_)))
        refine A_callVX (as := [ai a, ai b]) (rest := []) (b := (0, 0)) hx rfl (c_X2_lose hst) ho hle (fun v hv => by simp at hv; rcases hv with rfl | rfl; exact Or.inl ⟨_, rfl⟩; exact Or.inl ⟨_, rfl⟩) uc_X2_lose um_L_21 ui_X2_lose us_X2_lose un_X2 ⟨rfl, by decide, by decide, rfl⟩ rfl rfl rfl (by simp [wt, wtA, Value.category]) (by decide) (by decide) dL_lose_3 hself.fit (fun v9 hv9 => by cases hv9) (fun n hn => ?_)
        cases hn
        exact ⟨[], ⟨0, 6, 9, 13⟩, [⟨0, 6, 12, 15⟩], "java/lang/IndexOutOfBoundsException", ht.trans rfl, (fun z hz => by cases hz), (by decide), (by decide), ul_L_13, fw_11, fun q => A_astore_nQ (i := 3) hx dL_lose_9 (by show 3 < 4; decide) (A_iconst (v := 1) hx dL_lose_10 (by decide) (A_iretW hx hr dL_lose_11 hself))⟩
      · skip
        cases hsem
        refine ⟨by simp, hle, fun k9 => ?_⟩
        have hself := k9 (kL κ) (fun _ _ => rfl)
        rw [wL_self] at hself
        refine A_aload_n (i := 0) hx dL_lose_0 rfl (A_iload_n (i := 1) hx dL_lose_1 rfl (A_iload_n (i := 2) hx dL_lose_2 rfl (?_)))
        refine A_callVX (as := [ai a, ai b]) (rest := []) (b := (0, 0)) hx rfl (c_X2_lose hst) ho hle (fun v hv => by simp at hv; rcases hv with rfl | rfl; exact Or.inl ⟨_, rfl⟩; exact Or.inl ⟨_, rfl⟩) uc_X2_lose um_L_21 ui_X2_lose us_X2_lose un_X2 ⟨rfl, by decide, by decide, rfl⟩ rfl rfl rfl (by simp [wt, wtA, Value.category]) (by decide) (by decide) dL_lose_3 hself.fit (fun v9 hv9 => by cases hv9) (fun n hn => ?_)
        cases hn
        exact ⟨[⟨0, 6, 9, 13⟩], ⟨0, 6, 12, 15⟩, [], "java/lang/IllegalStateException", ht.trans rfl, (fun z hz => by rw [List.mem_singleton.mp hz]; exact Or.inr ⟨(by decide), _, ul_L_13, hX⟩), (by decide), (by decide), ul_L_15, fw_22, fun q => A_astore_nQ (i := 3) hx dL_lose_12 (by show 3 < 4; decide) (A_iconst (v := 2) hx dL_lose_13 (by decide) (A_iretW hx hr dL_lose_14 hself))⟩
      · cases hsem
    · cases hsem
  · cases hsem
def w_sendAgain : Sem := fun as σ => match as with
  | [.inr (0, 0), .inl (.int a), .inl (.int b)] => (f_X2_sendAgain [ar (0, 0), ai a, ai b] σ).bind fun o => if sleB σ o.2 = true then (match o.1 with
    | .inl none => some (.inl (some (ai 0)), o.2)
    | .inr 1 => some (.inl (some (ai 1)), o.2)
    | .inr 2 => some (.inl (some (ai 2)), o.2)
    | _ => none) else none
  | _ => none
theorem c_W_sendAgain {l : Launch} {g : Gx} (hl : l.stackTraces = false) : CtW xNI l g yL_sendAgain cL_sendAgain 4 (some .int) [(0, 6, 9, 13), (0, 6, 12, 15)] 9 147 w_sendAgain := by
  refine CtW.of (by decide) hl (fun κ h1 h2 hX hx hr ht as σ σF r hs hsem => ?_)
  have hst := hx.st
  unfold w_sendAgain at hsem
  split at hsem
  · rename_i a b
    obtain ⟨⟨ro, τ⟩, ho, hsem⟩ := obs hsem
    dsimp only at hsem
    split at hsem
    · rename_i hsl
      have hle := sleB_sle hsl
      split at hsem
      · skip
        cases hsem
        refine ⟨by simp, hle, fun k9 => ?_⟩
        have hself := k9 (kL κ) (fun _ _ => rfl)
        rw [wL_self] at hself
        refine A_aload_n (i := 0) hx dL_sendAgain_0 rfl (A_iload_n (i := 1) hx dL_sendAgain_1 rfl (A_iload_n (i := 2) hx dL_sendAgain_2 rfl (?_)))
        refine A_callVX (as := [ai a, ai b]) (rest := []) (b := (0, 0)) hx rfl (c_X2_sendAgain hst) ho hle (fun v hv => by simp at hv; rcases hv with rfl | rfl; exact Or.inl ⟨_, rfl⟩; exact Or.inl ⟨_, rfl⟩) uc_X2_sendAgain um_L_25 ui_X2_sendAgain us_X2_sendAgain un_X2 ⟨rfl, by decide, by decide, rfl⟩ rfl rfl rfl (by simp [wt, wtA, Value.category]) (by decide) (by decide) dL_sendAgain_3 hself.fit (fun v9 hv9 => ?_) (fun n hn => by cases hn)
        cases hv9
        exact A_goto (tgt := 15) hx dL_sendAgain_6 (by decide) (A_iconst (v := 0) hx dL_sendAgain_15 (by decide) (A_iretW hx hr dL_sendAgain_16 hself))
      · skip
        cases hsem
        refine ⟨by simp, hle, fun k9 => ?_⟩
        have hself := k9 (kL κ) (fun _ _ => rfl)
        rw [wL_self] at hself
        refine A_aload_n (i := 0) hx dL_sendAgain_0 rfl (A_iload_n (i := 1) hx dL_sendAgain_1 rfl (A_iload_n (i := 2) hx dL_sendAgain_2 rfl (?_)))
        refine A_callVX (as := [ai a, ai b]) (rest := []) (b := (0, 0)) hx rfl (c_X2_sendAgain hst) ho hle (fun v hv => by simp at hv; rcases hv with rfl | rfl; exact Or.inl ⟨_, rfl⟩; exact Or.inl ⟨_, rfl⟩) uc_X2_sendAgain um_L_25 ui_X2_sendAgain us_X2_sendAgain un_X2 ⟨rfl, by decide, by decide, rfl⟩ rfl rfl rfl (by simp [wt, wtA, Value.category]) (by decide) (by decide) dL_sendAgain_3 hself.fit (fun v9 hv9 => by cases hv9) (fun n hn => ?_)
        cases hn
        exact ⟨[], ⟨0, 6, 9, 13⟩, [⟨0, 6, 12, 15⟩], "java/lang/IndexOutOfBoundsException", ht.trans rfl, (fun z hz => by cases hz), (by decide), (by decide), ul_L_13, fw_11, fun q => A_astore_nQ (i := 3) hx dL_sendAgain_9 (by show 3 < 4; decide) (A_iconst (v := 1) hx dL_sendAgain_10 (by decide) (A_iretW hx hr dL_sendAgain_11 hself))⟩
      · skip
        cases hsem
        refine ⟨by simp, hle, fun k9 => ?_⟩
        have hself := k9 (kL κ) (fun _ _ => rfl)
        rw [wL_self] at hself
        refine A_aload_n (i := 0) hx dL_sendAgain_0 rfl (A_iload_n (i := 1) hx dL_sendAgain_1 rfl (A_iload_n (i := 2) hx dL_sendAgain_2 rfl (?_)))
        refine A_callVX (as := [ai a, ai b]) (rest := []) (b := (0, 0)) hx rfl (c_X2_sendAgain hst) ho hle (fun v hv => by simp at hv; rcases hv with rfl | rfl; exact Or.inl ⟨_, rfl⟩; exact Or.inl ⟨_, rfl⟩) uc_X2_sendAgain um_L_25 ui_X2_sendAgain us_X2_sendAgain un_X2 ⟨rfl, by decide, by decide, rfl⟩ rfl rfl rfl (by simp [wt, wtA, Value.category]) (by decide) (by decide) dL_sendAgain_3 hself.fit (fun v9 hv9 => by cases hv9) (fun n hn => ?_)
        cases hn
        exact ⟨[⟨0, 6, 9, 13⟩], ⟨0, 6, 12, 15⟩, [], "java/lang/IllegalStateException", ht.trans rfl, (fun z hz => by rw [List.mem_singleton.mp hz]; exact Or.inr ⟨(by decide), _, ul_L_13, hX⟩), (by decide), (by decide), ul_L_15, fw_22, fun q => A_astore_nQ (i := 3) hx dL_sendAgain_12 (by show 3 < 4; decide) (A_iconst (v := 2) hx dL_sendAgain_13 (by decide) (A_iretW hx hr dL_sendAgain_14 hself))⟩
      · cases hsem
    · cases hsem
  · cases hsem
def w_sender : Sem := fun as σ => match as with
  | [.inr (0, 0), .inl (.int a), .inr (14, 0)] => (f_X2_sender [ar (0, 0), ai a] σ).bind fun o => if sleB σ o.2 = true then (match o.1 with
    | .inl (some (.inl (.int v))) => some (.inl (some (ai 0)), upJ o.2 v.toInt64)
    | .inr 1 => some (.inl (some (ai 1)), o.2)
    | _ => none) else none
  | _ => none
theorem c_W_sender {l : Launch} {g : Gx} (hl : l.stackTraces = false) : CtW xNI l g yL_sender cL_sender 4 (some .int) [(0, 9, 12, 13)] 8 124 w_sender := by
  refine CtW.of (by decide) hl (fun κ h1 h2 hX hx hr ht as σ σF r hs hsem => ?_)
  have hst := hx.st
  unfold w_sender at hsem
  split at hsem
  · rename_i a
    obtain ⟨⟨ro, τ⟩, ho, hsem⟩ := obs hsem
    dsimp only at hsem
    split at hsem
    · rename_i hsl
      have hle := sleB_sle hsl
      split at hsem
      · rename_i v
        cases hsem
        refine ⟨by simp, hle, fun k9 => ?_⟩
        have hself := k9 (kL κ) (fun _ _ => rfl)
        rw [wL_self] at hself
        refine A_aload_n (i := 2) hx dL_sender_0 rfl (A_iconst (v := 0) hx dL_sender_1 (by decide) (A_aload_n (i := 0) hx dL_sender_2 rfl (A_iload_n (i := 1) hx dL_sender_3 rfl (?_))))
        refine A_callVX (as := [ai a]) (rest := [ai 0, ar (14, 0)]) (b := (0, 0)) hx rfl (c_X2_sender hst) ho hle (fun v hv => by simp at hv; subst hv; exact Or.inl ⟨_, rfl⟩) uc_X2_sender um_L_28 ui_X2_sender us_X2_sender un_X2 ⟨rfl, by decide, by decide, rfl⟩ rfl rfl rfl (by simp [wt, wtA, Value.category]) (by decide) (by decide) dL_sender_4 hself.fit.J (fun v9 hv9 => ?_) (fun n hn => by cases hn)
        cases hv9
        exact A_i2l hx dL_sender_7 (A_lastJ hx dL_sender_8 (A_goto (tgt := 15) hx dL_sender_9 (by decide) (A_iconst (v := 0) hx dL_sender_15 (by decide) (A_iretW hx hr dL_sender_16 hself))))
      · skip
        cases hsem
        refine ⟨by simp, hle, fun k9 => ?_⟩
        have hself := k9 (kL κ) (fun _ _ => rfl)
        rw [wL_self] at hself
        refine A_aload_n (i := 2) hx dL_sender_0 rfl (A_iconst (v := 0) hx dL_sender_1 (by decide) (A_aload_n (i := 0) hx dL_sender_2 rfl (A_iload_n (i := 1) hx dL_sender_3 rfl (?_))))
        refine A_callVX (as := [ai a]) (rest := [ai 0, ar (14, 0)]) (b := (0, 0)) hx rfl (c_X2_sender hst) ho hle (fun v hv => by simp at hv; subst hv; exact Or.inl ⟨_, rfl⟩) uc_X2_sender um_L_28 ui_X2_sender us_X2_sender un_X2 ⟨rfl, by decide, by decide, rfl⟩ rfl rfl rfl (by simp [wt, wtA, Value.category]) (by decide) (by decide) dL_sender_4 hself.fit (fun v9 hv9 => by cases hv9) (fun n hn => ?_)
        cases hn
        exact ⟨[], ⟨0, 9, 12, 13⟩, [], "java/lang/IndexOutOfBoundsException", ht.trans rfl, (fun z hz => by cases hz), (by decide), (by decide), ul_L_13, fw_11, fun q => A_astore_nQ (i := 3) hx dL_sender_12 (by show 3 < 4; decide) (A_iconst (v := 1) hx dL_sender_13 (by decide) (A_iretW hx hr dL_sender_14 hself))⟩
      · cases hsem
    · cases hsem
  · cases hsem
def w_copy : Sem := fun as σ => match as with
  | [.inr (0, 0), .inl (.int a), .inl (.int b), .inr (14, 0)] => (f_X2_copy [ar (0, 0), ai a, ai b] σ).bind fun o => if sleB σ o.2 = true then (match o.1 with
    | .inl (some (.inl (.int v))) => some (.inl (some (ai 0)), upJ o.2 v.toInt64)
    | .inr 1 => some (.inl (some (ai 1)), o.2)
    | _ => none) else none
  | _ => none
theorem c_W_copy {l : Launch} {g : Gx} (hl : l.stackTraces = false) : CtW xNI l g yL_copy cL_copy 5 (some .int) [(0, 10, 13, 13)] 9 147 w_copy := by
  refine CtW.of (by decide) hl (fun κ h1 h2 hX hx hr ht as σ σF r hs hsem => ?_)
  have hst := hx.st
  unfold w_copy at hsem
  split at hsem
  · rename_i a b
    obtain ⟨⟨ro, τ⟩, ho, hsem⟩ := obs hsem
    dsimp only at hsem
    split at hsem
    · rename_i hsl
      have hle := sleB_sle hsl
      split at hsem
      · rename_i v
        cases hsem
        refine ⟨by simp, hle, fun k9 => ?_⟩
        have hself := k9 (kL κ) (fun _ _ => rfl)
        rw [wL_self] at hself
        refine A_aload_n (i := 3) hx dL_copy_0 rfl (A_iconst (v := 0) hx dL_copy_1 (by decide) (A_aload_n (i := 0) hx dL_copy_2 rfl (A_iload_n (i := 1) hx dL_copy_3 rfl (A_iload_n (i := 2) hx dL_copy_4 rfl (?_)))))
        refine A_callVX (as := [ai a, ai b]) (rest := [ai 0, ar (14, 0)]) (b := (0, 0)) hx rfl (c_X2_copy hst) ho hle (fun v hv => by simp at hv; rcases hv with rfl | rfl; exact Or.inl ⟨_, rfl⟩; exact Or.inl ⟨_, rfl⟩) uc_X2_copy um_L_31 ui_X2_copy us_X2_copy un_X2 ⟨rfl, by decide, by decide, rfl⟩ rfl rfl rfl (by simp [wt, wtA, Value.category]) (by decide) (by decide) dL_copy_5 hself.fit.J (fun v9 hv9 => ?_) (fun n hn => by cases hn)
        cases hv9
        exact A_i2l hx dL_copy_8 (A_lastJ hx dL_copy_9 (A_goto (tgt := 17) hx dL_copy_10 (by decide) (A_iconst (v := 0) hx dL_copy_17 (by decide) (A_iretW hx hr dL_copy_18 hself))))
      · skip
        cases hsem
        refine ⟨by simp, hle, fun k9 => ?_⟩
        have hself := k9 (kL κ) (fun _ _ => rfl)
        rw [wL_self] at hself
        refine A_aload_n (i := 3) hx dL_copy_0 rfl (A_iconst (v := 0) hx dL_copy_1 (by decide) (A_aload_n (i := 0) hx dL_copy_2 rfl (A_iload_n (i := 1) hx dL_copy_3 rfl (A_iload_n (i := 2) hx dL_copy_4 rfl (?_)))))
        refine A_callVX (as := [ai a, ai b]) (rest := [ai 0, ar (14, 0)]) (b := (0, 0)) hx rfl (c_X2_copy hst) ho hle (fun v hv => by simp at hv; rcases hv with rfl | rfl; exact Or.inl ⟨_, rfl⟩; exact Or.inl ⟨_, rfl⟩) uc_X2_copy um_L_31 ui_X2_copy us_X2_copy un_X2 ⟨rfl, by decide, by decide, rfl⟩ rfl rfl rfl (by simp [wt, wtA, Value.category]) (by decide) (by decide) dL_copy_5 hself.fit (fun v9 hv9 => by cases hv9) (fun n hn => ?_)
        cases hn
        exact ⟨[], ⟨0, 10, 13, 13⟩, [], "java/lang/IndexOutOfBoundsException", ht.trans rfl, (fun z hz => by cases hz), (by decide), (by decide), ul_L_13, fw_11, fun q => A_astoreQ hx dL_copy_13 (by show 4 < 5; decide) (A_iconst (v := 1) hx dL_copy_15 (by decide) (A_iretW hx hr dL_copy_16 hself))⟩
      · cases hsem
    · cases hsem
  · cases hsem
def w_clock : Sem := fun as σ => match as with
  | [.inr (0, 0), .inl (.int a), .inl (.int b), .inr (14, 0)] => (f_X2_clock [ar (0, 0), ai a, ai b] σ).bind fun o => if sleB σ o.2 = true then (match o.1 with
    | .inl (some (.inl (.int v))) => some (.inl (some (ai 0)), upJ o.2 v.toInt64)
    | .inr 1 => some (.inl (some (ai 1)), o.2)
    | _ => none) else none
  | _ => none
theorem c_W_clock {l : Launch} {g : Gx} (hl : l.stackTraces = false) : CtW xNI l g yL_clock cL_clock 5 (some .int) [(0, 10, 13, 13)] 8 125 w_clock := by
  refine CtW.of (by decide) hl (fun κ h1 h2 hX hx hr ht as σ σF r hs hsem => ?_)
  have hst := hx.st
  unfold w_clock at hsem
  split at hsem
  · rename_i a b
    obtain ⟨⟨ro, τ⟩, ho, hsem⟩ := obs hsem
    dsimp only at hsem
    split at hsem
    · rename_i hsl
      have hle := sleB_sle hsl
      split at hsem
      · rename_i v
        cases hsem
        refine ⟨by simp, hle, fun k9 => ?_⟩
        have hself := k9 (kL κ) (fun _ _ => rfl)
        rw [wL_self] at hself
        refine A_aload_n (i := 3) hx dL_clock_0 rfl (A_iconst (v := 0) hx dL_clock_1 (by decide) (A_aload_n (i := 0) hx dL_clock_2 rfl (A_iload_n (i := 1) hx dL_clock_3 rfl (A_iload_n (i := 2) hx dL_clock_4 rfl (?_)))))
        refine A_callVX (as := [ai a, ai b]) (rest := [ai 0, ar (14, 0)]) (b := (0, 0)) hx rfl (c_X2_clock hst) ho hle (fun v hv => by simp at hv; rcases hv with rfl | rfl; exact Or.inl ⟨_, rfl⟩; exact Or.inl ⟨_, rfl⟩) uc_X2_clock um_L_34 ui_X2_clock us_X2_clock un_X2 ⟨rfl, by decide, by decide, rfl⟩ rfl rfl rfl (by simp [wt, wtA, Value.category]) (by decide) (by decide) dL_clock_5 hself.fit.J (fun v9 hv9 => ?_) (fun n hn => by cases hn)
        cases hv9
        exact A_i2l hx dL_clock_8 (A_lastJ hx dL_clock_9 (A_goto (tgt := 17) hx dL_clock_10 (by decide) (A_iconst (v := 0) hx dL_clock_17 (by decide) (A_iretW hx hr dL_clock_18 hself))))
      · skip
        cases hsem
        refine ⟨by simp, hle, fun k9 => ?_⟩
        have hself := k9 (kL κ) (fun _ _ => rfl)
        rw [wL_self] at hself
        refine A_aload_n (i := 3) hx dL_clock_0 rfl (A_iconst (v := 0) hx dL_clock_1 (by decide) (A_aload_n (i := 0) hx dL_clock_2 rfl (A_iload_n (i := 1) hx dL_clock_3 rfl (A_iload_n (i := 2) hx dL_clock_4 rfl (?_)))))
        refine A_callVX (as := [ai a, ai b]) (rest := [ai 0, ar (14, 0)]) (b := (0, 0)) hx rfl (c_X2_clock hst) ho hle (fun v hv => by simp at hv; rcases hv with rfl | rfl; exact Or.inl ⟨_, rfl⟩; exact Or.inl ⟨_, rfl⟩) uc_X2_clock um_L_34 ui_X2_clock us_X2_clock un_X2 ⟨rfl, by decide, by decide, rfl⟩ rfl rfl rfl (by simp [wt, wtA, Value.category]) (by decide) (by decide) dL_clock_5 hself.fit (fun v9 hv9 => by cases hv9) (fun n hn => ?_)
        cases hn
        exact ⟨[], ⟨0, 10, 13, 13⟩, [], "java/lang/IndexOutOfBoundsException", ht.trans rfl, (fun z hz => by cases hz), (by decide), (by decide), ul_L_13, fw_11, fun q => A_astoreQ hx dL_clock_13 (by show 4 < 5; decide) (A_iconst (v := 1) hx dL_clock_15 (by decide) (A_iretW hx hr dL_clock_16 hself))⟩
      · cases hsem
    · cases hsem
  · cases hsem
def w_stamp : Sem := fun as σ => match as with
  | [.inr (0, 0), .inl (.int a), .inl (.int b), .inr (14, 0)] => (f_X2_stamp [ar (0, 0), ai a, ai b] σ).bind fun o => if sleB σ o.2 = true then (match o.1 with
    | .inl (some (.inl (.int v))) => some (.inl (some (ai 0)), upJ o.2 v.toInt64)
    | .inr 1 => some (.inl (some (ai 1)), o.2)
    | _ => none) else none
  | _ => none
theorem c_W_stamp {l : Launch} {g : Gx} (hl : l.stackTraces = false) : CtW xNI l g yL_stamp cL_stamp 5 (some .int) [(0, 10, 13, 13)] 9 147 w_stamp := by
  refine CtW.of (by decide) hl (fun κ h1 h2 hX hx hr ht as σ σF r hs hsem => ?_)
  have hst := hx.st
  unfold w_stamp at hsem
  split at hsem
  · rename_i a b
    obtain ⟨⟨ro, τ⟩, ho, hsem⟩ := obs hsem
    dsimp only at hsem
    split at hsem
    · rename_i hsl
      have hle := sleB_sle hsl
      split at hsem
      · rename_i v
        cases hsem
        refine ⟨by simp, hle, fun k9 => ?_⟩
        have hself := k9 (kL κ) (fun _ _ => rfl)
        rw [wL_self] at hself
        refine A_aload_n (i := 3) hx dL_stamp_0 rfl (A_iconst (v := 0) hx dL_stamp_1 (by decide) (A_aload_n (i := 0) hx dL_stamp_2 rfl (A_iload_n (i := 1) hx dL_stamp_3 rfl (A_iload_n (i := 2) hx dL_stamp_4 rfl (?_)))))
        refine A_callVX (as := [ai a, ai b]) (rest := [ai 0, ar (14, 0)]) (b := (0, 0)) hx rfl (c_X2_stamp hst) ho hle (fun v hv => by simp at hv; rcases hv with rfl | rfl; exact Or.inl ⟨_, rfl⟩; exact Or.inl ⟨_, rfl⟩) uc_X2_stamp um_L_37 ui_X2_stamp us_X2_stamp un_X2 ⟨rfl, by decide, by decide, rfl⟩ rfl rfl rfl (by simp [wt, wtA, Value.category]) (by decide) (by decide) dL_stamp_5 hself.fit.J (fun v9 hv9 => ?_) (fun n hn => by cases hn)
        cases hv9
        exact A_i2l hx dL_stamp_8 (A_lastJ hx dL_stamp_9 (A_goto (tgt := 17) hx dL_stamp_10 (by decide) (A_iconst (v := 0) hx dL_stamp_17 (by decide) (A_iretW hx hr dL_stamp_18 hself))))
      · skip
        cases hsem
        refine ⟨by simp, hle, fun k9 => ?_⟩
        have hself := k9 (kL κ) (fun _ _ => rfl)
        rw [wL_self] at hself
        refine A_aload_n (i := 3) hx dL_stamp_0 rfl (A_iconst (v := 0) hx dL_stamp_1 (by decide) (A_aload_n (i := 0) hx dL_stamp_2 rfl (A_iload_n (i := 1) hx dL_stamp_3 rfl (A_iload_n (i := 2) hx dL_stamp_4 rfl (?_)))))
        refine A_callVX (as := [ai a, ai b]) (rest := [ai 0, ar (14, 0)]) (b := (0, 0)) hx rfl (c_X2_stamp hst) ho hle (fun v hv => by simp at hv; rcases hv with rfl | rfl; exact Or.inl ⟨_, rfl⟩; exact Or.inl ⟨_, rfl⟩) uc_X2_stamp um_L_37 ui_X2_stamp us_X2_stamp un_X2 ⟨rfl, by decide, by decide, rfl⟩ rfl rfl rfl (by simp [wt, wtA, Value.category]) (by decide) (by decide) dL_stamp_5 hself.fit (fun v9 hv9 => by cases hv9) (fun n hn => ?_)
        cases hn
        exact ⟨[], ⟨0, 10, 13, 13⟩, [], "java/lang/IndexOutOfBoundsException", ht.trans rfl, (fun z hz => by cases hz), (by decide), (by decide), ul_L_13, fw_11, fun q => A_astoreQ hx dL_stamp_13 (by show 4 < 5; decide) (A_iconst (v := 1) hx dL_stamp_15 (by decide) (A_iretW hx hr dL_stamp_16 hself))⟩
      · cases hsem
    · cases hsem
  · cases hsem
def w_precedes : Sem := fun as σ => match as with
  | [.inr (0, 0), .inl (.int a), .inl (.int b), .inr (14, 0)] => (f_X2_precedes [ar (0, 0), ai a, ai b] σ).bind fun o => if sleB σ o.2 = true then (match o.1 with
    | .inl (some (.inl (.int v))) => some (.inl (some (ai 0)), upJ o.2 (b2l v))
    | .inr 1 => some (.inl (some (ai 1)), o.2)
    | _ => none) else none
  | _ => none
theorem c_W_precedes {l : Launch} {g : Gx} (hl : l.stackTraces = false) : CtW xNI l g yL_precedes cL_precedes 5 (some .int) [(0, 17, 20, 13)] 8 125 w_precedes := by
  refine CtW.of (by decide) hl (fun κ h1 h2 hX hx hr ht as σ σF r hs hsem => ?_)
  have hst := hx.st
  unfold w_precedes at hsem
  split at hsem
  · rename_i a b
    obtain ⟨⟨ro, τ⟩, ho, hsem⟩ := obs hsem
    dsimp only at hsem
    split at hsem
    · rename_i hsl
      have hle := sleB_sle hsl
      split at hsem
      · rename_i v
        cases hsem
        refine ⟨by simp, hle, fun k9 => ?_⟩
        have hself := k9 (kL κ) (fun _ _ => rfl)
        rw [wL_self] at hself
        refine A_aload_n (i := 3) hx dL_precedes_0 rfl (A_iconst (v := 0) hx dL_precedes_1 (by decide) (A_aload_n (i := 0) hx dL_precedes_2 rfl (A_iload_n (i := 1) hx dL_precedes_3 rfl (A_iload_n (i := 2) hx dL_precedes_4 rfl (?_)))))
        refine A_callVX (as := [ai a, ai b]) (rest := [ai 0, ar (14, 0)]) (b := (0, 0)) hx rfl (c_X2_precedes hst) ho hle (fun v hv => by simp at hv; rcases hv with rfl | rfl; exact Or.inl ⟨_, rfl⟩; exact Or.inl ⟨_, rfl⟩) uc_X2_precedes um_L_40 ui_X2_precedes us_X2_precedes un_X2 ⟨rfl, by decide, by decide, rfl⟩ rfl rfl rfl (by simp [wt, wtA, Value.category]) (by decide) (by decide) dL_precedes_5 hself.fit.J (fun v9 hv9 => ?_) (fun n hn => by cases hn)
        cases hv9
        refine A_if_eq (tgt := 15) hx dL_precedes_8 (by decide) (fun q => ?_) (fun q => ?_)
        · have e : b2l v = 0 := if_pos q
          rw [e] at hself
          exact A_lconst (v := 0) hx dL_precedes_15 (by decide) (A_lastJ hx dL_precedes_16 (A_goto (tgt := 24) hx dL_precedes_17 (by decide) (A_iconst (v := 0) hx dL_precedes_24 (by decide) (A_iretW hx hr dL_precedes_25 hself))))
        · have e : b2l v = 1 := if_neg q
          rw [e] at hself
          exact A_lconst (v := 1) hx dL_precedes_11 (by decide) (A_goto (tgt := 16) hx dL_precedes_12 (by decide) (A_lastJ hx dL_precedes_16 (A_goto (tgt := 24) hx dL_precedes_17 (by decide) (A_iconst (v := 0) hx dL_precedes_24 (by decide) (A_iretW hx hr dL_precedes_25 hself)))))
      · skip
        cases hsem
        refine ⟨by simp, hle, fun k9 => ?_⟩
        have hself := k9 (kL κ) (fun _ _ => rfl)
        rw [wL_self] at hself
        refine A_aload_n (i := 3) hx dL_precedes_0 rfl (A_iconst (v := 0) hx dL_precedes_1 (by decide) (A_aload_n (i := 0) hx dL_precedes_2 rfl (A_iload_n (i := 1) hx dL_precedes_3 rfl (A_iload_n (i := 2) hx dL_precedes_4 rfl (?_)))))
        refine A_callVX (as := [ai a, ai b]) (rest := [ai 0, ar (14, 0)]) (b := (0, 0)) hx rfl (c_X2_precedes hst) ho hle (fun v hv => by simp at hv; rcases hv with rfl | rfl; exact Or.inl ⟨_, rfl⟩; exact Or.inl ⟨_, rfl⟩) uc_X2_precedes um_L_40 ui_X2_precedes us_X2_precedes un_X2 ⟨rfl, by decide, by decide, rfl⟩ rfl rfl rfl (by simp [wt, wtA, Value.category]) (by decide) (by decide) dL_precedes_5 hself.fit (fun v9 hv9 => by cases hv9) (fun n hn => ?_)
        cases hn
        exact ⟨[], ⟨0, 17, 20, 13⟩, [], "java/lang/IndexOutOfBoundsException", ht.trans rfl, (fun z hz => by cases hz), (by decide), (by decide), ul_L_13, fw_11, fun q => A_astoreQ hx dL_precedes_20 (by show 4 < 5; decide) (A_iconst (v := 1) hx dL_precedes_22 (by decide) (A_iretW hx hr dL_precedes_23 hself))⟩
      · cases hsem
    · cases hsem
  · cases hsem
def w_precedesByHistory : Sem := fun as σ => match as with
  | [.inr (0, 0), .inl (.int a), .inl (.int b), .inr (14, 0)] => (f_X2_precedesByHistory [ar (0, 0), ai a, ai b] σ).bind fun o => if sleB σ o.2 = true then (match o.1 with
    | .inl (some (.inl (.int v))) => some (.inl (some (ai 0)), upJ o.2 (b2l v))
    | .inr 1 => some (.inl (some (ai 1)), o.2)
    | _ => none) else none
  | _ => none
theorem c_W_precedesByHistory {l : Launch} {g : Gx} (hl : l.stackTraces = false) : CtW xNI l g yL_precedesByHistory cL_precedesByHistory 5 (some .int) [(0, 17, 20, 13)] 8 125 w_precedesByHistory := by
  refine CtW.of (by decide) hl (fun κ h1 h2 hX hx hr ht as σ σF r hs hsem => ?_)
  have hst := hx.st
  unfold w_precedesByHistory at hsem
  split at hsem
  · rename_i a b
    obtain ⟨⟨ro, τ⟩, ho, hsem⟩ := obs hsem
    dsimp only at hsem
    split at hsem
    · rename_i hsl
      have hle := sleB_sle hsl
      split at hsem
      · rename_i v
        cases hsem
        refine ⟨by simp, hle, fun k9 => ?_⟩
        have hself := k9 (kL κ) (fun _ _ => rfl)
        rw [wL_self] at hself
        refine A_aload_n (i := 3) hx dL_precedesByHistory_0 rfl (A_iconst (v := 0) hx dL_precedesByHistory_1 (by decide) (A_aload_n (i := 0) hx dL_precedesByHistory_2 rfl (A_iload_n (i := 1) hx dL_precedesByHistory_3 rfl (A_iload_n (i := 2) hx dL_precedesByHistory_4 rfl (?_)))))
        refine A_callVX (as := [ai a, ai b]) (rest := [ai 0, ar (14, 0)]) (b := (0, 0)) hx rfl (c_X2_precedesByHistory hst) ho hle (fun v hv => by simp at hv; rcases hv with rfl | rfl; exact Or.inl ⟨_, rfl⟩; exact Or.inl ⟨_, rfl⟩) uc_X2_precedesByHistory um_L_44 ui_X2_precedesByHistory us_X2_precedesByHistory un_X2 ⟨rfl, by decide, by decide, rfl⟩ rfl rfl rfl (by simp [wt, wtA, Value.category]) (by decide) (by decide) dL_precedesByHistory_5 hself.fit.J (fun v9 hv9 => ?_) (fun n hn => by cases hn)
        cases hv9
        refine A_if_eq (tgt := 15) hx dL_precedesByHistory_8 (by decide) (fun q => ?_) (fun q => ?_)
        · have e : b2l v = 0 := if_pos q
          rw [e] at hself
          exact A_lconst (v := 0) hx dL_precedesByHistory_15 (by decide) (A_lastJ hx dL_precedesByHistory_16 (A_goto (tgt := 24) hx dL_precedesByHistory_17 (by decide) (A_iconst (v := 0) hx dL_precedesByHistory_24 (by decide) (A_iretW hx hr dL_precedesByHistory_25 hself))))
        · have e : b2l v = 1 := if_neg q
          rw [e] at hself
          exact A_lconst (v := 1) hx dL_precedesByHistory_11 (by decide) (A_goto (tgt := 16) hx dL_precedesByHistory_12 (by decide) (A_lastJ hx dL_precedesByHistory_16 (A_goto (tgt := 24) hx dL_precedesByHistory_17 (by decide) (A_iconst (v := 0) hx dL_precedesByHistory_24 (by decide) (A_iretW hx hr dL_precedesByHistory_25 hself)))))
      · skip
        cases hsem
        refine ⟨by simp, hle, fun k9 => ?_⟩
        have hself := k9 (kL κ) (fun _ _ => rfl)
        rw [wL_self] at hself
        refine A_aload_n (i := 3) hx dL_precedesByHistory_0 rfl (A_iconst (v := 0) hx dL_precedesByHistory_1 (by decide) (A_aload_n (i := 0) hx dL_precedesByHistory_2 rfl (A_iload_n (i := 1) hx dL_precedesByHistory_3 rfl (A_iload_n (i := 2) hx dL_precedesByHistory_4 rfl (?_)))))
        refine A_callVX (as := [ai a, ai b]) (rest := [ai 0, ar (14, 0)]) (b := (0, 0)) hx rfl (c_X2_precedesByHistory hst) ho hle (fun v hv => by simp at hv; rcases hv with rfl | rfl; exact Or.inl ⟨_, rfl⟩; exact Or.inl ⟨_, rfl⟩) uc_X2_precedesByHistory um_L_44 ui_X2_precedesByHistory us_X2_precedesByHistory un_X2 ⟨rfl, by decide, by decide, rfl⟩ rfl rfl rfl (by simp [wt, wtA, Value.category]) (by decide) (by decide) dL_precedesByHistory_5 hself.fit (fun v9 hv9 => by cases hv9) (fun n hn => ?_)
        cases hn
        exact ⟨[], ⟨0, 17, 20, 13⟩, [], "java/lang/IndexOutOfBoundsException", ht.trans rfl, (fun z hz => by cases hz), (by decide), (by decide), ul_L_13, fw_11, fun q => A_astoreQ hx dL_precedesByHistory_20 (by show 4 < 5; decide) (A_iconst (v := 1) hx dL_precedesByHistory_22 (by decide) (A_iretW hx hr dL_precedesByHistory_23 hself))⟩
      · cases hsem
    · cases hsem
  · cases hsem
def w_areConcurrent : Sem := fun as σ => match as with
  | [.inr (0, 0), .inl (.int a), .inl (.int b), .inr (14, 0)] => (f_X2_areConcurrent [ar (0, 0), ai a, ai b] σ).bind fun o => if sleB σ o.2 = true then (match o.1 with
    | .inl (some (.inl (.int v))) => some (.inl (some (ai 0)), upJ o.2 (b2l v))
    | .inr 1 => some (.inl (some (ai 1)), o.2)
    | _ => none) else none
  | _ => none
theorem c_W_areConcurrent {l : Launch} {g : Gx} (hl : l.stackTraces = false) : CtW xNI l g yL_areConcurrent cL_areConcurrent 5 (some .int) [(0, 17, 20, 13)] 8 127 w_areConcurrent := by
  refine CtW.of (by decide) hl (fun κ h1 h2 hX hx hr ht as σ σF r hs hsem => ?_)
  have hst := hx.st
  unfold w_areConcurrent at hsem
  split at hsem
  · rename_i a b
    obtain ⟨⟨ro, τ⟩, ho, hsem⟩ := obs hsem
    dsimp only at hsem
    split at hsem
    · rename_i hsl
      have hle := sleB_sle hsl
      split at hsem
      · rename_i v
        cases hsem
        refine ⟨by simp, hle, fun k9 => ?_⟩
        have hself := k9 (kL κ) (fun _ _ => rfl)
        rw [wL_self] at hself
        refine A_aload_n (i := 3) hx dL_areConcurrent_0 rfl (A_iconst (v := 0) hx dL_areConcurrent_1 (by decide) (A_aload_n (i := 0) hx dL_areConcurrent_2 rfl (A_iload_n (i := 1) hx dL_areConcurrent_3 rfl (A_iload_n (i := 2) hx dL_areConcurrent_4 rfl (?_)))))
        refine A_callVX (as := [ai a, ai b]) (rest := [ai 0, ar (14, 0)]) (b := (0, 0)) hx rfl (c_X2_areConcurrent hst) ho hle (fun v hv => by simp at hv; rcases hv with rfl | rfl; exact Or.inl ⟨_, rfl⟩; exact Or.inl ⟨_, rfl⟩) uc_X2_areConcurrent um_L_47 ui_X2_areConcurrent us_X2_areConcurrent un_X2 ⟨rfl, by decide, by decide, rfl⟩ rfl rfl rfl (by simp [wt, wtA, Value.category]) (by decide) (by decide) dL_areConcurrent_5 hself.fit.J (fun v9 hv9 => ?_) (fun n hn => by cases hn)
        cases hv9
        refine A_if_eq (tgt := 15) hx dL_areConcurrent_8 (by decide) (fun q => ?_) (fun q => ?_)
        · have e : b2l v = 0 := if_pos q
          rw [e] at hself
          exact A_lconst (v := 0) hx dL_areConcurrent_15 (by decide) (A_lastJ hx dL_areConcurrent_16 (A_goto (tgt := 24) hx dL_areConcurrent_17 (by decide) (A_iconst (v := 0) hx dL_areConcurrent_24 (by decide) (A_iretW hx hr dL_areConcurrent_25 hself))))
        · have e : b2l v = 1 := if_neg q
          rw [e] at hself
          exact A_lconst (v := 1) hx dL_areConcurrent_11 (by decide) (A_goto (tgt := 16) hx dL_areConcurrent_12 (by decide) (A_lastJ hx dL_areConcurrent_16 (A_goto (tgt := 24) hx dL_areConcurrent_17 (by decide) (A_iconst (v := 0) hx dL_areConcurrent_24 (by decide) (A_iretW hx hr dL_areConcurrent_25 hself)))))
      · skip
        cases hsem
        refine ⟨by simp, hle, fun k9 => ?_⟩
        have hself := k9 (kL κ) (fun _ _ => rfl)
        rw [wL_self] at hself
        refine A_aload_n (i := 3) hx dL_areConcurrent_0 rfl (A_iconst (v := 0) hx dL_areConcurrent_1 (by decide) (A_aload_n (i := 0) hx dL_areConcurrent_2 rfl (A_iload_n (i := 1) hx dL_areConcurrent_3 rfl (A_iload_n (i := 2) hx dL_areConcurrent_4 rfl (?_)))))
        refine A_callVX (as := [ai a, ai b]) (rest := [ai 0, ar (14, 0)]) (b := (0, 0)) hx rfl (c_X2_areConcurrent hst) ho hle (fun v hv => by simp at hv; rcases hv with rfl | rfl; exact Or.inl ⟨_, rfl⟩; exact Or.inl ⟨_, rfl⟩) uc_X2_areConcurrent um_L_47 ui_X2_areConcurrent us_X2_areConcurrent un_X2 ⟨rfl, by decide, by decide, rfl⟩ rfl rfl rfl (by simp [wt, wtA, Value.category]) (by decide) (by decide) dL_areConcurrent_5 hself.fit (fun v9 hv9 => by cases hv9) (fun n hn => ?_)
        cases hn
        exact ⟨[], ⟨0, 17, 20, 13⟩, [], "java/lang/IndexOutOfBoundsException", ht.trans rfl, (fun z hz => by cases hz), (by decide), (by decide), ul_L_13, fw_11, fun q => A_astoreQ hx dL_areConcurrent_20 (by show 4 < 5; decide) (A_iconst (v := 1) hx dL_areConcurrent_22 (by decide) (A_iretW hx hr dL_areConcurrent_23 hself))⟩
      · cases hsem
    · cases hsem
  · cases hsem
def w_delivered : Sem := fun as σ => match as with
  | [.inr (0, 0), .inl (.int a), .inr (14, 0)] => (f_X2_delivered [ar (0, 0), ai a] σ).bind fun o => if sleB σ o.2 = true then (match o.1 with
    | .inl (some (.inl (.int v))) => some (.inl (some (ai 0)), upJ o.2 v.toInt64)
    | .inr 1 => some (.inl (some (ai 1)), o.2)
    | _ => none) else none
  | _ => none
theorem c_W_delivered {l : Launch} {g : Gx} (hl : l.stackTraces = false) : CtW xNI l g yL_delivered cL_delivered 4 (some .int) [(0, 9, 12, 13)] 8 124 w_delivered := by
  refine CtW.of (by decide) hl (fun κ h1 h2 hX hx hr ht as σ σF r hs hsem => ?_)
  have hst := hx.st
  unfold w_delivered at hsem
  split at hsem
  · rename_i a
    obtain ⟨⟨ro, τ⟩, ho, hsem⟩ := obs hsem
    dsimp only at hsem
    split at hsem
    · rename_i hsl
      have hle := sleB_sle hsl
      split at hsem
      · rename_i v
        cases hsem
        refine ⟨by simp, hle, fun k9 => ?_⟩
        have hself := k9 (kL κ) (fun _ _ => rfl)
        rw [wL_self] at hself
        refine A_aload_n (i := 2) hx dL_delivered_0 rfl (A_iconst (v := 0) hx dL_delivered_1 (by decide) (A_aload_n (i := 0) hx dL_delivered_2 rfl (A_iload_n (i := 1) hx dL_delivered_3 rfl (?_))))
        refine A_callVX (as := [ai a]) (rest := [ai 0, ar (14, 0)]) (b := (0, 0)) hx rfl (c_X2_delivered hst) ho hle (fun v hv => by simp at hv; subst hv; exact Or.inl ⟨_, rfl⟩) uc_X2_delivered um_L_50 ui_X2_delivered us_X2_delivered un_X2 ⟨rfl, by decide, by decide, rfl⟩ rfl rfl rfl (by simp [wt, wtA, Value.category]) (by decide) (by decide) dL_delivered_4 hself.fit.J (fun v9 hv9 => ?_) (fun n hn => by cases hn)
        cases hv9
        exact A_i2l hx dL_delivered_7 (A_lastJ hx dL_delivered_8 (A_goto (tgt := 15) hx dL_delivered_9 (by decide) (A_iconst (v := 0) hx dL_delivered_15 (by decide) (A_iretW hx hr dL_delivered_16 hself))))
      · skip
        cases hsem
        refine ⟨by simp, hle, fun k9 => ?_⟩
        have hself := k9 (kL κ) (fun _ _ => rfl)
        rw [wL_self] at hself
        refine A_aload_n (i := 2) hx dL_delivered_0 rfl (A_iconst (v := 0) hx dL_delivered_1 (by decide) (A_aload_n (i := 0) hx dL_delivered_2 rfl (A_iload_n (i := 1) hx dL_delivered_3 rfl (?_))))
        refine A_callVX (as := [ai a]) (rest := [ai 0, ar (14, 0)]) (b := (0, 0)) hx rfl (c_X2_delivered hst) ho hle (fun v hv => by simp at hv; subst hv; exact Or.inl ⟨_, rfl⟩) uc_X2_delivered um_L_50 ui_X2_delivered us_X2_delivered un_X2 ⟨rfl, by decide, by decide, rfl⟩ rfl rfl rfl (by simp [wt, wtA, Value.category]) (by decide) (by decide) dL_delivered_4 hself.fit (fun v9 hv9 => by cases hv9) (fun n hn => ?_)
        cases hn
        exact ⟨[], ⟨0, 9, 12, 13⟩, [], "java/lang/IndexOutOfBoundsException", ht.trans rfl, (fun z hz => by cases hz), (by decide), (by decide), ul_L_13, fw_11, fun q => A_astore_nQ (i := 3) hx dL_delivered_12 (by show 3 < 4; decide) (A_iconst (v := 1) hx dL_delivered_13 (by decide) (A_iretW hx hr dL_delivered_14 hself))⟩
      · cases hsem
    · cases hsem
  · cases hsem
def w_deliveredAt : Sem := fun as σ => match as with
  | [.inr (0, 0), .inl (.int a), .inl (.int b), .inr (14, 0)] => (f_X2_deliveredAt [ar (0, 0), ai a, ai b] σ).bind fun o => if sleB σ o.2 = true then (match o.1 with
    | .inl (some (.inl (.int v))) => some (.inl (some (ai 0)), upJ o.2 v.toInt64)
    | .inr 1 => some (.inl (some (ai 1)), o.2)
    | _ => none) else none
  | _ => none
theorem c_W_deliveredAt {l : Launch} {g : Gx} (hl : l.stackTraces = false) : CtW xNI l g yL_deliveredAt cL_deliveredAt 5 (some .int) [(0, 10, 13, 13)] 8 126 w_deliveredAt := by
  refine CtW.of (by decide) hl (fun κ h1 h2 hX hx hr ht as σ σF r hs hsem => ?_)
  have hst := hx.st
  unfold w_deliveredAt at hsem
  split at hsem
  · rename_i a b
    obtain ⟨⟨ro, τ⟩, ho, hsem⟩ := obs hsem
    dsimp only at hsem
    split at hsem
    · rename_i hsl
      have hle := sleB_sle hsl
      split at hsem
      · rename_i v
        cases hsem
        refine ⟨by simp, hle, fun k9 => ?_⟩
        have hself := k9 (kL κ) (fun _ _ => rfl)
        rw [wL_self] at hself
        refine A_aload_n (i := 3) hx dL_deliveredAt_0 rfl (A_iconst (v := 0) hx dL_deliveredAt_1 (by decide) (A_aload_n (i := 0) hx dL_deliveredAt_2 rfl (A_iload_n (i := 1) hx dL_deliveredAt_3 rfl (A_iload_n (i := 2) hx dL_deliveredAt_4 rfl (?_)))))
        refine A_callVX (as := [ai a, ai b]) (rest := [ai 0, ar (14, 0)]) (b := (0, 0)) hx rfl (c_X2_deliveredAt hst) ho hle (fun v hv => by simp at hv; rcases hv with rfl | rfl; exact Or.inl ⟨_, rfl⟩; exact Or.inl ⟨_, rfl⟩) uc_X2_deliveredAt um_L_53 ui_X2_deliveredAt us_X2_deliveredAt un_X2 ⟨rfl, by decide, by decide, rfl⟩ rfl rfl rfl (by simp [wt, wtA, Value.category]) (by decide) (by decide) dL_deliveredAt_5 hself.fit.J (fun v9 hv9 => ?_) (fun n hn => by cases hn)
        cases hv9
        exact A_i2l hx dL_deliveredAt_8 (A_lastJ hx dL_deliveredAt_9 (A_goto (tgt := 17) hx dL_deliveredAt_10 (by decide) (A_iconst (v := 0) hx dL_deliveredAt_17 (by decide) (A_iretW hx hr dL_deliveredAt_18 hself))))
      · skip
        cases hsem
        refine ⟨by simp, hle, fun k9 => ?_⟩
        have hself := k9 (kL κ) (fun _ _ => rfl)
        rw [wL_self] at hself
        refine A_aload_n (i := 3) hx dL_deliveredAt_0 rfl (A_iconst (v := 0) hx dL_deliveredAt_1 (by decide) (A_aload_n (i := 0) hx dL_deliveredAt_2 rfl (A_iload_n (i := 1) hx dL_deliveredAt_3 rfl (A_iload_n (i := 2) hx dL_deliveredAt_4 rfl (?_)))))
        refine A_callVX (as := [ai a, ai b]) (rest := [ai 0, ar (14, 0)]) (b := (0, 0)) hx rfl (c_X2_deliveredAt hst) ho hle (fun v hv => by simp at hv; rcases hv with rfl | rfl; exact Or.inl ⟨_, rfl⟩; exact Or.inl ⟨_, rfl⟩) uc_X2_deliveredAt um_L_53 ui_X2_deliveredAt us_X2_deliveredAt un_X2 ⟨rfl, by decide, by decide, rfl⟩ rfl rfl rfl (by simp [wt, wtA, Value.category]) (by decide) (by decide) dL_deliveredAt_5 hself.fit (fun v9 hv9 => by cases hv9) (fun n hn => ?_)
        cases hn
        exact ⟨[], ⟨0, 10, 13, 13⟩, [], "java/lang/IndexOutOfBoundsException", ht.trans rfl, (fun z hz => by cases hz), (by decide), (by decide), ul_L_13, fw_11, fun q => A_astoreQ hx dL_deliveredAt_13 (by show 4 < 5; decide) (A_iconst (v := 1) hx dL_deliveredAt_15 (by decide) (A_iretW hx hr dL_deliveredAt_16 hself))⟩
      · cases hsem
    · cases hsem
  · cases hsem
def w_waiting : Sem := fun as σ => match as with
  | [.inr (0, 0), .inl (.int a), .inr (14, 0)] => (f_X2_waiting [ar (0, 0), ai a] σ).bind fun o => if sleB σ o.2 = true then (match o.1 with
    | .inl (some (.inl (.int v))) => some (.inl (some (ai 0)), upJ o.2 v.toInt64)
    | .inr 1 => some (.inl (some (ai 1)), o.2)
    | _ => none) else none
  | _ => none
theorem c_W_waiting {l : Launch} {g : Gx} (hl : l.stackTraces = false) : CtW xNI l g yL_waiting cL_waiting 4 (some .int) [(0, 9, 12, 13)] 8 124 w_waiting := by
  refine CtW.of (by decide) hl (fun κ h1 h2 hX hx hr ht as σ σF r hs hsem => ?_)
  have hst := hx.st
  unfold w_waiting at hsem
  split at hsem
  · rename_i a
    obtain ⟨⟨ro, τ⟩, ho, hsem⟩ := obs hsem
    dsimp only at hsem
    split at hsem
    · rename_i hsl
      have hle := sleB_sle hsl
      split at hsem
      · rename_i v
        cases hsem
        refine ⟨by simp, hle, fun k9 => ?_⟩
        have hself := k9 (kL κ) (fun _ _ => rfl)
        rw [wL_self] at hself
        refine A_aload_n (i := 2) hx dL_waiting_0 rfl (A_iconst (v := 0) hx dL_waiting_1 (by decide) (A_aload_n (i := 0) hx dL_waiting_2 rfl (A_iload_n (i := 1) hx dL_waiting_3 rfl (?_))))
        refine A_callVX (as := [ai a]) (rest := [ai 0, ar (14, 0)]) (b := (0, 0)) hx rfl (c_X2_waiting hst) ho hle (fun v hv => by simp at hv; subst hv; exact Or.inl ⟨_, rfl⟩) uc_X2_waiting um_L_56 ui_X2_waiting us_X2_waiting un_X2 ⟨rfl, by decide, by decide, rfl⟩ rfl rfl rfl (by simp [wt, wtA, Value.category]) (by decide) (by decide) dL_waiting_4 hself.fit.J (fun v9 hv9 => ?_) (fun n hn => by cases hn)
        cases hv9
        exact A_i2l hx dL_waiting_7 (A_lastJ hx dL_waiting_8 (A_goto (tgt := 15) hx dL_waiting_9 (by decide) (A_iconst (v := 0) hx dL_waiting_15 (by decide) (A_iretW hx hr dL_waiting_16 hself))))
      · skip
        cases hsem
        refine ⟨by simp, hle, fun k9 => ?_⟩
        have hself := k9 (kL κ) (fun _ _ => rfl)
        rw [wL_self] at hself
        refine A_aload_n (i := 2) hx dL_waiting_0 rfl (A_iconst (v := 0) hx dL_waiting_1 (by decide) (A_aload_n (i := 0) hx dL_waiting_2 rfl (A_iload_n (i := 1) hx dL_waiting_3 rfl (?_))))
        refine A_callVX (as := [ai a]) (rest := [ai 0, ar (14, 0)]) (b := (0, 0)) hx rfl (c_X2_waiting hst) ho hle (fun v hv => by simp at hv; subst hv; exact Or.inl ⟨_, rfl⟩) uc_X2_waiting um_L_56 ui_X2_waiting us_X2_waiting un_X2 ⟨rfl, by decide, by decide, rfl⟩ rfl rfl rfl (by simp [wt, wtA, Value.category]) (by decide) (by decide) dL_waiting_4 hself.fit (fun v9 hv9 => by cases hv9) (fun n hn => ?_)
        cases hn
        exact ⟨[], ⟨0, 9, 12, 13⟩, [], "java/lang/IndexOutOfBoundsException", ht.trans rfl, (fun z hz => by cases hz), (by decide), (by decide), ul_L_13, fw_11, fun q => A_astore_nQ (i := 3) hx dL_waiting_12 (by show 3 < 4; decide) (A_iconst (v := 1) hx dL_waiting_13 (by decide) (A_iretW hx hr dL_waiting_14 hself))⟩
      · cases hsem
    · cases hsem
  · cases hsem
def w_waitingAt : Sem := fun as σ => match as with
  | [.inr (0, 0), .inl (.int a), .inl (.int b), .inr (14, 0)] => (f_X2_waitingAt [ar (0, 0), ai a, ai b] σ).bind fun o => if sleB σ o.2 = true then (match o.1 with
    | .inl (some (.inl (.int v))) => some (.inl (some (ai 0)), upJ o.2 v.toInt64)
    | .inr 1 => some (.inl (some (ai 1)), o.2)
    | _ => none) else none
  | _ => none
theorem c_W_waitingAt {l : Launch} {g : Gx} (hl : l.stackTraces = false) : CtW xNI l g yL_waitingAt cL_waitingAt 5 (some .int) [(0, 10, 13, 13)] 8 126 w_waitingAt := by
  refine CtW.of (by decide) hl (fun κ h1 h2 hX hx hr ht as σ σF r hs hsem => ?_)
  have hst := hx.st
  unfold w_waitingAt at hsem
  split at hsem
  · rename_i a b
    obtain ⟨⟨ro, τ⟩, ho, hsem⟩ := obs hsem
    dsimp only at hsem
    split at hsem
    · rename_i hsl
      have hle := sleB_sle hsl
      split at hsem
      · rename_i v
        cases hsem
        refine ⟨by simp, hle, fun k9 => ?_⟩
        have hself := k9 (kL κ) (fun _ _ => rfl)
        rw [wL_self] at hself
        refine A_aload_n (i := 3) hx dL_waitingAt_0 rfl (A_iconst (v := 0) hx dL_waitingAt_1 (by decide) (A_aload_n (i := 0) hx dL_waitingAt_2 rfl (A_iload_n (i := 1) hx dL_waitingAt_3 rfl (A_iload_n (i := 2) hx dL_waitingAt_4 rfl (?_)))))
        refine A_callVX (as := [ai a, ai b]) (rest := [ai 0, ar (14, 0)]) (b := (0, 0)) hx rfl (c_X2_waitingAt hst) ho hle (fun v hv => by simp at hv; rcases hv with rfl | rfl; exact Or.inl ⟨_, rfl⟩; exact Or.inl ⟨_, rfl⟩) uc_X2_waitingAt um_L_59 ui_X2_waitingAt us_X2_waitingAt un_X2 ⟨rfl, by decide, by decide, rfl⟩ rfl rfl rfl (by simp [wt, wtA, Value.category]) (by decide) (by decide) dL_waitingAt_5 hself.fit.J (fun v9 hv9 => ?_) (fun n hn => by cases hn)
        cases hv9
        exact A_i2l hx dL_waitingAt_8 (A_lastJ hx dL_waitingAt_9 (A_goto (tgt := 17) hx dL_waitingAt_10 (by decide) (A_iconst (v := 0) hx dL_waitingAt_17 (by decide) (A_iretW hx hr dL_waitingAt_18 hself))))
      · skip
        cases hsem
        refine ⟨by simp, hle, fun k9 => ?_⟩
        have hself := k9 (kL κ) (fun _ _ => rfl)
        rw [wL_self] at hself
        refine A_aload_n (i := 3) hx dL_waitingAt_0 rfl (A_iconst (v := 0) hx dL_waitingAt_1 (by decide) (A_aload_n (i := 0) hx dL_waitingAt_2 rfl (A_iload_n (i := 1) hx dL_waitingAt_3 rfl (A_iload_n (i := 2) hx dL_waitingAt_4 rfl (?_)))))
        refine A_callVX (as := [ai a, ai b]) (rest := [ai 0, ar (14, 0)]) (b := (0, 0)) hx rfl (c_X2_waitingAt hst) ho hle (fun v hv => by simp at hv; rcases hv with rfl | rfl; exact Or.inl ⟨_, rfl⟩; exact Or.inl ⟨_, rfl⟩) uc_X2_waitingAt um_L_59 ui_X2_waitingAt us_X2_waitingAt un_X2 ⟨rfl, by decide, by decide, rfl⟩ rfl rfl rfl (by simp [wt, wtA, Value.category]) (by decide) (by decide) dL_waitingAt_5 hself.fit (fun v9 hv9 => by cases hv9) (fun n hn => ?_)
        cases hn
        exact ⟨[], ⟨0, 10, 13, 13⟩, [], "java/lang/IndexOutOfBoundsException", ht.trans rfl, (fun z hz => by cases hz), (by decide), (by decide), ul_L_13, fw_11, fun q => A_astoreQ hx dL_waitingAt_13 (by show 4 < 5; decide) (A_iconst (v := 1) hx dL_waitingAt_15 (by decide) (A_iretW hx hr dL_waitingAt_16 hself))⟩
      · cases hsem
    · cases hsem
  · cases hsem
def w_needs : Sem := fun as σ => match as with
  | [.inr (0, 0), .inl (.int a), .inl (.int b), .inr (14, 0)] => (f_X2_needs [ar (0, 0), ai a, ai b] σ).bind fun o => if sleB σ o.2 = true then (match o.1 with
    | .inl (some (.inl (.int v))) => some (.inl (some (ai 0)), upJ o.2 v.toInt64)
    | .inr 1 => some (.inl (some (ai 1)), o.2)
    | _ => none) else none
  | _ => none
theorem c_W_needs {l : Launch} {g : Gx} (hl : l.stackTraces = false) : CtW xNI l g yL_needs cL_needs 5 (some .int) [(0, 10, 13, 13)] 9 149 w_needs := by
  refine CtW.of (by decide) hl (fun κ h1 h2 hX hx hr ht as σ σF r hs hsem => ?_)
  have hst := hx.st
  unfold w_needs at hsem
  split at hsem
  · rename_i a b
    obtain ⟨⟨ro, τ⟩, ho, hsem⟩ := obs hsem
    dsimp only at hsem
    split at hsem
    · rename_i hsl
      have hle := sleB_sle hsl
      split at hsem
      · rename_i v
        cases hsem
        refine ⟨by simp, hle, fun k9 => ?_⟩
        have hself := k9 (kL κ) (fun _ _ => rfl)
        rw [wL_self] at hself
        refine A_aload_n (i := 3) hx dL_needs_0 rfl (A_iconst (v := 0) hx dL_needs_1 (by decide) (A_aload_n (i := 0) hx dL_needs_2 rfl (A_iload_n (i := 1) hx dL_needs_3 rfl (A_iload_n (i := 2) hx dL_needs_4 rfl (?_)))))
        refine A_callVX (as := [ai a, ai b]) (rest := [ai 0, ar (14, 0)]) (b := (0, 0)) hx rfl (c_X2_needs hst) ho hle (fun v hv => by simp at hv; rcases hv with rfl | rfl; exact Or.inl ⟨_, rfl⟩; exact Or.inl ⟨_, rfl⟩) uc_X2_needs um_L_62 ui_X2_needs us_X2_needs un_X2 ⟨rfl, by decide, by decide, rfl⟩ rfl rfl rfl (by simp [wt, wtA, Value.category]) (by decide) (by decide) dL_needs_5 hself.fit.J (fun v9 hv9 => ?_) (fun n hn => by cases hn)
        cases hv9
        exact A_i2l hx dL_needs_8 (A_lastJ hx dL_needs_9 (A_goto (tgt := 17) hx dL_needs_10 (by decide) (A_iconst (v := 0) hx dL_needs_17 (by decide) (A_iretW hx hr dL_needs_18 hself))))
      · skip
        cases hsem
        refine ⟨by simp, hle, fun k9 => ?_⟩
        have hself := k9 (kL κ) (fun _ _ => rfl)
        rw [wL_self] at hself
        refine A_aload_n (i := 3) hx dL_needs_0 rfl (A_iconst (v := 0) hx dL_needs_1 (by decide) (A_aload_n (i := 0) hx dL_needs_2 rfl (A_iload_n (i := 1) hx dL_needs_3 rfl (A_iload_n (i := 2) hx dL_needs_4 rfl (?_)))))
        refine A_callVX (as := [ai a, ai b]) (rest := [ai 0, ar (14, 0)]) (b := (0, 0)) hx rfl (c_X2_needs hst) ho hle (fun v hv => by simp at hv; rcases hv with rfl | rfl; exact Or.inl ⟨_, rfl⟩; exact Or.inl ⟨_, rfl⟩) uc_X2_needs um_L_62 ui_X2_needs us_X2_needs un_X2 ⟨rfl, by decide, by decide, rfl⟩ rfl rfl rfl (by simp [wt, wtA, Value.category]) (by decide) (by decide) dL_needs_5 hself.fit (fun v9 hv9 => by cases hv9) (fun n hn => ?_)
        cases hn
        exact ⟨[], ⟨0, 10, 13, 13⟩, [], "java/lang/IndexOutOfBoundsException", ht.trans rfl, (fun z hz => by cases hz), (by decide), (by decide), ul_L_13, fw_11, fun q => A_astoreQ hx dL_needs_13 (by show 4 < 5; decide) (A_iconst (v := 1) hx dL_needs_15 (by decide) (A_iretW hx hr dL_needs_16 hself))⟩
      · cases hsem
    · cases hsem
  · cases hsem
def w_firstNeeded : Sem := fun as σ => match as with
  | [.inr (0, 0), .inl (.int a), .inl (.int b), .inr (14, 0)] => (f_X2_firstNeeded [ar (0, 0), ai a, ai b] σ).bind fun o => if sleB σ o.2 = true then (match o.1 with
    | .inl (some (.inl (.int v))) => some (.inl (some (ai 0)), upJ o.2 v.toInt64)
    | .inr 1 => some (.inl (some (ai 1)), o.2)
    | _ => none) else none
  | _ => none
theorem c_W_firstNeeded {l : Launch} {g : Gx} (hl : l.stackTraces = false) : CtW xNI l g yL_firstNeeded cL_firstNeeded 5 (some .int) [(0, 10, 13, 13)] 9 148 w_firstNeeded := by
  refine CtW.of (by decide) hl (fun κ h1 h2 hX hx hr ht as σ σF r hs hsem => ?_)
  have hst := hx.st
  unfold w_firstNeeded at hsem
  split at hsem
  · rename_i a b
    obtain ⟨⟨ro, τ⟩, ho, hsem⟩ := obs hsem
    dsimp only at hsem
    split at hsem
    · rename_i hsl
      have hle := sleB_sle hsl
      split at hsem
      · rename_i v
        cases hsem
        refine ⟨by simp, hle, fun k9 => ?_⟩
        have hself := k9 (kL κ) (fun _ _ => rfl)
        rw [wL_self] at hself
        refine A_aload_n (i := 3) hx dL_firstNeeded_0 rfl (A_iconst (v := 0) hx dL_firstNeeded_1 (by decide) (A_aload_n (i := 0) hx dL_firstNeeded_2 rfl (A_iload_n (i := 1) hx dL_firstNeeded_3 rfl (A_iload_n (i := 2) hx dL_firstNeeded_4 rfl (?_)))))
        refine A_callVX (as := [ai a, ai b]) (rest := [ai 0, ar (14, 0)]) (b := (0, 0)) hx rfl (c_X2_firstNeeded hst) ho hle (fun v hv => by simp at hv; rcases hv with rfl | rfl; exact Or.inl ⟨_, rfl⟩; exact Or.inl ⟨_, rfl⟩) uc_X2_firstNeeded um_L_65 ui_X2_firstNeeded us_X2_firstNeeded un_X2 ⟨rfl, by decide, by decide, rfl⟩ rfl rfl rfl (by simp [wt, wtA, Value.category]) (by decide) (by decide) dL_firstNeeded_5 hself.fit.J (fun v9 hv9 => ?_) (fun n hn => by cases hn)
        cases hv9
        exact A_i2l hx dL_firstNeeded_8 (A_lastJ hx dL_firstNeeded_9 (A_goto (tgt := 17) hx dL_firstNeeded_10 (by decide) (A_iconst (v := 0) hx dL_firstNeeded_17 (by decide) (A_iretW hx hr dL_firstNeeded_18 hself))))
      · skip
        cases hsem
        refine ⟨by simp, hle, fun k9 => ?_⟩
        have hself := k9 (kL κ) (fun _ _ => rfl)
        rw [wL_self] at hself
        refine A_aload_n (i := 3) hx dL_firstNeeded_0 rfl (A_iconst (v := 0) hx dL_firstNeeded_1 (by decide) (A_aload_n (i := 0) hx dL_firstNeeded_2 rfl (A_iload_n (i := 1) hx dL_firstNeeded_3 rfl (A_iload_n (i := 2) hx dL_firstNeeded_4 rfl (?_)))))
        refine A_callVX (as := [ai a, ai b]) (rest := [ai 0, ar (14, 0)]) (b := (0, 0)) hx rfl (c_X2_firstNeeded hst) ho hle (fun v hv => by simp at hv; rcases hv with rfl | rfl; exact Or.inl ⟨_, rfl⟩; exact Or.inl ⟨_, rfl⟩) uc_X2_firstNeeded um_L_65 ui_X2_firstNeeded us_X2_firstNeeded un_X2 ⟨rfl, by decide, by decide, rfl⟩ rfl rfl rfl (by simp [wt, wtA, Value.category]) (by decide) (by decide) dL_firstNeeded_5 hself.fit (fun v9 hv9 => by cases hv9) (fun n hn => ?_)
        cases hn
        exact ⟨[], ⟨0, 10, 13, 13⟩, [], "java/lang/IndexOutOfBoundsException", ht.trans rfl, (fun z hz => by cases hz), (by decide), (by decide), ul_L_13, fw_11, fun q => A_astoreQ hx dL_firstNeeded_13 (by show 4 < 5; decide) (A_iconst (v := 1) hx dL_firstNeeded_15 (by decide) (A_iretW hx hr dL_firstNeeded_16 hself))⟩
      · cases hsem
    · cases hsem
  · cases hsem
def w_passToken : Sem := fun as σ => match as with
  | [.inr (0, 0), .inl (.int a), .inr (14, 0)] => (f_X2_passToken [ar (0, 0), ai a] σ).bind fun o => if sleB σ o.2 = true then (match o.1 with
    | .inl (some (.inl (.int v))) => some (.inl (some (ai 0)), upJ o.2 v.toInt64)
    | .inr 1 => some (.inl (some (ai 1)), o.2)
    | .inr 2 => some (.inl (some (ai 2)), o.2)
    | _ => none) else none
  | _ => none
theorem c_W_passToken {l : Launch} {g : Gx} (hl : l.stackTraces = false) : CtW xNI l g yL_passToken cL_passToken 4 (some .int) [(0, 9, 12, 13), (0, 9, 15, 15)] 10 239 w_passToken := by
  refine CtW.of (by decide) hl (fun κ h1 h2 hX hx hr ht as σ σF r hs hsem => ?_)
  have hst := hx.st
  unfold w_passToken at hsem
  split at hsem
  · rename_i a
    obtain ⟨⟨ro, τ⟩, ho, hsem⟩ := obs hsem
    dsimp only at hsem
    split at hsem
    · rename_i hsl
      have hle := sleB_sle hsl
      split at hsem
      · rename_i v
        cases hsem
        refine ⟨by simp, hle, fun k9 => ?_⟩
        have hself := k9 (kL κ) (fun _ _ => rfl)
        rw [wL_self] at hself
        refine A_aload_n (i := 2) hx dL_passToken_0 rfl (A_iconst (v := 0) hx dL_passToken_1 (by decide) (A_aload_n (i := 0) hx dL_passToken_2 rfl (A_iload_n (i := 1) hx dL_passToken_3 rfl (?_))))
        refine A_callVX (as := [ai a]) (rest := [ai 0, ar (14, 0)]) (b := (0, 0)) hx rfl (c_X2_passToken hst) ho hle (fun v hv => by simp at hv; subst hv; exact Or.inl ⟨_, rfl⟩) uc_X2_passToken um_L_68 ui_X2_passToken us_X2_passToken un_X2 ⟨rfl, by decide, by decide, rfl⟩ rfl rfl rfl (by simp [wt, wtA, Value.category]) (by decide) (by decide) dL_passToken_4 hself.fit.J (fun v9 hv9 => ?_) (fun n hn => by cases hn)
        cases hv9
        exact A_i2l hx dL_passToken_7 (A_lastJ hx dL_passToken_8 (A_goto (tgt := 18) hx dL_passToken_9 (by decide) (A_iconst (v := 0) hx dL_passToken_18 (by decide) (A_iretW hx hr dL_passToken_19 hself))))
      · skip
        cases hsem
        refine ⟨by simp, hle, fun k9 => ?_⟩
        have hself := k9 (kL κ) (fun _ _ => rfl)
        rw [wL_self] at hself
        refine A_aload_n (i := 2) hx dL_passToken_0 rfl (A_iconst (v := 0) hx dL_passToken_1 (by decide) (A_aload_n (i := 0) hx dL_passToken_2 rfl (A_iload_n (i := 1) hx dL_passToken_3 rfl (?_))))
        refine A_callVX (as := [ai a]) (rest := [ai 0, ar (14, 0)]) (b := (0, 0)) hx rfl (c_X2_passToken hst) ho hle (fun v hv => by simp at hv; subst hv; exact Or.inl ⟨_, rfl⟩) uc_X2_passToken um_L_68 ui_X2_passToken us_X2_passToken un_X2 ⟨rfl, by decide, by decide, rfl⟩ rfl rfl rfl (by simp [wt, wtA, Value.category]) (by decide) (by decide) dL_passToken_4 hself.fit (fun v9 hv9 => by cases hv9) (fun n hn => ?_)
        cases hn
        exact ⟨[], ⟨0, 9, 12, 13⟩, [⟨0, 9, 15, 15⟩], "java/lang/IndexOutOfBoundsException", ht.trans rfl, (fun z hz => by cases hz), (by decide), (by decide), ul_L_13, fw_11, fun q => A_astore_nQ (i := 3) hx dL_passToken_12 (by show 3 < 4; decide) (A_iconst (v := 1) hx dL_passToken_13 (by decide) (A_iretW hx hr dL_passToken_14 hself))⟩
      · skip
        cases hsem
        refine ⟨by simp, hle, fun k9 => ?_⟩
        have hself := k9 (kL κ) (fun _ _ => rfl)
        rw [wL_self] at hself
        refine A_aload_n (i := 2) hx dL_passToken_0 rfl (A_iconst (v := 0) hx dL_passToken_1 (by decide) (A_aload_n (i := 0) hx dL_passToken_2 rfl (A_iload_n (i := 1) hx dL_passToken_3 rfl (?_))))
        refine A_callVX (as := [ai a]) (rest := [ai 0, ar (14, 0)]) (b := (0, 0)) hx rfl (c_X2_passToken hst) ho hle (fun v hv => by simp at hv; subst hv; exact Or.inl ⟨_, rfl⟩) uc_X2_passToken um_L_68 ui_X2_passToken us_X2_passToken un_X2 ⟨rfl, by decide, by decide, rfl⟩ rfl rfl rfl (by simp [wt, wtA, Value.category]) (by decide) (by decide) dL_passToken_4 hself.fit (fun v9 hv9 => by cases hv9) (fun n hn => ?_)
        cases hn
        exact ⟨[⟨0, 9, 12, 13⟩], ⟨0, 9, 15, 15⟩, [], "java/lang/IllegalStateException", ht.trans rfl, (fun z hz => by rw [List.mem_singleton.mp hz]; exact Or.inr ⟨(by decide), _, ul_L_13, hX⟩), (by decide), (by decide), ul_L_15, fw_22, fun q => A_astore_nQ (i := 3) hx dL_passToken_15 (by show 3 < 4; decide) (A_iconst (v := 2) hx dL_passToken_16 (by decide) (A_iretW hx hr dL_passToken_17 hself))⟩
      · cases hsem
    · cases hsem
  · cases hsem
def w_tell : Sem := fun as σ => match as with
  | [.inr (0, 0), .inl (.int a), .inr (14, 0)] => (f_X2_tell [ar (0, 0), ai a] σ).bind fun o => if sleB σ o.2 = true then (match o.1 with
    | .inl (some (.inl (.int v))) => some (.inl (some (ai 0)), upJ o.2 v.toInt64)
    | .inr 1 => some (.inl (some (ai 1)), o.2)
    | .inr 2 => some (.inl (some (ai 2)), o.2)
    | _ => none) else none
  | _ => none
theorem c_W_tell {l : Launch} {g : Gx} (hl : l.stackTraces = false) : CtW xNI l g yL_tell cL_tell 4 (some .int) [(0, 9, 12, 13), (0, 9, 15, 15)] 8 125 w_tell := by
  refine CtW.of (by decide) hl (fun κ h1 h2 hX hx hr ht as σ σF r hs hsem => ?_)
  have hst := hx.st
  unfold w_tell at hsem
  split at hsem
  · rename_i a
    obtain ⟨⟨ro, τ⟩, ho, hsem⟩ := obs hsem
    dsimp only at hsem
    split at hsem
    · rename_i hsl
      have hle := sleB_sle hsl
      split at hsem
      · rename_i v
        cases hsem
        refine ⟨by simp, hle, fun k9 => ?_⟩
        have hself := k9 (kL κ) (fun _ _ => rfl)
        rw [wL_self] at hself
        refine A_aload_n (i := 2) hx dL_tell_0 rfl (A_iconst (v := 0) hx dL_tell_1 (by decide) (A_aload_n (i := 0) hx dL_tell_2 rfl (A_iload_n (i := 1) hx dL_tell_3 rfl (?_))))
        refine A_callVX (as := [ai a]) (rest := [ai 0, ar (14, 0)]) (b := (0, 0)) hx rfl (c_X2_tell hst) ho hle (fun v hv => by simp at hv; subst hv; exact Or.inl ⟨_, rfl⟩) uc_X2_tell um_L_71 ui_X2_tell us_X2_tell un_X2 ⟨rfl, by decide, by decide, rfl⟩ rfl rfl rfl (by simp [wt, wtA, Value.category]) (by decide) (by decide) dL_tell_4 hself.fit.J (fun v9 hv9 => ?_) (fun n hn => by cases hn)
        cases hv9
        exact A_i2l hx dL_tell_7 (A_lastJ hx dL_tell_8 (A_goto (tgt := 18) hx dL_tell_9 (by decide) (A_iconst (v := 0) hx dL_tell_18 (by decide) (A_iretW hx hr dL_tell_19 hself))))
      · skip
        cases hsem
        refine ⟨by simp, hle, fun k9 => ?_⟩
        have hself := k9 (kL κ) (fun _ _ => rfl)
        rw [wL_self] at hself
        refine A_aload_n (i := 2) hx dL_tell_0 rfl (A_iconst (v := 0) hx dL_tell_1 (by decide) (A_aload_n (i := 0) hx dL_tell_2 rfl (A_iload_n (i := 1) hx dL_tell_3 rfl (?_))))
        refine A_callVX (as := [ai a]) (rest := [ai 0, ar (14, 0)]) (b := (0, 0)) hx rfl (c_X2_tell hst) ho hle (fun v hv => by simp at hv; subst hv; exact Or.inl ⟨_, rfl⟩) uc_X2_tell um_L_71 ui_X2_tell us_X2_tell un_X2 ⟨rfl, by decide, by decide, rfl⟩ rfl rfl rfl (by simp [wt, wtA, Value.category]) (by decide) (by decide) dL_tell_4 hself.fit (fun v9 hv9 => by cases hv9) (fun n hn => ?_)
        cases hn
        exact ⟨[], ⟨0, 9, 12, 13⟩, [⟨0, 9, 15, 15⟩], "java/lang/IndexOutOfBoundsException", ht.trans rfl, (fun z hz => by cases hz), (by decide), (by decide), ul_L_13, fw_11, fun q => A_astore_nQ (i := 3) hx dL_tell_12 (by show 3 < 4; decide) (A_iconst (v := 1) hx dL_tell_13 (by decide) (A_iretW hx hr dL_tell_14 hself))⟩
      · skip
        cases hsem
        refine ⟨by simp, hle, fun k9 => ?_⟩
        have hself := k9 (kL κ) (fun _ _ => rfl)
        rw [wL_self] at hself
        refine A_aload_n (i := 2) hx dL_tell_0 rfl (A_iconst (v := 0) hx dL_tell_1 (by decide) (A_aload_n (i := 0) hx dL_tell_2 rfl (A_iload_n (i := 1) hx dL_tell_3 rfl (?_))))
        refine A_callVX (as := [ai a]) (rest := [ai 0, ar (14, 0)]) (b := (0, 0)) hx rfl (c_X2_tell hst) ho hle (fun v hv => by simp at hv; subst hv; exact Or.inl ⟨_, rfl⟩) uc_X2_tell um_L_71 ui_X2_tell us_X2_tell un_X2 ⟨rfl, by decide, by decide, rfl⟩ rfl rfl rfl (by simp [wt, wtA, Value.category]) (by decide) (by decide) dL_tell_4 hself.fit (fun v9 hv9 => by cases hv9) (fun n hn => ?_)
        cases hn
        exact ⟨[⟨0, 9, 12, 13⟩], ⟨0, 9, 15, 15⟩, [], "java/lang/IllegalStateException", ht.trans rfl, (fun z hz => by rw [List.mem_singleton.mp hz]; exact Or.inr ⟨(by decide), _, ul_L_13, hX⟩), (by decide), (by decide), ul_L_15, fw_22, fun q => A_astore_nQ (i := 3) hx dL_tell_15 (by show 3 < 4; decide) (A_iconst (v := 2) hx dL_tell_16 (by decide) (A_iretW hx hr dL_tell_17 hself))⟩
      · cases hsem
    · cases hsem
  · cases hsem
def w_numberOf : Sem := fun as σ => match as with
  | [.inr (0, 0), .inl (.int a), .inr (14, 0)] => (f_X2_numberOf [ar (0, 0), ai a] σ).bind fun o => if sleB σ o.2 = true then (match o.1 with
    | .inl (some (.inl (.int v))) => some (.inl (some (ai 0)), upJ o.2 v.toInt64)
    | .inr 1 => some (.inl (some (ai 1)), o.2)
    | _ => none) else none
  | _ => none
theorem c_W_numberOf {l : Launch} {g : Gx} (hl : l.stackTraces = false) : CtW xNI l g yL_numberOf cL_numberOf 4 (some .int) [(0, 9, 12, 13)] 8 124 w_numberOf := by
  refine CtW.of (by decide) hl (fun κ h1 h2 hX hx hr ht as σ σF r hs hsem => ?_)
  have hst := hx.st
  unfold w_numberOf at hsem
  split at hsem
  · rename_i a
    obtain ⟨⟨ro, τ⟩, ho, hsem⟩ := obs hsem
    dsimp only at hsem
    split at hsem
    · rename_i hsl
      have hle := sleB_sle hsl
      split at hsem
      · rename_i v
        cases hsem
        refine ⟨by simp, hle, fun k9 => ?_⟩
        have hself := k9 (kL κ) (fun _ _ => rfl)
        rw [wL_self] at hself
        refine A_aload_n (i := 2) hx dL_numberOf_0 rfl (A_iconst (v := 0) hx dL_numberOf_1 (by decide) (A_aload_n (i := 0) hx dL_numberOf_2 rfl (A_iload_n (i := 1) hx dL_numberOf_3 rfl (?_))))
        refine A_callVX (as := [ai a]) (rest := [ai 0, ar (14, 0)]) (b := (0, 0)) hx rfl (c_X2_numberOf hst) ho hle (fun v hv => by simp at hv; subst hv; exact Or.inl ⟨_, rfl⟩) uc_X2_numberOf um_L_74 ui_X2_numberOf us_X2_numberOf un_X2 ⟨rfl, by decide, by decide, rfl⟩ rfl rfl rfl (by simp [wt, wtA, Value.category]) (by decide) (by decide) dL_numberOf_4 hself.fit.J (fun v9 hv9 => ?_) (fun n hn => by cases hn)
        cases hv9
        exact A_i2l hx dL_numberOf_7 (A_lastJ hx dL_numberOf_8 (A_goto (tgt := 15) hx dL_numberOf_9 (by decide) (A_iconst (v := 0) hx dL_numberOf_15 (by decide) (A_iretW hx hr dL_numberOf_16 hself))))
      · skip
        cases hsem
        refine ⟨by simp, hle, fun k9 => ?_⟩
        have hself := k9 (kL κ) (fun _ _ => rfl)
        rw [wL_self] at hself
        refine A_aload_n (i := 2) hx dL_numberOf_0 rfl (A_iconst (v := 0) hx dL_numberOf_1 (by decide) (A_aload_n (i := 0) hx dL_numberOf_2 rfl (A_iload_n (i := 1) hx dL_numberOf_3 rfl (?_))))
        refine A_callVX (as := [ai a]) (rest := [ai 0, ar (14, 0)]) (b := (0, 0)) hx rfl (c_X2_numberOf hst) ho hle (fun v hv => by simp at hv; subst hv; exact Or.inl ⟨_, rfl⟩) uc_X2_numberOf um_L_74 ui_X2_numberOf us_X2_numberOf un_X2 ⟨rfl, by decide, by decide, rfl⟩ rfl rfl rfl (by simp [wt, wtA, Value.category]) (by decide) (by decide) dL_numberOf_4 hself.fit (fun v9 hv9 => by cases hv9) (fun n hn => ?_)
        cases hn
        exact ⟨[], ⟨0, 9, 12, 13⟩, [], "java/lang/IndexOutOfBoundsException", ht.trans rfl, (fun z hz => by cases hz), (by decide), (by decide), ul_L_13, fw_11, fun q => A_astore_nQ (i := 3) hx dL_numberOf_12 (by show 3 < 4; decide) (A_iconst (v := 1) hx dL_numberOf_13 (by decide) (A_iretW hx hr dL_numberOf_14 hself))⟩
      · cases hsem
    · cases hsem
  · cases hsem
def w_ordered : Sem := fun as σ => match as with
  | [.inr (0, 0), .inl (.int a), .inr (14, 0)] => (f_X2_ordered [ar (0, 0), ai a] σ).bind fun o => if sleB σ o.2 = true then (match o.1 with
    | .inl (some (.inl (.int v))) => some (.inl (some (ai 0)), upJ o.2 v.toInt64)
    | .inr 1 => some (.inl (some (ai 1)), o.2)
    | _ => none) else none
  | _ => none
theorem c_W_ordered {l : Launch} {g : Gx} (hl : l.stackTraces = false) : CtW xNI l g yL_ordered cL_ordered 4 (some .int) [(0, 9, 12, 13)] 8 138 w_ordered := by
  refine CtW.of (by decide) hl (fun κ h1 h2 hX hx hr ht as σ σF r hs hsem => ?_)
  have hst := hx.st
  unfold w_ordered at hsem
  split at hsem
  · rename_i a
    obtain ⟨⟨ro, τ⟩, ho, hsem⟩ := obs hsem
    dsimp only at hsem
    split at hsem
    · rename_i hsl
      have hle := sleB_sle hsl
      split at hsem
      · rename_i v
        cases hsem
        refine ⟨by simp, hle, fun k9 => ?_⟩
        have hself := k9 (kL κ) (fun _ _ => rfl)
        rw [wL_self] at hself
        refine A_aload_n (i := 2) hx dL_ordered_0 rfl (A_iconst (v := 0) hx dL_ordered_1 (by decide) (A_aload_n (i := 0) hx dL_ordered_2 rfl (A_iload_n (i := 1) hx dL_ordered_3 rfl (?_))))
        refine A_callVX (as := [ai a]) (rest := [ai 0, ar (14, 0)]) (b := (0, 0)) hx rfl (c_X2_ordered hst) ho hle (fun v hv => by simp at hv; subst hv; exact Or.inl ⟨_, rfl⟩) uc_X2_ordered um_L_77 ui_X2_ordered us_X2_ordered un_X2 ⟨rfl, by decide, by decide, rfl⟩ rfl rfl rfl (by simp [wt, wtA, Value.category]) (by decide) (by decide) dL_ordered_4 hself.fit.J (fun v9 hv9 => ?_) (fun n hn => by cases hn)
        cases hv9
        exact A_i2l hx dL_ordered_7 (A_lastJ hx dL_ordered_8 (A_goto (tgt := 15) hx dL_ordered_9 (by decide) (A_iconst (v := 0) hx dL_ordered_15 (by decide) (A_iretW hx hr dL_ordered_16 hself))))
      · skip
        cases hsem
        refine ⟨by simp, hle, fun k9 => ?_⟩
        have hself := k9 (kL κ) (fun _ _ => rfl)
        rw [wL_self] at hself
        refine A_aload_n (i := 2) hx dL_ordered_0 rfl (A_iconst (v := 0) hx dL_ordered_1 (by decide) (A_aload_n (i := 0) hx dL_ordered_2 rfl (A_iload_n (i := 1) hx dL_ordered_3 rfl (?_))))
        refine A_callVX (as := [ai a]) (rest := [ai 0, ar (14, 0)]) (b := (0, 0)) hx rfl (c_X2_ordered hst) ho hle (fun v hv => by simp at hv; subst hv; exact Or.inl ⟨_, rfl⟩) uc_X2_ordered um_L_77 ui_X2_ordered us_X2_ordered un_X2 ⟨rfl, by decide, by decide, rfl⟩ rfl rfl rfl (by simp [wt, wtA, Value.category]) (by decide) (by decide) dL_ordered_4 hself.fit (fun v9 hv9 => by cases hv9) (fun n hn => ?_)
        cases hn
        exact ⟨[], ⟨0, 9, 12, 13⟩, [], "java/lang/IndexOutOfBoundsException", ht.trans rfl, (fun z hz => by cases hz), (by decide), (by decide), ul_L_13, fw_11, fun q => A_astore_nQ (i := 3) hx dL_ordered_12 (by show 3 < 4; decide) (A_iconst (v := 1) hx dL_ordered_13 (by decide) (A_iretW hx hr dL_ordered_14 hself))⟩
      · cases hsem
    · cases hsem
  · cases hsem
def w_proposal : Sem := fun as σ => match as with
  | [.inr (0, 0), .inl (.int a), .inl (.int b), .inr (14, 0)] => (f_X2_proposal [ar (0, 0), ai a, ai b] σ).bind fun o => if sleB σ o.2 = true then (match o.1 with
    | .inl (some (.inl (.int v))) => some (.inl (some (ai 0)), upJ o.2 v.toInt64)
    | .inr 1 => some (.inl (some (ai 1)), o.2)
    | _ => none) else none
  | _ => none
theorem c_W_proposal {l : Launch} {g : Gx} (hl : l.stackTraces = false) : CtW xNI l g yL_proposal cL_proposal 5 (some .int) [(0, 10, 13, 13)] 9 147 w_proposal := by
  refine CtW.of (by decide) hl (fun κ h1 h2 hX hx hr ht as σ σF r hs hsem => ?_)
  have hst := hx.st
  unfold w_proposal at hsem
  split at hsem
  · rename_i a b
    obtain ⟨⟨ro, τ⟩, ho, hsem⟩ := obs hsem
    dsimp only at hsem
    split at hsem
    · rename_i hsl
      have hle := sleB_sle hsl
      split at hsem
      · rename_i v
        cases hsem
        refine ⟨by simp, hle, fun k9 => ?_⟩
        have hself := k9 (kL κ) (fun _ _ => rfl)
        rw [wL_self] at hself
        refine A_aload_n (i := 3) hx dL_proposal_0 rfl (A_iconst (v := 0) hx dL_proposal_1 (by decide) (A_aload_n (i := 0) hx dL_proposal_2 rfl (A_iload_n (i := 1) hx dL_proposal_3 rfl (A_iload_n (i := 2) hx dL_proposal_4 rfl (?_)))))
        refine A_callVX (as := [ai a, ai b]) (rest := [ai 0, ar (14, 0)]) (b := (0, 0)) hx rfl (c_X2_proposal hst) ho hle (fun v hv => by simp at hv; rcases hv with rfl | rfl; exact Or.inl ⟨_, rfl⟩; exact Or.inl ⟨_, rfl⟩) uc_X2_proposal um_L_80 ui_X2_proposal us_X2_proposal un_X2 ⟨rfl, by decide, by decide, rfl⟩ rfl rfl rfl (by simp [wt, wtA, Value.category]) (by decide) (by decide) dL_proposal_5 hself.fit.J (fun v9 hv9 => ?_) (fun n hn => by cases hn)
        cases hv9
        exact A_i2l hx dL_proposal_8 (A_lastJ hx dL_proposal_9 (A_goto (tgt := 17) hx dL_proposal_10 (by decide) (A_iconst (v := 0) hx dL_proposal_17 (by decide) (A_iretW hx hr dL_proposal_18 hself))))
      · skip
        cases hsem
        refine ⟨by simp, hle, fun k9 => ?_⟩
        have hself := k9 (kL κ) (fun _ _ => rfl)
        rw [wL_self] at hself
        refine A_aload_n (i := 3) hx dL_proposal_0 rfl (A_iconst (v := 0) hx dL_proposal_1 (by decide) (A_aload_n (i := 0) hx dL_proposal_2 rfl (A_iload_n (i := 1) hx dL_proposal_3 rfl (A_iload_n (i := 2) hx dL_proposal_4 rfl (?_)))))
        refine A_callVX (as := [ai a, ai b]) (rest := [ai 0, ar (14, 0)]) (b := (0, 0)) hx rfl (c_X2_proposal hst) ho hle (fun v hv => by simp at hv; rcases hv with rfl | rfl; exact Or.inl ⟨_, rfl⟩; exact Or.inl ⟨_, rfl⟩) uc_X2_proposal um_L_80 ui_X2_proposal us_X2_proposal un_X2 ⟨rfl, by decide, by decide, rfl⟩ rfl rfl rfl (by simp [wt, wtA, Value.category]) (by decide) (by decide) dL_proposal_5 hself.fit (fun v9 hv9 => by cases hv9) (fun n hn => ?_)
        cases hn
        exact ⟨[], ⟨0, 10, 13, 13⟩, [], "java/lang/IndexOutOfBoundsException", ht.trans rfl, (fun z hz => by cases hz), (by decide), (by decide), ul_L_13, fw_11, fun q => A_astoreQ hx dL_proposal_13 (by show 4 < 5; decide) (A_iconst (v := 1) hx dL_proposal_15 (by decide) (A_iretW hx hr dL_proposal_16 hself))⟩
      · cases hsem
    · cases hsem
  · cases hsem
def w_agreed : Sem := fun as σ => match as with
  | [.inr (0, 0), .inl (.int a), .inr (14, 0)] => (f_X2_agreed [ar (0, 0), ai a] σ).bind fun o => if sleB σ o.2 = true then (match o.1 with
    | .inl (some (.inl (.int v))) => some (.inl (some (ai 0)), upJ o.2 v.toInt64)
    | .inr 1 => some (.inl (some (ai 1)), o.2)
    | _ => none) else none
  | _ => none
theorem c_W_agreed {l : Launch} {g : Gx} (hl : l.stackTraces = false) : CtW xNI l g yL_agreed cL_agreed 4 (some .int) [(0, 9, 12, 13)] 8 124 w_agreed := by
  refine CtW.of (by decide) hl (fun κ h1 h2 hX hx hr ht as σ σF r hs hsem => ?_)
  have hst := hx.st
  unfold w_agreed at hsem
  split at hsem
  · rename_i a
    obtain ⟨⟨ro, τ⟩, ho, hsem⟩ := obs hsem
    dsimp only at hsem
    split at hsem
    · rename_i hsl
      have hle := sleB_sle hsl
      split at hsem
      · rename_i v
        cases hsem
        refine ⟨by simp, hle, fun k9 => ?_⟩
        have hself := k9 (kL κ) (fun _ _ => rfl)
        rw [wL_self] at hself
        refine A_aload_n (i := 2) hx dL_agreed_0 rfl (A_iconst (v := 0) hx dL_agreed_1 (by decide) (A_aload_n (i := 0) hx dL_agreed_2 rfl (A_iload_n (i := 1) hx dL_agreed_3 rfl (?_))))
        refine A_callVX (as := [ai a]) (rest := [ai 0, ar (14, 0)]) (b := (0, 0)) hx rfl (c_X2_agreed hst) ho hle (fun v hv => by simp at hv; subst hv; exact Or.inl ⟨_, rfl⟩) uc_X2_agreed um_L_83 ui_X2_agreed us_X2_agreed un_X2 ⟨rfl, by decide, by decide, rfl⟩ rfl rfl rfl (by simp [wt, wtA, Value.category]) (by decide) (by decide) dL_agreed_4 hself.fit.J (fun v9 hv9 => ?_) (fun n hn => by cases hn)
        cases hv9
        exact A_i2l hx dL_agreed_7 (A_lastJ hx dL_agreed_8 (A_goto (tgt := 15) hx dL_agreed_9 (by decide) (A_iconst (v := 0) hx dL_agreed_15 (by decide) (A_iretW hx hr dL_agreed_16 hself))))
      · skip
        cases hsem
        refine ⟨by simp, hle, fun k9 => ?_⟩
        have hself := k9 (kL κ) (fun _ _ => rfl)
        rw [wL_self] at hself
        refine A_aload_n (i := 2) hx dL_agreed_0 rfl (A_iconst (v := 0) hx dL_agreed_1 (by decide) (A_aload_n (i := 0) hx dL_agreed_2 rfl (A_iload_n (i := 1) hx dL_agreed_3 rfl (?_))))
        refine A_callVX (as := [ai a]) (rest := [ai 0, ar (14, 0)]) (b := (0, 0)) hx rfl (c_X2_agreed hst) ho hle (fun v hv => by simp at hv; subst hv; exact Or.inl ⟨_, rfl⟩) uc_X2_agreed um_L_83 ui_X2_agreed us_X2_agreed un_X2 ⟨rfl, by decide, by decide, rfl⟩ rfl rfl rfl (by simp [wt, wtA, Value.category]) (by decide) (by decide) dL_agreed_4 hself.fit (fun v9 hv9 => by cases hv9) (fun n hn => ?_)
        cases hn
        exact ⟨[], ⟨0, 9, 12, 13⟩, [], "java/lang/IndexOutOfBoundsException", ht.trans rfl, (fun z hz => by cases hz), (by decide), (by decide), ul_L_13, fw_11, fun q => A_astore_nQ (i := 3) hx dL_agreed_12 (by show 3 < 4; decide) (A_iconst (v := 1) hx dL_agreed_13 (by decide) (A_iretW hx hr dL_agreed_14 hself))⟩
      · cases hsem
    · cases hsem
  · cases hsem
def w_agreedAt : Sem := fun as σ => match as with
  | [.inr (0, 0), .inl (.int a), .inr (14, 0)] => (f_X2_agreedAt [ar (0, 0), ai a] σ).bind fun o => if sleB σ o.2 = true then (match o.1 with
    | .inl (some (.inl (.int v))) => some (.inl (some (ai 0)), upJ o.2 v.toInt64)
    | .inr 1 => some (.inl (some (ai 1)), o.2)
    | _ => none) else none
  | _ => none
theorem c_W_agreedAt {l : Launch} {g : Gx} (hl : l.stackTraces = false) : CtW xNI l g yL_agreedAt cL_agreedAt 4 (some .int) [(0, 9, 12, 13)] 8 125 w_agreedAt := by
  refine CtW.of (by decide) hl (fun κ h1 h2 hX hx hr ht as σ σF r hs hsem => ?_)
  have hst := hx.st
  unfold w_agreedAt at hsem
  split at hsem
  · rename_i a
    obtain ⟨⟨ro, τ⟩, ho, hsem⟩ := obs hsem
    dsimp only at hsem
    split at hsem
    · rename_i hsl
      have hle := sleB_sle hsl
      split at hsem
      · rename_i v
        cases hsem
        refine ⟨by simp, hle, fun k9 => ?_⟩
        have hself := k9 (kL κ) (fun _ _ => rfl)
        rw [wL_self] at hself
        refine A_aload_n (i := 2) hx dL_agreedAt_0 rfl (A_iconst (v := 0) hx dL_agreedAt_1 (by decide) (A_aload_n (i := 0) hx dL_agreedAt_2 rfl (A_iload_n (i := 1) hx dL_agreedAt_3 rfl (?_))))
        refine A_callVX (as := [ai a]) (rest := [ai 0, ar (14, 0)]) (b := (0, 0)) hx rfl (c_X2_agreedAt hst) ho hle (fun v hv => by simp at hv; subst hv; exact Or.inl ⟨_, rfl⟩) uc_X2_agreedAt um_L_86 ui_X2_agreedAt us_X2_agreedAt un_X2 ⟨rfl, by decide, by decide, rfl⟩ rfl rfl rfl (by simp [wt, wtA, Value.category]) (by decide) (by decide) dL_agreedAt_4 hself.fit.J (fun v9 hv9 => ?_) (fun n hn => by cases hn)
        cases hv9
        exact A_i2l hx dL_agreedAt_7 (A_lastJ hx dL_agreedAt_8 (A_goto (tgt := 15) hx dL_agreedAt_9 (by decide) (A_iconst (v := 0) hx dL_agreedAt_15 (by decide) (A_iretW hx hr dL_agreedAt_16 hself))))
      · skip
        cases hsem
        refine ⟨by simp, hle, fun k9 => ?_⟩
        have hself := k9 (kL κ) (fun _ _ => rfl)
        rw [wL_self] at hself
        refine A_aload_n (i := 2) hx dL_agreedAt_0 rfl (A_iconst (v := 0) hx dL_agreedAt_1 (by decide) (A_aload_n (i := 0) hx dL_agreedAt_2 rfl (A_iload_n (i := 1) hx dL_agreedAt_3 rfl (?_))))
        refine A_callVX (as := [ai a]) (rest := [ai 0, ar (14, 0)]) (b := (0, 0)) hx rfl (c_X2_agreedAt hst) ho hle (fun v hv => by simp at hv; subst hv; exact Or.inl ⟨_, rfl⟩) uc_X2_agreedAt um_L_86 ui_X2_agreedAt us_X2_agreedAt un_X2 ⟨rfl, by decide, by decide, rfl⟩ rfl rfl rfl (by simp [wt, wtA, Value.category]) (by decide) (by decide) dL_agreedAt_4 hself.fit (fun v9 hv9 => by cases hv9) (fun n hn => ?_)
        cases hn
        exact ⟨[], ⟨0, 9, 12, 13⟩, [], "java/lang/IndexOutOfBoundsException", ht.trans rfl, (fun z hz => by cases hz), (by decide), (by decide), ul_L_13, fw_11, fun q => A_astore_nQ (i := 3) hx dL_agreedAt_12 (by show 3 < 4; decide) (A_iconst (v := 1) hx dL_agreedAt_13 (by decide) (A_iretW hx hr dL_agreedAt_14 hself))⟩
      · cases hsem
    · cases hsem
  · cases hsem
def w_fail : Sem := fun as σ => match as with
  | [.inr (0, 0), .inl (.int a)] => (f_X2_fail [ar (0, 0), ai a] σ).bind fun o => if sleB σ o.2 = true then (match o.1 with
    | .inl none => some (.inl (some (ai 0)), o.2)
    | .inr 1 => some (.inl (some (ai 1)), o.2)
    | .inr 2 => some (.inl (some (ai 2)), o.2)
    | _ => none) else none
  | _ => none
theorem c_W_fail {l : Launch} {g : Gx} (hl : l.stackTraces = false) : CtW xNI l g yL_fail cL_fail 3 (some .int) [(0, 5, 8, 13), (0, 5, 11, 15)] 8 138 w_fail := by
  refine CtW.of (by decide) hl (fun κ h1 h2 hX hx hr ht as σ σF r hs hsem => ?_)
  have hst := hx.st
  unfold w_fail at hsem
  split at hsem
  · rename_i a
    obtain ⟨⟨ro, τ⟩, ho, hsem⟩ := obs hsem
    dsimp only at hsem
    split at hsem
    · rename_i hsl
      have hle := sleB_sle hsl
      split at hsem
      · skip
        cases hsem
        refine ⟨by simp, hle, fun k9 => ?_⟩
        have hself := k9 (kL κ) (fun _ _ => rfl)
        rw [wL_self] at hself
        refine A_aload_n (i := 0) hx dL_fail_0 rfl (A_iload_n (i := 1) hx dL_fail_1 rfl (?_))
        refine A_callVX (as := [ai a]) (rest := []) (b := (0, 0)) hx rfl (c_X2_fail hst) ho hle (fun v hv => by simp at hv; subst hv; exact Or.inl ⟨_, rfl⟩) uc_X2_fail um_L_89 ui_X2_fail us_X2_fail un_X2 ⟨rfl, by decide, by decide, rfl⟩ rfl rfl rfl (by simp [wt, wtA, Value.category]) (by decide) (by decide) dL_fail_2 hself.fit (fun v9 hv9 => ?_) (fun n hn => by cases hn)
        cases hv9
        exact A_goto (tgt := 14) hx dL_fail_5 (by decide) (A_iconst (v := 0) hx dL_fail_14 (by decide) (A_iretW hx hr dL_fail_15 hself))
      · skip
        cases hsem
        refine ⟨by simp, hle, fun k9 => ?_⟩
        have hself := k9 (kL κ) (fun _ _ => rfl)
        rw [wL_self] at hself
        refine A_aload_n (i := 0) hx dL_fail_0 rfl (A_iload_n (i := 1) hx dL_fail_1 rfl (?_))
        refine A_callVX (as := [ai a]) (rest := []) (b := (0, 0)) hx rfl (c_X2_fail hst) ho hle (fun v hv => by simp at hv; subst hv; exact Or.inl ⟨_, rfl⟩) uc_X2_fail um_L_89 ui_X2_fail us_X2_fail un_X2 ⟨rfl, by decide, by decide, rfl⟩ rfl rfl rfl (by simp [wt, wtA, Value.category]) (by decide) (by decide) dL_fail_2 hself.fit (fun v9 hv9 => by cases hv9) (fun n hn => ?_)
        cases hn
        exact ⟨[], ⟨0, 5, 8, 13⟩, [⟨0, 5, 11, 15⟩], "java/lang/IndexOutOfBoundsException", ht.trans rfl, (fun z hz => by cases hz), (by decide), (by decide), ul_L_13, fw_11, fun q => A_astore_nQ (i := 2) hx dL_fail_8 (by show 2 < 3; decide) (A_iconst (v := 1) hx dL_fail_9 (by decide) (A_iretW hx hr dL_fail_10 hself))⟩
      · skip
        cases hsem
        refine ⟨by simp, hle, fun k9 => ?_⟩
        have hself := k9 (kL κ) (fun _ _ => rfl)
        rw [wL_self] at hself
        refine A_aload_n (i := 0) hx dL_fail_0 rfl (A_iload_n (i := 1) hx dL_fail_1 rfl (?_))
        refine A_callVX (as := [ai a]) (rest := []) (b := (0, 0)) hx rfl (c_X2_fail hst) ho hle (fun v hv => by simp at hv; subst hv; exact Or.inl ⟨_, rfl⟩) uc_X2_fail um_L_89 ui_X2_fail us_X2_fail un_X2 ⟨rfl, by decide, by decide, rfl⟩ rfl rfl rfl (by simp [wt, wtA, Value.category]) (by decide) (by decide) dL_fail_2 hself.fit (fun v9 hv9 => by cases hv9) (fun n hn => ?_)
        cases hn
        exact ⟨[⟨0, 5, 8, 13⟩], ⟨0, 5, 11, 15⟩, [], "java/lang/IllegalStateException", ht.trans rfl, (fun z hz => by rw [List.mem_singleton.mp hz]; exact Or.inr ⟨(by decide), _, ul_L_13, hX⟩), (by decide), (by decide), ul_L_15, fw_22, fun q => A_astore_nQ (i := 2) hx dL_fail_11 (by show 2 < 3; decide) (A_iconst (v := 2) hx dL_fail_12 (by decide) (A_iretW hx hr dL_fail_13 hself))⟩
      · cases hsem
    · cases hsem
  · cases hsem
def w_flush : Sem := fun as σ => match as with
  | [.inr (0, 0), .inr (14, 0)] => (f_X2_flush [ar (0, 0)] σ).bind fun o => if sleB σ o.2 = true then (match o.1 with
    | .inl (some (.inl (.int v))) => some (.inl (some (ai 0)), upJ o.2 v.toInt64)
    | .inr 2 => some (.inl (some (ai 1)), o.2)
    | _ => none) else none
  | _ => none
theorem c_W_flush {l : Launch} {g : Gx} (hl : l.stackTraces = false) : CtW xNI l g yL_flush cL_flush 3 (some .int) [(0, 8, 11, 15)] 13 307 w_flush := by
  refine CtW.of (by decide) hl (fun κ h1 h2 hX hx hr ht as σ σF r hs hsem => ?_)
  have hst := hx.st
  unfold w_flush at hsem
  split at hsem
  · skip
    obtain ⟨⟨ro, τ⟩, ho, hsem⟩ := obs hsem
    dsimp only at hsem
    split at hsem
    · rename_i hsl
      have hle := sleB_sle hsl
      split at hsem
      · rename_i v
        cases hsem
        refine ⟨by simp, hle, fun k9 => ?_⟩
        have hself := k9 (kL κ) (fun _ _ => rfl)
        rw [wL_self] at hself
        refine A_aload_n (i := 1) hx dL_flush_0 rfl (A_iconst (v := 0) hx dL_flush_1 (by decide) (A_aload_n (i := 0) hx dL_flush_2 rfl (?_)))
        refine A_callVX (as := []) (rest := [ai 0, ar (14, 0)]) (b := (0, 0)) hx rfl (c_X2_flush hst) ho hle (fun v hv => by simp at hv) uc_X2_flush um_L_93 ui_X2_flush us_X2_flush un_X2 ⟨rfl, by decide, by decide, rfl⟩ rfl rfl rfl (by simp [wt, wtA, Value.category]) (by decide) (by decide) dL_flush_3 hself.fit.J (fun v9 hv9 => ?_) (fun n hn => by cases hn)
        cases hv9
        exact A_i2l hx dL_flush_6 (A_lastJ hx dL_flush_7 (A_goto (tgt := 14) hx dL_flush_8 (by decide) (A_iconst (v := 0) hx dL_flush_14 (by decide) (A_iretW hx hr dL_flush_15 hself))))
      · skip
        cases hsem
        refine ⟨by simp, hle, fun k9 => ?_⟩
        have hself := k9 (kL κ) (fun _ _ => rfl)
        rw [wL_self] at hself
        refine A_aload_n (i := 1) hx dL_flush_0 rfl (A_iconst (v := 0) hx dL_flush_1 (by decide) (A_aload_n (i := 0) hx dL_flush_2 rfl (?_)))
        refine A_callVX (as := []) (rest := [ai 0, ar (14, 0)]) (b := (0, 0)) hx rfl (c_X2_flush hst) ho hle (fun v hv => by simp at hv) uc_X2_flush um_L_93 ui_X2_flush us_X2_flush un_X2 ⟨rfl, by decide, by decide, rfl⟩ rfl rfl rfl (by simp [wt, wtA, Value.category]) (by decide) (by decide) dL_flush_3 hself.fit (fun v9 hv9 => by cases hv9) (fun n hn => ?_)
        cases hn
        exact ⟨[], ⟨0, 8, 11, 15⟩, [], "java/lang/IllegalStateException", ht.trans rfl, (fun z hz => by cases hz), (by decide), (by decide), ul_L_15, fw_22, fun q => A_astore_nQ (i := 2) hx dL_flush_11 (by show 2 < 3; decide) (A_iconst (v := 1) hx dL_flush_12 (by decide) (A_iretW hx hr dL_flush_13 hself))⟩
      · cases hsem
    · cases hsem
  · cases hsem
def w_isAlive : Sem := fun as σ => match as with
  | [.inr (0, 0), .inl (.int a), .inr (14, 0)] => (f_X2_isAlive [ar (0, 0), ai a] σ).bind fun o => if sleB σ o.2 = true then (match o.1 with
    | .inl (some (.inl (.int v))) => some (.inl (some (ai 0)), upJ o.2 (b2l v))
    | .inr 1 => some (.inl (some (ai 1)), o.2)
    | _ => none) else none
  | _ => none
theorem c_W_isAlive {l : Launch} {g : Gx} (hl : l.stackTraces = false) : CtW xNI l g yL_isAlive cL_isAlive 4 (some .int) [(0, 16, 19, 13)] 8 124 w_isAlive := by
  refine CtW.of (by decide) hl (fun κ h1 h2 hX hx hr ht as σ σF r hs hsem => ?_)
  have hst := hx.st
  unfold w_isAlive at hsem
  split at hsem
  · rename_i a
    obtain ⟨⟨ro, τ⟩, ho, hsem⟩ := obs hsem
    dsimp only at hsem
    split at hsem
    · rename_i hsl
      have hle := sleB_sle hsl
      split at hsem
      · rename_i v
        cases hsem
        refine ⟨by simp, hle, fun k9 => ?_⟩
        have hself := k9 (kL κ) (fun _ _ => rfl)
        rw [wL_self] at hself
        refine A_aload_n (i := 2) hx dL_isAlive_0 rfl (A_iconst (v := 0) hx dL_isAlive_1 (by decide) (A_aload_n (i := 0) hx dL_isAlive_2 rfl (A_iload_n (i := 1) hx dL_isAlive_3 rfl (?_))))
        refine A_callVX (as := [ai a]) (rest := [ai 0, ar (14, 0)]) (b := (0, 0)) hx rfl (c_X2_isAlive hst) ho hle (fun v hv => by simp at hv; subst hv; exact Or.inl ⟨_, rfl⟩) uc_X2_isAlive um_L_97 ui_X2_isAlive us_X2_isAlive un_X2 ⟨rfl, by decide, by decide, rfl⟩ rfl rfl rfl (by simp [wt, wtA, Value.category]) (by decide) (by decide) dL_isAlive_4 hself.fit.J (fun v9 hv9 => ?_) (fun n hn => by cases hn)
        cases hv9
        refine A_if_eq (tgt := 14) hx dL_isAlive_7 (by decide) (fun q => ?_) (fun q => ?_)
        · have e : b2l v = 0 := if_pos q
          rw [e] at hself
          exact A_lconst (v := 0) hx dL_isAlive_14 (by decide) (A_lastJ hx dL_isAlive_15 (A_goto (tgt := 22) hx dL_isAlive_16 (by decide) (A_iconst (v := 0) hx dL_isAlive_22 (by decide) (A_iretW hx hr dL_isAlive_23 hself))))
        · have e : b2l v = 1 := if_neg q
          rw [e] at hself
          exact A_lconst (v := 1) hx dL_isAlive_10 (by decide) (A_goto (tgt := 15) hx dL_isAlive_11 (by decide) (A_lastJ hx dL_isAlive_15 (A_goto (tgt := 22) hx dL_isAlive_16 (by decide) (A_iconst (v := 0) hx dL_isAlive_22 (by decide) (A_iretW hx hr dL_isAlive_23 hself)))))
      · skip
        cases hsem
        refine ⟨by simp, hle, fun k9 => ?_⟩
        have hself := k9 (kL κ) (fun _ _ => rfl)
        rw [wL_self] at hself
        refine A_aload_n (i := 2) hx dL_isAlive_0 rfl (A_iconst (v := 0) hx dL_isAlive_1 (by decide) (A_aload_n (i := 0) hx dL_isAlive_2 rfl (A_iload_n (i := 1) hx dL_isAlive_3 rfl (?_))))
        refine A_callVX (as := [ai a]) (rest := [ai 0, ar (14, 0)]) (b := (0, 0)) hx rfl (c_X2_isAlive hst) ho hle (fun v hv => by simp at hv; subst hv; exact Or.inl ⟨_, rfl⟩) uc_X2_isAlive um_L_97 ui_X2_isAlive us_X2_isAlive un_X2 ⟨rfl, by decide, by decide, rfl⟩ rfl rfl rfl (by simp [wt, wtA, Value.category]) (by decide) (by decide) dL_isAlive_4 hself.fit (fun v9 hv9 => by cases hv9) (fun n hn => ?_)
        cases hn
        exact ⟨[], ⟨0, 16, 19, 13⟩, [], "java/lang/IndexOutOfBoundsException", ht.trans rfl, (fun z hz => by cases hz), (by decide), (by decide), ul_L_13, fw_11, fun q => A_astore_nQ (i := 3) hx dL_isAlive_19 (by show 3 < 4; decide) (A_iconst (v := 1) hx dL_isAlive_20 (by decide) (A_iretW hx hr dL_isAlive_21 hself))⟩
      · cases hsem
    · cases hsem
  · cases hsem
