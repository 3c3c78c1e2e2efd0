/-! the law's helpers that catch (laid by wip/p34/gen/wrapn.py) -/
def f_L_arrive : Sem := fun as σ => match as with
  | [.inr (0, 0), .inl (.int a), .inl (.int b)] => (f_X2_arrive [ar (0, 0), ai a, ai b] σ).bind fun o => if sleB σ o.2 = true then (match o.1 with
    | .inl (some (.inl (.int v))) => some (.inl (some (ai v)), o.2)
    | .inr 1 => some (.inl (some (ai (-71))), o.2)
    | .inr 2 => some (.inl (some (ai (-72))), o.2)
    | _ => none) else none
  | _ => none
theorem c_L_arrive {l : Launch} {g : Gx} (hl : l.stackTraces = false) : CtN l g yL_arrive cL_arrive 5 (some .int) [(0, 7, 10, 14), (0, 7, 15, 16)] 12 285 f_L_arrive := by
  refine CtN.of (by decide) hl (fun κ h1 h2 hx hr ht as σ σF r hs hsem => ?_)
  have hst := hx.st
  unfold f_L_arrive at hsem
  split at hsem
  · rename_i a b
    obtain ⟨⟨ro, τ⟩, ho, hsem⟩ := obs hsem
    dsimp only at hsem
    split at hsem
    · rename_i hsl
      have hle := sleB_sle hsl
      split at hsem
      · rename_i v
        cases hsem
        refine ⟨by simp [lcOf], hle, fun k9 => ?_⟩
        have hself := k9
        refine A_aload_n (i := 0) hx dL_arrive_0 rfl (A_iload_n (i := 1) hx dL_arrive_1 rfl (A_iload_n (i := 2) hx dL_arrive_2 rfl (?_)))
        refine A_callVX (as := [ai a, ai b]) (rest := []) (b := (0, 0)) hx rfl (c_X2_arrive hst) ho hle (fun v hv => by simp at hv; rcases hv with rfl | rfl; exact Or.inl ⟨_, rfl⟩; exact Or.inl ⟨_, rfl⟩) uc_X2_arrive um_L_18 ui_X2_arrive us_X2_arrive un_X2 ⟨rfl, by decide, by decide, rfl⟩ rfl rfl rfl (by simp [wt]) (by decide) (by decide) dL_arrive_3 hself.fit (fun v9 hv9 => ?_) (fun n hn => by cases hn)
        cases hv9
        exact A_istore_n (i := 3) hx dL_arrive_6 (by show 3 < 5; decide) (A_goto (tgt := 20) hx dL_arrive_7 (by decide) (A_iload_n (i := 3) hx dL_arrive_20 rfl (A_iretW hx hr dL_arrive_21 hself)))
      · skip
        cases hsem
        refine ⟨by simp [lcOf], hle, fun k9 => ?_⟩
        have hself := k9
        refine A_aload_n (i := 0) hx dL_arrive_0 rfl (A_iload_n (i := 1) hx dL_arrive_1 rfl (A_iload_n (i := 2) hx dL_arrive_2 rfl (?_)))
        refine A_callVX (as := [ai a, ai b]) (rest := []) (b := (0, 0)) hx rfl (c_X2_arrive hst) ho hle (fun v hv => by simp at hv; rcases hv with rfl | rfl; exact Or.inl ⟨_, rfl⟩; exact Or.inl ⟨_, rfl⟩) uc_X2_arrive um_L_18 ui_X2_arrive us_X2_arrive un_X2 ⟨rfl, by decide, by decide, rfl⟩ rfl rfl rfl (by simp [wt]) (by decide) (by decide) dL_arrive_3 hself.fit (fun v9 hv9 => by cases hv9) (fun n hn => ?_)
        cases hn
        exact ⟨[], ⟨0, 7, 10, 14⟩, [⟨0, 7, 15, 16⟩], "java/lang/IndexOutOfBoundsException", ht.trans rfl, (fun z hz => by cases hz), (by decide), (by decide), ul_L_14, fw_11, fun q => A_astoreQ hx dL_arrive_10 (by show 4 < 5; decide) (A_bipush (v := (-71)) hx dL_arrive_12 (by decide) (A_iretW hx hr dL_arrive_14 hself))⟩
      · skip
        cases hsem
        refine ⟨by simp [lcOf], hle, fun k9 => ?_⟩
        have hself := k9
        refine A_aload_n (i := 0) hx dL_arrive_0 rfl (A_iload_n (i := 1) hx dL_arrive_1 rfl (A_iload_n (i := 2) hx dL_arrive_2 rfl (?_)))
        refine A_callVX (as := [ai a, ai b]) (rest := []) (b := (0, 0)) hx rfl (c_X2_arrive hst) ho hle (fun v hv => by simp at hv; rcases hv with rfl | rfl; exact Or.inl ⟨_, rfl⟩; exact Or.inl ⟨_, rfl⟩) uc_X2_arrive um_L_18 ui_X2_arrive us_X2_arrive un_X2 ⟨rfl, by decide, by decide, rfl⟩ rfl rfl rfl (by simp [wt]) (by decide) (by decide) dL_arrive_3 hself.fit (fun v9 hv9 => by cases hv9) (fun n hn => ?_)
        cases hn
        exact ⟨[⟨0, 7, 10, 14⟩], ⟨0, 7, 15, 16⟩, [], "java/lang/IllegalStateException", ht.trans rfl, (fun z hz => by rw [List.mem_singleton.mp hz]; exact Or.inr ⟨(by decide), rfl, ul_L_14⟩), (by decide), (by decide), ul_L_16, fw_22, fun q => A_astoreQ hx dL_arrive_15 (by show 4 < 5; decide) (A_bipush (v := (-72)) hx dL_arrive_17 (by decide) (A_iretW hx hr dL_arrive_19 hself))⟩
      · cases hsem
    · cases hsem
  · cases hsem
theorem v_L_arrive {κ : Kx} {own : String} {fX lX idx : Nat} (hst : (kl κ).stackTraces = false) (um : Cond.methodLink own idx yL_arrive ∈ UW) (h1 : 12 + 1 ≤ fX) (h2 : 8 + (5 + 11) + 285 ≤ lX) : CN κ own fX lX idx 3 f_L_arrive := ⟨yL_arrive, cL_arrive, 5, (some .int), [(0, 7, 10, 14), (0, 7, 15, 16)], 12, 285, c_L_arrive hst, uw_L_arrive, um, ut_L_arrive, un_L, ⟨by decide, by decide, rfl⟩, h1, h2⟩
def f_L_lose : Sem := fun as σ => match as with
  | [.inr (0, 0), .inl (.int a), .inl (.int b)] => (f_X2_lose [ar (0, 0), ai a, ai b] σ).bind fun o => if sleB σ o.2 = true then (match o.1 with
    | .inl none => some (.inl (some (ai 0)), o.2)
    | .inr 1 => some (.inl (some (ai (-71))), o.2)
    | .inr 2 => some (.inl (some (ai (-72))), o.2)
    | _ => none) else none
  | _ => none
theorem c_L_lose {l : Launch} {g : Gx} (hl : l.stackTraces = false) : CtN l g yL_lose cL_lose 4 (some .int) [(0, 6, 9, 14), (0, 6, 13, 16)] 9 147 f_L_lose := by
  refine CtN.of (by decide) hl (fun κ h1 h2 hx hr ht as σ σF r hs hsem => ?_)
  have hst := hx.st
  unfold f_L_lose at hsem
  split at hsem
  · rename_i a b
    obtain ⟨⟨ro, τ⟩, ho, hsem⟩ := obs hsem
    dsimp only at hsem
    split at hsem
    · rename_i hsl
      have hle := sleB_sle hsl
      split at hsem
      · skip
        cases hsem
        refine ⟨by simp [lcOf], hle, fun k9 => ?_⟩
        have hself := k9
        refine A_aload_n (i := 0) hx dL_lose_0 rfl (A_iload_n (i := 1) hx dL_lose_1 rfl (A_iload_n (i := 2) hx dL_lose_2 rfl (?_)))
        refine A_callVX (as := [ai a, ai b]) (rest := []) (b := (0, 0)) hx rfl (c_X2_lose hst) ho hle (fun v hv => by simp at hv; rcases hv with rfl | rfl; exact Or.inl ⟨_, rfl⟩; exact Or.inl ⟨_, rfl⟩) uc_X2_lose um_L_22 ui_X2_lose us_X2_lose un_X2 ⟨rfl, by decide, by decide, rfl⟩ rfl rfl rfl (by simp [wt]) (by decide) (by decide) dL_lose_3 hself.fit (fun v9 hv9 => ?_) (fun n hn => by cases hn)
        cases hv9
        exact A_goto (tgt := 17) hx dL_lose_6 (by decide) (A_iconst (v := 0) hx dL_lose_17 (by decide) (A_iretW hx hr dL_lose_18 hself))
      · skip
        cases hsem
        refine ⟨by simp [lcOf], hle, fun k9 => ?_⟩
        have hself := k9
        refine A_aload_n (i := 0) hx dL_lose_0 rfl (A_iload_n (i := 1) hx dL_lose_1 rfl (A_iload_n (i := 2) hx dL_lose_2 rfl (?_)))
        refine A_callVX (as := [ai a, ai b]) (rest := []) (b := (0, 0)) hx rfl (c_X2_lose hst) ho hle (fun v hv => by simp at hv; rcases hv with rfl | rfl; exact Or.inl ⟨_, rfl⟩; exact Or.inl ⟨_, rfl⟩) uc_X2_lose um_L_22 ui_X2_lose us_X2_lose un_X2 ⟨rfl, by decide, by decide, rfl⟩ rfl rfl rfl (by simp [wt]) (by decide) (by decide) dL_lose_3 hself.fit (fun v9 hv9 => by cases hv9) (fun n hn => ?_)
        cases hn
        exact ⟨[], ⟨0, 6, 9, 14⟩, [⟨0, 6, 13, 16⟩], "java/lang/IndexOutOfBoundsException", ht.trans rfl, (fun z hz => by cases hz), (by decide), (by decide), ul_L_14, fw_11, fun q => A_astore_nQ (i := 3) hx dL_lose_9 (by show 3 < 4; decide) (A_bipush (v := (-71)) hx dL_lose_10 (by decide) (A_iretW hx hr dL_lose_12 hself))⟩
      · skip
        cases hsem
        refine ⟨by simp [lcOf], hle, fun k9 => ?_⟩
        have hself := k9
        refine A_aload_n (i := 0) hx dL_lose_0 rfl (A_iload_n (i := 1) hx dL_lose_1 rfl (A_iload_n (i := 2) hx dL_lose_2 rfl (?_)))
        refine A_callVX (as := [ai a, ai b]) (rest := []) (b := (0, 0)) hx rfl (c_X2_lose hst) ho hle (fun v hv => by simp at hv; rcases hv with rfl | rfl; exact Or.inl ⟨_, rfl⟩; exact Or.inl ⟨_, rfl⟩) uc_X2_lose um_L_22 ui_X2_lose us_X2_lose un_X2 ⟨rfl, by decide, by decide, rfl⟩ rfl rfl rfl (by simp [wt]) (by decide) (by decide) dL_lose_3 hself.fit (fun v9 hv9 => by cases hv9) (fun n hn => ?_)
        cases hn
        exact ⟨[⟨0, 6, 9, 14⟩], ⟨0, 6, 13, 16⟩, [], "java/lang/IllegalStateException", ht.trans rfl, (fun z hz => by rw [List.mem_singleton.mp hz]; exact Or.inr ⟨(by decide), rfl, ul_L_14⟩), (by decide), (by decide), ul_L_16, fw_22, fun q => A_astore_nQ (i := 3) hx dL_lose_13 (by show 3 < 4; decide) (A_bipush (v := (-72)) hx dL_lose_14 (by decide) (A_iretW hx hr dL_lose_16 hself))⟩
      · cases hsem
    · cases hsem
  · cases hsem
theorem v_L_lose {κ : Kx} {own : String} {fX lX idx : Nat} (hst : (kl κ).stackTraces = false) (um : Cond.methodLink own idx yL_lose ∈ UW) (h1 : 9 + 1 ≤ fX) (h2 : 8 + (4 + 11) + 147 ≤ lX) : CN κ own fX lX idx 3 f_L_lose := ⟨yL_lose, cL_lose, 4, (some .int), [(0, 6, 9, 14), (0, 6, 13, 16)], 9, 147, c_L_lose hst, uw_L_lose, um, ut_L_lose, un_L, ⟨by decide, by decide, rfl⟩, h1, h2⟩
def f_L_sendAgain : Sem := fun as σ => match as with
  | [.inr (0, 0), .inl (.int a), .inl (.int b)] => (f_X2_sendAgain [ar (0, 0), ai a, ai b] σ).bind fun o => if sleB σ o.2 = true then (match o.1 with
    | .inl none => some (.inl (some (ai 0)), o.2)
    | .inr 1 => some (.inl (some (ai (-71))), o.2)
    | .inr 2 => some (.inl (some (ai (-72))), o.2)
    | _ => none) else none
  | _ => none
theorem c_L_sendAgain {l : Launch} {g : Gx} (hl : l.stackTraces = false) : CtN l g yL_sendAgain cL_sendAgain 4 (some .int) [(0, 6, 9, 14), (0, 6, 13, 16)] 9 147 f_L_sendAgain := by
  refine CtN.of (by decide) hl (fun κ h1 h2 hx hr ht as σ σF r hs hsem => ?_)
  have hst := hx.st
  unfold f_L_sendAgain at hsem
  split at hsem
  · rename_i a b
    obtain ⟨⟨ro, τ⟩, ho, hsem⟩ := obs hsem
    dsimp only at hsem
    split at hsem
    · rename_i hsl
      have hle := sleB_sle hsl
      split at hsem
      · skip
        cases hsem
        refine ⟨by simp [lcOf], hle, fun k9 => ?_⟩
        have hself := k9
        refine A_aload_n (i := 0) hx dL_sendAgain_0 rfl (A_iload_n (i := 1) hx dL_sendAgain_1 rfl (A_iload_n (i := 2) hx dL_sendAgain_2 rfl (?_)))
        refine A_callVX (as := [ai a, ai b]) (rest := []) (b := (0, 0)) hx rfl (c_X2_sendAgain hst) ho hle (fun v hv => by simp at hv; rcases hv with rfl | rfl; exact Or.inl ⟨_, rfl⟩; exact Or.inl ⟨_, rfl⟩) uc_X2_sendAgain um_L_26 ui_X2_sendAgain us_X2_sendAgain un_X2 ⟨rfl, by decide, by decide, rfl⟩ rfl rfl rfl (by simp [wt]) (by decide) (by decide) dL_sendAgain_3 hself.fit (fun v9 hv9 => ?_) (fun n hn => by cases hn)
        cases hv9
        exact A_goto (tgt := 17) hx dL_sendAgain_6 (by decide) (A_iconst (v := 0) hx dL_sendAgain_17 (by decide) (A_iretW hx hr dL_sendAgain_18 hself))
      · skip
        cases hsem
        refine ⟨by simp [lcOf], hle, fun k9 => ?_⟩
        have hself := k9
        refine A_aload_n (i := 0) hx dL_sendAgain_0 rfl (A_iload_n (i := 1) hx dL_sendAgain_1 rfl (A_iload_n (i := 2) hx dL_sendAgain_2 rfl (?_)))
        refine A_callVX (as := [ai a, ai b]) (rest := []) (b := (0, 0)) hx rfl (c_X2_sendAgain hst) ho hle (fun v hv => by simp at hv; rcases hv with rfl | rfl; exact Or.inl ⟨_, rfl⟩; exact Or.inl ⟨_, rfl⟩) uc_X2_sendAgain um_L_26 ui_X2_sendAgain us_X2_sendAgain un_X2 ⟨rfl, by decide, by decide, rfl⟩ rfl rfl rfl (by simp [wt]) (by decide) (by decide) dL_sendAgain_3 hself.fit (fun v9 hv9 => by cases hv9) (fun n hn => ?_)
        cases hn
        exact ⟨[], ⟨0, 6, 9, 14⟩, [⟨0, 6, 13, 16⟩], "java/lang/IndexOutOfBoundsException", ht.trans rfl, (fun z hz => by cases hz), (by decide), (by decide), ul_L_14, fw_11, fun q => A_astore_nQ (i := 3) hx dL_sendAgain_9 (by show 3 < 4; decide) (A_bipush (v := (-71)) hx dL_sendAgain_10 (by decide) (A_iretW hx hr dL_sendAgain_12 hself))⟩
      · skip
        cases hsem
        refine ⟨by simp [lcOf], hle, fun k9 => ?_⟩
        have hself := k9
        refine A_aload_n (i := 0) hx dL_sendAgain_0 rfl (A_iload_n (i := 1) hx dL_sendAgain_1 rfl (A_iload_n (i := 2) hx dL_sendAgain_2 rfl (?_)))
        refine A_callVX (as := [ai a, ai b]) (rest := []) (b := (0, 0)) hx rfl (c_X2_sendAgain hst) ho hle (fun v hv => by simp at hv; rcases hv with rfl | rfl; exact Or.inl ⟨_, rfl⟩; exact Or.inl ⟨_, rfl⟩) uc_X2_sendAgain um_L_26 ui_X2_sendAgain us_X2_sendAgain un_X2 ⟨rfl, by decide, by decide, rfl⟩ rfl rfl rfl (by simp [wt]) (by decide) (by decide) dL_sendAgain_3 hself.fit (fun v9 hv9 => by cases hv9) (fun n hn => ?_)
        cases hn
        exact ⟨[⟨0, 6, 9, 14⟩], ⟨0, 6, 13, 16⟩, [], "java/lang/IllegalStateException", ht.trans rfl, (fun z hz => by rw [List.mem_singleton.mp hz]; exact Or.inr ⟨(by decide), rfl, ul_L_14⟩), (by decide), (by decide), ul_L_16, fw_22, fun q => A_astore_nQ (i := 3) hx dL_sendAgain_13 (by show 3 < 4; decide) (A_bipush (v := (-72)) hx dL_sendAgain_14 (by decide) (A_iretW hx hr dL_sendAgain_16 hself))⟩
      · cases hsem
    · cases hsem
  · cases hsem
theorem v_L_sendAgain {κ : Kx} {own : String} {fX lX idx : Nat} (hst : (kl κ).stackTraces = false) (um : Cond.methodLink own idx yL_sendAgain ∈ UW) (h1 : 9 + 1 ≤ fX) (h2 : 8 + (4 + 11) + 147 ≤ lX) : CN κ own fX lX idx 3 f_L_sendAgain := ⟨yL_sendAgain, cL_sendAgain, 4, (some .int), [(0, 6, 9, 14), (0, 6, 13, 16)], 9, 147, c_L_sendAgain hst, uw_L_sendAgain, um, ut_L_sendAgain, un_L, ⟨by decide, by decide, rfl⟩, h1, h2⟩
def f_L_passToken : Sem := fun as σ => match as with
  | [.inr (0, 0), .inl (.int a)] => (f_X2_passToken [ar (0, 0), ai a] σ).bind fun o => if sleB σ o.2 = true then (match o.1 with
    | .inl (some (.inl (.int v))) => some (.inl (some (ai v)), o.2)
    | .inr 1 => some (.inl (some (ai (-71))), o.2)
    | .inr 2 => some (.inl (some (ai (-72))), o.2)
    | _ => none) else none
  | _ => none
theorem c_L_passToken {l : Launch} {g : Gx} (hl : l.stackTraces = false) : CtN l g yL_passToken cL_passToken 4 (some .int) [(0, 6, 9, 14), (0, 6, 13, 16)] 10 239 f_L_passToken := by
  refine CtN.of (by decide) hl (fun κ h1 h2 hx hr ht as σ σF r hs hsem => ?_)
  have hst := hx.st
  unfold f_L_passToken at hsem
  split at hsem
  · rename_i a
    obtain ⟨⟨ro, τ⟩, ho, hsem⟩ := obs hsem
    dsimp only at hsem
    split at hsem
    · rename_i hsl
      have hle := sleB_sle hsl
      split at hsem
      · rename_i v
        cases hsem
        refine ⟨by simp [lcOf], hle, fun k9 => ?_⟩
        have hself := k9
        refine A_aload_n (i := 0) hx dL_passToken_0 rfl (A_iload_n (i := 1) hx dL_passToken_1 rfl (?_))
        refine A_callVX (as := [ai a]) (rest := []) (b := (0, 0)) hx rfl (c_X2_passToken hst) ho hle (fun v hv => by simp at hv; subst hv; exact Or.inl ⟨_, rfl⟩) uc_X2_passToken um_L_29 ui_X2_passToken us_X2_passToken un_X2 ⟨rfl, by decide, by decide, rfl⟩ rfl rfl rfl (by simp [wt]) (by decide) (by decide) dL_passToken_2 hself.fit (fun v9 hv9 => ?_) (fun n hn => by cases hn)
        cases hv9
        exact A_istore_n (i := 2) hx dL_passToken_5 (by show 2 < 4; decide) (A_goto (tgt := 17) hx dL_passToken_6 (by decide) (A_iload_n (i := 2) hx dL_passToken_17 rfl (A_iretW hx hr dL_passToken_18 hself)))
      · skip
        cases hsem
        refine ⟨by simp [lcOf], hle, fun k9 => ?_⟩
        have hself := k9
        refine A_aload_n (i := 0) hx dL_passToken_0 rfl (A_iload_n (i := 1) hx dL_passToken_1 rfl (?_))
        refine A_callVX (as := [ai a]) (rest := []) (b := (0, 0)) hx rfl (c_X2_passToken hst) ho hle (fun v hv => by simp at hv; subst hv; exact Or.inl ⟨_, rfl⟩) uc_X2_passToken um_L_29 ui_X2_passToken us_X2_passToken un_X2 ⟨rfl, by decide, by decide, rfl⟩ rfl rfl rfl (by simp [wt]) (by decide) (by decide) dL_passToken_2 hself.fit (fun v9 hv9 => by cases hv9) (fun n hn => ?_)
        cases hn
        exact ⟨[], ⟨0, 6, 9, 14⟩, [⟨0, 6, 13, 16⟩], "java/lang/IndexOutOfBoundsException", ht.trans rfl, (fun z hz => by cases hz), (by decide), (by decide), ul_L_14, fw_11, fun q => A_astore_nQ (i := 3) hx dL_passToken_9 (by show 3 < 4; decide) (A_bipush (v := (-71)) hx dL_passToken_10 (by decide) (A_iretW hx hr dL_passToken_12 hself))⟩
      · skip
        cases hsem
        refine ⟨by simp [lcOf], hle, fun k9 => ?_⟩
        have hself := k9
        refine A_aload_n (i := 0) hx dL_passToken_0 rfl (A_iload_n (i := 1) hx dL_passToken_1 rfl (?_))
        refine A_callVX (as := [ai a]) (rest := []) (b := (0, 0)) hx rfl (c_X2_passToken hst) ho hle (fun v hv => by simp at hv; subst hv; exact Or.inl ⟨_, rfl⟩) uc_X2_passToken um_L_29 ui_X2_passToken us_X2_passToken un_X2 ⟨rfl, by decide, by decide, rfl⟩ rfl rfl rfl (by simp [wt]) (by decide) (by decide) dL_passToken_2 hself.fit (fun v9 hv9 => by cases hv9) (fun n hn => ?_)
        cases hn
        exact ⟨[⟨0, 6, 9, 14⟩], ⟨0, 6, 13, 16⟩, [], "java/lang/IllegalStateException", ht.trans rfl, (fun z hz => by rw [List.mem_singleton.mp hz]; exact Or.inr ⟨(by decide), rfl, ul_L_14⟩), (by decide), (by decide), ul_L_16, fw_22, fun q => A_astore_nQ (i := 3) hx dL_passToken_13 (by show 3 < 4; decide) (A_bipush (v := (-72)) hx dL_passToken_14 (by decide) (A_iretW hx hr dL_passToken_16 hself))⟩
      · cases hsem
    · cases hsem
  · cases hsem
theorem v_L_passToken {κ : Kx} {own : String} {fX lX idx : Nat} (hst : (kl κ).stackTraces = false) (um : Cond.methodLink own idx yL_passToken ∈ UW) (h1 : 10 + 1 ≤ fX) (h2 : 8 + (4 + 11) + 239 ≤ lX) : CN κ own fX lX idx 2 f_L_passToken := ⟨yL_passToken, cL_passToken, 4, (some .int), [(0, 6, 9, 14), (0, 6, 13, 16)], 10, 239, c_L_passToken hst, uw_L_passToken, um, ut_L_passToken, un_L, ⟨by decide, by decide, rfl⟩, h1, h2⟩
def f_L_tell : Sem := fun as σ => match as with
  | [.inr (0, 0), .inl (.int a)] => (f_X2_tell [ar (0, 0), ai a] σ).bind fun o => if sleB σ o.2 = true then (match o.1 with
    | .inl (some (.inl (.int v))) => some (.inl (some (ai v)), o.2)
    | .inr 1 => some (.inl (some (ai (-71))), o.2)
    | .inr 2 => some (.inl (some (ai (-72))), o.2)
    | _ => none) else none
  | _ => none
theorem c_L_tell {l : Launch} {g : Gx} (hl : l.stackTraces = false) : CtN l g yL_tell cL_tell 4 (some .int) [(0, 6, 9, 14), (0, 6, 13, 16)] 8 125 f_L_tell := by
  refine CtN.of (by decide) hl (fun κ h1 h2 hx hr ht as σ σF r hs hsem => ?_)
  have hst := hx.st
  unfold f_L_tell at hsem
  split at hsem
  · rename_i a
    obtain ⟨⟨ro, τ⟩, ho, hsem⟩ := obs hsem
    dsimp only at hsem
    split at hsem
    · rename_i hsl
      have hle := sleB_sle hsl
      split at hsem
      · rename_i v
        cases hsem
        refine ⟨by simp [lcOf], hle, fun k9 => ?_⟩
        have hself := k9
        refine A_aload_n (i := 0) hx dL_tell_0 rfl (A_iload_n (i := 1) hx dL_tell_1 rfl (?_))
        refine A_callVX (as := [ai a]) (rest := []) (b := (0, 0)) hx rfl (c_X2_tell hst) ho hle (fun v hv => by simp at hv; subst hv; exact Or.inl ⟨_, rfl⟩) uc_X2_tell um_L_32 ui_X2_tell us_X2_tell un_X2 ⟨rfl, by decide, by decide, rfl⟩ rfl rfl rfl (by simp [wt]) (by decide) (by decide) dL_tell_2 hself.fit (fun v9 hv9 => ?_) (fun n hn => by cases hn)
        cases hv9
        exact A_istore_n (i := 2) hx dL_tell_5 (by show 2 < 4; decide) (A_goto (tgt := 17) hx dL_tell_6 (by decide) (A_iload_n (i := 2) hx dL_tell_17 rfl (A_iretW hx hr dL_tell_18 hself)))
      · skip
        cases hsem
        refine ⟨by simp [lcOf], hle, fun k9 => ?_⟩
        have hself := k9
        refine A_aload_n (i := 0) hx dL_tell_0 rfl (A_iload_n (i := 1) hx dL_tell_1 rfl (?_))
        refine A_callVX (as := [ai a]) (rest := []) (b := (0, 0)) hx rfl (c_X2_tell hst) ho hle (fun v hv => by simp at hv; subst hv; exact Or.inl ⟨_, rfl⟩) uc_X2_tell um_L_32 ui_X2_tell us_X2_tell un_X2 ⟨rfl, by decide, by decide, rfl⟩ rfl rfl rfl (by simp [wt]) (by decide) (by decide) dL_tell_2 hself.fit (fun v9 hv9 => by cases hv9) (fun n hn => ?_)
        cases hn
        exact ⟨[], ⟨0, 6, 9, 14⟩, [⟨0, 6, 13, 16⟩], "java/lang/IndexOutOfBoundsException", ht.trans rfl, (fun z hz => by cases hz), (by decide), (by decide), ul_L_14, fw_11, fun q => A_astore_nQ (i := 3) hx dL_tell_9 (by show 3 < 4; decide) (A_bipush (v := (-71)) hx dL_tell_10 (by decide) (A_iretW hx hr dL_tell_12 hself))⟩
      · skip
        cases hsem
        refine ⟨by simp [lcOf], hle, fun k9 => ?_⟩
        have hself := k9
        refine A_aload_n (i := 0) hx dL_tell_0 rfl (A_iload_n (i := 1) hx dL_tell_1 rfl (?_))
        refine A_callVX (as := [ai a]) (rest := []) (b := (0, 0)) hx rfl (c_X2_tell hst) ho hle (fun v hv => by simp at hv; subst hv; exact Or.inl ⟨_, rfl⟩) uc_X2_tell um_L_32 ui_X2_tell us_X2_tell un_X2 ⟨rfl, by decide, by decide, rfl⟩ rfl rfl rfl (by simp [wt]) (by decide) (by decide) dL_tell_2 hself.fit (fun v9 hv9 => by cases hv9) (fun n hn => ?_)
        cases hn
        exact ⟨[⟨0, 6, 9, 14⟩], ⟨0, 6, 13, 16⟩, [], "java/lang/IllegalStateException", ht.trans rfl, (fun z hz => by rw [List.mem_singleton.mp hz]; exact Or.inr ⟨(by decide), rfl, ul_L_14⟩), (by decide), (by decide), ul_L_16, fw_22, fun q => A_astore_nQ (i := 3) hx dL_tell_13 (by show 3 < 4; decide) (A_bipush (v := (-72)) hx dL_tell_14 (by decide) (A_iretW hx hr dL_tell_16 hself))⟩
      · cases hsem
    · cases hsem
  · cases hsem
theorem v_L_tell {κ : Kx} {own : String} {fX lX idx : Nat} (hst : (kl κ).stackTraces = false) (um : Cond.methodLink own idx yL_tell ∈ UW) (h1 : 8 + 1 ≤ fX) (h2 : 8 + (4 + 11) + 125 ≤ lX) : CN κ own fX lX idx 2 f_L_tell := ⟨yL_tell, cL_tell, 4, (some .int), [(0, 6, 9, 14), (0, 6, 13, 16)], 8, 125, c_L_tell hst, uw_L_tell, um, ut_L_tell, un_L, ⟨by decide, by decide, rfl⟩, h1, h2⟩
def f_L_fail : Sem := fun as σ => match as with
  | [.inr (0, 0), .inl (.int a)] => (f_X2_fail [ar (0, 0), ai a] σ).bind fun o => if sleB σ o.2 = true then (match o.1 with
    | .inl none => some (.inl (some (ai 0)), o.2)
    | .inr 1 => some (.inl (some (ai (-71))), o.2)
    | .inr 2 => some (.inl (some (ai (-72))), o.2)
    | _ => none) else none
  | _ => none
theorem c_L_fail {l : Launch} {g : Gx} (hl : l.stackTraces = false) : CtN l g yL_fail cL_fail 3 (some .int) [(0, 5, 8, 14), (0, 5, 12, 16)] 8 138 f_L_fail := by
  refine CtN.of (by decide) hl (fun κ h1 h2 hx hr ht as σ σF r hs hsem => ?_)
  have hst := hx.st
  unfold f_L_fail at hsem
  split at hsem
  · rename_i a
    obtain ⟨⟨ro, τ⟩, ho, hsem⟩ := obs hsem
    dsimp only at hsem
    split at hsem
    · rename_i hsl
      have hle := sleB_sle hsl
      split at hsem
      · skip
        cases hsem
        refine ⟨by simp [lcOf], hle, fun k9 => ?_⟩
        have hself := k9
        refine A_aload_n (i := 0) hx dL_fail_0 rfl (A_iload_n (i := 1) hx dL_fail_1 rfl (?_))
        refine A_callVX (as := [ai a]) (rest := []) (b := (0, 0)) hx rfl (c_X2_fail hst) ho hle (fun v hv => by simp at hv; subst hv; exact Or.inl ⟨_, rfl⟩) uc_X2_fail um_L_35 ui_X2_fail us_X2_fail un_X2 ⟨rfl, by decide, by decide, rfl⟩ rfl rfl rfl (by simp [wt]) (by decide) (by decide) dL_fail_2 hself.fit (fun v9 hv9 => ?_) (fun n hn => by cases hn)
        cases hv9
        exact A_goto (tgt := 16) hx dL_fail_5 (by decide) (A_iconst (v := 0) hx dL_fail_16 (by decide) (A_iretW hx hr dL_fail_17 hself))
      · skip
        cases hsem
        refine ⟨by simp [lcOf], hle, fun k9 => ?_⟩
        have hself := k9
        refine A_aload_n (i := 0) hx dL_fail_0 rfl (A_iload_n (i := 1) hx dL_fail_1 rfl (?_))
        refine A_callVX (as := [ai a]) (rest := []) (b := (0, 0)) hx rfl (c_X2_fail hst) ho hle (fun v hv => by simp at hv; subst hv; exact Or.inl ⟨_, rfl⟩) uc_X2_fail um_L_35 ui_X2_fail us_X2_fail un_X2 ⟨rfl, by decide, by decide, rfl⟩ rfl rfl rfl (by simp [wt]) (by decide) (by decide) dL_fail_2 hself.fit (fun v9 hv9 => by cases hv9) (fun n hn => ?_)
        cases hn
        exact ⟨[], ⟨0, 5, 8, 14⟩, [⟨0, 5, 12, 16⟩], "java/lang/IndexOutOfBoundsException", ht.trans rfl, (fun z hz => by cases hz), (by decide), (by decide), ul_L_14, fw_11, fun q => A_astore_nQ (i := 2) hx dL_fail_8 (by show 2 < 3; decide) (A_bipush (v := (-71)) hx dL_fail_9 (by decide) (A_iretW hx hr dL_fail_11 hself))⟩
      · skip
        cases hsem
        refine ⟨by simp [lcOf], hle, fun k9 => ?_⟩
        have hself := k9
        refine A_aload_n (i := 0) hx dL_fail_0 rfl (A_iload_n (i := 1) hx dL_fail_1 rfl (?_))
        refine A_callVX (as := [ai a]) (rest := []) (b := (0, 0)) hx rfl (c_X2_fail hst) ho hle (fun v hv => by simp at hv; subst hv; exact Or.inl ⟨_, rfl⟩) uc_X2_fail um_L_35 ui_X2_fail us_X2_fail un_X2 ⟨rfl, by decide, by decide, rfl⟩ rfl rfl rfl (by simp [wt]) (by decide) (by decide) dL_fail_2 hself.fit (fun v9 hv9 => by cases hv9) (fun n hn => ?_)
        cases hn
        exact ⟨[⟨0, 5, 8, 14⟩], ⟨0, 5, 12, 16⟩, [], "java/lang/IllegalStateException", ht.trans rfl, (fun z hz => by rw [List.mem_singleton.mp hz]; exact Or.inr ⟨(by decide), rfl, ul_L_14⟩), (by decide), (by decide), ul_L_16, fw_22, fun q => A_astore_nQ (i := 2) hx dL_fail_12 (by show 2 < 3; decide) (A_bipush (v := (-72)) hx dL_fail_13 (by decide) (A_iretW hx hr dL_fail_15 hself))⟩
      · cases hsem
    · cases hsem
  · cases hsem
theorem v_L_fail {κ : Kx} {own : String} {fX lX idx : Nat} (hst : (kl κ).stackTraces = false) (um : Cond.methodLink own idx yL_fail ∈ UW) (h1 : 8 + 1 ≤ fX) (h2 : 8 + (3 + 11) + 138 ≤ lX) : CN κ own fX lX idx 2 f_L_fail := ⟨yL_fail, cL_fail, 3, (some .int), [(0, 5, 8, 14), (0, 5, 12, 16)], 8, 138, c_L_fail hst, uw_L_fail, um, ut_L_fail, un_L, ⟨by decide, by decide, rfl⟩, h1, h2⟩
def f_L_flush : Sem := fun as σ => match as with
  | [.inr (0, 0)] => (f_X2_flush [ar (0, 0)] σ).bind fun o => if sleB σ o.2 = true then (match o.1 with
    | .inl (some (.inl (.int v))) => some (.inl (some (ai v)), o.2)
    | .inr 2 => some (.inl (some (ai (-72))), o.2)
    | _ => none) else none
  | _ => none
theorem c_L_flush {l : Launch} {g : Gx} (hl : l.stackTraces = false) : CtN l g yL_flush cL_flush 3 (some .int) [(0, 5, 8, 16)] 13 307 f_L_flush := by
  refine CtN.of (by decide) hl (fun κ h1 h2 hx hr ht as σ σF r hs hsem => ?_)
  have hst := hx.st
  unfold f_L_flush at hsem
  split at hsem
  · obtain ⟨⟨ro, τ⟩, ho, hsem⟩ := obs hsem
    dsimp only at hsem
    split at hsem
    · rename_i hsl
      have hle := sleB_sle hsl
      split at hsem
      · rename_i v
        cases hsem
        refine ⟨by simp [lcOf], hle, fun k9 => ?_⟩
        have hself := k9
        refine A_aload_n (i := 0) hx dL_flush_0 rfl (?_)
        refine A_callVX (as := []) (rest := []) (b := (0, 0)) hx rfl (c_X2_flush hst) ho hle (fun v hv => by simp at hv) uc_X2_flush um_L_39 ui_X2_flush us_X2_flush un_X2 ⟨rfl, by decide, by decide, rfl⟩ rfl rfl rfl (by simp [wt]) (by decide) (by decide) dL_flush_1 hself.fit (fun v9 hv9 => ?_) (fun n hn => by cases hn)
        cases hv9
        exact A_istore_n (i := 1) hx dL_flush_4 (by show 1 < 3; decide) (A_goto (tgt := 12) hx dL_flush_5 (by decide) (A_iload_n (i := 1) hx dL_flush_12 rfl (A_iretW hx hr dL_flush_13 hself)))
      · skip
        cases hsem
        refine ⟨by simp [lcOf], hle, fun k9 => ?_⟩
        have hself := k9
        refine A_aload_n (i := 0) hx dL_flush_0 rfl (?_)
        refine A_callVX (as := []) (rest := []) (b := (0, 0)) hx rfl (c_X2_flush hst) ho hle (fun v hv => by simp at hv) uc_X2_flush um_L_39 ui_X2_flush us_X2_flush un_X2 ⟨rfl, by decide, by decide, rfl⟩ rfl rfl rfl (by simp [wt]) (by decide) (by decide) dL_flush_1 hself.fit (fun v9 hv9 => by cases hv9) (fun n hn => ?_)
        cases hn
        exact ⟨[], ⟨0, 5, 8, 16⟩, [], "java/lang/IllegalStateException", ht.trans rfl, (fun z hz => by cases hz), (by decide), (by decide), ul_L_16, fw_22, fun q => A_astore_nQ (i := 2) hx dL_flush_8 (by show 2 < 3; decide) (A_bipush (v := (-72)) hx dL_flush_9 (by decide) (A_iretW hx hr dL_flush_11 hself))⟩
      · cases hsem
    · cases hsem
  · cases hsem
theorem v_L_flush {κ : Kx} {own : String} {fX lX idx : Nat} (hst : (kl κ).stackTraces = false) (um : Cond.methodLink own idx yL_flush ∈ UW) (h1 : 13 + 1 ≤ fX) (h2 : 8 + (3 + 11) + 307 ≤ lX) : CN κ own fX lX idx 1 f_L_flush := ⟨yL_flush, cL_flush, 3, (some .int), [(0, 5, 8, 16)], 13, 307, c_L_flush hst, uw_L_flush, um, ut_L_flush, un_L, ⟨by decide, by decide, rfl⟩, h1, h2⟩
def f_L_copy : Sem := fun as σ => match as with
  | [.inr (0, 0), .inl (.int a), .inl (.int b)] => (f_X2_copy [ar (0, 0), ai a, ai b] σ).bind fun o => if sleB σ o.2 = true then (match o.1 with
    | .inl (some (.inl (.int v))) => some (.inl (some (ai v)), o.2)
    | .inr 1 => some (.inl (some (ai (-71))), o.2)
    | _ => none) else none
  | _ => none
theorem c_L_copy {l : Launch} {g : Gx} (hl : l.stackTraces = false) : CtN l g yL_copy cL_copy 5 (some .int) [(0, 7, 10, 14)] 9 147 f_L_copy := by
  refine CtN.of (by decide) hl (fun κ h1 h2 hx hr ht as σ σF r hs hsem => ?_)
  have hst := hx.st
  unfold f_L_copy at hsem
  split at hsem
  · rename_i a b
    obtain ⟨⟨ro, τ⟩, ho, hsem⟩ := obs hsem
    dsimp only at hsem
    split at hsem
    · rename_i hsl
      have hle := sleB_sle hsl
      split at hsem
      · rename_i v
        cases hsem
        refine ⟨by simp [lcOf], hle, fun k9 => ?_⟩
        have hself := k9
        refine A_aload_n (i := 0) hx dL_copy_0 rfl (A_iload_n (i := 1) hx dL_copy_1 rfl (A_iload_n (i := 2) hx dL_copy_2 rfl (?_)))
        refine A_callVX (as := [ai a, ai b]) (rest := []) (b := (0, 0)) hx rfl (c_X2_copy hst) ho hle (fun v hv => by simp at hv; rcases hv with rfl | rfl; exact Or.inl ⟨_, rfl⟩; exact Or.inl ⟨_, rfl⟩) uc_X2_copy um_L_43 ui_X2_copy us_X2_copy un_X2 ⟨rfl, by decide, by decide, rfl⟩ rfl rfl rfl (by simp [wt]) (by decide) (by decide) dL_copy_3 hself.fit (fun v9 hv9 => ?_) (fun n hn => by cases hn)
        cases hv9
        exact A_istore_n (i := 3) hx dL_copy_6 (by show 3 < 5; decide) (A_goto (tgt := 15) hx dL_copy_7 (by decide) (A_iload_n (i := 3) hx dL_copy_15 rfl (A_iretW hx hr dL_copy_16 hself)))
      · skip
        cases hsem
        refine ⟨by simp [lcOf], hle, fun k9 => ?_⟩
        have hself := k9
        refine A_aload_n (i := 0) hx dL_copy_0 rfl (A_iload_n (i := 1) hx dL_copy_1 rfl (A_iload_n (i := 2) hx dL_copy_2 rfl (?_)))
        refine A_callVX (as := [ai a, ai b]) (rest := []) (b := (0, 0)) hx rfl (c_X2_copy hst) ho hle (fun v hv => by simp at hv; rcases hv with rfl | rfl; exact Or.inl ⟨_, rfl⟩; exact Or.inl ⟨_, rfl⟩) uc_X2_copy um_L_43 ui_X2_copy us_X2_copy un_X2 ⟨rfl, by decide, by decide, rfl⟩ rfl rfl rfl (by simp [wt]) (by decide) (by decide) dL_copy_3 hself.fit (fun v9 hv9 => by cases hv9) (fun n hn => ?_)
        cases hn
        exact ⟨[], ⟨0, 7, 10, 14⟩, [], "java/lang/IndexOutOfBoundsException", ht.trans rfl, (fun z hz => by cases hz), (by decide), (by decide), ul_L_14, fw_11, fun q => A_astoreQ hx dL_copy_10 (by show 4 < 5; decide) (A_bipush (v := (-71)) hx dL_copy_12 (by decide) (A_iretW hx hr dL_copy_14 hself))⟩
      · cases hsem
    · cases hsem
  · cases hsem
theorem v_L_copy {κ : Kx} {own : String} {fX lX idx : Nat} (hst : (kl κ).stackTraces = false) (um : Cond.methodLink own idx yL_copy ∈ UW) (h1 : 9 + 1 ≤ fX) (h2 : 8 + (5 + 11) + 147 ≤ lX) : CN κ own fX lX idx 3 f_L_copy := ⟨yL_copy, cL_copy, 5, (some .int), [(0, 7, 10, 14)], 9, 147, c_L_copy hst, uw_L_copy, um, ut_L_copy, un_L, ⟨by decide, by decide, rfl⟩, h1, h2⟩
def f_L_agreedAt : Sem := fun as σ => match as with
  | [.inr (0, 0), .inl (.int a)] => (f_X2_agreedAt [ar (0, 0), ai a] σ).bind fun o => if sleB σ o.2 = true then (match o.1 with
    | .inl (some (.inl (.int v))) => some (.inl (some (ai v)), o.2)
    | .inr 1 => some (.inl (some (ai (-71))), o.2)
    | _ => none) else none
  | _ => none
theorem c_L_agreedAt {l : Launch} {g : Gx} (hl : l.stackTraces = false) : CtN l g yL_agreedAt cL_agreedAt 4 (some .int) [(0, 6, 9, 14)] 8 125 f_L_agreedAt := by
  refine CtN.of (by decide) hl (fun κ h1 h2 hx hr ht as σ σF r hs hsem => ?_)
  have hst := hx.st
  unfold f_L_agreedAt at hsem
  split at hsem
  · rename_i a
    obtain ⟨⟨ro, τ⟩, ho, hsem⟩ := obs hsem
    dsimp only at hsem
    split at hsem
    · rename_i hsl
      have hle := sleB_sle hsl
      split at hsem
      · rename_i v
        cases hsem
        refine ⟨by simp [lcOf], hle, fun k9 => ?_⟩
        have hself := k9
        refine A_aload_n (i := 0) hx dL_agreedAt_0 rfl (A_iload_n (i := 1) hx dL_agreedAt_1 rfl (?_))
        refine A_callVX (as := [ai a]) (rest := []) (b := (0, 0)) hx rfl (c_X2_agreedAt hst) ho hle (fun v hv => by simp at hv; subst hv; exact Or.inl ⟨_, rfl⟩) uc_X2_agreedAt um_L_46 ui_X2_agreedAt us_X2_agreedAt un_X2 ⟨rfl, by decide, by decide, rfl⟩ rfl rfl rfl (by simp [wt]) (by decide) (by decide) dL_agreedAt_2 hself.fit (fun v9 hv9 => ?_) (fun n hn => by cases hn)
        cases hv9
        exact A_istore_n (i := 2) hx dL_agreedAt_5 (by show 2 < 4; decide) (A_goto (tgt := 13) hx dL_agreedAt_6 (by decide) (A_iload_n (i := 2) hx dL_agreedAt_13 rfl (A_iretW hx hr dL_agreedAt_14 hself)))
      · skip
        cases hsem
        refine ⟨by simp [lcOf], hle, fun k9 => ?_⟩
        have hself := k9
        refine A_aload_n (i := 0) hx dL_agreedAt_0 rfl (A_iload_n (i := 1) hx dL_agreedAt_1 rfl (?_))
        refine A_callVX (as := [ai a]) (rest := []) (b := (0, 0)) hx rfl (c_X2_agreedAt hst) ho hle (fun v hv => by simp at hv; subst hv; exact Or.inl ⟨_, rfl⟩) uc_X2_agreedAt um_L_46 ui_X2_agreedAt us_X2_agreedAt un_X2 ⟨rfl, by decide, by decide, rfl⟩ rfl rfl rfl (by simp [wt]) (by decide) (by decide) dL_agreedAt_2 hself.fit (fun v9 hv9 => by cases hv9) (fun n hn => ?_)
        cases hn
        exact ⟨[], ⟨0, 6, 9, 14⟩, [], "java/lang/IndexOutOfBoundsException", ht.trans rfl, (fun z hz => by cases hz), (by decide), (by decide), ul_L_14, fw_11, fun q => A_astore_nQ (i := 3) hx dL_agreedAt_9 (by show 3 < 4; decide) (A_bipush (v := (-71)) hx dL_agreedAt_10 (by decide) (A_iretW hx hr dL_agreedAt_12 hself))⟩
      · cases hsem
    · cases hsem
  · cases hsem
theorem v_L_agreedAt {κ : Kx} {own : String} {fX lX idx : Nat} (hst : (kl κ).stackTraces = false) (um : Cond.methodLink own idx yL_agreedAt ∈ UW) (h1 : 8 + 1 ≤ fX) (h2 : 8 + (4 + 11) + 125 ≤ lX) : CN κ own fX lX idx 2 f_L_agreedAt := ⟨yL_agreedAt, cL_agreedAt, 4, (some .int), [(0, 6, 9, 14)], 8, 125, c_L_agreedAt hst, uw_L_agreedAt, um, ut_L_agreedAt, un_L, ⟨by decide, by decide, rfl⟩, h1, h2⟩
def f_L_deliveredAt : Sem := fun as σ => match as with
  | [.inr (0, 0), .inl (.int a), .inl (.int b)] => (f_X2_deliveredAt [ar (0, 0), ai a, ai b] σ).bind fun o => if sleB σ o.2 = true then (match o.1 with
    | .inl (some (.inl (.int v))) => some (.inl (some (ai v)), o.2)
    | .inr 1 => some (.inl (some (ai (-71))), o.2)
    | _ => none) else none
  | _ => none
theorem c_L_deliveredAt {l : Launch} {g : Gx} (hl : l.stackTraces = false) : CtN l g yL_deliveredAt cL_deliveredAt 5 (some .int) [(0, 7, 10, 14)] 8 126 f_L_deliveredAt := by
  refine CtN.of (by decide) hl (fun κ h1 h2 hx hr ht as σ σF r hs hsem => ?_)
  have hst := hx.st
  unfold f_L_deliveredAt at hsem
  split at hsem
  · rename_i a b
    obtain ⟨⟨ro, τ⟩, ho, hsem⟩ := obs hsem
    dsimp only at hsem
    split at hsem
    · rename_i hsl
      have hle := sleB_sle hsl
      split at hsem
      · rename_i v
        cases hsem
        refine ⟨by simp [lcOf], hle, fun k9 => ?_⟩
        have hself := k9
        refine A_aload_n (i := 0) hx dL_deliveredAt_0 rfl (A_iload_n (i := 1) hx dL_deliveredAt_1 rfl (A_iload_n (i := 2) hx dL_deliveredAt_2 rfl (?_)))
        refine A_callVX (as := [ai a, ai b]) (rest := []) (b := (0, 0)) hx rfl (c_X2_deliveredAt hst) ho hle (fun v hv => by simp at hv; rcases hv with rfl | rfl; exact Or.inl ⟨_, rfl⟩; exact Or.inl ⟨_, rfl⟩) uc_X2_deliveredAt um_L_49 ui_X2_deliveredAt us_X2_deliveredAt un_X2 ⟨rfl, by decide, by decide, rfl⟩ rfl rfl rfl (by simp [wt]) (by decide) (by decide) dL_deliveredAt_3 hself.fit (fun v9 hv9 => ?_) (fun n hn => by cases hn)
        cases hv9
        exact A_istore_n (i := 3) hx dL_deliveredAt_6 (by show 3 < 5; decide) (A_goto (tgt := 15) hx dL_deliveredAt_7 (by decide) (A_iload_n (i := 3) hx dL_deliveredAt_15 rfl (A_iretW hx hr dL_deliveredAt_16 hself)))
      · skip
        cases hsem
        refine ⟨by simp [lcOf], hle, fun k9 => ?_⟩
        have hself := k9
        refine A_aload_n (i := 0) hx dL_deliveredAt_0 rfl (A_iload_n (i := 1) hx dL_deliveredAt_1 rfl (A_iload_n (i := 2) hx dL_deliveredAt_2 rfl (?_)))
        refine A_callVX (as := [ai a, ai b]) (rest := []) (b := (0, 0)) hx rfl (c_X2_deliveredAt hst) ho hle (fun v hv => by simp at hv; rcases hv with rfl | rfl; exact Or.inl ⟨_, rfl⟩; exact Or.inl ⟨_, rfl⟩) uc_X2_deliveredAt um_L_49 ui_X2_deliveredAt us_X2_deliveredAt un_X2 ⟨rfl, by decide, by decide, rfl⟩ rfl rfl rfl (by simp [wt]) (by decide) (by decide) dL_deliveredAt_3 hself.fit (fun v9 hv9 => by cases hv9) (fun n hn => ?_)
        cases hn
        exact ⟨[], ⟨0, 7, 10, 14⟩, [], "java/lang/IndexOutOfBoundsException", ht.trans rfl, (fun z hz => by cases hz), (by decide), (by decide), ul_L_14, fw_11, fun q => A_astoreQ hx dL_deliveredAt_10 (by show 4 < 5; decide) (A_bipush (v := (-71)) hx dL_deliveredAt_12 (by decide) (A_iretW hx hr dL_deliveredAt_14 hself))⟩
      · cases hsem
    · cases hsem
  · cases hsem
theorem v_L_deliveredAt {κ : Kx} {own : String} {fX lX idx : Nat} (hst : (kl κ).stackTraces = false) (um : Cond.methodLink own idx yL_deliveredAt ∈ UW) (h1 : 8 + 1 ≤ fX) (h2 : 8 + (5 + 11) + 126 ≤ lX) : CN κ own fX lX idx 3 f_L_deliveredAt := ⟨yL_deliveredAt, cL_deliveredAt, 5, (some .int), [(0, 7, 10, 14)], 8, 126, c_L_deliveredAt hst, uw_L_deliveredAt, um, ut_L_deliveredAt, un_L, ⟨by decide, by decide, rfl⟩, h1, h2⟩
def f_L_waitingAt : Sem := fun as σ => match as with
  | [.inr (0, 0), .inl (.int a), .inl (.int b)] => (f_X2_waitingAt [ar (0, 0), ai a, ai b] σ).bind fun o => if sleB σ o.2 = true then (match o.1 with
    | .inl (some (.inl (.int v))) => some (.inl (some (ai v)), o.2)
    | .inr 1 => some (.inl (some (ai (-71))), o.2)
    | _ => none) else none
  | _ => none
theorem c_L_waitingAt {l : Launch} {g : Gx} (hl : l.stackTraces = false) : CtN l g yL_waitingAt cL_waitingAt 5 (some .int) [(0, 7, 10, 14)] 8 126 f_L_waitingAt := by
  refine CtN.of (by decide) hl (fun κ h1 h2 hx hr ht as σ σF r hs hsem => ?_)
  have hst := hx.st
  unfold f_L_waitingAt at hsem
  split at hsem
  · rename_i a b
    obtain ⟨⟨ro, τ⟩, ho, hsem⟩ := obs hsem
    dsimp only at hsem
    split at hsem
    · rename_i hsl
      have hle := sleB_sle hsl
      split at hsem
      · rename_i v
        cases hsem
        refine ⟨by simp [lcOf], hle, fun k9 => ?_⟩
        have hself := k9
        refine A_aload_n (i := 0) hx dL_waitingAt_0 rfl (A_iload_n (i := 1) hx dL_waitingAt_1 rfl (A_iload_n (i := 2) hx dL_waitingAt_2 rfl (?_)))
        refine A_callVX (as := [ai a, ai b]) (rest := []) (b := (0, 0)) hx rfl (c_X2_waitingAt hst) ho hle (fun v hv => by simp at hv; rcases hv with rfl | rfl; exact Or.inl ⟨_, rfl⟩; exact Or.inl ⟨_, rfl⟩) uc_X2_waitingAt um_L_52 ui_X2_waitingAt us_X2_waitingAt un_X2 ⟨rfl, by decide, by decide, rfl⟩ rfl rfl rfl (by simp [wt]) (by decide) (by decide) dL_waitingAt_3 hself.fit (fun v9 hv9 => ?_) (fun n hn => by cases hn)
        cases hv9
        exact A_istore_n (i := 3) hx dL_waitingAt_6 (by show 3 < 5; decide) (A_goto (tgt := 15) hx dL_waitingAt_7 (by decide) (A_iload_n (i := 3) hx dL_waitingAt_15 rfl (A_iretW hx hr dL_waitingAt_16 hself)))
      · skip
        cases hsem
        refine ⟨by simp [lcOf], hle, fun k9 => ?_⟩
        have hself := k9
        refine A_aload_n (i := 0) hx dL_waitingAt_0 rfl (A_iload_n (i := 1) hx dL_waitingAt_1 rfl (A_iload_n (i := 2) hx dL_waitingAt_2 rfl (?_)))
        refine A_callVX (as := [ai a, ai b]) (rest := []) (b := (0, 0)) hx rfl (c_X2_waitingAt hst) ho hle (fun v hv => by simp at hv; rcases hv with rfl | rfl; exact Or.inl ⟨_, rfl⟩; exact Or.inl ⟨_, rfl⟩) uc_X2_waitingAt um_L_52 ui_X2_waitingAt us_X2_waitingAt un_X2 ⟨rfl, by decide, by decide, rfl⟩ rfl rfl rfl (by simp [wt]) (by decide) (by decide) dL_waitingAt_3 hself.fit (fun v9 hv9 => by cases hv9) (fun n hn => ?_)
        cases hn
        exact ⟨[], ⟨0, 7, 10, 14⟩, [], "java/lang/IndexOutOfBoundsException", ht.trans rfl, (fun z hz => by cases hz), (by decide), (by decide), ul_L_14, fw_11, fun q => A_astoreQ hx dL_waitingAt_10 (by show 4 < 5; decide) (A_bipush (v := (-71)) hx dL_waitingAt_12 (by decide) (A_iretW hx hr dL_waitingAt_14 hself))⟩
      · cases hsem
    · cases hsem
  · cases hsem
theorem v_L_waitingAt {κ : Kx} {own : String} {fX lX idx : Nat} (hst : (kl κ).stackTraces = false) (um : Cond.methodLink own idx yL_waitingAt ∈ UW) (h1 : 8 + 1 ≤ fX) (h2 : 8 + (5 + 11) + 126 ≤ lX) : CN κ own fX lX idx 3 f_L_waitingAt := ⟨yL_waitingAt, cL_waitingAt, 5, (some .int), [(0, 7, 10, 14)], 8, 126, c_L_waitingAt hst, uw_L_waitingAt, um, ut_L_waitingAt, un_L, ⟨by decide, by decide, rfl⟩, h1, h2⟩
