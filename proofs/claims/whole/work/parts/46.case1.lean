/-! one round of the law's loop, further cases (laid by wip/whole/gen/cases.py) -/
def q_8 (a b : Int32) (σ : Sg) : Option Sg := (w_stamp [ar (0, 0), ai a, ai b, ar (14, 0)] σ).bind fun o => (f_X3_stamp [ar (11, 0), ai a, ai b] o.2).bind fun p => (f_X3_thrown [ar (11, 0)] p.2).bind fun t => match o.1, p.1, t.1 with
  | .inl (some (.inl (.int kk))), .inl (some (.inl (.int v))), .inl (some (.inl (.int h))) => if sleB σ o.2 = true ∧ sleB o.2 p.2 = true ∧ sleB p.2 t.2 = true ∧ h = kk ∧ (kk = 0 → t.2.2.2.2 = v.toInt64) then some t.2 else none
  | _, _, _ => none
theorem u_8 {κ : Kx} (hx : Hx κ cL_law 7 RL 16 620) (hr : Hr κ (some .boolean)) (hX : xNI (ks κ)) {bs n i : Nat} {xs : Nat → Int32} {a b : Int32} (hS : Scr κ bs n xs) (hi : i + 2 < n) (hn : n < 65536) (ha : xs (i + 1) = a) (hb : xs (i + 2) = b) {σ σF : Sg} (hq : q_8 a b σ = some σF) (fit : Fit κ σF) (k : ∀ L2 : Tg → Nat, (∀ u, vld σ u = true → L2 u = kL κ u) → ∀ v5 v6, Acf (wL κ L2) 1864 [] (lcL bs i v5 v6) σF) : sle σ σF ∧ Acf κ 601 [] (lcL bs i none none) σ := by
  have hst := hx.st
  unfold q_8 at hq
  obtain ⟨⟨r1, τ1⟩, h1, hq⟩ := obs hq
  obtain ⟨⟨r2, τ2⟩, h2, hq⟩ := obs hq
  obtain ⟨⟨r3, τ3⟩, h3, hq⟩ := obs hq
  dsimp only at hq h2 h3
  split at hq
  · rename_i kk v h
    obtain ⟨⟨s1, s2, s3, e, ej⟩, hq⟩ := ite_s hq
    cases hq
    subst e
    have s1 := sleB_sle s1
    have s2 := sleB_sle s2
    have s3 := sleB_sle s3
    refine ⟨s1.trans (s2.trans s3), ?_⟩
    refine A_aload_n (i := 1) hx dL_law_601 rfl (A_arg1 hx hS hi hn ha rfl rfl dL_law_602 dL_law_603 dL_law_605 dL_law_606 dL_law_607 (A_arg2 hx hS hi hn hb rfl rfl dL_law_608 dL_law_609 dL_law_611 dL_law_612 dL_law_613 (A_aload_n (i := 3) hx dL_law_614 rfl (?_))))
    refine A_callSW (as := [ar (0, 0), ai a, ai b, ar (14, 0)]) (rest := []) hx XT_N hX rfl (c_W_stamp hst) h1 ⟨_, rfl⟩ s1 (fun v hv => by simp at hv; rcases hv with rfl | rfl | rfl | rfl; exact Or.inr (Or.inl ⟨_, rfl⟩); exact Or.inl ⟨_, rfl⟩; exact Or.inl ⟨_, rfl⟩; exact Or.inr (Or.inl ⟨_, rfl⟩)) uw_L_stamp um_L_138 ut_L_stamp un_L ⟨by decide, by decide, rfl⟩ (by decide) (by decide) (by decide) dL_law_615 (fit.le (s2.trans s3)) (fun w hw => fX0 hw) (fun w hw => by cases hw) (fun L2 hL2 v9 hv9 => ?_)
    cases hv9
    have hx2 : Hx (wL κ L2) cL_law 7 RL 16 620 := hx.wL
    have hr2 : Hr (wL κ L2) (some .boolean) := hr.wL
    have hS2 : Scr (wL κ L2) bs n xs := hS.wL
    have hst2 := hx2.st
    have k9 := k L2 hL2
    have fit2 := fit_wL (L2 := L2) fit
    refine A_istore hx2 dL_law_618 (by show 5 < 7; decide) ?_
    refine A_aload_n (i := 2) hx2 dL_law_620 rfl (A_arg1 hx2 hS2 hi hn ha rfl rfl dL_law_621 dL_law_622 dL_law_624 dL_law_625 dL_law_626 (A_arg2 hx2 hS2 hi hn hb rfl rfl dL_law_627 dL_law_628 dL_law_630 dL_law_631 dL_law_632 (?_)))
    refine A_callV (as := [ai a, ai b]) (rest := []) (b := (11, 0)) hx2 hr2 rfl (c_X3_stamp hst2) h2 s2 (fun v hv => by simp at hv; rcases hv with rfl | rfl; exact Or.inl ⟨_, rfl⟩; exact Or.inl ⟨_, rfl⟩) uc_X3_stamp um_L_140 ui_X3_stamp us_X3_stamp un_X3 ⟨rfl, by decide, by decide, rfl⟩ rfl rfl rfl (by decide) (by decide) (by decide) dL_law_633 (fit2.le s3) (fun v9 hv9 => ?_) (fun n hn => by cases hn)
    cases hv9
    refine A_istore hx2 dL_law_636 (by show 6 < 7; decide) ?_
    refine A_aload_n (i := 2) hx2 dL_law_638 rfl ?_
    refine A_callV (as := []) (rest := []) (b := (11, 0)) hx2 hr2 rfl (c_X3_thrown hst2) h3 s3 (fun v hv => by cases hv) uc_X3_thrown um_L_111 ui_X3_thrown us_X3_thrown un_X3 ⟨rfl, by decide, by decide, rfl⟩ rfl rfl rfl (by decide) (by decide) (by decide) dL_law_639 fit2 (fun v9 hv9 => ?_) (fun n hn => by cases hn)
    cases hv9
    refine A_iload hx2 dL_law_642 rfl (A_icmp_eq (tgt := 649) hx2 dL_law_644 (by decide) (fun _ => ?_) (fun q => absurd rfl q))
    refine A_iload hx2 dL_law_649 rfl (A_if_ne (tgt := 666) hx2 dL_law_651 (by decide) (fun _ => ?_) (fun q => ?_))
    · exact A_goto (tgt := 1864) hx2 dL_law_666 (by decide) (k9 (some (ai _)) (some (ai _)))
    · have ej := ej q
      refine A_aload_n (i := 3) hx2 dL_law_654 rfl (A_iconst (v := 0) hx2 dL_law_655 (by decide) (A_laldJ hx2 dL_law_656 (A_iload hx2 dL_law_657 rfl (A_i2l hx2 dL_law_659 ?_))))
      rw [ej]
      exact A_lcmpE hx2 dL_law_660 (A_if_eq (tgt := 666) hx2 dL_law_661 (by decide) (fun _ => A_goto (tgt := 1864) hx2 dL_law_666 (by decide) (k9 (some (ai _)) (some (ai _)))) (fun q => absurd rfl q))
  · cases hq
def q_9 (a b : Int32) (σ : Sg) : Option Sg := (w_precedes [ar (0, 0), ai a, ai b, ar (14, 0)] σ).bind fun o => (f_X3_precedes [ar (11, 0), ai a, ai b] o.2).bind fun p => (f_X3_thrown [ar (11, 0)] p.2).bind fun t => match o.1, p.1, t.1 with
  | .inl (some (.inl (.int kk))), .inl (some (.inl (.int v))), .inl (some (.inl (.int h))) => if sleB σ o.2 = true ∧ sleB o.2 p.2 = true ∧ sleB p.2 t.2 = true ∧ h = kk ∧ (kk = 0 → t.2.2.2.2 = b2l v) then some t.2 else none
  | _, _, _ => none
theorem u_9 {κ : Kx} (hx : Hx κ cL_law 7 RL 16 620) (hr : Hr κ (some .boolean)) (hX : xNI (ks κ)) {bs n i : Nat} {xs : Nat → Int32} {a b : Int32} (hS : Scr κ bs n xs) (hi : i + 2 < n) (hn : n < 65536) (ha : xs (i + 1) = a) (hb : xs (i + 2) = b) {σ σF : Sg} (hq : q_9 a b σ = some σF) (fit : Fit κ σF) (k : ∀ L2 : Tg → Nat, (∀ u, vld σ u = true → L2 u = kL κ u) → ∀ v5 v6, Acf (wL κ L2) 1864 [] (lcL bs i v5 v6) σF) : sle σ σF ∧ Acf κ 669 [] (lcL bs i none none) σ := by
  have hst := hx.st
  unfold q_9 at hq
  obtain ⟨⟨r1, τ1⟩, h1, hq⟩ := obs hq
  obtain ⟨⟨r2, τ2⟩, h2, hq⟩ := obs hq
  obtain ⟨⟨r3, τ3⟩, h3, hq⟩ := obs hq
  dsimp only at hq h2 h3
  split at hq
  · rename_i kk v h
    obtain ⟨⟨s1, s2, s3, e, ej⟩, hq⟩ := ite_s hq
    cases hq
    subst e
    have s1 := sleB_sle s1
    have s2 := sleB_sle s2
    have s3 := sleB_sle s3
    refine ⟨s1.trans (s2.trans s3), ?_⟩
    refine A_aload_n (i := 1) hx dL_law_669 rfl (A_arg1 hx hS hi hn ha rfl rfl dL_law_670 dL_law_671 dL_law_673 dL_law_674 dL_law_675 (A_arg2 hx hS hi hn hb rfl rfl dL_law_676 dL_law_677 dL_law_679 dL_law_680 dL_law_681 (A_aload_n (i := 3) hx dL_law_682 rfl (?_))))
    refine A_callSW (as := [ar (0, 0), ai a, ai b, ar (14, 0)]) (rest := []) hx XT_N hX rfl (c_W_precedes hst) h1 ⟨_, rfl⟩ s1 (fun v hv => by simp at hv; rcases hv with rfl | rfl | rfl | rfl; exact Or.inr (Or.inl ⟨_, rfl⟩); exact Or.inl ⟨_, rfl⟩; exact Or.inl ⟨_, rfl⟩; exact Or.inr (Or.inl ⟨_, rfl⟩)) uw_L_precedes um_L_141 ut_L_precedes un_L ⟨by decide, by decide, rfl⟩ (by decide) (by decide) (by decide) dL_law_683 (fit.le (s2.trans s3)) (fun w hw => fX0 hw) (fun w hw => by cases hw) (fun L2 hL2 v9 hv9 => ?_)
    cases hv9
    have hx2 : Hx (wL κ L2) cL_law 7 RL 16 620 := hx.wL
    have hr2 : Hr (wL κ L2) (some .boolean) := hr.wL
    have hS2 : Scr (wL κ L2) bs n xs := hS.wL
    have hst2 := hx2.st
    have k9 := k L2 hL2
    have fit2 := fit_wL (L2 := L2) fit
    refine A_istore hx2 dL_law_686 (by show 5 < 7; decide) ?_
    refine A_aload_n (i := 2) hx2 dL_law_688 rfl (A_arg1 hx2 hS2 hi hn ha rfl rfl dL_law_689 dL_law_690 dL_law_692 dL_law_693 dL_law_694 (A_arg2 hx2 hS2 hi hn hb rfl rfl dL_law_695 dL_law_696 dL_law_698 dL_law_699 dL_law_700 (?_)))
    refine A_callV (as := [ai a, ai b]) (rest := []) (b := (11, 0)) hx2 hr2 rfl (c_X3_precedes hst2) h2 s2 (fun v hv => by simp at hv; rcases hv with rfl | rfl; exact Or.inl ⟨_, rfl⟩; exact Or.inl ⟨_, rfl⟩) uc_X3_precedes um_L_143 ui_X3_precedes us_X3_precedes un_X3 ⟨rfl, by decide, by decide, rfl⟩ rfl rfl rfl (by decide) (by decide) (by decide) dL_law_701 (fit2.le s3) (fun v9 hv9 => ?_) (fun n hn => by cases hn)
    cases hv9
    refine A_istore hx2 dL_law_704 (by show 6 < 7; decide) ?_
    refine A_aload_n (i := 2) hx2 dL_law_706 rfl ?_
    refine A_callV (as := []) (rest := []) (b := (11, 0)) hx2 hr2 rfl (c_X3_thrown hst2) h3 s3 (fun v hv => by cases hv) uc_X3_thrown um_L_111 ui_X3_thrown us_X3_thrown un_X3 ⟨rfl, by decide, by decide, rfl⟩ rfl rfl rfl (by decide) (by decide) (by decide) dL_law_707 fit2 (fun v9 hv9 => ?_) (fun n hn => by cases hn)
    cases hv9
    refine A_iload hx2 dL_law_710 rfl (A_icmp_eq (tgt := 717) hx2 dL_law_712 (by decide) (fun _ => ?_) (fun q => absurd rfl q))
    refine A_iload hx2 dL_law_717 rfl (A_if_ne (tgt := 741) hx2 dL_law_719 (by decide) (fun _ => ?_) (fun q => ?_))
    · exact A_goto (tgt := 1864) hx2 dL_law_741 (by decide) (k9 (some (ai _)) (some (ai _)))
    · have ej := ej q
      refine A_aload_n (i := 3) hx2 dL_law_722 rfl (A_iconst (v := 0) hx2 dL_law_723 (by decide) (A_laldJ hx2 dL_law_724 (A_iload hx2 dL_law_725 rfl (A_if_eq (tgt := 734) hx2 dL_law_727 (by decide) (fun z => ?_) (fun z => ?_)))))
      · rw [ej, show b2l _ = 0 from if_pos z]
        exact A_lconst (v := 0) hx2 dL_law_734 (by decide) (A_lcmpE hx2 dL_law_735 (A_if_eq (tgt := 741) hx2 dL_law_736 (by decide) (fun _ => A_goto (tgt := 1864) hx2 dL_law_741 (by decide) (k9 (some (ai _)) (some (ai _)))) (fun q => absurd rfl q)))
      · rw [ej, show b2l _ = 1 from if_neg z]
        exact A_lconst (v := 1) hx2 dL_law_730 (by decide) (A_goto (tgt := 735) hx2 dL_law_731 (by decide) (A_lcmpE hx2 dL_law_735 (A_if_eq (tgt := 741) hx2 dL_law_736 (by decide) (fun _ => A_goto (tgt := 1864) hx2 dL_law_741 (by decide) (k9 (some (ai _)) (some (ai _)))) (fun q => absurd rfl q))))
  · cases hq
def q_10 (a b : Int32) (σ : Sg) : Option Sg := (w_precedesByHistory [ar (0, 0), ai a, ai b, ar (14, 0)] σ).bind fun o => (f_X3_precedesByHistory [ar (11, 0), ai a, ai b] o.2).bind fun p => (f_X3_thrown [ar (11, 0)] p.2).bind fun t => match o.1, p.1, t.1 with
  | .inl (some (.inl (.int kk))), .inl (some (.inl (.int v))), .inl (some (.inl (.int h))) => if sleB σ o.2 = true ∧ sleB o.2 p.2 = true ∧ sleB p.2 t.2 = true ∧ h = kk ∧ (kk = 0 → t.2.2.2.2 = b2l v) then some t.2 else none
  | _, _, _ => none
theorem u_10 {κ : Kx} (hx : Hx κ cL_law 7 RL 16 620) (hr : Hr κ (some .boolean)) (hX : xNI (ks κ)) {bs n i : Nat} {xs : Nat → Int32} {a b : Int32} (hS : Scr κ bs n xs) (hi : i + 2 < n) (hn : n < 65536) (ha : xs (i + 1) = a) (hb : xs (i + 2) = b) {σ σF : Sg} (hq : q_10 a b σ = some σF) (fit : Fit κ σF) (k : ∀ L2 : Tg → Nat, (∀ u, vld σ u = true → L2 u = kL κ u) → ∀ v5 v6, Acf (wL κ L2) 1864 [] (lcL bs i v5 v6) σF) : sle σ σF ∧ Acf κ 744 [] (lcL bs i none none) σ := by
  have hst := hx.st
  unfold q_10 at hq
  obtain ⟨⟨r1, τ1⟩, h1, hq⟩ := obs hq
  obtain ⟨⟨r2, τ2⟩, h2, hq⟩ := obs hq
  obtain ⟨⟨r3, τ3⟩, h3, hq⟩ := obs hq
  dsimp only at hq h2 h3
  split at hq
  · rename_i kk v h
    obtain ⟨⟨s1, s2, s3, e, ej⟩, hq⟩ := ite_s hq
    cases hq
    subst e
    have s1 := sleB_sle s1
    have s2 := sleB_sle s2
    have s3 := sleB_sle s3
    refine ⟨s1.trans (s2.trans s3), ?_⟩
    refine A_aload_n (i := 1) hx dL_law_744 rfl (A_arg1 hx hS hi hn ha rfl rfl dL_law_745 dL_law_746 dL_law_748 dL_law_749 dL_law_750 (A_arg2 hx hS hi hn hb rfl rfl dL_law_751 dL_law_752 dL_law_754 dL_law_755 dL_law_756 (A_aload_n (i := 3) hx dL_law_757 rfl (?_))))
    refine A_callSW (as := [ar (0, 0), ai a, ai b, ar (14, 0)]) (rest := []) hx XT_N hX rfl (c_W_precedesByHistory hst) h1 ⟨_, rfl⟩ s1 (fun v hv => by simp at hv; rcases hv with rfl | rfl | rfl | rfl; exact Or.inr (Or.inl ⟨_, rfl⟩); exact Or.inl ⟨_, rfl⟩; exact Or.inl ⟨_, rfl⟩; exact Or.inr (Or.inl ⟨_, rfl⟩)) uw_L_precedesByHistory um_L_144 ut_L_precedesByHistory un_L ⟨by decide, by decide, rfl⟩ (by decide) (by decide) (by decide) dL_law_758 (fit.le (s2.trans s3)) (fun w hw => fX0 hw) (fun w hw => by cases hw) (fun L2 hL2 v9 hv9 => ?_)
    cases hv9
    have hx2 : Hx (wL κ L2) cL_law 7 RL 16 620 := hx.wL
    have hr2 : Hr (wL κ L2) (some .boolean) := hr.wL
    have hS2 : Scr (wL κ L2) bs n xs := hS.wL
    have hst2 := hx2.st
    have k9 := k L2 hL2
    have fit2 := fit_wL (L2 := L2) fit
    refine A_istore hx2 dL_law_761 (by show 5 < 7; decide) ?_
    refine A_aload_n (i := 2) hx2 dL_law_763 rfl (A_arg1 hx2 hS2 hi hn ha rfl rfl dL_law_764 dL_law_765 dL_law_767 dL_law_768 dL_law_769 (A_arg2 hx2 hS2 hi hn hb rfl rfl dL_law_770 dL_law_771 dL_law_773 dL_law_774 dL_law_775 (?_)))
    refine A_callV (as := [ai a, ai b]) (rest := []) (b := (11, 0)) hx2 hr2 rfl (c_X3_precedesByHistory hst2) h2 s2 (fun v hv => by simp at hv; rcases hv with rfl | rfl; exact Or.inl ⟨_, rfl⟩; exact Or.inl ⟨_, rfl⟩) uc_X3_precedesByHistory um_L_146 ui_X3_precedesByHistory us_X3_precedesByHistory un_X3 ⟨rfl, by decide, by decide, rfl⟩ rfl rfl rfl (by decide) (by decide) (by decide) dL_law_776 (fit2.le s3) (fun v9 hv9 => ?_) (fun n hn => by cases hn)
    cases hv9
    refine A_istore hx2 dL_law_779 (by show 6 < 7; decide) ?_
    refine A_aload_n (i := 2) hx2 dL_law_781 rfl ?_
    refine A_callV (as := []) (rest := []) (b := (11, 0)) hx2 hr2 rfl (c_X3_thrown hst2) h3 s3 (fun v hv => by cases hv) uc_X3_thrown um_L_111 ui_X3_thrown us_X3_thrown un_X3 ⟨rfl, by decide, by decide, rfl⟩ rfl rfl rfl (by decide) (by decide) (by decide) dL_law_782 fit2 (fun v9 hv9 => ?_) (fun n hn => by cases hn)
    cases hv9
    refine A_iload hx2 dL_law_785 rfl (A_icmp_eq (tgt := 792) hx2 dL_law_787 (by decide) (fun _ => ?_) (fun q => absurd rfl q))
    refine A_iload hx2 dL_law_792 rfl (A_if_ne (tgt := 816) hx2 dL_law_794 (by decide) (fun _ => ?_) (fun q => ?_))
    · exact A_goto (tgt := 1864) hx2 dL_law_816 (by decide) (k9 (some (ai _)) (some (ai _)))
    · have ej := ej q
      refine A_aload_n (i := 3) hx2 dL_law_797 rfl (A_iconst (v := 0) hx2 dL_law_798 (by decide) (A_laldJ hx2 dL_law_799 (A_iload hx2 dL_law_800 rfl (A_if_eq (tgt := 809) hx2 dL_law_802 (by decide) (fun z => ?_) (fun z => ?_)))))
      · rw [ej, show b2l _ = 0 from if_pos z]
        exact A_lconst (v := 0) hx2 dL_law_809 (by decide) (A_lcmpE hx2 dL_law_810 (A_if_eq (tgt := 816) hx2 dL_law_811 (by decide) (fun _ => A_goto (tgt := 1864) hx2 dL_law_816 (by decide) (k9 (some (ai _)) (some (ai _)))) (fun q => absurd rfl q)))
      · rw [ej, show b2l _ = 1 from if_neg z]
        exact A_lconst (v := 1) hx2 dL_law_805 (by decide) (A_goto (tgt := 810) hx2 dL_law_806 (by decide) (A_lcmpE hx2 dL_law_810 (A_if_eq (tgt := 816) hx2 dL_law_811 (by decide) (fun _ => A_goto (tgt := 1864) hx2 dL_law_816 (by decide) (k9 (some (ai _)) (some (ai _)))) (fun q => absurd rfl q))))
  · cases hq
def q_11 (a b : Int32) (σ : Sg) : Option Sg := (w_areConcurrent [ar (0, 0), ai a, ai b, ar (14, 0)] σ).bind fun o => (f_X3_areConcurrent [ar (11, 0), ai a, ai b] o.2).bind fun p => (f_X3_thrown [ar (11, 0)] p.2).bind fun t => match o.1, p.1, t.1 with
  | .inl (some (.inl (.int kk))), .inl (some (.inl (.int v))), .inl (some (.inl (.int h))) => if sleB σ o.2 = true ∧ sleB o.2 p.2 = true ∧ sleB p.2 t.2 = true ∧ h = kk ∧ (kk = 0 → t.2.2.2.2 = b2l v) then some t.2 else none
  | _, _, _ => none
theorem u_11 {κ : Kx} (hx : Hx κ cL_law 7 RL 16 620) (hr : Hr κ (some .boolean)) (hX : xNI (ks κ)) {bs n i : Nat} {xs : Nat → Int32} {a b : Int32} (hS : Scr κ bs n xs) (hi : i + 2 < n) (hn : n < 65536) (ha : xs (i + 1) = a) (hb : xs (i + 2) = b) {σ σF : Sg} (hq : q_11 a b σ = some σF) (fit : Fit κ σF) (k : ∀ L2 : Tg → Nat, (∀ u, vld σ u = true → L2 u = kL κ u) → ∀ v5 v6, Acf (wL κ L2) 1864 [] (lcL bs i v5 v6) σF) : sle σ σF ∧ Acf κ 819 [] (lcL bs i none none) σ := by
  have hst := hx.st
  unfold q_11 at hq
  obtain ⟨⟨r1, τ1⟩, h1, hq⟩ := obs hq
  obtain ⟨⟨r2, τ2⟩, h2, hq⟩ := obs hq
  obtain ⟨⟨r3, τ3⟩, h3, hq⟩ := obs hq
  dsimp only at hq h2 h3
  split at hq
  · rename_i kk v h
    obtain ⟨⟨s1, s2, s3, e, ej⟩, hq⟩ := ite_s hq
    cases hq
    subst e
    have s1 := sleB_sle s1
    have s2 := sleB_sle s2
    have s3 := sleB_sle s3
    refine ⟨s1.trans (s2.trans s3), ?_⟩
    refine A_aload_n (i := 1) hx dL_law_819 rfl (A_arg1 hx hS hi hn ha rfl rfl dL_law_820 dL_law_821 dL_law_823 dL_law_824 dL_law_825 (A_arg2 hx hS hi hn hb rfl rfl dL_law_826 dL_law_827 dL_law_829 dL_law_830 dL_law_831 (A_aload_n (i := 3) hx dL_law_832 rfl (?_))))
    refine A_callSW (as := [ar (0, 0), ai a, ai b, ar (14, 0)]) (rest := []) hx XT_N hX rfl (c_W_areConcurrent hst) h1 ⟨_, rfl⟩ s1 (fun v hv => by simp at hv; rcases hv with rfl | rfl | rfl | rfl; exact Or.inr (Or.inl ⟨_, rfl⟩); exact Or.inl ⟨_, rfl⟩; exact Or.inl ⟨_, rfl⟩; exact Or.inr (Or.inl ⟨_, rfl⟩)) uw_L_areConcurrent um_L_147 ut_L_areConcurrent un_L ⟨by decide, by decide, rfl⟩ (by decide) (by decide) (by decide) dL_law_833 (fit.le (s2.trans s3)) (fun w hw => fX0 hw) (fun w hw => by cases hw) (fun L2 hL2 v9 hv9 => ?_)
    cases hv9
    have hx2 : Hx (wL κ L2) cL_law 7 RL 16 620 := hx.wL
    have hr2 : Hr (wL κ L2) (some .boolean) := hr.wL
    have hS2 : Scr (wL κ L2) bs n xs := hS.wL
    have hst2 := hx2.st
    have k9 := k L2 hL2
    have fit2 := fit_wL (L2 := L2) fit
    refine A_istore hx2 dL_law_836 (by show 5 < 7; decide) ?_
    refine A_aload_n (i := 2) hx2 dL_law_838 rfl (A_arg1 hx2 hS2 hi hn ha rfl rfl dL_law_839 dL_law_840 dL_law_842 dL_law_843 dL_law_844 (A_arg2 hx2 hS2 hi hn hb rfl rfl dL_law_845 dL_law_846 dL_law_848 dL_law_849 dL_law_850 (?_)))
    refine A_callV (as := [ai a, ai b]) (rest := []) (b := (11, 0)) hx2 hr2 rfl (c_X3_areConcurrent hst2) h2 s2 (fun v hv => by simp at hv; rcases hv with rfl | rfl; exact Or.inl ⟨_, rfl⟩; exact Or.inl ⟨_, rfl⟩) uc_X3_areConcurrent um_L_149 ui_X3_areConcurrent us_X3_areConcurrent un_X3 ⟨rfl, by decide, by decide, rfl⟩ rfl rfl rfl (by decide) (by decide) (by decide) dL_law_851 (fit2.le s3) (fun v9 hv9 => ?_) (fun n hn => by cases hn)
    cases hv9
    refine A_istore hx2 dL_law_854 (by show 6 < 7; decide) ?_
    refine A_aload_n (i := 2) hx2 dL_law_856 rfl ?_
    refine A_callV (as := []) (rest := []) (b := (11, 0)) hx2 hr2 rfl (c_X3_thrown hst2) h3 s3 (fun v hv => by cases hv) uc_X3_thrown um_L_111 ui_X3_thrown us_X3_thrown un_X3 ⟨rfl, by decide, by decide, rfl⟩ rfl rfl rfl (by decide) (by decide) (by decide) dL_law_857 fit2 (fun v9 hv9 => ?_) (fun n hn => by cases hn)
    cases hv9
    refine A_iload hx2 dL_law_860 rfl (A_icmp_eq (tgt := 867) hx2 dL_law_862 (by decide) (fun _ => ?_) (fun q => absurd rfl q))
    refine A_iload hx2 dL_law_867 rfl (A_if_ne (tgt := 891) hx2 dL_law_869 (by decide) (fun _ => ?_) (fun q => ?_))
    · exact A_goto (tgt := 1864) hx2 dL_law_891 (by decide) (k9 (some (ai _)) (some (ai _)))
    · have ej := ej q
      refine A_aload_n (i := 3) hx2 dL_law_872 rfl (A_iconst (v := 0) hx2 dL_law_873 (by decide) (A_laldJ hx2 dL_law_874 (A_iload hx2 dL_law_875 rfl (A_if_eq (tgt := 884) hx2 dL_law_877 (by decide) (fun z => ?_) (fun z => ?_)))))
      · rw [ej, show b2l _ = 0 from if_pos z]
        exact A_lconst (v := 0) hx2 dL_law_884 (by decide) (A_lcmpE hx2 dL_law_885 (A_if_eq (tgt := 891) hx2 dL_law_886 (by decide) (fun _ => A_goto (tgt := 1864) hx2 dL_law_891 (by decide) (k9 (some (ai _)) (some (ai _)))) (fun q => absurd rfl q)))
      · rw [ej, show b2l _ = 1 from if_neg z]
        exact A_lconst (v := 1) hx2 dL_law_880 (by decide) (A_goto (tgt := 885) hx2 dL_law_881 (by decide) (A_lcmpE hx2 dL_law_885 (A_if_eq (tgt := 891) hx2 dL_law_886 (by decide) (fun _ => A_goto (tgt := 1864) hx2 dL_law_891 (by decide) (k9 (some (ai _)) (some (ai _)))) (fun q => absurd rfl q))))
  · cases hq
def q_12 (a _ : Int32) (σ : Sg) : Option Sg := (w_delivered [ar (0, 0), ai a, ar (14, 0)] σ).bind fun o => (f_X3_delivered [ar (11, 0), ai a] o.2).bind fun p => (f_X3_thrown [ar (11, 0)] p.2).bind fun t => match o.1, p.1, t.1 with
  | .inl (some (.inl (.int kk))), .inl (some (.inl (.int v))), .inl (some (.inl (.int h))) => if sleB σ o.2 = true ∧ sleB o.2 p.2 = true ∧ sleB p.2 t.2 = true ∧ h = kk ∧ (kk = 0 → t.2.2.2.2 = v.toInt64) then some t.2 else none
  | _, _, _ => none
theorem u_12 {κ : Kx} (hx : Hx κ cL_law 7 RL 16 620) (hr : Hr κ (some .boolean)) (hX : xNI (ks κ)) {bs n i : Nat} {xs : Nat → Int32} {a b : Int32} (hS : Scr κ bs n xs) (hi : i + 2 < n) (hn : n < 65536) (ha : xs (i + 1) = a) (hb : xs (i + 2) = b) {σ σF : Sg} (hq : q_12 a b σ = some σF) (fit : Fit κ σF) (k : ∀ L2 : Tg → Nat, (∀ u, vld σ u = true → L2 u = kL κ u) → ∀ v5 v6, Acf (wL κ L2) 1864 [] (lcL bs i v5 v6) σF) : sle σ σF ∧ Acf κ 894 [] (lcL bs i none none) σ := by
  have hst := hx.st
  unfold q_12 at hq
  obtain ⟨⟨r1, τ1⟩, h1, hq⟩ := obs hq
  obtain ⟨⟨r2, τ2⟩, h2, hq⟩ := obs hq
  obtain ⟨⟨r3, τ3⟩, h3, hq⟩ := obs hq
  dsimp only at hq h2 h3
  split at hq
  · rename_i kk v h
    obtain ⟨⟨s1, s2, s3, e, ej⟩, hq⟩ := ite_s hq
    cases hq
    subst e
    have s1 := sleB_sle s1
    have s2 := sleB_sle s2
    have s3 := sleB_sle s3
    refine ⟨s1.trans (s2.trans s3), ?_⟩
    refine A_aload_n (i := 1) hx dL_law_894 rfl (A_arg1 hx hS hi hn ha rfl rfl dL_law_895 dL_law_896 dL_law_898 dL_law_899 dL_law_900 (A_aload_n (i := 3) hx dL_law_901 rfl (?_)))
    refine A_callSW (as := [ar (0, 0), ai a, ar (14, 0)]) (rest := []) hx XT_N hX rfl (c_W_delivered hst) h1 ⟨_, rfl⟩ s1 (fun v hv => by simp at hv; rcases hv with rfl | rfl | rfl; exact Or.inr (Or.inl ⟨_, rfl⟩); exact Or.inl ⟨_, rfl⟩; exact Or.inr (Or.inl ⟨_, rfl⟩)) uw_L_delivered um_L_150 ut_L_delivered un_L ⟨by decide, by decide, rfl⟩ (by decide) (by decide) (by decide) dL_law_902 (fit.le (s2.trans s3)) (fun w hw => fX0 hw) (fun w hw => by cases hw) (fun L2 hL2 v9 hv9 => ?_)
    cases hv9
    have hx2 : Hx (wL κ L2) cL_law 7 RL 16 620 := hx.wL
    have hr2 : Hr (wL κ L2) (some .boolean) := hr.wL
    have hS2 : Scr (wL κ L2) bs n xs := hS.wL
    have hst2 := hx2.st
    have k9 := k L2 hL2
    have fit2 := fit_wL (L2 := L2) fit
    refine A_istore hx2 dL_law_905 (by show 5 < 7; decide) ?_
    refine A_aload_n (i := 2) hx2 dL_law_907 rfl (A_arg1 hx2 hS2 hi hn ha rfl rfl dL_law_908 dL_law_909 dL_law_911 dL_law_912 dL_law_913 (?_))
    refine A_callV (as := [ai a]) (rest := []) (b := (11, 0)) hx2 hr2 rfl (c_X3_delivered hst2) h2 s2 (fun v hv => by simp at hv; subst hv; exact Or.inl ⟨_, rfl⟩) uc_X3_delivered um_L_152 ui_X3_delivered us_X3_delivered un_X3 ⟨rfl, by decide, by decide, rfl⟩ rfl rfl rfl (by decide) (by decide) (by decide) dL_law_914 (fit2.le s3) (fun v9 hv9 => ?_) (fun n hn => by cases hn)
    cases hv9
    refine A_istore hx2 dL_law_917 (by show 6 < 7; decide) ?_
    refine A_aload_n (i := 2) hx2 dL_law_919 rfl ?_
    refine A_callV (as := []) (rest := []) (b := (11, 0)) hx2 hr2 rfl (c_X3_thrown hst2) h3 s3 (fun v hv => by cases hv) uc_X3_thrown um_L_111 ui_X3_thrown us_X3_thrown un_X3 ⟨rfl, by decide, by decide, rfl⟩ rfl rfl rfl (by decide) (by decide) (by decide) dL_law_920 fit2 (fun v9 hv9 => ?_) (fun n hn => by cases hn)
    cases hv9
    refine A_iload hx2 dL_law_923 rfl (A_icmp_eq (tgt := 930) hx2 dL_law_925 (by decide) (fun _ => ?_) (fun q => absurd rfl q))
    refine A_iload hx2 dL_law_930 rfl (A_if_ne (tgt := 947) hx2 dL_law_932 (by decide) (fun _ => ?_) (fun q => ?_))
    · exact A_goto (tgt := 1864) hx2 dL_law_947 (by decide) (k9 (some (ai _)) (some (ai _)))
    · have ej := ej q
      refine A_aload_n (i := 3) hx2 dL_law_935 rfl (A_iconst (v := 0) hx2 dL_law_936 (by decide) (A_laldJ hx2 dL_law_937 (A_iload hx2 dL_law_938 rfl (A_i2l hx2 dL_law_940 ?_))))
      rw [ej]
      exact A_lcmpE hx2 dL_law_941 (A_if_eq (tgt := 947) hx2 dL_law_942 (by decide) (fun _ => A_goto (tgt := 1864) hx2 dL_law_947 (by decide) (k9 (some (ai _)) (some (ai _)))) (fun q => absurd rfl q))
  · cases hq
def q_13 (a b : Int32) (σ : Sg) : Option Sg := (w_deliveredAt [ar (0, 0), ai a, ai b, ar (14, 0)] σ).bind fun o => (f_X3_deliveredAt [ar (11, 0), ai a, ai b] o.2).bind fun p => (f_X3_thrown [ar (11, 0)] p.2).bind fun t => match o.1, p.1, t.1 with
  | .inl (some (.inl (.int kk))), .inl (some (.inl (.int v))), .inl (some (.inl (.int h))) => if sleB σ o.2 = true ∧ sleB o.2 p.2 = true ∧ sleB p.2 t.2 = true ∧ h = kk ∧ (kk = 0 → t.2.2.2.2 = v.toInt64) then some t.2 else none
  | _, _, _ => none
theorem u_13 {κ : Kx} (hx : Hx κ cL_law 7 RL 16 620) (hr : Hr κ (some .boolean)) (hX : xNI (ks κ)) {bs n i : Nat} {xs : Nat → Int32} {a b : Int32} (hS : Scr κ bs n xs) (hi : i + 2 < n) (hn : n < 65536) (ha : xs (i + 1) = a) (hb : xs (i + 2) = b) {σ σF : Sg} (hq : q_13 a b σ = some σF) (fit : Fit κ σF) (k : ∀ L2 : Tg → Nat, (∀ u, vld σ u = true → L2 u = kL κ u) → ∀ v5 v6, Acf (wL κ L2) 1864 [] (lcL bs i v5 v6) σF) : sle σ σF ∧ Acf κ 950 [] (lcL bs i none none) σ := by
  have hst := hx.st
  unfold q_13 at hq
  obtain ⟨⟨r1, τ1⟩, h1, hq⟩ := obs hq
  obtain ⟨⟨r2, τ2⟩, h2, hq⟩ := obs hq
  obtain ⟨⟨r3, τ3⟩, h3, hq⟩ := obs hq
  dsimp only at hq h2 h3
  split at hq
  · rename_i kk v h
    obtain ⟨⟨s1, s2, s3, e, ej⟩, hq⟩ := ite_s hq
    cases hq
    subst e
    have s1 := sleB_sle s1
    have s2 := sleB_sle s2
    have s3 := sleB_sle s3
    refine ⟨s1.trans (s2.trans s3), ?_⟩
    refine A_aload_n (i := 1) hx dL_law_950 rfl (A_arg1 hx hS hi hn ha rfl rfl dL_law_951 dL_law_952 dL_law_954 dL_law_955 dL_law_956 (A_arg2 hx hS hi hn hb rfl rfl dL_law_957 dL_law_958 dL_law_960 dL_law_961 dL_law_962 (A_aload_n (i := 3) hx dL_law_963 rfl (?_))))
    refine A_callSW (as := [ar (0, 0), ai a, ai b, ar (14, 0)]) (rest := []) hx XT_N hX rfl (c_W_deliveredAt hst) h1 ⟨_, rfl⟩ s1 (fun v hv => by simp at hv; rcases hv with rfl | rfl | rfl | rfl; exact Or.inr (Or.inl ⟨_, rfl⟩); exact Or.inl ⟨_, rfl⟩; exact Or.inl ⟨_, rfl⟩; exact Or.inr (Or.inl ⟨_, rfl⟩)) uw_L_deliveredAt um_L_153 ut_L_deliveredAt un_L ⟨by decide, by decide, rfl⟩ (by decide) (by decide) (by decide) dL_law_964 (fit.le (s2.trans s3)) (fun w hw => fX0 hw) (fun w hw => by cases hw) (fun L2 hL2 v9 hv9 => ?_)
    cases hv9
    have hx2 : Hx (wL κ L2) cL_law 7 RL 16 620 := hx.wL
    have hr2 : Hr (wL κ L2) (some .boolean) := hr.wL
    have hS2 : Scr (wL κ L2) bs n xs := hS.wL
    have hst2 := hx2.st
    have k9 := k L2 hL2
    have fit2 := fit_wL (L2 := L2) fit
    refine A_istore hx2 dL_law_967 (by show 5 < 7; decide) ?_
    refine A_aload_n (i := 2) hx2 dL_law_969 rfl (A_arg1 hx2 hS2 hi hn ha rfl rfl dL_law_970 dL_law_971 dL_law_973 dL_law_974 dL_law_975 (A_arg2 hx2 hS2 hi hn hb rfl rfl dL_law_976 dL_law_977 dL_law_979 dL_law_980 dL_law_981 (?_)))
    refine A_callV (as := [ai a, ai b]) (rest := []) (b := (11, 0)) hx2 hr2 rfl (c_X3_deliveredAt hst2) h2 s2 (fun v hv => by simp at hv; rcases hv with rfl | rfl; exact Or.inl ⟨_, rfl⟩; exact Or.inl ⟨_, rfl⟩) uc_X3_deliveredAt um_L_155 ui_X3_deliveredAt us_X3_deliveredAt un_X3 ⟨rfl, by decide, by decide, rfl⟩ rfl rfl rfl (by decide) (by decide) (by decide) dL_law_982 (fit2.le s3) (fun v9 hv9 => ?_) (fun n hn => by cases hn)
    cases hv9
    refine A_istore hx2 dL_law_985 (by show 6 < 7; decide) ?_
    refine A_aload_n (i := 2) hx2 dL_law_987 rfl ?_
    refine A_callV (as := []) (rest := []) (b := (11, 0)) hx2 hr2 rfl (c_X3_thrown hst2) h3 s3 (fun v hv => by cases hv) uc_X3_thrown um_L_111 ui_X3_thrown us_X3_thrown un_X3 ⟨rfl, by decide, by decide, rfl⟩ rfl rfl rfl (by decide) (by decide) (by decide) dL_law_988 fit2 (fun v9 hv9 => ?_) (fun n hn => by cases hn)
    cases hv9
    refine A_iload hx2 dL_law_991 rfl (A_icmp_eq (tgt := 998) hx2 dL_law_993 (by decide) (fun _ => ?_) (fun q => absurd rfl q))
    refine A_iload hx2 dL_law_998 rfl (A_if_ne (tgt := 1015) hx2 dL_law_1000 (by decide) (fun _ => ?_) (fun q => ?_))
    · exact A_goto (tgt := 1864) hx2 dL_law_1015 (by decide) (k9 (some (ai _)) (some (ai _)))
    · have ej := ej q
      refine A_aload_n (i := 3) hx2 dL_law_1003 rfl (A_iconst (v := 0) hx2 dL_law_1004 (by decide) (A_laldJ hx2 dL_law_1005 (A_iload hx2 dL_law_1006 rfl (A_i2l hx2 dL_law_1008 ?_))))
      rw [ej]
      exact A_lcmpE hx2 dL_law_1009 (A_if_eq (tgt := 1015) hx2 dL_law_1010 (by decide) (fun _ => A_goto (tgt := 1864) hx2 dL_law_1015 (by decide) (k9 (some (ai _)) (some (ai _)))) (fun q => absurd rfl q))
  · cases hq
def q_14 (a _ : Int32) (σ : Sg) : Option Sg := (w_waiting [ar (0, 0), ai a, ar (14, 0)] σ).bind fun o => (f_X3_waiting [ar (11, 0), ai a] o.2).bind fun p => (f_X3_thrown [ar (11, 0)] p.2).bind fun t => match o.1, p.1, t.1 with
  | .inl (some (.inl (.int kk))), .inl (some (.inl (.int v))), .inl (some (.inl (.int h))) => if sleB σ o.2 = true ∧ sleB o.2 p.2 = true ∧ sleB p.2 t.2 = true ∧ h = kk ∧ (kk = 0 → t.2.2.2.2 = v.toInt64) then some t.2 else none
  | _, _, _ => none
theorem u_14 {κ : Kx} (hx : Hx κ cL_law 7 RL 16 620) (hr : Hr κ (some .boolean)) (hX : xNI (ks κ)) {bs n i : Nat} {xs : Nat → Int32} {a b : Int32} (hS : Scr κ bs n xs) (hi : i + 2 < n) (hn : n < 65536) (ha : xs (i + 1) = a) (hb : xs (i + 2) = b) {σ σF : Sg} (hq : q_14 a b σ = some σF) (fit : Fit κ σF) (k : ∀ L2 : Tg → Nat, (∀ u, vld σ u = true → L2 u = kL κ u) → ∀ v5 v6, Acf (wL κ L2) 1864 [] (lcL bs i v5 v6) σF) : sle σ σF ∧ Acf κ 1018 [] (lcL bs i none none) σ := by
  have hst := hx.st
  unfold q_14 at hq
  obtain ⟨⟨r1, τ1⟩, h1, hq⟩ := obs hq
  obtain ⟨⟨r2, τ2⟩, h2, hq⟩ := obs hq
  obtain ⟨⟨r3, τ3⟩, h3, hq⟩ := obs hq
  dsimp only at hq h2 h3
  split at hq
  · rename_i kk v h
    obtain ⟨⟨s1, s2, s3, e, ej⟩, hq⟩ := ite_s hq
    cases hq
    subst e
    have s1 := sleB_sle s1
    have s2 := sleB_sle s2
    have s3 := sleB_sle s3
    refine ⟨s1.trans (s2.trans s3), ?_⟩
    refine A_aload_n (i := 1) hx dL_law_1018 rfl (A_arg1 hx hS hi hn ha rfl rfl dL_law_1019 dL_law_1020 dL_law_1022 dL_law_1023 dL_law_1024 (A_aload_n (i := 3) hx dL_law_1025 rfl (?_)))
    refine A_callSW (as := [ar (0, 0), ai a, ar (14, 0)]) (rest := []) hx XT_N hX rfl (c_W_waiting hst) h1 ⟨_, rfl⟩ s1 (fun v hv => by simp at hv; rcases hv with rfl | rfl | rfl; exact Or.inr (Or.inl ⟨_, rfl⟩); exact Or.inl ⟨_, rfl⟩; exact Or.inr (Or.inl ⟨_, rfl⟩)) uw_L_waiting um_L_156 ut_L_waiting un_L ⟨by decide, by decide, rfl⟩ (by decide) (by decide) (by decide) dL_law_1026 (fit.le (s2.trans s3)) (fun w hw => fX0 hw) (fun w hw => by cases hw) (fun L2 hL2 v9 hv9 => ?_)
    cases hv9
    have hx2 : Hx (wL κ L2) cL_law 7 RL 16 620 := hx.wL
    have hr2 : Hr (wL κ L2) (some .boolean) := hr.wL
    have hS2 : Scr (wL κ L2) bs n xs := hS.wL
    have hst2 := hx2.st
    have k9 := k L2 hL2
    have fit2 := fit_wL (L2 := L2) fit
    refine A_istore hx2 dL_law_1029 (by show 5 < 7; decide) ?_
    refine A_aload_n (i := 2) hx2 dL_law_1031 rfl (A_arg1 hx2 hS2 hi hn ha rfl rfl dL_law_1032 dL_law_1033 dL_law_1035 dL_law_1036 dL_law_1037 (?_))
    refine A_callV (as := [ai a]) (rest := []) (b := (11, 0)) hx2 hr2 rfl (c_X3_waiting hst2) h2 s2 (fun v hv => by simp at hv; subst hv; exact Or.inl ⟨_, rfl⟩) uc_X3_waiting um_L_158 ui_X3_waiting us_X3_waiting un_X3 ⟨rfl, by decide, by decide, rfl⟩ rfl rfl rfl (by decide) (by decide) (by decide) dL_law_1038 (fit2.le s3) (fun v9 hv9 => ?_) (fun n hn => by cases hn)
    cases hv9
    refine A_istore hx2 dL_law_1041 (by show 6 < 7; decide) ?_
    refine A_aload_n (i := 2) hx2 dL_law_1043 rfl ?_
    refine A_callV (as := []) (rest := []) (b := (11, 0)) hx2 hr2 rfl (c_X3_thrown hst2) h3 s3 (fun v hv => by cases hv) uc_X3_thrown um_L_111 ui_X3_thrown us_X3_thrown un_X3 ⟨rfl, by decide, by decide, rfl⟩ rfl rfl rfl (by decide) (by decide) (by decide) dL_law_1044 fit2 (fun v9 hv9 => ?_) (fun n hn => by cases hn)
    cases hv9
    refine A_iload hx2 dL_law_1047 rfl (A_icmp_eq (tgt := 1054) hx2 dL_law_1049 (by decide) (fun _ => ?_) (fun q => absurd rfl q))
    refine A_iload hx2 dL_law_1054 rfl (A_if_ne (tgt := 1071) hx2 dL_law_1056 (by decide) (fun _ => ?_) (fun q => ?_))
    · exact A_goto (tgt := 1864) hx2 dL_law_1071 (by decide) (k9 (some (ai _)) (some (ai _)))
    · have ej := ej q
      refine A_aload_n (i := 3) hx2 dL_law_1059 rfl (A_iconst (v := 0) hx2 dL_law_1060 (by decide) (A_laldJ hx2 dL_law_1061 (A_iload hx2 dL_law_1062 rfl (A_i2l hx2 dL_law_1064 ?_))))
      rw [ej]
      exact A_lcmpE hx2 dL_law_1065 (A_if_eq (tgt := 1071) hx2 dL_law_1066 (by decide) (fun _ => A_goto (tgt := 1864) hx2 dL_law_1071 (by decide) (k9 (some (ai _)) (some (ai _)))) (fun q => absurd rfl q))
  · cases hq
def q_15 (a b : Int32) (σ : Sg) : Option Sg := (w_waitingAt [ar (0, 0), ai a, ai b, ar (14, 0)] σ).bind fun o => (f_X3_waitingAt [ar (11, 0), ai a, ai b] o.2).bind fun p => (f_X3_thrown [ar (11, 0)] p.2).bind fun t => match o.1, p.1, t.1 with
  | .inl (some (.inl (.int kk))), .inl (some (.inl (.int v))), .inl (some (.inl (.int h))) => if sleB σ o.2 = true ∧ sleB o.2 p.2 = true ∧ sleB p.2 t.2 = true ∧ h = kk ∧ (kk = 0 → t.2.2.2.2 = v.toInt64) then some t.2 else none
  | _, _, _ => none
theorem u_15 {κ : Kx} (hx : Hx κ cL_law 7 RL 16 620) (hr : Hr κ (some .boolean)) (hX : xNI (ks κ)) {bs n i : Nat} {xs : Nat → Int32} {a b : Int32} (hS : Scr κ bs n xs) (hi : i + 2 < n) (hn : n < 65536) (ha : xs (i + 1) = a) (hb : xs (i + 2) = b) {σ σF : Sg} (hq : q_15 a b σ = some σF) (fit : Fit κ σF) (k : ∀ L2 : Tg → Nat, (∀ u, vld σ u = true → L2 u = kL κ u) → ∀ v5 v6, Acf (wL κ L2) 1864 [] (lcL bs i v5 v6) σF) : sle σ σF ∧ Acf κ 1074 [] (lcL bs i none none) σ := by
  have hst := hx.st
  unfold q_15 at hq
  obtain ⟨⟨r1, τ1⟩, h1, hq⟩ := obs hq
  obtain ⟨⟨r2, τ2⟩, h2, hq⟩ := obs hq
  obtain ⟨⟨r3, τ3⟩, h3, hq⟩ := obs hq
  dsimp only at hq h2 h3
  split at hq
  · rename_i kk v h
    obtain ⟨⟨s1, s2, s3, e, ej⟩, hq⟩ := ite_s hq
    cases hq
    subst e
    have s1 := sleB_sle s1
    have s2 := sleB_sle s2
    have s3 := sleB_sle s3
    refine ⟨s1.trans (s2.trans s3), ?_⟩
    refine A_aload_n (i := 1) hx dL_law_1074 rfl (A_arg1 hx hS hi hn ha rfl rfl dL_law_1075 dL_law_1076 dL_law_1078 dL_law_1079 dL_law_1080 (A_arg2 hx hS hi hn hb rfl rfl dL_law_1081 dL_law_1082 dL_law_1084 dL_law_1085 dL_law_1086 (A_aload_n (i := 3) hx dL_law_1087 rfl (?_))))
    refine A_callSW (as := [ar (0, 0), ai a, ai b, ar (14, 0)]) (rest := []) hx XT_N hX rfl (c_W_waitingAt hst) h1 ⟨_, rfl⟩ s1 (fun v hv => by simp at hv; rcases hv with rfl | rfl | rfl | rfl; exact Or.inr (Or.inl ⟨_, rfl⟩); exact Or.inl ⟨_, rfl⟩; exact Or.inl ⟨_, rfl⟩; exact Or.inr (Or.inl ⟨_, rfl⟩)) uw_L_waitingAt um_L_159 ut_L_waitingAt un_L ⟨by decide, by decide, rfl⟩ (by decide) (by decide) (by decide) dL_law_1088 (fit.le (s2.trans s3)) (fun w hw => fX0 hw) (fun w hw => by cases hw) (fun L2 hL2 v9 hv9 => ?_)
    cases hv9
    have hx2 : Hx (wL κ L2) cL_law 7 RL 16 620 := hx.wL
    have hr2 : Hr (wL κ L2) (some .boolean) := hr.wL
    have hS2 : Scr (wL κ L2) bs n xs := hS.wL
    have hst2 := hx2.st
    have k9 := k L2 hL2
    have fit2 := fit_wL (L2 := L2) fit
    refine A_istore hx2 dL_law_1091 (by show 5 < 7; decide) ?_
    refine A_aload_n (i := 2) hx2 dL_law_1093 rfl (A_arg1 hx2 hS2 hi hn ha rfl rfl dL_law_1094 dL_law_1095 dL_law_1097 dL_law_1098 dL_law_1099 (A_arg2 hx2 hS2 hi hn hb rfl rfl dL_law_1100 dL_law_1101 dL_law_1103 dL_law_1104 dL_law_1105 (?_)))
    refine A_callV (as := [ai a, ai b]) (rest := []) (b := (11, 0)) hx2 hr2 rfl (c_X3_waitingAt hst2) h2 s2 (fun v hv => by simp at hv; rcases hv with rfl | rfl; exact Or.inl ⟨_, rfl⟩; exact Or.inl ⟨_, rfl⟩) uc_X3_waitingAt um_L_161 ui_X3_waitingAt us_X3_waitingAt un_X3 ⟨rfl, by decide, by decide, rfl⟩ rfl rfl rfl (by decide) (by decide) (by decide) dL_law_1106 (fit2.le s3) (fun v9 hv9 => ?_) (fun n hn => by cases hn)
    cases hv9
    refine A_istore hx2 dL_law_1109 (by show 6 < 7; decide) ?_
    refine A_aload_n (i := 2) hx2 dL_law_1111 rfl ?_
    refine A_callV (as := []) (rest := []) (b := (11, 0)) hx2 hr2 rfl (c_X3_thrown hst2) h3 s3 (fun v hv => by cases hv) uc_X3_thrown um_L_111 ui_X3_thrown us_X3_thrown un_X3 ⟨rfl, by decide, by decide, rfl⟩ rfl rfl rfl (by decide) (by decide) (by decide) dL_law_1112 fit2 (fun v9 hv9 => ?_) (fun n hn => by cases hn)
    cases hv9
    refine A_iload hx2 dL_law_1115 rfl (A_icmp_eq (tgt := 1122) hx2 dL_law_1117 (by decide) (fun _ => ?_) (fun q => absurd rfl q))
    refine A_iload hx2 dL_law_1122 rfl (A_if_ne (tgt := 1139) hx2 dL_law_1124 (by decide) (fun _ => ?_) (fun q => ?_))
    · exact A_goto (tgt := 1864) hx2 dL_law_1139 (by decide) (k9 (some (ai _)) (some (ai _)))
    · have ej := ej q
      refine A_aload_n (i := 3) hx2 dL_law_1127 rfl (A_iconst (v := 0) hx2 dL_law_1128 (by decide) (A_laldJ hx2 dL_law_1129 (A_iload hx2 dL_law_1130 rfl (A_i2l hx2 dL_law_1132 ?_))))
      rw [ej]
      exact A_lcmpE hx2 dL_law_1133 (A_if_eq (tgt := 1139) hx2 dL_law_1134 (by decide) (fun _ => A_goto (tgt := 1864) hx2 dL_law_1139 (by decide) (k9 (some (ai _)) (some (ai _)))) (fun q => absurd rfl q))
  · cases hq
