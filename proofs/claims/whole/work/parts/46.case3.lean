/-! one round of the law's loop, further cases (laid by wip/whole/gen/cases.py) -/
def q_24 (a b : Int32) (σ : Sg) : Option Sg := (w_proposal [ar (0, 0), ai a, ai b, ar (14, 0)] σ).bind fun o => (f_X3_proposal [ar (11, 0), ai a, ai b] o.2).bind fun p => (f_X3_thrown [ar (11, 0)] p.2).bind fun t => match o.1, p.1, t.1 with
  | .inl (some (.inl (.int kk))), .inl (some (.inl (.int v))), .inl (some (.inl (.int h))) => if sleB σ o.2 = true ∧ sleB o.2 p.2 = true ∧ sleB p.2 t.2 = true ∧ h = kk ∧ (kk = 0 → t.2.2.2.2 = v.toInt64) then some t.2 else none
  | _, _, _ => none
theorem u_24 {κ : Kx} (hx : Hx κ cL_law 7 RL 16 620) (hr : Hr κ (some .boolean)) (hX : xNI (ks κ)) {bs n i : Nat} {xs : Nat → Int32} {a b : Int32} (hS : Scr κ bs n xs) (hi : i + 2 < n) (hn : n < 65536) (ha : xs (i + 1) = a) (hb : xs (i + 2) = b) {σ σF : Sg} (hq : q_24 a b σ = some σF) (fit : Fit κ σF) (k : ∀ L2 : Tg → Nat, (∀ u, vld σ u = true → L2 u = kL κ u) → ∀ v5 v6, Acf (wL κ L2) 1864 [] (lcL bs i v5 v6) σF) : sle σ σF ∧ Acf κ 1528 [] (lcL bs i none none) σ := by
  have hst := hx.st
  unfold q_24 at hq
  obtain ⟨⟨r1, τ1⟩, h1, hq⟩ := obs hq
  obtain ⟨⟨r2, τ2⟩, h2, hq⟩ := obs hq
  obtain ⟨⟨r3, τ3⟩, h3, hq⟩ := obs hq
  dsimp only at hq h2 h3
  split at hq
  · rename_i kk v h
    obtain ⟨⟨s1, s2, s3, e, ej⟩, hq⟩ := ite_s hq
    cases hq
    subst e
    have s1 := sleB_sle s1
    have s2 := sleB_sle s2
    have s3 := sleB_sle s3
    refine ⟨s1.trans (s2.trans s3), ?_⟩
    refine A_aload_n (i := 1) hx dL_law_1528 rfl (A_arg1 hx hS hi hn ha rfl rfl dL_law_1529 dL_law_1530 dL_law_1532 dL_law_1533 dL_law_1534 (A_arg2 hx hS hi hn hb rfl rfl dL_law_1535 dL_law_1536 dL_law_1538 dL_law_1539 dL_law_1540 (A_aload_n (i := 3) hx dL_law_1541 rfl (?_))))
    refine A_callSW (as := [ar (0, 0), ai a, ai b, ar (14, 0)]) (rest := []) hx XT_N hX rfl (c_W_proposal hst) h1 ⟨_, rfl⟩ s1 (fun v hv => by simp at hv; rcases hv with rfl | rfl | rfl | rfl; exact Or.inr (Or.inl ⟨_, rfl⟩); exact Or.inl ⟨_, rfl⟩; exact Or.inl ⟨_, rfl⟩; exact Or.inr (Or.inl ⟨_, rfl⟩)) uw_L_proposal um_L_188 ut_L_proposal un_L ⟨by decide, by decide, rfl⟩ (by decide) (by decide) (by decide) dL_law_1542 (fit.le (s2.trans s3)) (fun w hw => fX0 hw) (fun w hw => by cases hw) (fun L2 hL2 v9 hv9 => ?_)
    cases hv9
    have hx2 : Hx (wL κ L2) cL_law 7 RL 16 620 := hx.wL
    have hr2 : Hr (wL κ L2) (some .boolean) := hr.wL
    have hS2 : Scr (wL κ L2) bs n xs := hS.wL
    have hst2 := hx2.st
    have k9 := k L2 hL2
    have fit2 := fit_wL (L2 := L2) fit
    refine A_istore hx2 dL_law_1545 (by show 5 < 7; decide) ?_
    refine A_aload_n (i := 2) hx2 dL_law_1547 rfl (A_arg1 hx2 hS2 hi hn ha rfl rfl dL_law_1548 dL_law_1549 dL_law_1551 dL_law_1552 dL_law_1553 (A_arg2 hx2 hS2 hi hn hb rfl rfl dL_law_1554 dL_law_1555 dL_law_1557 dL_law_1558 dL_law_1559 (?_)))
    refine A_callV (as := [ai a, ai b]) (rest := []) (b := (11, 0)) hx2 hr2 rfl (c_X3_proposal hst2) h2 s2 (fun v hv => by simp at hv; rcases hv with rfl | rfl; exact Or.inl ⟨_, rfl⟩; exact Or.inl ⟨_, rfl⟩) uc_X3_proposal um_L_190 ui_X3_proposal us_X3_proposal un_X3 ⟨rfl, by decide, by decide, rfl⟩ rfl rfl rfl (by decide) (by decide) (by decide) dL_law_1560 (fit2.le s3) (fun v9 hv9 => ?_) (fun n hn => by cases hn)
    cases hv9
    refine A_istore hx2 dL_law_1563 (by show 6 < 7; decide) ?_
    refine A_aload_n (i := 2) hx2 dL_law_1565 rfl ?_
    refine A_callV (as := []) (rest := []) (b := (11, 0)) hx2 hr2 rfl (c_X3_thrown hst2) h3 s3 (fun v hv => by cases hv) uc_X3_thrown um_L_111 ui_X3_thrown us_X3_thrown un_X3 ⟨rfl, by decide, by decide, rfl⟩ rfl rfl rfl (by decide) (by decide) (by decide) dL_law_1566 fit2 (fun v9 hv9 => ?_) (fun n hn => by cases hn)
    cases hv9
    refine A_iload hx2 dL_law_1569 rfl (A_icmp_eq (tgt := 1576) hx2 dL_law_1571 (by decide) (fun _ => ?_) (fun q => absurd rfl q))
    refine A_iload hx2 dL_law_1576 rfl (A_if_ne (tgt := 1593) hx2 dL_law_1578 (by decide) (fun _ => ?_) (fun q => ?_))
    · exact A_goto (tgt := 1864) hx2 dL_law_1593 (by decide) (k9 (some (ai _)) (some (ai _)))
    · have ej := ej q
      refine A_aload_n (i := 3) hx2 dL_law_1581 rfl (A_iconst (v := 0) hx2 dL_law_1582 (by decide) (A_laldJ hx2 dL_law_1583 (A_iload hx2 dL_law_1584 rfl (A_i2l hx2 dL_law_1586 ?_))))
      rw [ej]
      exact A_lcmpE hx2 dL_law_1587 (A_if_eq (tgt := 1593) hx2 dL_law_1588 (by decide) (fun _ => A_goto (tgt := 1864) hx2 dL_law_1593 (by decide) (k9 (some (ai _)) (some (ai _)))) (fun q => absurd rfl q))
  · cases hq
def q_25 (a _ : Int32) (σ : Sg) : Option Sg := (w_agreed [ar (0, 0), ai a, ar (14, 0)] σ).bind fun o => (f_X3_agreed [ar (11, 0), ai a] o.2).bind fun p => (f_X3_thrown [ar (11, 0)] p.2).bind fun t => match o.1, p.1, t.1 with
  | .inl (some (.inl (.int kk))), .inl (some (.inl (.int v))), .inl (some (.inl (.int h))) => if sleB σ o.2 = true ∧ sleB o.2 p.2 = true ∧ sleB p.2 t.2 = true ∧ h = kk ∧ (kk = 0 → t.2.2.2.2 = v.toInt64) then some t.2 else none
  | _, _, _ => none
theorem u_25 {κ : Kx} (hx : Hx κ cL_law 7 RL 16 620) (hr : Hr κ (some .boolean)) (hX : xNI (ks κ)) {bs n i : Nat} {xs : Nat → Int32} {a b : Int32} (hS : Scr κ bs n xs) (hi : i + 2 < n) (hn : n < 65536) (ha : xs (i + 1) = a) (hb : xs (i + 2) = b) {σ σF : Sg} (hq : q_25 a b σ = some σF) (fit : Fit κ σF) (k : ∀ L2 : Tg → Nat, (∀ u, vld σ u = true → L2 u = kL κ u) → ∀ v5 v6, Acf (wL κ L2) 1864 [] (lcL bs i v5 v6) σF) : sle σ σF ∧ Acf κ 1596 [] (lcL bs i none none) σ := by
  have hst := hx.st
  unfold q_25 at hq
  obtain ⟨⟨r1, τ1⟩, h1, hq⟩ := obs hq
  obtain ⟨⟨r2, τ2⟩, h2, hq⟩ := obs hq
  obtain ⟨⟨r3, τ3⟩, h3, hq⟩ := obs hq
  dsimp only at hq h2 h3
  split at hq
  · rename_i kk v h
    obtain ⟨⟨s1, s2, s3, e, ej⟩, hq⟩ := ite_s hq
    cases hq
    subst e
    have s1 := sleB_sle s1
    have s2 := sleB_sle s2
    have s3 := sleB_sle s3
    refine ⟨s1.trans (s2.trans s3), ?_⟩
    refine A_aload_n (i := 1) hx dL_law_1596 rfl (A_arg1 hx hS hi hn ha rfl rfl dL_law_1597 dL_law_1598 dL_law_1600 dL_law_1601 dL_law_1602 (A_aload_n (i := 3) hx dL_law_1603 rfl (?_)))
    refine A_callSW (as := [ar (0, 0), ai a, ar (14, 0)]) (rest := []) hx XT_N hX rfl (c_W_agreed hst) h1 ⟨_, rfl⟩ s1 (fun v hv => by simp at hv; rcases hv with rfl | rfl | rfl; exact Or.inr (Or.inl ⟨_, rfl⟩); exact Or.inl ⟨_, rfl⟩; exact Or.inr (Or.inl ⟨_, rfl⟩)) uw_L_agreed um_L_191 ut_L_agreed un_L ⟨by decide, by decide, rfl⟩ (by decide) (by decide) (by decide) dL_law_1604 (fit.le (s2.trans s3)) (fun w hw => fX0 hw) (fun w hw => by cases hw) (fun L2 hL2 v9 hv9 => ?_)
    cases hv9
    have hx2 : Hx (wL κ L2) cL_law 7 RL 16 620 := hx.wL
    have hr2 : Hr (wL κ L2) (some .boolean) := hr.wL
    have hS2 : Scr (wL κ L2) bs n xs := hS.wL
    have hst2 := hx2.st
    have k9 := k L2 hL2
    have fit2 := fit_wL (L2 := L2) fit
    refine A_istore hx2 dL_law_1607 (by show 5 < 7; decide) ?_
    refine A_aload_n (i := 2) hx2 dL_law_1609 rfl (A_arg1 hx2 hS2 hi hn ha rfl rfl dL_law_1610 dL_law_1611 dL_law_1613 dL_law_1614 dL_law_1615 (?_))
    refine A_callV (as := [ai a]) (rest := []) (b := (11, 0)) hx2 hr2 rfl (c_X3_agreed hst2) h2 s2 (fun v hv => by simp at hv; subst hv; exact Or.inl ⟨_, rfl⟩) uc_X3_agreed um_L_193 ui_X3_agreed us_X3_agreed un_X3 ⟨rfl, by decide, by decide, rfl⟩ rfl rfl rfl (by decide) (by decide) (by decide) dL_law_1616 (fit2.le s3) (fun v9 hv9 => ?_) (fun n hn => by cases hn)
    cases hv9
    refine A_istore hx2 dL_law_1619 (by show 6 < 7; decide) ?_
    refine A_aload_n (i := 2) hx2 dL_law_1621 rfl ?_
    refine A_callV (as := []) (rest := []) (b := (11, 0)) hx2 hr2 rfl (c_X3_thrown hst2) h3 s3 (fun v hv => by cases hv) uc_X3_thrown um_L_111 ui_X3_thrown us_X3_thrown un_X3 ⟨rfl, by decide, by decide, rfl⟩ rfl rfl rfl (by decide) (by decide) (by decide) dL_law_1622 fit2 (fun v9 hv9 => ?_) (fun n hn => by cases hn)
    cases hv9
    refine A_iload hx2 dL_law_1625 rfl (A_icmp_eq (tgt := 1632) hx2 dL_law_1627 (by decide) (fun _ => ?_) (fun q => absurd rfl q))
    refine A_iload hx2 dL_law_1632 rfl (A_if_ne (tgt := 1649) hx2 dL_law_1634 (by decide) (fun _ => ?_) (fun q => ?_))
    · exact A_goto (tgt := 1864) hx2 dL_law_1649 (by decide) (k9 (some (ai _)) (some (ai _)))
    · have ej := ej q
      refine A_aload_n (i := 3) hx2 dL_law_1637 rfl (A_iconst (v := 0) hx2 dL_law_1638 (by decide) (A_laldJ hx2 dL_law_1639 (A_iload hx2 dL_law_1640 rfl (A_i2l hx2 dL_law_1642 ?_))))
      rw [ej]
      exact A_lcmpE hx2 dL_law_1643 (A_if_eq (tgt := 1649) hx2 dL_law_1644 (by decide) (fun _ => A_goto (tgt := 1864) hx2 dL_law_1649 (by decide) (k9 (some (ai _)) (some (ai _)))) (fun q => absurd rfl q))
  · cases hq
def q_26 (a _ : Int32) (σ : Sg) : Option Sg := (w_agreedAt [ar (0, 0), ai a, ar (14, 0)] σ).bind fun o => (f_X3_agreedAt [ar (11, 0), ai a] o.2).bind fun p => (f_X3_thrown [ar (11, 0)] p.2).bind fun t => match o.1, p.1, t.1 with
  | .inl (some (.inl (.int kk))), .inl (some (.inl (.int v))), .inl (some (.inl (.int h))) => if sleB σ o.2 = true ∧ sleB o.2 p.2 = true ∧ sleB p.2 t.2 = true ∧ h = kk ∧ (kk = 0 → t.2.2.2.2 = v.toInt64) then some t.2 else none
  | _, _, _ => none
theorem u_26 {κ : Kx} (hx : Hx κ cL_law 7 RL 16 620) (hr : Hr κ (some .boolean)) (hX : xNI (ks κ)) {bs n i : Nat} {xs : Nat → Int32} {a b : Int32} (hS : Scr κ bs n xs) (hi : i + 2 < n) (hn : n < 65536) (ha : xs (i + 1) = a) (hb : xs (i + 2) = b) {σ σF : Sg} (hq : q_26 a b σ = some σF) (fit : Fit κ σF) (k : ∀ L2 : Tg → Nat, (∀ u, vld σ u = true → L2 u = kL κ u) → ∀ v5 v6, Acf (wL κ L2) 1864 [] (lcL bs i v5 v6) σF) : sle σ σF ∧ Acf κ 1652 [] (lcL bs i none none) σ := by
  have hst := hx.st
  unfold q_26 at hq
  obtain ⟨⟨r1, τ1⟩, h1, hq⟩ := obs hq
  obtain ⟨⟨r2, τ2⟩, h2, hq⟩ := obs hq
  obtain ⟨⟨r3, τ3⟩, h3, hq⟩ := obs hq
  dsimp only at hq h2 h3
  split at hq
  · rename_i kk v h
    obtain ⟨⟨s1, s2, s3, e, ej⟩, hq⟩ := ite_s hq
    cases hq
    subst e
    have s1 := sleB_sle s1
    have s2 := sleB_sle s2
    have s3 := sleB_sle s3
    refine ⟨s1.trans (s2.trans s3), ?_⟩
    refine A_aload_n (i := 1) hx dL_law_1652 rfl (A_arg1 hx hS hi hn ha rfl rfl dL_law_1653 dL_law_1654 dL_law_1656 dL_law_1657 dL_law_1658 (A_aload_n (i := 3) hx dL_law_1659 rfl (?_)))
    refine A_callSW (as := [ar (0, 0), ai a, ar (14, 0)]) (rest := []) hx XT_N hX rfl (c_W_agreedAt hst) h1 ⟨_, rfl⟩ s1 (fun v hv => by simp at hv; rcases hv with rfl | rfl | rfl; exact Or.inr (Or.inl ⟨_, rfl⟩); exact Or.inl ⟨_, rfl⟩; exact Or.inr (Or.inl ⟨_, rfl⟩)) uw_L_agreedAt um_L_194 ut_L_agreedAt un_L ⟨by decide, by decide, rfl⟩ (by decide) (by decide) (by decide) dL_law_1660 (fit.le (s2.trans s3)) (fun w hw => fX0 hw) (fun w hw => by cases hw) (fun L2 hL2 v9 hv9 => ?_)
    cases hv9
    have hx2 : Hx (wL κ L2) cL_law 7 RL 16 620 := hx.wL
    have hr2 : Hr (wL κ L2) (some .boolean) := hr.wL
    have hS2 : Scr (wL κ L2) bs n xs := hS.wL
    have hst2 := hx2.st
    have k9 := k L2 hL2
    have fit2 := fit_wL (L2 := L2) fit
    refine A_istore hx2 dL_law_1663 (by show 5 < 7; decide) ?_
    refine A_aload_n (i := 2) hx2 dL_law_1665 rfl (A_arg1 hx2 hS2 hi hn ha rfl rfl dL_law_1666 dL_law_1667 dL_law_1669 dL_law_1670 dL_law_1671 (?_))
    refine A_callV (as := [ai a]) (rest := []) (b := (11, 0)) hx2 hr2 rfl (c_X3_agreedAt hst2) h2 s2 (fun v hv => by simp at hv; subst hv; exact Or.inl ⟨_, rfl⟩) uc_X3_agreedAt um_L_196 ui_X3_agreedAt us_X3_agreedAt un_X3 ⟨rfl, by decide, by decide, rfl⟩ rfl rfl rfl (by decide) (by decide) (by decide) dL_law_1672 (fit2.le s3) (fun v9 hv9 => ?_) (fun n hn => by cases hn)
    cases hv9
    refine A_istore hx2 dL_law_1675 (by show 6 < 7; decide) ?_
    refine A_aload_n (i := 2) hx2 dL_law_1677 rfl ?_
    refine A_callV (as := []) (rest := []) (b := (11, 0)) hx2 hr2 rfl (c_X3_thrown hst2) h3 s3 (fun v hv => by cases hv) uc_X3_thrown um_L_111 ui_X3_thrown us_X3_thrown un_X3 ⟨rfl, by decide, by decide, rfl⟩ rfl rfl rfl (by decide) (by decide) (by decide) dL_law_1678 fit2 (fun v9 hv9 => ?_) (fun n hn => by cases hn)
    cases hv9
    refine A_iload hx2 dL_law_1681 rfl (A_icmp_eq (tgt := 1688) hx2 dL_law_1683 (by decide) (fun _ => ?_) (fun q => absurd rfl q))
    refine A_iload hx2 dL_law_1688 rfl (A_if_ne (tgt := 1705) hx2 dL_law_1690 (by decide) (fun _ => ?_) (fun q => ?_))
    · exact A_goto (tgt := 1864) hx2 dL_law_1705 (by decide) (k9 (some (ai _)) (some (ai _)))
    · have ej := ej q
      refine A_aload_n (i := 3) hx2 dL_law_1693 rfl (A_iconst (v := 0) hx2 dL_law_1694 (by decide) (A_laldJ hx2 dL_law_1695 (A_iload hx2 dL_law_1696 rfl (A_i2l hx2 dL_law_1698 ?_))))
      rw [ej]
      exact A_lcmpE hx2 dL_law_1699 (A_if_eq (tgt := 1705) hx2 dL_law_1700 (by decide) (fun _ => A_goto (tgt := 1864) hx2 dL_law_1705 (by decide) (k9 (some (ai _)) (some (ai _)))) (fun q => absurd rfl q))
  · cases hq
def q_27 (a _ : Int32) (σ : Sg) : Option Sg := (w_fail [ar (0, 0), ai a] σ).bind fun o => (f_X3_fail [ar (11, 0), ai a] o.2).bind fun p => (f_X3_thrown [ar (11, 0)] p.2).bind fun t => match o.1, p.1, t.1 with
  | .inl (some (.inl (.int kk))), .inl none, .inl (some (.inl (.int h))) => if sleB σ o.2 = true ∧ sleB o.2 p.2 = true ∧ sleB p.2 t.2 = true ∧ h = kk then some t.2 else none
  | _, _, _ => none
theorem u_27 {κ : Kx} (hx : Hx κ cL_law 7 RL 16 620) (hr : Hr κ (some .boolean)) (hX : xNI (ks κ)) {bs n i : Nat} {xs : Nat → Int32} {a b : Int32} (hS : Scr κ bs n xs) (hi : i + 2 < n) (hn : n < 65536) (ha : xs (i + 1) = a) (hb : xs (i + 2) = b) {σ σF : Sg} (hq : q_27 a b σ = some σF) (fit : Fit κ σF) (k : ∀ L2 : Tg → Nat, (∀ u, vld σ u = true → L2 u = kL κ u) → ∀ v5 v6, Acf (wL κ L2) 1864 [] (lcL bs i v5 v6) σF) : sle σ σF ∧ Acf κ 1708 [] (lcL bs i none none) σ := by
  have hst := hx.st
  unfold q_27 at hq
  obtain ⟨⟨r1, τ1⟩, h1, hq⟩ := obs hq
  obtain ⟨⟨r2, τ2⟩, h2, hq⟩ := obs hq
  obtain ⟨⟨r3, τ3⟩, h3, hq⟩ := obs hq
  dsimp only at hq h2 h3
  split at hq
  · rename_i kk h
    obtain ⟨⟨s1, s2, s3, e⟩, hq⟩ := ite_s hq
    cases hq
    subst e
    have s1 := sleB_sle s1
    have s2 := sleB_sle s2
    have s3 := sleB_sle s3
    refine ⟨s1.trans (s2.trans s3), ?_⟩
    refine A_aload_n (i := 1) hx dL_law_1708 rfl (A_arg1 hx hS hi hn ha rfl rfl dL_law_1709 dL_law_1710 dL_law_1712 dL_law_1713 dL_law_1714 (?_))
    refine A_callSW (as := [ar (0, 0), ai a]) (rest := []) hx XT_N hX rfl (c_W_fail hst) h1 ⟨_, rfl⟩ s1 (fun v hv => by simp at hv; rcases hv with rfl | rfl; exact Or.inr (Or.inl ⟨_, rfl⟩); exact Or.inl ⟨_, rfl⟩) uw_L_fail um_L_197 ut_L_fail un_L ⟨by decide, by decide, rfl⟩ (by decide) (by decide) (by decide) dL_law_1715 (fit.le (s2.trans s3)) (fun w hw => fX0 hw) (fun w hw => by cases hw) (fun L2 hL2 v9 hv9 => ?_)
    cases hv9
    have hx2 : Hx (wL κ L2) cL_law 7 RL 16 620 := hx.wL
    have hr2 : Hr (wL κ L2) (some .boolean) := hr.wL
    have hS2 : Scr (wL κ L2) bs n xs := hS.wL
    have hst2 := hx2.st
    have k9 := k L2 hL2
    have fit2 := fit_wL (L2 := L2) fit
    refine A_istore hx2 dL_law_1718 (by show 5 < 7; decide) ?_
    refine A_aload_n (i := 2) hx2 dL_law_1720 rfl (A_arg1 hx2 hS2 hi hn ha rfl rfl dL_law_1721 dL_law_1722 dL_law_1724 dL_law_1725 dL_law_1726 (?_))
    refine A_callV (as := [ai a]) (rest := []) (b := (11, 0)) hx2 hr2 rfl (c_X3_fail hst2) h2 s2 (fun v hv => by simp at hv; subst hv; exact Or.inl ⟨_, rfl⟩) uc_X3_fail um_L_200 ui_X3_fail us_X3_fail un_X3 ⟨rfl, by decide, by decide, rfl⟩ rfl rfl rfl (by decide) (by decide) (by decide) dL_law_1727 (fit2.le s3) (fun v9 hv9 => ?_) (fun n hn => by cases hn)
    cases hv9
    refine A_aload_n (i := 2) hx2 dL_law_1730 rfl ?_
    refine A_callV (as := []) (rest := []) (b := (11, 0)) hx2 hr2 rfl (c_X3_thrown hst2) h3 s3 (fun v hv => by cases hv) uc_X3_thrown um_L_111 ui_X3_thrown us_X3_thrown un_X3 ⟨rfl, by decide, by decide, rfl⟩ rfl rfl rfl (by decide) (by decide) (by decide) dL_law_1731 fit2 (fun v9 hv9 => ?_) (fun n hn => by cases hn)
    cases hv9
    refine A_iload hx2 dL_law_1734 rfl (A_icmp_eq (tgt := 1741) hx2 dL_law_1736 (by decide) (fun _ => ?_) (fun q => absurd rfl q))
    exact A_goto (tgt := 1864) hx2 dL_law_1741 (by decide) (k9 (some (ai _)) none)
  · cases hq
def q_28 (_ _ : Int32) (σ : Sg) : Option Sg := (w_flush [ar (0, 0), ar (14, 0)] σ).bind fun o => (f_X3_flush [ar (11, 0)] o.2).bind fun p => (f_X3_thrown [ar (11, 0)] p.2).bind fun t => match o.1, p.1, t.1 with
  | .inl (some (.inl (.int kk))), .inl (some (.inl (.int v))), .inl (some (.inl (.int h))) => if sleB σ o.2 = true ∧ sleB o.2 p.2 = true ∧ sleB p.2 t.2 = true ∧ h = kk ∧ (kk = 0 → t.2.2.2.2 = v.toInt64) then some t.2 else none
  | _, _, _ => none
theorem u_28 {κ : Kx} (hx : Hx κ cL_law 7 RL 16 620) (hr : Hr κ (some .boolean)) (hX : xNI (ks κ)) {bs n i : Nat} {xs : Nat → Int32} {a b : Int32} (hS : Scr κ bs n xs) (hi : i + 2 < n) (hn : n < 65536) (ha : xs (i + 1) = a) (hb : xs (i + 2) = b) {σ σF : Sg} (hq : q_28 a b σ = some σF) (fit : Fit κ σF) (k : ∀ L2 : Tg → Nat, (∀ u, vld σ u = true → L2 u = kL κ u) → ∀ v5 v6, Acf (wL κ L2) 1864 [] (lcL bs i v5 v6) σF) : sle σ σF ∧ Acf κ 1744 [] (lcL bs i none none) σ := by
  have hst := hx.st
  unfold q_28 at hq
  obtain ⟨⟨r1, τ1⟩, h1, hq⟩ := obs hq
  obtain ⟨⟨r2, τ2⟩, h2, hq⟩ := obs hq
  obtain ⟨⟨r3, τ3⟩, h3, hq⟩ := obs hq
  dsimp only at hq h2 h3
  split at hq
  · rename_i kk v h
    obtain ⟨⟨s1, s2, s3, e, ej⟩, hq⟩ := ite_s hq
    cases hq
    subst e
    have s1 := sleB_sle s1
    have s2 := sleB_sle s2
    have s3 := sleB_sle s3
    refine ⟨s1.trans (s2.trans s3), ?_⟩
    refine A_aload_n (i := 1) hx dL_law_1744 rfl (A_aload_n (i := 3) hx dL_law_1745 rfl (?_))
    refine A_callSW (as := [ar (0, 0), ar (14, 0)]) (rest := []) hx XT_N hX rfl (c_W_flush hst) h1 ⟨_, rfl⟩ s1 (fun v hv => by simp at hv; rcases hv with rfl | rfl; exact Or.inr (Or.inl ⟨_, rfl⟩); exact Or.inr (Or.inl ⟨_, rfl⟩)) uw_L_flush um_L_201 ut_L_flush un_L ⟨by decide, by decide, rfl⟩ (by decide) (by decide) (by decide) dL_law_1746 (fit.le (s2.trans s3)) (fun w hw => fX0 hw) (fun w hw => by cases hw) (fun L2 hL2 v9 hv9 => ?_)
    cases hv9
    have hx2 : Hx (wL κ L2) cL_law 7 RL 16 620 := hx.wL
    have hr2 : Hr (wL κ L2) (some .boolean) := hr.wL
    have hS2 : Scr (wL κ L2) bs n xs := hS.wL
    have hst2 := hx2.st
    have k9 := k L2 hL2
    have fit2 := fit_wL (L2 := L2) fit
    refine A_istore hx2 dL_law_1749 (by show 5 < 7; decide) ?_
    refine A_aload_n (i := 2) hx2 dL_law_1751 rfl (?_)
    refine A_callV (as := []) (rest := []) (b := (11, 0)) hx2 hr2 rfl (c_X3_flush hst2) h2 s2 (fun v hv => by cases hv) uc_X3_flush um_L_204 ui_X3_flush us_X3_flush un_X3 ⟨rfl, by decide, by decide, rfl⟩ rfl rfl rfl (by decide) (by decide) (by decide) dL_law_1752 (fit2.le s3) (fun v9 hv9 => ?_) (fun n hn => by cases hn)
    cases hv9
    refine A_istore hx2 dL_law_1755 (by show 6 < 7; decide) ?_
    refine A_aload_n (i := 2) hx2 dL_law_1757 rfl ?_
    refine A_callV (as := []) (rest := []) (b := (11, 0)) hx2 hr2 rfl (c_X3_thrown hst2) h3 s3 (fun v hv => by cases hv) uc_X3_thrown um_L_111 ui_X3_thrown us_X3_thrown un_X3 ⟨rfl, by decide, by decide, rfl⟩ rfl rfl rfl (by decide) (by decide) (by decide) dL_law_1758 fit2 (fun v9 hv9 => ?_) (fun n hn => by cases hn)
    cases hv9
    refine A_iload hx2 dL_law_1761 rfl (A_icmp_eq (tgt := 1768) hx2 dL_law_1763 (by decide) (fun _ => ?_) (fun q => absurd rfl q))
    refine A_iload hx2 dL_law_1768 rfl (A_if_ne (tgt := 1785) hx2 dL_law_1770 (by decide) (fun _ => ?_) (fun q => ?_))
    · exact A_goto (tgt := 1864) hx2 dL_law_1785 (by decide) (k9 (some (ai _)) (some (ai _)))
    · have ej := ej q
      refine A_aload_n (i := 3) hx2 dL_law_1773 rfl (A_iconst (v := 0) hx2 dL_law_1774 (by decide) (A_laldJ hx2 dL_law_1775 (A_iload hx2 dL_law_1776 rfl (A_i2l hx2 dL_law_1778 ?_))))
      rw [ej]
      exact A_lcmpE hx2 dL_law_1779 (A_if_eq (tgt := 1785) hx2 dL_law_1780 (by decide) (fun _ => A_goto (tgt := 1864) hx2 dL_law_1785 (by decide) (k9 (some (ai _)) (some (ai _)))) (fun q => absurd rfl q))
  · cases hq
def q_29 (a _ : Int32) (σ : Sg) : Option Sg := (w_isAlive [ar (0, 0), ai a, ar (14, 0)] σ).bind fun o => (f_X3_isAlive [ar (11, 0), ai a] o.2).bind fun p => (f_X3_thrown [ar (11, 0)] p.2).bind fun t => match o.1, p.1, t.1 with
  | .inl (some (.inl (.int kk))), .inl (some (.inl (.int v))), .inl (some (.inl (.int h))) => if sleB σ o.2 = true ∧ sleB o.2 p.2 = true ∧ sleB p.2 t.2 = true ∧ h = kk ∧ (kk = 0 → t.2.2.2.2 = b2l v) then some t.2 else none
  | _, _, _ => none
theorem u_29 {κ : Kx} (hx : Hx κ cL_law 7 RL 16 620) (hr : Hr κ (some .boolean)) (hX : xNI (ks κ)) {bs n i : Nat} {xs : Nat → Int32} {a b : Int32} (hS : Scr κ bs n xs) (hi : i + 2 < n) (hn : n < 65536) (ha : xs (i + 1) = a) (hb : xs (i + 2) = b) {σ σF : Sg} (hq : q_29 a b σ = some σF) (fit : Fit κ σF) (k : ∀ L2 : Tg → Nat, (∀ u, vld σ u = true → L2 u = kL κ u) → ∀ v5 v6, Acf (wL κ L2) 1864 [] (lcL bs i v5 v6) σF) : sle σ σF ∧ Acf κ 1788 [] (lcL bs i none none) σ := by
  have hst := hx.st
  unfold q_29 at hq
  obtain ⟨⟨r1, τ1⟩, h1, hq⟩ := obs hq
  obtain ⟨⟨r2, τ2⟩, h2, hq⟩ := obs hq
  obtain ⟨⟨r3, τ3⟩, h3, hq⟩ := obs hq
  dsimp only at hq h2 h3
  split at hq
  · rename_i kk v h
    obtain ⟨⟨s1, s2, s3, e, ej⟩, hq⟩ := ite_s hq
    cases hq
    subst e
    have s1 := sleB_sle s1
    have s2 := sleB_sle s2
    have s3 := sleB_sle s3
    refine ⟨s1.trans (s2.trans s3), ?_⟩
    refine A_aload_n (i := 1) hx dL_law_1788 rfl (A_arg1 hx hS hi hn ha rfl rfl dL_law_1789 dL_law_1790 dL_law_1792 dL_law_1793 dL_law_1794 (A_aload_n (i := 3) hx dL_law_1795 rfl (?_)))
    refine A_callSW (as := [ar (0, 0), ai a, ar (14, 0)]) (rest := []) hx XT_N hX rfl (c_W_isAlive hst) h1 ⟨_, rfl⟩ s1 (fun v hv => by simp at hv; rcases hv with rfl | rfl | rfl; exact Or.inr (Or.inl ⟨_, rfl⟩); exact Or.inl ⟨_, rfl⟩; exact Or.inr (Or.inl ⟨_, rfl⟩)) uw_L_isAlive um_L_205 ut_L_isAlive un_L ⟨by decide, by decide, rfl⟩ (by decide) (by decide) (by decide) dL_law_1796 (fit.le (s2.trans s3)) (fun w hw => fX0 hw) (fun w hw => by cases hw) (fun L2 hL2 v9 hv9 => ?_)
    cases hv9
    have hx2 : Hx (wL κ L2) cL_law 7 RL 16 620 := hx.wL
    have hr2 : Hr (wL κ L2) (some .boolean) := hr.wL
    have hS2 : Scr (wL κ L2) bs n xs := hS.wL
    have hst2 := hx2.st
    have k9 := k L2 hL2
    have fit2 := fit_wL (L2 := L2) fit
    refine A_istore hx2 dL_law_1799 (by show 5 < 7; decide) ?_
    refine A_aload_n (i := 2) hx2 dL_law_1801 rfl (A_arg1 hx2 hS2 hi hn ha rfl rfl dL_law_1802 dL_law_1803 dL_law_1805 dL_law_1806 dL_law_1807 (?_))
    refine A_callV (as := [ai a]) (rest := []) (b := (11, 0)) hx2 hr2 rfl (c_X3_isAlive hst2) h2 s2 (fun v hv => by simp at hv; subst hv; exact Or.inl ⟨_, rfl⟩) uc_X3_isAlive um_L_207 ui_X3_isAlive us_X3_isAlive un_X3 ⟨rfl, by decide, by decide, rfl⟩ rfl rfl rfl (by decide) (by decide) (by decide) dL_law_1808 (fit2.le s3) (fun v9 hv9 => ?_) (fun n hn => by cases hn)
    cases hv9
    refine A_istore hx2 dL_law_1811 (by show 6 < 7; decide) ?_
    refine A_aload_n (i := 2) hx2 dL_law_1813 rfl ?_
    refine A_callV (as := []) (rest := []) (b := (11, 0)) hx2 hr2 rfl (c_X3_thrown hst2) h3 s3 (fun v hv => by cases hv) uc_X3_thrown um_L_111 ui_X3_thrown us_X3_thrown un_X3 ⟨rfl, by decide, by decide, rfl⟩ rfl rfl rfl (by decide) (by decide) (by decide) dL_law_1814 fit2 (fun v9 hv9 => ?_) (fun n hn => by cases hn)
    cases hv9
    refine A_iload hx2 dL_law_1817 rfl (A_icmp_eq (tgt := 1824) hx2 dL_law_1819 (by decide) (fun _ => ?_) (fun q => absurd rfl q))
    refine A_iload hx2 dL_law_1824 rfl (A_if_ne (tgt := 1848) hx2 dL_law_1826 (by decide) (fun _ => ?_) (fun q => ?_))
    · exact A_goto (tgt := 1864) hx2 dL_law_1848 (by decide) (k9 (some (ai _)) (some (ai _)))
    · have ej := ej q
      refine A_aload_n (i := 3) hx2 dL_law_1829 rfl (A_iconst (v := 0) hx2 dL_law_1830 (by decide) (A_laldJ hx2 dL_law_1831 (A_iload hx2 dL_law_1832 rfl (A_if_eq (tgt := 1841) hx2 dL_law_1834 (by decide) (fun z => ?_) (fun z => ?_)))))
      · rw [ej, show b2l _ = 0 from if_pos z]
        exact A_lconst (v := 0) hx2 dL_law_1841 (by decide) (A_lcmpE hx2 dL_law_1842 (A_if_eq (tgt := 1848) hx2 dL_law_1843 (by decide) (fun _ => A_goto (tgt := 1864) hx2 dL_law_1848 (by decide) (k9 (some (ai _)) (some (ai _)))) (fun q => absurd rfl q)))
      · rw [ej, show b2l _ = 1 from if_neg z]
        exact A_lconst (v := 1) hx2 dL_law_1837 (by decide) (A_goto (tgt := 1842) hx2 dL_law_1838 (by decide) (A_lcmpE hx2 dL_law_1842 (A_if_eq (tgt := 1848) hx2 dL_law_1843 (by decide) (fun _ => A_goto (tgt := 1864) hx2 dL_law_1848 (by decide) (k9 (some (ai _)) (some (ai _)))) (fun q => absurd rfl q))))
  · cases hq
def q_30 (_ _ : Int32) (σ : Sg) : Option Sg := (f_X2_view [ar (0, 0)] σ).bind fun o => (f_X3_view [ar (11, 0)] o.2).bind fun p => match o.1, p.1 with
  | .inl (some (.inl (.int v))), .inl (some (.inl (.int w))) => if sleB σ o.2 = true ∧ sleB o.2 p.2 = true ∧ v = w then some p.2 else none
  | _, _ => none
theorem u_30 {κ : Kx} (hx : Hx κ cL_law 7 RL 16 620) (hr : Hr κ (some .boolean)) (hX : xNI (ks κ)) {bs n i : Nat} {xs : Nat → Int32} {a b : Int32} (hS : Scr κ bs n xs) (hi : i + 2 < n) (hn : n < 65536) (ha : xs (i + 1) = a) (hb : xs (i + 2) = b) {σ σF : Sg} (hq : q_30 a b σ = some σF) (fit : Fit κ σF) (k : ∀ L2 : Tg → Nat, (∀ u, vld σ u = true → L2 u = kL κ u) → ∀ v5 v6, Acf (wL κ L2) 1864 [] (lcL bs i v5 v6) σF) : sle σ σF ∧ Acf κ 1851 [] (lcL bs i none none) σ := by
  have hst := hx.st
  unfold q_30 at hq
  obtain ⟨⟨r1, τ1⟩, h1, hq⟩ := obs hq
  obtain ⟨⟨r2, τ2⟩, h2, hq⟩ := obs hq
  dsimp only at hq h2
  split at hq
  · rename_i v w
    obtain ⟨⟨s1, s2, e⟩, hq⟩ := ite_s hq
    cases hq
    subst e
    have s1 := sleB_sle s1
    have s2 := sleB_sle s2
    refine ⟨s1.trans s2, ?_⟩
    have k9 := k (kL κ) (fun _ _ => rfl) none none
    rw [wL_self] at k9
    refine A_aload_n (i := 1) hx dL_law_1851 rfl (A_callV (as := []) (rest := []) (b := (0, 0)) hx hr rfl (c_X2_view hst) h1 s1 (fun v hv => by cases hv) uc_X2_view um_L_208 ui_X2_view us_X2_view un_X2 ⟨rfl, by decide, by decide, rfl⟩ rfl rfl rfl (by decide) (by decide) (by decide) dL_law_1852 (fit.le s2) (fun v9 hv9 => ?_) (fun n hn => by cases hn))
    cases hv9
    refine A_aload_n (i := 2) hx dL_law_1855 rfl (A_callV (as := []) (rest := [ai _]) (b := (11, 0)) hx hr rfl (c_X3_view hst) h2 s2 (fun v hv => by cases hv) uc_X3_view um_L_211 ui_X3_view us_X3_view un_X3 ⟨rfl, by decide, by decide, rfl⟩ rfl rfl rfl (by simp [wt, wtA, Value.category]) (by decide) (by decide) dL_law_1856 fit (fun v9 hv9 => ?_) (fun n hn => by cases hn))
    cases hv9
    exact A_icmp_eq (tgt := 1864) hx dL_law_1859 (by decide) (fun _ => k9) (fun q => absurd rfl q)
  · cases hq
