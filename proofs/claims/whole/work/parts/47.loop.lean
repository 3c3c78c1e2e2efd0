/-! the law's loop: rounds one after the other, until fewer than three ints are left -/
def q_law (x a b : Int32) (σ : Sg) : Option Sg := match (x &&& 31).toInt.toNat with
  | 0 => q_0 a b σ
  | 1 => q_1 a b σ
  | 2 => q_2 a b σ
  | 3 => q_3 a b σ
  | 4 => q_4 a b σ
  | 5 => q_5 a b σ
  | 6 => q_6 a b σ
  | 7 => q_7 a b σ
  | 8 => q_8 a b σ
  | 9 => q_9 a b σ
  | 10 => q_10 a b σ
  | 11 => q_11 a b σ
  | 12 => q_12 a b σ
  | 13 => q_13 a b σ
  | 14 => q_14 a b σ
  | 15 => q_15 a b σ
  | 16 => q_16 a b σ
  | 17 => q_17 a b σ
  | 18 => q_18 a b σ
  | 19 => q_19 a b σ
  | 20 => q_20 a b σ
  | 21 => q_21 a b σ
  | 22 => q_22 a b σ
  | 23 => q_23 a b σ
  | 24 => q_24 a b σ
  | 25 => q_25 a b σ
  | 26 => q_26 a b σ
  | 27 => q_27 a b σ
  | 28 => q_28 a b σ
  | 29 => q_29 a b σ
  | 30 => q_30 a b σ
  | _ => some σ
def goL (xs : Nat → Int32) (n : Nat) : Nat → Nat → Sg → Option Sg
  | 0, _, σ => some σ
  | k + 1, i, σ => if i + 2 < n then (q_law (xs i) (xs (i + 1)) (xs (i + 2)) σ).bind (goL xs n k (i + 3)) else some σ
theorem and31 (x : Int32) : ∃ n : Nat, n ≤ 31 ∧ (x &&& 31).toInt = (n : Int) := by
  have h1 : (x &&& 31).toBitVec.toNat ≤ 31 := by
    show (x.toBitVec &&& 31#32).toNat ≤ 31
    rw [BitVec.toNat_and]
    exact Nat.and_le_right
  refine ⟨_, h1, ?_⟩
  show (x &&& 31).toBitVec.toInt = _
  rw [BitVec.toInt_eq_toNat_of_lt (by omega)]
theorem xNI_wL {κ : Kx} {L2 : Tg → Nat} (h : xNI (ks κ)) : xNI (ks (wL κ L2)) := by
  obtain ⟨p, l, e, R, s, m, args, below, meth, c, Q, g, L, c0, s0, fc, fs⟩ := κ
  exact h
theorem nI_sub3 {n i : Nat} (hn : n < 65536) (hi : i < 65536) : nI n - nI 3 < nI i ↔ n < i + 3 := by
  rw [Int32.lt_iff_toInt_lt, Int32.toInt_sub, nI_toInt (by omega), nI_toInt (by omega), nI_toInt (by omega)]
  have e : ((n : Int) - ((3 : Nat) : Int)).bmod (2 ^ 32) = (n : Int) - 3 := by
    rw [Int.bmod_def]
    split <;> omega
  rw [e]
  omega
section LOOP
variable {κ : Kx} {cc : ByteArray} {nL fX lX : Nat} {own : String} {pc : Nat} {st : List AV} {lc : LcT} {σ : Sg}
theorem A_tabIn (hx : Hx κ cc nL own fX lX) {dflt lo hi : Int} {offs : Array Int} {len : Nat} {x : Int32} {off : Int} {tgt : Nat} (d : decode cc pc = .ok (.tableswitch dflt lo hi offs, len)) (h1 : ¬ x.toInt < lo) (h2 : ¬ hi < x.toInt) (ho : offs[(x.toInt - lo).toNat]? = some off) (ht : (pc : Int) + off = (tgt : Int)) (k : Acf κ tgt st lc σ) : Acf κ pc (ai x :: st) lc σ := by
  obtain ⟨p, l, e, R, s, m, args, below, meth, c, Q, g, L, c0, s0, fc, fs⟩ := κ
  obtain ⟨⟨hxe, hxb, hxl, hxo, hxw⟩, hxk, hxz, hxc, hxs, hxt, hxf, hxr⟩ := hx
  intro H locs ls h3 h4 h5 h6 h7 h8 h9 h10
  exact lv_tableIn hxe hxb d h1 h2 ho ht (k H locs ls h3 h4 h5 h6 h7 h8 h9 h10)
theorem A_tabOut (hx : Hx κ cc nL own fX lX) {dflt lo hi : Int} {offs : Array Int} {len : Nat} {x : Int32} {tgt : Nat} (d : decode cc pc = .ok (.tableswitch dflt lo hi offs, len)) (h : x.toInt < lo ∨ hi < x.toInt) (ht : (pc : Int) + dflt = (tgt : Int)) (k : Acf κ tgt st lc σ) : Acf κ pc (ai x :: st) lc σ := by
  obtain ⟨p, l, e, R, s, m, args, below, meth, c, Q, g, L, c0, s0, fc, fs⟩ := κ
  obtain ⟨⟨hxe, hxb, hxl, hxo, hxw⟩, hxk, hxz, hxc, hxs, hxt, hxf, hxr⟩ := hx
  intro H locs ls h3 h4 h5 h6 h7 h8 h9 h10
  exact lv_tableOut hxe hxb d h ht (k H locs ls h3 h4 h5 h6 h7 h8 h9 h10)
end LOOP
set_option maxHeartbeats 4000000 in
theorem L_round {κ : Kx} (hx : Hx κ cL_law 7 RL 16 620) (hr : Hr κ (some .boolean)) (hX : xNI (ks κ)) {bs n i : Nat} {xs : Nat → Int32} (hS : Scr κ bs n xs) (hi : i + 2 < n) (hn : n < 65536) {σ σF : Sg} (hq : q_law (xs i) (xs (i + 1)) (xs (i + 2)) σ = some σF) (fit : Fit κ σF) (k : ∀ L2 : Tg → Nat, (∀ u, vld σ u = true → L2 u = kL κ u) → ∀ v5 v6, Acf (wL κ L2) 1864 [] (lcL bs i v5 v6) σF) : sle σ σF ∧ Acf κ 39 [ai (xs i &&& 31)] (lcL bs i none none) σ := by
  obtain ⟨c, hc, hy⟩ := and31 (xs i)
  unfold q_law at hq
  rw [hy] at hq
  have hlo : ¬ (xs i &&& 31).toInt < 0 := by omega
  have hin : ∀ (off : Int) (tgt : Nat), c ≤ 30 → (#[137, 193, 261, 309, 357, 370, 426, 494, 562, 630, 705, 780, 855, 911, 979, 1035, 1103, 1171, 1239, 1252, 1308, 1364, 1377, 1433, 1489, 1557, 1613, 1669, 1705, 1749, 1812] : Array Int)[c]? = some off → ((39 : Nat) : Int) + off = (tgt : Int) → Acf κ tgt [] (lcL bs i none none) σ → Acf κ 39 [ai (xs i &&& 31)] (lcL bs i none none) σ := fun off tgt hc30 ho ht k9 => by
    refine A_tabIn hx dL_law_39 hlo (by omega) ?_ ht k9
    rw [hy, Int.sub_zero, Int.toNat_natCast]
    exact ho
  match c, hc with
  | 0, _ =>
    have h9 := u_0 hx hr hX hS hi hn rfl rfl hq fit k
    exact ⟨h9.1, hin 137 176 (by omega) rfl rfl h9.2⟩
  | 1, _ =>
    have h9 := u_1 hx hr hX hS hi hn rfl rfl hq fit k
    exact ⟨h9.1, hin 193 232 (by omega) rfl rfl h9.2⟩
  | 2, _ =>
    have h9 := u_2 hx hr hX hS hi hn rfl rfl hq fit k
    exact ⟨h9.1, hin 261 300 (by omega) rfl rfl h9.2⟩
  | 3, _ =>
    have h9 := u_3 hx hr hX hS hi hn rfl rfl hq fit k
    exact ⟨h9.1, hin 309 348 (by omega) rfl rfl h9.2⟩
  | 4, _ =>
    have h9 := u_4 hx hr hX hS hi hn rfl rfl hq fit k
    exact ⟨h9.1, hin 357 396 (by omega) rfl rfl h9.2⟩
  | 5, _ =>
    have h9 := u_5 hx hr hX hS hi hn rfl rfl hq fit k
    exact ⟨h9.1, hin 370 409 (by omega) rfl rfl h9.2⟩
  | 6, _ =>
    have h9 := u_6 hx hr hX hS hi hn rfl rfl hq fit k
    exact ⟨h9.1, hin 426 465 (by omega) rfl rfl h9.2⟩
  | 7, _ =>
    have h9 := u_7 hx hr hX hS hi hn rfl rfl hq fit k
    exact ⟨h9.1, hin 494 533 (by omega) rfl rfl h9.2⟩
  | 8, _ =>
    have h9 := u_8 hx hr hX hS hi hn rfl rfl hq fit k
    exact ⟨h9.1, hin 562 601 (by omega) rfl rfl h9.2⟩
  | 9, _ =>
    have h9 := u_9 hx hr hX hS hi hn rfl rfl hq fit k
    exact ⟨h9.1, hin 630 669 (by omega) rfl rfl h9.2⟩
  | 10, _ =>
    have h9 := u_10 hx hr hX hS hi hn rfl rfl hq fit k
    exact ⟨h9.1, hin 705 744 (by omega) rfl rfl h9.2⟩
  | 11, _ =>
    have h9 := u_11 hx hr hX hS hi hn rfl rfl hq fit k
    exact ⟨h9.1, hin 780 819 (by omega) rfl rfl h9.2⟩
  | 12, _ =>
    have h9 := u_12 hx hr hX hS hi hn rfl rfl hq fit k
    exact ⟨h9.1, hin 855 894 (by omega) rfl rfl h9.2⟩
  | 13, _ =>
    have h9 := u_13 hx hr hX hS hi hn rfl rfl hq fit k
    exact ⟨h9.1, hin 911 950 (by omega) rfl rfl h9.2⟩
  | 14, _ =>
    have h9 := u_14 hx hr hX hS hi hn rfl rfl hq fit k
    exact ⟨h9.1, hin 979 1018 (by omega) rfl rfl h9.2⟩
  | 15, _ =>
    have h9 := u_15 hx hr hX hS hi hn rfl rfl hq fit k
    exact ⟨h9.1, hin 1035 1074 (by omega) rfl rfl h9.2⟩
  | 16, _ =>
    have h9 := u_16 hx hr hX hS hi hn rfl rfl hq fit k
    exact ⟨h9.1, hin 1103 1142 (by omega) rfl rfl h9.2⟩
  | 17, _ =>
    have h9 := u_17 hx hr hX hS hi hn rfl rfl hq fit k
    exact ⟨h9.1, hin 1171 1210 (by omega) rfl rfl h9.2⟩
  | 18, _ =>
    have h9 := u_18 hx hr hX hS hi hn rfl rfl hq fit k
    exact ⟨h9.1, hin 1239 1278 (by omega) rfl rfl h9.2⟩
  | 19, _ =>
    have h9 := u_19 hx hr hX hS hi hn rfl rfl hq fit k
    exact ⟨h9.1, hin 1252 1291 (by omega) rfl rfl h9.2⟩
  | 20, _ =>
    have h9 := u_20 hx hr hX hS hi hn rfl rfl hq fit k
    exact ⟨h9.1, hin 1308 1347 (by omega) rfl rfl h9.2⟩
  | 21, _ =>
    have h9 := u_21 hx hr hX hS hi hn rfl rfl hq fit k
    exact ⟨h9.1, hin 1364 1403 (by omega) rfl rfl h9.2⟩
  | 22, _ =>
    have h9 := u_22 hx hr hX hS hi hn rfl rfl hq fit k
    exact ⟨h9.1, hin 1377 1416 (by omega) rfl rfl h9.2⟩
  | 23, _ =>
    have h9 := u_23 hx hr hX hS hi hn rfl rfl hq fit k
    exact ⟨h9.1, hin 1433 1472 (by omega) rfl rfl h9.2⟩
  | 24, _ =>
    have h9 := u_24 hx hr hX hS hi hn rfl rfl hq fit k
    exact ⟨h9.1, hin 1489 1528 (by omega) rfl rfl h9.2⟩
  | 25, _ =>
    have h9 := u_25 hx hr hX hS hi hn rfl rfl hq fit k
    exact ⟨h9.1, hin 1557 1596 (by omega) rfl rfl h9.2⟩
  | 26, _ =>
    have h9 := u_26 hx hr hX hS hi hn rfl rfl hq fit k
    exact ⟨h9.1, hin 1613 1652 (by omega) rfl rfl h9.2⟩
  | 27, _ =>
    have h9 := u_27 hx hr hX hS hi hn rfl rfl hq fit k
    exact ⟨h9.1, hin 1669 1708 (by omega) rfl rfl h9.2⟩
  | 28, _ =>
    have h9 := u_28 hx hr hX hS hi hn rfl rfl hq fit k
    exact ⟨h9.1, hin 1705 1744 (by omega) rfl rfl h9.2⟩
  | 29, _ =>
    have h9 := u_29 hx hr hX hS hi hn rfl rfl hq fit k
    exact ⟨h9.1, hin 1749 1788 (by omega) rfl rfl h9.2⟩
  | 30, _ =>
    have h9 := u_30 hx hr hX hS hi hn rfl rfl hq fit k
    exact ⟨h9.1, hin 1812 1851 (by omega) rfl rfl h9.2⟩
  | 31, _ =>
    have e : some σ = some σF := hq
    cases e
    have k9 := k (kL κ) (fun _ _ => rfl) none none
    rw [wL_self] at k9
    exact ⟨sle.refl σ, A_tabOut (tgt := 1864) hx dL_law_39 (Or.inr (by rw [hy]; decide)) rfl k9⟩
  | c + 32, hc => exact absurd hc (by omega)
theorem L_loop {bs n : Nat} {xs : Nat → Int32} (hn : n < 65000) : ∀ (k : Nat) (κ : Kx), Hx κ cL_law 7 RL 16 620 → Hr κ (some .boolean) → xNI (ks κ) → Scr κ bs n xs → ∀ (i : Nat) (σ σF : Sg) (v5 v6 : Option AV), n ≤ i + 3 * k + 2 → i ≤ n + 2 → goL xs n k i σ = some σF → Fit κ σF → (∀ (L2 : Tg → Nat) (lc : LcT), Acf (wL κ L2) 1870 [] lc σF) → sle σ σF ∧ Acf κ 23 [] (lcL bs i v5 v6) σ := by
  intro k
  induction k with
  | zero =>
    intro κ hx hr hX hS i σ σF v5 v6 hk hin hq fit kend
    have e : some σ = some σF := hq
    cases e
    have k9 := kend (kL κ) (lcL bs i v5 v6)
    rw [wL_self] at k9
    refine ⟨sle.refl σ, A_iload hx dL_law_23 rfl (A_aload_nQ (i := 0) hx dL_law_25 rfl (A_slen hx hS dL_law_26 (A_iconst (v := nI 3) hx dL_law_27 (by decide) (A_isub hx dL_law_28 (A_icmp_gt (tgt := 1870) hx dL_law_29 (by decide) (fun _ => k9) (fun q => ?_))))))⟩
    exact absurd ((nI_sub3 (by omega) (by omega)).mpr (by omega)) q
  | succ k ih =>
    intro κ hx hr hX hS i σ σF v5 v6 hk hin hq fit kend
    by_cases hi : i + 2 < n
    · have hq' : (q_law (xs i) (xs (i + 1)) (xs (i + 2)) σ).bind (goL xs n k (i + 3)) = some σF := by
        have := hq
        unfold goL at this
        rwa [if_pos hi] at this
      obtain ⟨σ1, h1, h2⟩ := obs hq'
      have k0 := kend (kL κ)
      have hle := (ih κ hx hr hX hS (i + 3) σ1 σF v5 v6 (by omega) (by omega) h2 fit kend).1
      have h9 := L_round hx hr hX hS hi (by omega) h1 (fit.le hle) (fun L2 hL2 w5 w6 => by
        have k1 := (ih (wL κ L2) hx.wL hr.wL (xNI_wL hX) hS.wL (i + 3) σ1 σF w5 w6 (by omega) (by omega) h2 (fit_wL fit) (fun L3 lc => by rw [wL_wL]; exact kend L3 lc)).2
        exact A_iinc (v := nI (i + 3)) hx.wL dL_law_1864 rfl (by rw [← nI_add]; rfl) (A_goto (tgt := 23) hx.wL dL_law_1867 (by decide) k1))
      refine ⟨h9.1.trans hle, A_iload hx dL_law_23 rfl (A_aload_nQ (i := 0) hx dL_law_25 rfl (A_slen hx hS dL_law_26 (A_iconst (v := nI 3) hx dL_law_27 (by decide) (A_isub hx dL_law_28 (A_icmp_gt (tgt := 1870) hx dL_law_29 (by decide) (fun q => ?_) (fun _ => ?_))))))⟩
      · exact absurd ((nI_sub3 (by omega) (by omega)).mp q) (by omega)
      · refine A_aload_nQ (i := 0) hx dL_law_32 rfl (A_iload hx dL_law_33 rfl (A_sld hx hS (vp_in_nI (by omega) (by omega)) dL_law_35 (A_bipush (v := 31) hx dL_law_36 (by decide) (A_iand hx dL_law_38 ?_))))
        rw [nI_clamp (by omega)]
        refine Acf.drop (lc' := lcL bs i none none) rfl (fun j v hv => ?_) h9.2
        match j, hv with
        | 0, hv => exact hv
        | 1, hv => exact hv
        | 2, hv => exact hv
        | 3, hv => exact hv
        | 4, hv => exact hv
        | 5, hv => cases hv
        | 6, hv => cases hv
        | j + 7, hv => cases hv
    · have e : some σ = some σF := by
        have := hq
        unfold goL at this
        rwa [if_neg hi] at this
      cases e
      have k9 := kend (kL κ) (lcL bs i v5 v6)
      rw [wL_self] at k9
      refine ⟨sle.refl σ, A_iload hx dL_law_23 rfl (A_aload_nQ (i := 0) hx dL_law_25 rfl (A_slen hx hS dL_law_26 (A_iconst (v := nI 3) hx dL_law_27 (by decide) (A_isub hx dL_law_28 (A_icmp_gt (tgt := 1870) hx dL_law_29 (by decide) (fun _ => k9) (fun q => ?_))))))⟩
      exact absurd ((nI_sub3 (by omega) (by omega)).mpr (by omega)) q
