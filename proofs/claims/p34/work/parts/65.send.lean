/-! pure: send -/
section SND
variable {σ : Sg} {m i k o j n k2 o2 j2 t : Nat} {x y h : Int32} {l : List Nat}
theorem nm_I (hh : ¬ (o2 = σ.2.2.1 0 ∧ 20 ≤ k2 ∧ k2 < 30)) : (newMsg σ x y h).1 k2 o2 j2 = σ.1 k2 o2 j2 := if_neg hh
theorem nm_n : (newMsg σ x y h).2.2.1 0 = σ.2.2.1 0 + 1 := by
  unfold newMsg
  rw [grw_n]
  rfl
theorem nm_N : (newMsg σ x y h).2.2.1 (10 + k) = σ.2.2.1 (10 + k) := by
  unfold newMsg
  rw [grw_Rm]
  exact if_neg (by omega)
theorem nm_L : (newMsg σ x y h).2.1 = σ.2.1 := rfl
def sd1 (σ : Sg) (i : Nat) : Sg := ladd (newMsg σ (nI (σ.2.2.1 0)) (nI i) (nI (σ.2.1 (3 + i)).length)) 0 (σ.2.2.1 0)
theorem sd1_I (hh : ¬ (o2 = σ.2.2.1 0 ∧ 20 ≤ k2 ∧ k2 < 30)) (h3 : k2 ≠ 30) : (sd1 σ i).1 k2 o2 j2 = σ.1 k2 o2 j2 := by
  unfold sd1
  rw [ladd_I h3, nm_I hh]
theorem sd1_new (h3 : k2 < 30) : (sd1 σ i).1 k2 (σ.2.2.1 0) j2 = (newMsg σ (nI (σ.2.2.1 0)) (nI i) (nI (σ.2.1 (3 + i)).length)).1 k2 (σ.2.2.1 0) j2 := ladd_I (by omega)
theorem sd1_n : (sd1 σ i).2.2.1 0 = σ.2.2.1 0 + 1 := by unfold sd1; rw [ladd_n, nm_n]
theorem sd1_L (hk : k2 ≠ 0) : (sd1 σ i).2.1 k2 = σ.2.1 k2 := by unfold sd1; rw [ladd_Ln hk, nm_L]
theorem sd1_L0 : (sd1 σ i).2.1 0 = σ.2.1 0 ++ [σ.2.2.1 0] := by unfold sd1; rw [ladd_L1, nm_L]
theorem nm_v20 : (newMsg σ x y h).1 20 (σ.2.2.1 0) j2 = x := if_pos ⟨rfl, by decide, by decide⟩
theorem nm_v21 : (newMsg σ x y h).1 21 (σ.2.2.1 0) j2 = y := if_pos ⟨rfl, by decide, by decide⟩
theorem nm_v22 : (newMsg σ x y h).1 22 (σ.2.2.1 0) j2 = h := if_pos ⟨rfl, by decide, by decide⟩
theorem nm_v23 : (newMsg σ x y h).1 23 (σ.2.2.1 0) j2 = -1 := if_pos ⟨rfl, by decide, by decide⟩
theorem nm_v24 : (newMsg σ x y h).1 24 (σ.2.2.1 0) j2 = -1 := if_pos ⟨rfl, by decide, by decide⟩
theorem nm_v25 : (newMsg σ x y h).1 25 (σ.2.2.1 0) j2 = 0 := if_pos ⟨rfl, by decide, by decide⟩
theorem nm_v28 : (newMsg σ x y h).1 28 (σ.2.2.1 0) j2 = fNeg j2 := if_pos ⟨rfl, by decide, by decide⟩
theorem nm_v29 : (newMsg σ x y h).1 29 (σ.2.2.1 0) j2 = fNeg j2 := if_pos ⟨rfl, by decide, by decide⟩
theorem sd1_sdr : sdr (sd1 σ i) m = if m = σ.2.2.1 0 then (nI i).toNatClampNeg else sdr σ m := by
  unfold sdr
  by_cases hm : m = σ.2.2.1 0
  · rw [if_pos hm, hm, sd1_new (by decide), nm_v21]
  · rw [if_neg hm, sd1_I (fun q => hm q.1) (by decide)]
theorem WF.sd1 (W : WF σ) (hi : i < 4) (hn : σ.2.2.1 0 < 48) : WF (sd1 σ i) := by
  have e0 : ∀ k, k < 20 → ∀ o j, (Jvm.Pilot.@@N@@.sd1 σ i).1 k o j = σ.1 k o j := fun k hk o j => sd1_I (by omega) (by omega)
  have eold : ∀ k m j, k < 30 → m ≠ σ.2.2.1 0 → (Jvm.Pilot.@@N@@.sd1 σ i).1 k m j = σ.1 k m j := fun k m j hk hm => sd1_I (fun q => hm q.1) (by omega)
  have hi9 : (nI i).toNatClampNeg = i := cl_nI (by omega)
  obtain ⟨w1, w2, w3, w4, w5, w6, w7, w8, w9⟩ := W
  refine ⟨by rw [sd1_n]; omega, ?_, fun b hb => by rw [e0 10 (by decide)]; exact w3 b hb, fun m hm => ?_, fun m hm => ?_, ?_, fun k hk => ?_, fun b hb => by rw [e0 13 (by decide), e0 14 (by decide)]; exact w8 b hb, fun m hm => ?_⟩
  · rw [sd1_L0, sd1_n, w2, List.range_succ]
  · rw [sd1_n] at hm
    by_cases e : m = σ.2.2.1 0
    · rw [e, sd1_new (by decide), nm_v20]
    · rw [eold _ _ _ (by decide) e]; exact w4 m (by omega)
  · rw [sd1_n] at hm
    rw [sd1_sdr]
    by_cases e : m = σ.2.2.1 0
    · rw [if_pos e, e, sd1_new (by decide), nm_v21, hi9]
      exact ⟨rfl, hi⟩
    · rw [if_neg e, eold _ _ _ (by decide) e]; exact w5 m (by omega)
  · have : tk (Jvm.Pilot.@@N@@.sd1 σ i) = tk σ := by unfold tk; rw [e0 0 (by decide)]
    rw [this, e0 0 (by decide)]
    exact w6
  · rw [sd1_n]
    obtain ⟨q1, q2, q3⟩ := w7 k hk
    by_cases e : k = 0
    · subst e
      rw [sd1_L0]
      refine ⟨?_, fun x hx => ?_, ?_⟩
      · rw [w2]
        have := List.nodup_range (n := σ.2.2.1 0 + 1)
        rwa [List.range_succ] at this
      · rcases List.mem_append.mp hx with q | q
        · have := q2 x q; omega
        · simp at q; omega
      · unfold Jvm.Pilot.@@N@@.sd1
        rw [ladd_R, nm_L, nm_N]
        have hl : (σ.2.1 0).length = σ.2.2.1 0 := by rw [w2, List.length_range]
        split
        · exact q3
        · unfold newCap
          split <;> omega
    · rw [sd1_L e]
      refine ⟨q1, fun x hx => by have := q2 x hx; omega, ?_⟩
      unfold Jvm.Pilot.@@N@@.sd1
      rw [ladd_C e, nm_N]
      exact q3
  · rw [sd1_n] at hm
    by_cases e : m = σ.2.2.1 0
    · rw [e, sd1_new (by decide), nm_v25]
      exact Or.inl rfl
    · rw [eold _ _ _ (by decide) e]; exact w9 m (by omega)
theorem cp_I (hk : k2 ≠ 26) : (cpyS σ i m).1 k2 o2 j2 = σ.1 k2 o2 j2 := if_neg (fun q => hk q.1)
theorem cp_2 : (cpyS σ i m).2 = σ.2 := rfl
theorem cp_v (hj : j2 < 4) : (cpyS σ i m).1 26 m j2 = σ.1 16 i j2 := (if_pos ⟨rfl, rfl⟩).trans (if_pos hj)
theorem cp_n (hm : o2 ≠ m) : (cpyS σ i m).1 26 o2 j2 = σ.1 26 o2 j2 := if_neg (fun q => hm q.2)
theorem WF.cp (W : WF σ) : WF (cpyS σ i m) := W.of (fun k2 h2 => by funext o2 j2; exact cp_I (by omega)) rfl rfl (fun k hk => ⟨W.nd hk, fun x hx => W.el hk hx, W.cap hk⟩)
def sd2 (σ : Sg) (i : Nat) : Sg := S_pW (sd1 σ i) (σ.2.2.1 0)
def sd3 (σ : Sg) (i : Nat) : Sg := S_dl (sd2 σ i) (σ.2.2.1 0) i
def sd4 (σ : Sg) (i : Nat) : Sg := cpyS (sd3 σ i) i (σ.2.2.1 0)
def S_sd (σ : Sg) (i : Nat) : Sg := S_pr (sd4 σ i) (σ.2.2.1 0) i
theorem WF.sd2 (W : WF σ) (hi : i < 4) (hn : σ.2.2.1 0 < 48) : WF (sd2 σ i) := (W.sd1 hi hn).fi (by decide)
theorem sd2_n : (sd2 σ i).2.2.1 0 = σ.2.2.1 0 + 1 := sd1_n
theorem sd2_L (hk : k2 ≠ 0) : (sd2 σ i).2.1 k2 = σ.2.1 k2 := sd1_L hk
theorem new_notin (W : WF σ) (hk : k < 11) : σ.2.2.1 0 ∉ σ.2.1 k := fun q => Nat.lt_irrefl _ (W.el hk q)
theorem WF.sd3 (W : WF σ) (hi : i < 4) (hn : σ.2.2.1 0 < 48) : WF (sd3 σ i) := (W.sd2 hi hn).dl (by rw [sd2_n]; omega) hi (by rw [sd2_L (by omega)]; exact new_notin W (by omega)) (fun _ _ => by rw [sd2_L (by decide)]; exact new_notin W (by omega))
theorem sd3_n : (sd3 σ i).2.2.1 0 = σ.2.2.1 0 + 1 := dl_n.trans sd2_n
theorem WF.sd4 (W : WF σ) (hi : i < 4) (hn : σ.2.2.1 0 < 48) : WF (sd4 σ i) := (W.sd3 hi hn).cp
theorem sd4_n : (sd4 σ i).2.2.1 0 = σ.2.2.1 0 + 1 := sd3_n
theorem sd4_L2 : (sd4 σ i).2.1 2 = σ.2.1 2 := by
  show (sd3 σ i).2.1 2 = _
  unfold sd3
  rw [dl_L (by omega) (by decide), sd2_L (by decide)]
theorem WF.sd (W : WF σ) (hi : i < 4) (hn : σ.2.2.1 0 < 48) : WF (S_sd σ i) := (W.sd4 hi hn).pr (by rw [sd4_n]; omega) (by rw [sd4_L2]; exact new_notin W (by decide))
theorem sl_sd1 : sleB σ (sd1 σ i) = true := by
  have h1 : sleB σ (newMsg σ (nI (σ.2.2.1 0)) (nI i) (nI (σ.2.1 (3 + i)).length)) = true := by
    obtain ⟨a, b⟩ := nw_N (σ := σ) (i := nI (σ.2.2.1 0)) (s := nI i) (h := nI (σ.2.1 (3 + i)).length)
    simp [sleB, a, b]
  exact sl_trans h1 sl_ladd
theorem sl_s12 : sleB (sd1 σ i) (sd2 σ i) = true := by unfold sd2 S_pW; exact sl_fil
theorem sl_s23 : sleB (sd2 σ i) (sd3 σ i) = true := by unfold sd3; exact sl_dl
theorem cp_sl {τ : Sg} : sleB τ (cpyS τ i m) = true := sleB_refl τ
theorem sl_s34 : sleB (sd3 σ i) (sd4 σ i) = true := by unfold sd4; exact cp_sl
theorem sl_s45 : sleB (sd4 σ i) (S_sd σ i) = true := by unfold S_sd; exact sl_pr
theorem sl_sd : sleB σ (S_sd σ i) = true := sl_trans sl_sd1 (sl_trans sl_s12 (sl_trans sl_s23 (sl_trans sl_s34 sl_s45)))
theorem p_send (W : WF σ) (hi : i < 4) (ha : ¬ σ.1 13 i 0 = 0) (hf : ¬ fI (fvP σ) 4 < 4) (hn : σ.2.2.1 0 < 48) : f_X2_send [ar (0, 0), ai (nI i)] σ = some (.inl (some (ai (nI (σ.2.2.1 0)))), S_sd σ i) := by
  have e := ok_I (σ := σ) hi
  have e1 := ev_hF (σ := σ)
  rw [if_neg hf] at e1
  have hsz : ¬ (48 : Int32) ≤ nI (σ.2.2.1 0) := fun q => by
    have := (nI_leI (a := 48) (by decide) (by omega)).mp q
    omega
  have eA : b_sendA [some (ar (0, 0)), some (ai (nI i)), none, none] σ = some (.inl ([some (ar (0, 0)), some (ai (nI i)), some (ar (2, i)), none], σ)) := by
    simp (disch := first | omega | (simp only [w_ui2, w_ul3, w_uj3, ladd_n, lrem_N, grw_n, ladd_Ln, lrem_Ln, grw_L, List.length_range, fil_2, aO_2, pr_n, gN_n, d1_n, dl_n, fil_2, tO_2, tO_Ln, tI_n, stp_n]; omega)) only [w_I, w_L, w_L1, w_LR, w_LR1, w_LN, w_LN1, w_LN2, w_null, w_N, w_N1, w_B, w_B1, w_B2, w_GI, w_GI1, w_GR, w_GR1, w_A, w_A1, w_A2, w_A3, w_rd3, w_wr3, w_rd7, w_wr7, w_rd8, w_wr8, w_rd9, w_wr9, w_rd10, w_wr10, w_rm0, w_wm0, w_rm1, w_wm1, w_rm2, w_wm2, w_rm3, w_wm3, w_rm4, w_wm4, w_v0, w_v1, w_v2, w_v3, w_v4, w_v6, w_v7, w_v8, w_v9, w_v10, inB_t, cl_nI, w_ui1, w_ui2, w_ul1, w_ul3, w_lsz, w_lget, w_ladd, w_lrem, sl_ladd, sl_lrem, sl_grw, n_eq, n_lt, n_le, n_add, n_ad1, n_lt4, n_neg, n_lt0, n_ge0, w_M, w_M1, w_M2, w_T, w_T1, w_C, w_C1, w_Z, w_and, w_and1, w_or, w_or1, w_not, w_not1, w_tn, w_tn1, w_E, w_E1, w_E2, w_nl, w_nl1, w_nl2, w_C2_0, w_Z1_0, w_C2_1, w_Z1_1, w_C2_2, w_Z1_2, w_C2_3, w_Z1_3, w_C2_4, w_Z1_4, w_C2_5, w_Z1_5, w_seq, w_seq1, w_seq2, w_seq3, w_if, w_if1, w_skip, w_set, w_set1, w_setR, w_setR1, w_setN, w_setN1, w_setN2, w_inc, w_inc1, w_put, w_put1, w_put2, w_put3, w_wf0, w_wf1, w_po, w_po1, w_po2, w_ast, w_ast1, w_ast2, w_ast3, w_aop, w_aop1, w_aop2, w_aop3, w_aop4, w_ret, w_ret0, w_ret1, w_retN, w_retN1, w_retN2, w_retV, w_throw, w_aN, w_aI, w_aI1, w_aI2, w_aR, w_aR1, w_ask, w_ask1, w_V, w_V1, w_V2, w_S, w_S1, w_CI, w_CI1, w_CR, w_CR1, w_CN, w_CN1, w_CN2, w_CV, w_CV1, w_CV2, w_pop, w_pop1, w_popR, w_popR1, w_cast, w_cast1, w_run, lc_0, lc_I, lc_R, lc_N, lc_J, w_run1, w_run2, ite_s1, ite_01, ite_10, ite_nz, i_10, i_01, i_20, i_02, i_21, i_12, i_30, i_03, i_40, i_04, il_00, il_10, il_20, il_01, il_02, sl_r, sl_I, sl_L, w_J, w_LJ, w_LJ1, w_BJ, w_BJ1, w_BJ2, w_Sh, w_Sh1, w_Sh2, w_BC, w_BC1, w_BC2, w_IL, w_IL1, w_LI, w_LI1, w_Rm, w_Rm1, w_Rm2, w_AJ, w_AJ1, w_AJ2, w_AJ3, w_rj0, w_wj0, w_rj1, w_wj1, w_rj2, w_wj2, w_rj3, w_wj3, w_rj4, w_wj4, w_uj1, w_uj2, w_uj3, w_uj4, sl_J, w_setJ, w_setJ1, w_aJs, w_aJs1, w_aJs2, w_aJs3, w_jop, w_jop1, w_jop2, w_jop3, w_jop4, w_retJ, w_retJ1, w_aJ, w_aJ1, w_CJ, w_CJ1, List.getElem?_cons_zero, List.getElem?_cons_succ, List.set_cons_zero, List.set_cons_succ, List.map_cons, List.map_nil, List.length_cons, List.length_nil, List.cons_append, List.nil_append, List.append_nil, List.replicate_succ, List.replicate_zero, Nat.reduceSub, Nat.reduceAdd, Nat.reduceEqDiff, if_true, if_false, true_and, and_true, reduceCtorEq, ite_true, ite_false, Bool.false_eq_true, Nat.zero_add, Nat.add_zero, Nat.sub_self, Nat.reduceLT, decide_eq_true_eq, Bool.not_eq_true, not_true_eq_false, not_false_eq_true, decide_true, decide_false, decide_not, Bool.decide_eq_true, and_self, or_self, or_true, true_or, or_false, false_or, false_and, and_false, ne_eq, Bool.not_not, Bool.not_eq_eq_eq_not, Nat.reduceEqDiff, Nat.reduceLeDiff, Bool.not_true, Bool.not_false, eq_self, ladd_I, ladd_L1, ladd_Ln, ladd_n, ladd_J, lrem_I, lrem_L1, lrem_Ln, lrem_N, grw_I, grw_L, grw_n, grw_J, sdr_u, tk_u, sdr_a, tk_a, sdr_r, tk_r, rg_get, List.length_range, fil_2, fil_I, sdr_f, tk_f, sl_fil, aO_2, pr_n, aO_I, aO_L, sl_aO, pr_I, pr_L, sl_pr, gN_n, d1_n, dl_n, gN_I, gN_L, sl_gN, d1_I, d1_L, d1_L1, sl_d1, dl_I, dl_L, dl_L1, sl_dl, sdr_dl, tk_dl, sl_dH, fil_2, sl_gT, sl_tI, tO_2, tO_Ln, tO_I, sl_tO, tI_n, stp_n, sl_lO, sl_dp, sl_cV, sl_rst, b_sendA, e, ha, e1, W.sent, hsz]
  have W1 := W.sd1 hi hn
  have W2 := W.sd2 hi hn
  have W3 := W.sd3 hi hn
  have W4 := W.sd4 hi hn
  have hl0 : (σ.2.1 0).length = σ.2.2.1 0 := by rw [W.sent, List.length_range]
  have eL := w_ladd (σ := newMsg σ (nI (σ.2.2.1 0)) (nI i) (nI (σ.2.1 (3 + i)).length)) (k := 0) (m := σ.2.2.1 0) (by decide) (by rw [nm_n]; omega) (by rw [nm_L, hl0]; omega) (by rw [nm_N]; have := W.cap (k := 0) (by decide); omega)
  have eP := ev_pW (σ := sd1 σ i) (m := σ.2.2.1 0) (by rw [sd1_n]; omega)
  have eD := ev_dl (σ := sd2 σ i) W2 (m := σ.2.2.1 0) (by rw [sd2_n]; omega) hi (by rw [sd2_L (by omega)]; exact new_notin W (by omega))
  have eR := ev_pr (σ := sd4 σ i) W4 (m := σ.2.2.1 0) (by rw [sd4_n]; omega) hi
  have hmid := (W.sd hi hn).mid (m := σ.2.2.1 0) (by unfold S_sd; rw [pr_n, sd4_n]; omega)
  have d1 : ladd (newMsg σ (nI (σ.2.2.1 0)) (nI i) (nI (σ.2.1 (3 + i)).length)) 0 (σ.2.2.1 0) = sd1 σ i := rfl
  have d2 : S_pW (sd1 σ i) (σ.2.2.1 0) = sd2 σ i := rfl
  have d3 : S_dl (sd2 σ i) (σ.2.2.1 0) i = sd3 σ i := rfl
  have d4 : cpyS (sd3 σ i) i (σ.2.2.1 0) = sd4 σ i := rfl
  have d5 : S_pr (sd4 σ i) (σ.2.2.1 0) i = S_sd σ i := rfl
  have n0 : σ.2.2.1 0 < (newMsg σ (nI (σ.2.2.1 0)) (nI i) (nI (σ.2.1 (3 + i)).length)).2.2.1 0 := by rw [nm_n]; omega
  have s1 : sleB (newMsg σ (nI (σ.2.2.1 0)) (nI i) (nI (σ.2.1 (3 + i)).length)) (sd1 σ i) = true := by unfold sd1; exact sl_ladd
  have s2 : sleB (sd1 σ i) (sd2 σ i) = true := sl_s12
  have s3 : sleB (sd2 σ i) (sd3 σ i) = true := sl_s23
  have s5 : sleB (sd4 σ i) (S_sd σ i) = true := sl_s45
  have n1 : σ.2.2.1 0 < (sd1 σ i).2.2.1 0 := by rw [sd1_n]; omega
  have n2 : σ.2.2.1 0 < (sd2 σ i).2.2.1 0 := by rw [sd2_n]; omega
  have n3 : σ.2.2.1 0 < (sd3 σ i).2.2.1 0 := by rw [sd3_n]; omega
  have n4 : σ.2.2.1 0 < (sd4 σ i).2.2.1 0 := by rw [sd4_n]; omega
  have n5 : σ.2.2.1 0 < (S_sd σ i).2.2.1 0 := by unfold S_sd; rw [pr_n, sd4_n]; omega
  rw [d1] at eL
  rw [d2] at eP
  rw [d3] at eD
  rw [d5] at eR
  have eC : sCp [some (ar (0, 0)), some (ai (nI i)), some (ar (2, i)), some (ar (6, σ.2.2.1 0))] (sd3 σ i) = some (.inl ([some (ar (0, 0)), some (ai (nI i)), some (ar (2, i)), some (ar (6, σ.2.2.1 0))], sd4 σ i)) := if_pos ⟨hi, n3⟩
  have eX : b_sendD [some (ar (0, 0)), some (ai (nI i)), some (ar (2, i)), some (ar (6, σ.2.2.1 0))] (newMsg σ (nI (σ.2.2.1 0)) (nI i) (nI (σ.2.1 (3 + i)).length)) = some (.inr (.inl (some (ai (nI (σ.2.2.1 0)))), S_sd σ i)) := by
    simp (disch := first | omega | (simp only [w_ui2, w_ul3, w_uj3, ladd_n, lrem_N, grw_n, ladd_Ln, lrem_Ln, grw_L, List.length_range, fil_2, aO_2, pr_n, gN_n, d1_n, dl_n, fil_2, tO_2, tO_Ln, tI_n, stp_n]; omega)) only [w_I, w_L, w_L1, w_LR, w_LR1, w_LN, w_LN1, w_LN2, w_null, w_N, w_N1, w_B, w_B1, w_B2, w_GI, w_GI1, w_GR, w_GR1, w_A, w_A1, w_A2, w_A3, w_rd3, w_wr3, w_rd7, w_wr7, w_rd8, w_wr8, w_rd9, w_wr9, w_rd10, w_wr10, w_rm0, w_wm0, w_rm1, w_wm1, w_rm2, w_wm2, w_rm3, w_wm3, w_rm4, w_wm4, w_v0, w_v1, w_v2, w_v3, w_v4, w_v6, w_v7, w_v8, w_v9, w_v10, inB_t, cl_nI, w_ui1, w_ui2, w_ul1, w_ul3, w_lsz, w_lget, w_ladd, w_lrem, sl_ladd, sl_lrem, sl_grw, n_eq, n_lt, n_le, n_add, n_ad1, n_lt4, n_neg, n_lt0, n_ge0, w_M, w_M1, w_M2, w_T, w_T1, w_C, w_C1, w_Z, w_and, w_and1, w_or, w_or1, w_not, w_not1, w_tn, w_tn1, w_E, w_E1, w_E2, w_nl, w_nl1, w_nl2, w_C2_0, w_Z1_0, w_C2_1, w_Z1_1, w_C2_2, w_Z1_2, w_C2_3, w_Z1_3, w_C2_4, w_Z1_4, w_C2_5, w_Z1_5, w_seq, w_seq1, w_seq2, w_seq3, w_if, w_if1, w_skip, w_set, w_set1, w_setR, w_setR1, w_setN, w_setN1, w_setN2, w_inc, w_inc1, w_put, w_put1, w_put2, w_put3, w_wf0, w_wf1, w_po, w_po1, w_po2, w_ast, w_ast1, w_ast2, w_ast3, w_aop, w_aop1, w_aop2, w_aop3, w_aop4, w_ret, w_ret0, w_ret1, w_retN, w_retN1, w_retN2, w_retV, w_throw, w_aN, w_aI, w_aI1, w_aI2, w_aR, w_aR1, w_ask, w_ask1, w_V, w_V1, w_V2, w_S, w_S1, w_CI, w_CI1, w_CR, w_CR1, w_CN, w_CN1, w_CN2, w_CV, w_CV1, w_CV2, w_pop, w_pop1, w_popR, w_popR1, w_cast, w_cast1, w_run, lc_0, lc_I, lc_R, lc_N, lc_J, w_run1, w_run2, ite_s1, ite_01, ite_10, ite_nz, i_10, i_01, i_20, i_02, i_21, i_12, i_30, i_03, i_40, i_04, il_00, il_10, il_20, il_01, il_02, sl_r, sl_I, sl_L, w_J, w_LJ, w_LJ1, w_BJ, w_BJ1, w_BJ2, w_Sh, w_Sh1, w_Sh2, w_BC, w_BC1, w_BC2, w_IL, w_IL1, w_LI, w_LI1, w_Rm, w_Rm1, w_Rm2, w_AJ, w_AJ1, w_AJ2, w_AJ3, w_rj0, w_wj0, w_rj1, w_wj1, w_rj2, w_wj2, w_rj3, w_wj3, w_rj4, w_wj4, w_uj1, w_uj2, w_uj3, w_uj4, sl_J, w_setJ, w_setJ1, w_aJs, w_aJs1, w_aJs2, w_aJs3, w_jop, w_jop1, w_jop2, w_jop3, w_jop4, w_retJ, w_retJ1, w_aJ, w_aJ1, w_CJ, w_CJ1, List.getElem?_cons_zero, List.getElem?_cons_succ, List.set_cons_zero, List.set_cons_succ, List.map_cons, List.map_nil, List.length_cons, List.length_nil, List.cons_append, List.nil_append, List.append_nil, List.replicate_succ, List.replicate_zero, Nat.reduceSub, Nat.reduceAdd, Nat.reduceEqDiff, if_true, if_false, true_and, and_true, reduceCtorEq, ite_true, ite_false, Bool.false_eq_true, Nat.zero_add, Nat.add_zero, Nat.sub_self, Nat.reduceLT, decide_eq_true_eq, Bool.not_eq_true, not_true_eq_false, not_false_eq_true, decide_true, decide_false, decide_not, Bool.decide_eq_true, and_self, or_self, or_true, true_or, or_false, false_or, false_and, and_false, ne_eq, Bool.not_not, Bool.not_eq_eq_eq_not, Nat.reduceEqDiff, Nat.reduceLeDiff, Bool.not_true, Bool.not_false, eq_self, ladd_I, ladd_L1, ladd_Ln, ladd_n, ladd_J, lrem_I, lrem_L1, lrem_Ln, lrem_N, grw_I, grw_L, grw_n, grw_J, sdr_u, tk_u, sdr_a, tk_a, sdr_r, tk_r, rg_get, List.length_range, fil_2, fil_I, sdr_f, tk_f, sl_fil, aO_2, pr_n, aO_I, aO_L, sl_aO, pr_I, pr_L, sl_pr, gN_n, d1_n, dl_n, gN_I, gN_L, sl_gN, d1_I, d1_L, d1_L1, sl_d1, dl_I, dl_L, dl_L1, sl_dl, sdr_dl, tk_dl, sl_dH, fil_2, sl_gT, sl_tI, tO_2, tO_Ln, tO_I, sl_tO, tI_n, stp_n, sl_lO, sl_dp, sl_cV, sl_rst, b_sendD, b_sendB, b_sendC, eL, s1, eP, s2, eD, s3, eC, eR, s5, hmid]
  have e9 : f_X2_send [ar (0, 0), ai (nI i)] σ = (b_sendA [some (ar (0, 0)), some (ai (nI i)), none, none] σ).bind fun o => match o with
    | .inr q => some q
    | .inl (lc, τ) => match lc with
      | [some (.inr (0, 0)), some (.inl (.int x)), some (.inr (2, i)), y] => if i < 4 ∧ τ.2.2.1 0 = σ.2.2.1 0 then
          (b_sendD [some (ar (0, 0)), some (ai x), some (ar (2, i)), some (ar (6, τ.2.2.1 0))] (newMsg τ (nI (τ.2.1 0).length) x (nI (τ.2.1 (3 + i)).length))).bind fun o => match o with
            | .inr q => some q
            | .inl _ => none
        else none
      | _ => none := rfl
  rw [e9, eA]
  simp only [Option.bind_some]
  rw [if_pos ⟨hi, trivial⟩, hl0, eX]
  rfl
theorem t_send (W : WF σ) (hi : i < 4) (hh : σ.1 13 i 0 = 0 ∨ fI (fvP σ) 4 < 4 ∨ ¬ σ.2.2.1 0 < 48) : f_X2_send [ar (0, 0), ai (nI i)] σ = some (.inr 2, grw σ 1 6) := by
  have e := ok_I (σ := σ) hi
  have e1 := ev_hF (σ := σ)
  have eA : b_sendA [some (ar (0, 0)), some (ai (nI i)), none, none] σ = some (.inr (.inr 2, grw σ 1 6)) := by
    by_cases ha : σ.1 13 i 0 = 0
    · simp (disch := first | omega | (simp only [w_ui2, w_ul3, w_uj3, ladd_n, lrem_N, grw_n, ladd_Ln, lrem_Ln, grw_L, List.length_range, fil_2, aO_2, pr_n, gN_n, d1_n, dl_n, fil_2, tO_2, tO_Ln, tI_n, stp_n]; omega)) only [w_I, w_L, w_L1, w_LR, w_LR1, w_LN, w_LN1, w_LN2, w_null, w_N, w_N1, w_B, w_B1, w_B2, w_GI, w_GI1, w_GR, w_GR1, w_A, w_A1, w_A2, w_A3, w_rd3, w_wr3, w_rd7, w_wr7, w_rd8, w_wr8, w_rd9, w_wr9, w_rd10, w_wr10, w_rm0, w_wm0, w_rm1, w_wm1, w_rm2, w_wm2, w_rm3, w_wm3, w_rm4, w_wm4, w_v0, w_v1, w_v2, w_v3, w_v4, w_v6, w_v7, w_v8, w_v9, w_v10, inB_t, cl_nI, w_ui1, w_ui2, w_ul1, w_ul3, w_lsz, w_lget, w_ladd, w_lrem, sl_ladd, sl_lrem, sl_grw, n_eq, n_lt, n_le, n_add, n_ad1, n_lt4, n_neg, n_lt0, n_ge0, w_M, w_M1, w_M2, w_T, w_T1, w_C, w_C1, w_Z, w_and, w_and1, w_or, w_or1, w_not, w_not1, w_tn, w_tn1, w_E, w_E1, w_E2, w_nl, w_nl1, w_nl2, w_C2_0, w_Z1_0, w_C2_1, w_Z1_1, w_C2_2, w_Z1_2, w_C2_3, w_Z1_3, w_C2_4, w_Z1_4, w_C2_5, w_Z1_5, w_seq, w_seq1, w_seq2, w_seq3, w_if, w_if1, w_skip, w_set, w_set1, w_setR, w_setR1, w_setN, w_setN1, w_setN2, w_inc, w_inc1, w_put, w_put1, w_put2, w_put3, w_wf0, w_wf1, w_po, w_po1, w_po2, w_ast, w_ast1, w_ast2, w_ast3, w_aop, w_aop1, w_aop2, w_aop3, w_aop4, w_ret, w_ret0, w_ret1, w_retN, w_retN1, w_retN2, w_retV, w_throw, w_aN, w_aI, w_aI1, w_aI2, w_aR, w_aR1, w_ask, w_ask1, w_V, w_V1, w_V2, w_S, w_S1, w_CI, w_CI1, w_CR, w_CR1, w_CN, w_CN1, w_CN2, w_CV, w_CV1, w_CV2, w_pop, w_pop1, w_popR, w_popR1, w_cast, w_cast1, w_run, lc_0, lc_I, lc_R, lc_N, lc_J, w_run1, w_run2, ite_s1, ite_01, ite_10, ite_nz, i_10, i_01, i_20, i_02, i_21, i_12, i_30, i_03, i_40, i_04, il_00, il_10, il_20, il_01, il_02, sl_r, sl_I, sl_L, w_J, w_LJ, w_LJ1, w_BJ, w_BJ1, w_BJ2, w_Sh, w_Sh1, w_Sh2, w_BC, w_BC1, w_BC2, w_IL, w_IL1, w_LI, w_LI1, w_Rm, w_Rm1, w_Rm2, w_AJ, w_AJ1, w_AJ2, w_AJ3, w_rj0, w_wj0, w_rj1, w_wj1, w_rj2, w_wj2, w_rj3, w_wj3, w_rj4, w_wj4, w_uj1, w_uj2, w_uj3, w_uj4, sl_J, w_setJ, w_setJ1, w_aJs, w_aJs1, w_aJs2, w_aJs3, w_jop, w_jop1, w_jop2, w_jop3, w_jop4, w_retJ, w_retJ1, w_aJ, w_aJ1, w_CJ, w_CJ1, List.getElem?_cons_zero, List.getElem?_cons_succ, List.set_cons_zero, List.set_cons_succ, List.map_cons, List.map_nil, List.length_cons, List.length_nil, List.cons_append, List.nil_append, List.append_nil, List.replicate_succ, List.replicate_zero, Nat.reduceSub, Nat.reduceAdd, Nat.reduceEqDiff, if_true, if_false, true_and, and_true, reduceCtorEq, ite_true, ite_false, Bool.false_eq_true, Nat.zero_add, Nat.add_zero, Nat.sub_self, Nat.reduceLT, decide_eq_true_eq, Bool.not_eq_true, not_true_eq_false, not_false_eq_true, decide_true, decide_false, decide_not, Bool.decide_eq_true, and_self, or_self, or_true, true_or, or_false, false_or, false_and, and_false, ne_eq, Bool.not_not, Bool.not_eq_eq_eq_not, Nat.reduceEqDiff, Nat.reduceLeDiff, Bool.not_true, Bool.not_false, eq_self, ladd_I, ladd_L1, ladd_Ln, ladd_n, ladd_J, lrem_I, lrem_L1, lrem_Ln, lrem_N, grw_I, grw_L, grw_n, grw_J, sdr_u, tk_u, sdr_a, tk_a, sdr_r, tk_r, rg_get, List.length_range, fil_2, fil_I, sdr_f, tk_f, sl_fil, aO_2, pr_n, aO_I, aO_L, sl_aO, pr_I, pr_L, sl_pr, gN_n, d1_n, dl_n, gN_I, gN_L, sl_gN, d1_I, d1_L, d1_L1, sl_d1, dl_I, dl_L, dl_L1, sl_dl, sdr_dl, tk_dl, sl_dH, fil_2, sl_gT, sl_tI, tO_2, tO_Ln, tO_I, sl_tO, tI_n, stp_n, sl_lO, sl_dp, sl_cV, sl_rst, b_sendA, e, ha]
    · by_cases hf : fI (fvP σ) 4 < 4
      · rw [if_pos hf] at e1
        simp (disch := first | omega | (simp only [w_ui2, w_ul3, w_uj3, ladd_n, lrem_N, grw_n, ladd_Ln, lrem_Ln, grw_L, List.length_range, fil_2, aO_2, pr_n, gN_n, d1_n, dl_n, fil_2, tO_2, tO_Ln, tI_n, stp_n]; omega)) only [w_I, w_L, w_L1, w_LR, w_LR1, w_LN, w_LN1, w_LN2, w_null, w_N, w_N1, w_B, w_B1, w_B2, w_GI, w_GI1, w_GR, w_GR1, w_A, w_A1, w_A2, w_A3, w_rd3, w_wr3, w_rd7, w_wr7, w_rd8, w_wr8, w_rd9, w_wr9, w_rd10, w_wr10, w_rm0, w_wm0, w_rm1, w_wm1, w_rm2, w_wm2, w_rm3, w_wm3, w_rm4, w_wm4, w_v0, w_v1, w_v2, w_v3, w_v4, w_v6, w_v7, w_v8, w_v9, w_v10, inB_t, cl_nI, w_ui1, w_ui2, w_ul1, w_ul3, w_lsz, w_lget, w_ladd, w_lrem, sl_ladd, sl_lrem, sl_grw, n_eq, n_lt, n_le, n_add, n_ad1, n_lt4, n_neg, n_lt0, n_ge0, w_M, w_M1, w_M2, w_T, w_T1, w_C, w_C1, w_Z, w_and, w_and1, w_or, w_or1, w_not, w_not1, w_tn, w_tn1, w_E, w_E1, w_E2, w_nl, w_nl1, w_nl2, w_C2_0, w_Z1_0, w_C2_1, w_Z1_1, w_C2_2, w_Z1_2, w_C2_3, w_Z1_3, w_C2_4, w_Z1_4, w_C2_5, w_Z1_5, w_seq, w_seq1, w_seq2, w_seq3, w_if, w_if1, w_skip, w_set, w_set1, w_setR, w_setR1, w_setN, w_setN1, w_setN2, w_inc, w_inc1, w_put, w_put1, w_put2, w_put3, w_wf0, w_wf1, w_po, w_po1, w_po2, w_ast, w_ast1, w_ast2, w_ast3, w_aop, w_aop1, w_aop2, w_aop3, w_aop4, w_ret, w_ret0, w_ret1, w_retN, w_retN1, w_retN2, w_retV, w_throw, w_aN, w_aI, w_aI1, w_aI2, w_aR, w_aR1, w_ask, w_ask1, w_V, w_V1, w_V2, w_S, w_S1, w_CI, w_CI1, w_CR, w_CR1, w_CN, w_CN1, w_CN2, w_CV, w_CV1, w_CV2, w_pop, w_pop1, w_popR, w_popR1, w_cast, w_cast1, w_run, lc_0, lc_I, lc_R, lc_N, lc_J, w_run1, w_run2, ite_s1, ite_01, ite_10, ite_nz, i_10, i_01, i_20, i_02, i_21, i_12, i_30, i_03, i_40, i_04, il_00, il_10, il_20, il_01, il_02, sl_r, sl_I, sl_L, w_J, w_LJ, w_LJ1, w_BJ, w_BJ1, w_BJ2, w_Sh, w_Sh1, w_Sh2, w_BC, w_BC1, w_BC2, w_IL, w_IL1, w_LI, w_LI1, w_Rm, w_Rm1, w_Rm2, w_AJ, w_AJ1, w_AJ2, w_AJ3, w_rj0, w_wj0, w_rj1, w_wj1, w_rj2, w_wj2, w_rj3, w_wj3, w_rj4, w_wj4, w_uj1, w_uj2, w_uj3, w_uj4, sl_J, w_setJ, w_setJ1, w_aJs, w_aJs1, w_aJs2, w_aJs3, w_jop, w_jop1, w_jop2, w_jop3, w_jop4, w_retJ, w_retJ1, w_aJ, w_aJ1, w_CJ, w_CJ1, List.getElem?_cons_zero, List.getElem?_cons_succ, List.set_cons_zero, List.set_cons_succ, List.map_cons, List.map_nil, List.length_cons, List.length_nil, List.cons_append, List.nil_append, List.append_nil, List.replicate_succ, List.replicate_zero, Nat.reduceSub, Nat.reduceAdd, Nat.reduceEqDiff, if_true, if_false, true_and, and_true, reduceCtorEq, ite_true, ite_false, Bool.false_eq_true, Nat.zero_add, Nat.add_zero, Nat.sub_self, Nat.reduceLT, decide_eq_true_eq, Bool.not_eq_true, not_true_eq_false, not_false_eq_true, decide_true, decide_false, decide_not, Bool.decide_eq_true, and_self, or_self, or_true, true_or, or_false, false_or, false_and, and_false, ne_eq, Bool.not_not, Bool.not_eq_eq_eq_not, Nat.reduceEqDiff, Nat.reduceLeDiff, Bool.not_true, Bool.not_false, eq_self, ladd_I, ladd_L1, ladd_Ln, ladd_n, ladd_J, lrem_I, lrem_L1, lrem_Ln, lrem_N, grw_I, grw_L, grw_n, grw_J, sdr_u, tk_u, sdr_a, tk_a, sdr_r, tk_r, rg_get, List.length_range, fil_2, fil_I, sdr_f, tk_f, sl_fil, aO_2, pr_n, aO_I, aO_L, sl_aO, pr_I, pr_L, sl_pr, gN_n, d1_n, dl_n, gN_I, gN_L, sl_gN, d1_I, d1_L, d1_L1, sl_d1, dl_I, dl_L, dl_L1, sl_dl, sdr_dl, tk_dl, sl_dH, fil_2, sl_gT, sl_tI, tO_2, tO_Ln, tO_I, sl_tO, tI_n, stp_n, sl_lO, sl_dp, sl_cV, sl_rst, b_sendA, e, ha, e1]
      · rw [if_neg hf] at e1
        have hn := (hh.resolve_left ha).resolve_left hf
        have h48 : σ.2.2.1 0 = 48 := by have := W.n; omega
        have hsz : (48 : Int32) ≤ nI (σ.2.2.1 0) := by rw [h48]; decide
        simp (disch := first | omega | (simp only [w_ui2, w_ul3, w_uj3, ladd_n, lrem_N, grw_n, ladd_Ln, lrem_Ln, grw_L, List.length_range, fil_2, aO_2, pr_n, gN_n, d1_n, dl_n, fil_2, tO_2, tO_Ln, tI_n, stp_n]; omega)) only [w_I, w_L, w_L1, w_LR, w_LR1, w_LN, w_LN1, w_LN2, w_null, w_N, w_N1, w_B, w_B1, w_B2, w_GI, w_GI1, w_GR, w_GR1, w_A, w_A1, w_A2, w_A3, w_rd3, w_wr3, w_rd7, w_wr7, w_rd8, w_wr8, w_rd9, w_wr9, w_rd10, w_wr10, w_rm0, w_wm0, w_rm1, w_wm1, w_rm2, w_wm2, w_rm3, w_wm3, w_rm4, w_wm4, w_v0, w_v1, w_v2, w_v3, w_v4, w_v6, w_v7, w_v8, w_v9, w_v10, inB_t, cl_nI, w_ui1, w_ui2, w_ul1, w_ul3, w_lsz, w_lget, w_ladd, w_lrem, sl_ladd, sl_lrem, sl_grw, n_eq, n_lt, n_le, n_add, n_ad1, n_lt4, n_neg, n_lt0, n_ge0, w_M, w_M1, w_M2, w_T, w_T1, w_C, w_C1, w_Z, w_and, w_and1, w_or, w_or1, w_not, w_not1, w_tn, w_tn1, w_E, w_E1, w_E2, w_nl, w_nl1, w_nl2, w_C2_0, w_Z1_0, w_C2_1, w_Z1_1, w_C2_2, w_Z1_2, w_C2_3, w_Z1_3, w_C2_4, w_Z1_4, w_C2_5, w_Z1_5, w_seq, w_seq1, w_seq2, w_seq3, w_if, w_if1, w_skip, w_set, w_set1, w_setR, w_setR1, w_setN, w_setN1, w_setN2, w_inc, w_inc1, w_put, w_put1, w_put2, w_put3, w_wf0, w_wf1, w_po, w_po1, w_po2, w_ast, w_ast1, w_ast2, w_ast3, w_aop, w_aop1, w_aop2, w_aop3, w_aop4, w_ret, w_ret0, w_ret1, w_retN, w_retN1, w_retN2, w_retV, w_throw, w_aN, w_aI, w_aI1, w_aI2, w_aR, w_aR1, w_ask, w_ask1, w_V, w_V1, w_V2, w_S, w_S1, w_CI, w_CI1, w_CR, w_CR1, w_CN, w_CN1, w_CN2, w_CV, w_CV1, w_CV2, w_pop, w_pop1, w_popR, w_popR1, w_cast, w_cast1, w_run, lc_0, lc_I, lc_R, lc_N, lc_J, w_run1, w_run2, ite_s1, ite_01, ite_10, ite_nz, i_10, i_01, i_20, i_02, i_21, i_12, i_30, i_03, i_40, i_04, il_00, il_10, il_20, il_01, il_02, sl_r, sl_I, sl_L, w_J, w_LJ, w_LJ1, w_BJ, w_BJ1, w_BJ2, w_Sh, w_Sh1, w_Sh2, w_BC, w_BC1, w_BC2, w_IL, w_IL1, w_LI, w_LI1, w_Rm, w_Rm1, w_Rm2, w_AJ, w_AJ1, w_AJ2, w_AJ3, w_rj0, w_wj0, w_rj1, w_wj1, w_rj2, w_wj2, w_rj3, w_wj3, w_rj4, w_wj4, w_uj1, w_uj2, w_uj3, w_uj4, sl_J, w_setJ, w_setJ1, w_aJs, w_aJs1, w_aJs2, w_aJs3, w_jop, w_jop1, w_jop2, w_jop3, w_jop4, w_retJ, w_retJ1, w_aJ, w_aJ1, w_CJ, w_CJ1, List.getElem?_cons_zero, List.getElem?_cons_succ, List.set_cons_zero, List.set_cons_succ, List.map_cons, List.map_nil, List.length_cons, List.length_nil, List.cons_append, List.nil_append, List.append_nil, List.replicate_succ, List.replicate_zero, Nat.reduceSub, Nat.reduceAdd, Nat.reduceEqDiff, if_true, if_false, true_and, and_true, reduceCtorEq, ite_true, ite_false, Bool.false_eq_true, Nat.zero_add, Nat.add_zero, Nat.sub_self, Nat.reduceLT, decide_eq_true_eq, Bool.not_eq_true, not_true_eq_false, not_false_eq_true, decide_true, decide_false, decide_not, Bool.decide_eq_true, and_self, or_self, or_true, true_or, or_false, false_or, false_and, and_false, ne_eq, Bool.not_not, Bool.not_eq_eq_eq_not, Nat.reduceEqDiff, Nat.reduceLeDiff, Bool.not_true, Bool.not_false, eq_self, ladd_I, ladd_L1, ladd_Ln, ladd_n, ladd_J, lrem_I, lrem_L1, lrem_Ln, lrem_N, grw_I, grw_L, grw_n, grw_J, sdr_u, tk_u, sdr_a, tk_a, sdr_r, tk_r, rg_get, List.length_range, fil_2, fil_I, sdr_f, tk_f, sl_fil, aO_2, pr_n, aO_I, aO_L, sl_aO, pr_I, pr_L, sl_pr, gN_n, d1_n, dl_n, gN_I, gN_L, sl_gN, d1_I, d1_L, d1_L1, sl_d1, dl_I, dl_L, dl_L1, sl_dl, sdr_dl, tk_dl, sl_dH, fil_2, sl_gT, sl_tI, tO_2, tO_Ln, tO_I, sl_tO, tI_n, stp_n, sl_lO, sl_dp, sl_cV, sl_rst, b_sendA, e, ha, e1, W.sent, hsz]
  unfold f_X2_send
  have e9 : lcOf [ar (0, 0), ai (nI i)] ++ List.replicate (4 - (lcOf [ar (0, 0), ai (nI i)]).length) none = [some (ar (0, 0)), some (ai (nI i)), none, none] := rfl
  rw [e9, eA]
  rfl
theorem n_send (h : ¬ isI x) : f_X2_send [ar (0, 0), ai x] σ = some (.inr 1, grw σ 1 6) := by
  have e := no_I (σ := σ) h
  have eA : b_sendA [some (ar (0, 0)), some (ai x), none, none] σ = some (.inr (.inr 1, grw σ 1 6)) := by simp (disch := first | omega | (simp only [w_ui2, w_ul3, w_uj3, ladd_n, lrem_N, grw_n, ladd_Ln, lrem_Ln, grw_L, List.length_range, fil_2, aO_2, pr_n, gN_n, d1_n, dl_n, fil_2, tO_2, tO_Ln, tI_n, stp_n]; omega)) only [w_I, w_L, w_L1, w_LR, w_LR1, w_LN, w_LN1, w_LN2, w_null, w_N, w_N1, w_B, w_B1, w_B2, w_GI, w_GI1, w_GR, w_GR1, w_A, w_A1, w_A2, w_A3, w_rd3, w_wr3, w_rd7, w_wr7, w_rd8, w_wr8, w_rd9, w_wr9, w_rd10, w_wr10, w_rm0, w_wm0, w_rm1, w_wm1, w_rm2, w_wm2, w_rm3, w_wm3, w_rm4, w_wm4, w_v0, w_v1, w_v2, w_v3, w_v4, w_v6, w_v7, w_v8, w_v9, w_v10, inB_t, cl_nI, w_ui1, w_ui2, w_ul1, w_ul3, w_lsz, w_lget, w_ladd, w_lrem, sl_ladd, sl_lrem, sl_grw, n_eq, n_lt, n_le, n_add, n_ad1, n_lt4, n_neg, n_lt0, n_ge0, w_M, w_M1, w_M2, w_T, w_T1, w_C, w_C1, w_Z, w_and, w_and1, w_or, w_or1, w_not, w_not1, w_tn, w_tn1, w_E, w_E1, w_E2, w_nl, w_nl1, w_nl2, w_C2_0, w_Z1_0, w_C2_1, w_Z1_1, w_C2_2, w_Z1_2, w_C2_3, w_Z1_3, w_C2_4, w_Z1_4, w_C2_5, w_Z1_5, w_seq, w_seq1, w_seq2, w_seq3, w_if, w_if1, w_skip, w_set, w_set1, w_setR, w_setR1, w_setN, w_setN1, w_setN2, w_inc, w_inc1, w_put, w_put1, w_put2, w_put3, w_wf0, w_wf1, w_po, w_po1, w_po2, w_ast, w_ast1, w_ast2, w_ast3, w_aop, w_aop1, w_aop2, w_aop3, w_aop4, w_ret, w_ret0, w_ret1, w_retN, w_retN1, w_retN2, w_retV, w_throw, w_aN, w_aI, w_aI1, w_aI2, w_aR, w_aR1, w_ask, w_ask1, w_V, w_V1, w_V2, w_S, w_S1, w_CI, w_CI1, w_CR, w_CR1, w_CN, w_CN1, w_CN2, w_CV, w_CV1, w_CV2, w_pop, w_pop1, w_popR, w_popR1, w_cast, w_cast1, w_run, lc_0, lc_I, lc_R, lc_N, lc_J, w_run1, w_run2, ite_s1, ite_01, ite_10, ite_nz, i_10, i_01, i_20, i_02, i_21, i_12, i_30, i_03, i_40, i_04, il_00, il_10, il_20, il_01, il_02, sl_r, sl_I, sl_L, w_J, w_LJ, w_LJ1, w_BJ, w_BJ1, w_BJ2, w_Sh, w_Sh1, w_Sh2, w_BC, w_BC1, w_BC2, w_IL, w_IL1, w_LI, w_LI1, w_Rm, w_Rm1, w_Rm2, w_AJ, w_AJ1, w_AJ2, w_AJ3, w_rj0, w_wj0, w_rj1, w_wj1, w_rj2, w_wj2, w_rj3, w_wj3, w_rj4, w_wj4, w_uj1, w_uj2, w_uj3, w_uj4, sl_J, w_setJ, w_setJ1, w_aJs, w_aJs1, w_aJs2, w_aJs3, w_jop, w_jop1, w_jop2, w_jop3, w_jop4, w_retJ, w_retJ1, w_aJ, w_aJ1, w_CJ, w_CJ1, List.getElem?_cons_zero, List.getElem?_cons_succ, List.set_cons_zero, List.set_cons_succ, List.map_cons, List.map_nil, List.length_cons, List.length_nil, List.cons_append, List.nil_append, List.append_nil, List.replicate_succ, List.replicate_zero, Nat.reduceSub, Nat.reduceAdd, Nat.reduceEqDiff, if_true, if_false, true_and, and_true, reduceCtorEq, ite_true, ite_false, Bool.false_eq_true, Nat.zero_add, Nat.add_zero, Nat.sub_self, Nat.reduceLT, decide_eq_true_eq, Bool.not_eq_true, not_true_eq_false, not_false_eq_true, decide_true, decide_false, decide_not, Bool.decide_eq_true, and_self, or_self, or_true, true_or, or_false, false_or, false_and, and_false, ne_eq, Bool.not_not, Bool.not_eq_eq_eq_not, Nat.reduceEqDiff, Nat.reduceLeDiff, Bool.not_true, Bool.not_false, eq_self, ladd_I, ladd_L1, ladd_Ln, ladd_n, ladd_J, lrem_I, lrem_L1, lrem_Ln, lrem_N, grw_I, grw_L, grw_n, grw_J, sdr_u, tk_u, sdr_a, tk_a, sdr_r, tk_r, rg_get, List.length_range, fil_2, fil_I, sdr_f, tk_f, sl_fil, aO_2, pr_n, aO_I, aO_L, sl_aO, pr_I, pr_L, sl_pr, gN_n, d1_n, dl_n, gN_I, gN_L, sl_gN, d1_I, d1_L, d1_L1, sl_d1, dl_I, dl_L, dl_L1, sl_dl, sdr_dl, tk_dl, sl_dH, fil_2, sl_gT, sl_tI, tO_2, tO_Ln, tO_I, sl_tO, tI_n, stp_n, sl_lO, sl_dp, sl_cV, sl_rst, b_sendA, e]
  unfold f_X2_send
  have e9 : lcOf [ar (0, 0), ai x] ++ List.replicate (4 - (lcOf [ar (0, 0), ai x]).length) none = [some (ar (0, 0)), some (ai x), none, none] := rfl
  rw [e9, eA]
  rfl
end SND
