/-! pure: the law's flush -/
section FLE
variable {f e : Prop} {σ σ' τ υ ρ : Sg} {A B m i j k a b q n z d p t m0 i0 : Nat} {x y : Int32} {go al : Int64} {l : List Nat} {l15 l16 l17 l18 l19 l20 : Option AV}
theorem DQ.f2 (Q : DQ σ) (I : CI f σ B False m0 i0) : DQ (fl2 σ) := lO_DQ (Q.dU I.1.1.1 _) ((dU_ci I.weak _ (Nat.le_refl _)).1) 4 (Nat.le_refl _)
theorem DQ.f3 (Q : DQ σ) (I : CI f σ B False m0 i0) : DQ (fl3 σ) := by
  obtain ⟨I1, I2, n2, h13, hall⟩ := fl2_ci I
  obtain ⟨c3, n3⟩ := cV_C1 I2 hall
  exact (Q.f2 I).ofk (by funext o j; exact cV_I (by decide) (by decide) (by decide) (by decide) (by decide) (by decide)) (by funext o j; exact cV_I (by decide) (by decide) (by decide) (by decide) (by decide) (by decide)) n3
theorem DQ.fl (Q : DQ σ) (I : CI f σ B False m0 i0) (hB : B < 1000000) : DQ (S_fl σ) := by
  obtain ⟨⟨W3, A3, P3, PA3⟩, -⟩ := I.fl hB
  have hn := W3.n
  obtain ⟨W4, A4h, n4, _, _⟩ := rst_more W3 A3 P3 hB ((fl3 σ).2.2.1 0) (by omega)
  exact (Q.f3 I).rs W3 PA3 hB (by omega) n4
theorem e_fl (h : RY σ τ A) (hA : A + 192 < 4096) (I : CI f σ B False m0 i0) (hB : B < 1000000) (Q : DQ σ) : ∃ υ A', f_L_flushes [ar (12, 0), ar (14, 0), ar (14, 1), ar (14, 2), ar (14, 3), ar (14, 4), ar (12, 1), ar (12, 2), ar (12, 3), ar (12, 4)] τ = some (.inl (some (ai (nI (dU σ (σ.2.2.1 0)).2))), υ) ∧ RY (S_fl σ) υ A' ∧ Fl τ υ ∧ A' ≤ A + 192 := by
  have W := I.1.1.1
  have C := I.1.1.2.2.2.1
  have N := I.1.1.2.1
  have hn := W.n
  obtain ⟨go, al, l16a, l17a, k1, hb⟩ := fla h C W Q
  obtain ⟨l16b, τ2, k2, h2⟩ := flb (x := nI (dU σ (σ.2.2.1 0)).2) (l16 := l16a) (l17 := l17a) (l18 := none) (l19 := none) (l20 := none) h W hb
  obtain ⟨l17c, l18c, τ3, k3, h3⟩ := flb2 (x := nI (dU σ (σ.2.2.1 0)).2) (go := go) (al := al) (τ := τ2) (l17 := l17a) (l18 := none) (l19 := none) (l20 := none) W N (fun a ha => by rw [h2.2.1 51 (by decide) (by decide), h.nu ha]) (by rw [h2.2.1 54 (by decide) (by decide), h.g0]) (by rw [h2.2.1 54 (by decide) (by decide), h.g5]) hb
  obtain ⟨I1, -, -, -⟩ := dU_ci I.weak (σ.2.2.1 0) (Nat.le_refl _)
  have r1 := h.dU (by omega) W I1.1.1.2.1 h2 h3
  obtain ⟨υ2, l16d, l17d, A', k4, r2, f2, hA'⟩ := flc (x := nI (dU σ (σ.2.2.1 0)).2) (go := go) (al := al) (l15 := some (ai (nI (lfN σ (σ.2.1 1).length)))) (l17 := l17c) (l18 := l18c) (l19 := none) (l20 := none) hA r1 I1
  have f02 : Fl τ υ2 := ((h2.1.tr h3.1).tr (Fl.u (by decide))).tr f2
  obtain ⟨-, I2, n2, h13, hall⟩ := fl2_ci I
  have r2' : RY (fl2 σ) υ2 A' := r2
  have W2 := I2.1.1.1
  have r3 := r2'.v2 W2
  have c2 : C1 (cv2 (fl2 σ)) := I2.1.1.of W2.cv2 (fun k hk => by funext o j; exact cv2_I (by omega) (by omega)) (fun k _ _ => by rw [cv2_2]) (by rw [cv2_2])
  obtain ⟨⟨W3, A3, P3, PA3⟩, -⟩ := I.fl hB
  have hn3 := W3.n
  have t4 := W2.tk4
  have hg3 : υ2.1 54 0 3 = nI (tk (fl2 σ)) := by rw [r2'.g3]; exact W2.2.2.2.2.2.1.1
  have hfh := r2'.f t4
  have s2 := f2.sl
  have n3 : (fl3 σ).2.2.1 0 = (fl3 σ).2.2.1 0 := rfl
  by_cases c : (fl2 σ).1 13 (tk (fl2 σ)) 0 = 0
  · have hla := I2.2.2.2.2.2.2.2
    have e13 : (cv2 (fl2 σ)).1 13 = (fl2 σ).1 13 := by funext o j; exact cv2_I (by decide) (by decide)
    have ealP : alP (cv2 (fl2 σ)) = alP (fl2 σ) := alP_of e13
    have hal : ¬ (fl2 σ).1 13 (fI (alP (fl2 σ)) 4) 0 = 0 := alP_t (fI_at hla)
    have k5 := fld_l (x := nI (dU σ (σ.2.2.1 0)).2) (go := go) (al := al) (l15 := some (ai (nI (lfN σ (σ.2.1 1).length)))) (l17 := l17d) (l18 := l18c) (l19 := none) (l20 := none) r3 (by rw [ealP]; exact hla)
    rw [ealP] at k5
    have K : KH (cv2 (fl2 σ)) := fun z => by
      rw [e13] at z
      exact absurd c (by
        have : tk (cv2 (fl2 σ)) = tk (fl2 σ) := by unfold tk; rw [cv2_I (by decide) (by decide)]
        rwa [this] at z)
    obtain ⟨υ4, k6, r4, f4⟩ := e_hld r3 c2.1 c2.2.1 c2.2.2.1 K hla (fun a ha => by
      rw [cv2_2] at ha
      rw [cv2_I (by decide) (by decide)]
      rcases I2.1.2.2.2.2 _ hla hal a (W2.el (by omega) ha) with q | q | q | q
      · exact absurd ha q.2.2.1
      · exact q.2.1
      · exact absurd ha q.2.2.1
      · exact absurd ha q.2.2.1)
    have e3 : cv3 (fl2 σ) = S_gT (cv2 (fl2 σ)) (fI (alP (fl2 σ)) 4) := by unfold cv3; rw [if_pos c]
    rw [← e3] at r4
    have W3' : WF (cv3 (fl2 σ)) := (cv3_ok W2 I2.il.2.1 hla).1
    obtain ⟨υ5, l16e, k7, r5, f5⟩ := fld_4 (x := nI (dU σ (σ.2.2.1 0)).2) (go := go) (al := al) (l15 := some (ai (nI (lfN σ (σ.2.1 1).length)))) (l17 := l17d) (l18 := l18c) (l19 := none) (l20 := none) r4 W3'
    have r5' : RY (rst (fl3 σ) 0) υ5 A' := r5
    obtain ⟨υ6, k8, r6, f6⟩ := fle (x := nI (dU σ (σ.2.2.1 0)).2) (go := go) (al := al) (l15 := some (ai (nI (lfN σ (σ.2.1 1).length)))) W3 PA3 hB (Q.f3 I) _ 0 1000 υ5 l16e l17d l18c none none (Nat.zero_add _) (by omega) r5'
    refine ⟨υ6, A', ?_, r6, (((f02.tr ((Fl.u (by decide)).tr (Fl.u (by decide)))).tr f4).tr f5).tr f6, hA'⟩
    have s4 := f4.sl
    rw [c] at hfh
    simp (disch := first | omega | (simp only [w_ui2, w_ul3, w_uj3, ladd_n, lrem_N, grw_n, ladd_Ln, lrem_Ln, grw_L, List.length_range, fil_2, aO_2, pr_n, gN_n, d1_n, dl_n, fil_2, tO_2, tO_Ln, tI_n, stp_n]; omega)) only [w_I, w_L, w_L1, w_LR, w_LR1, w_LN, w_LN1, w_LN2, w_null, w_N, w_N1, w_B, w_B1, w_B2, w_GI, w_GI1, w_GR, w_GR1, w_A, w_A1, w_A2, w_A3, w_rd3, w_wr3, w_rd7, w_wr7, w_rd8, w_wr8, w_rd9, w_wr9, w_rd10, w_wr10, w_rm0, w_wm0, w_rm1, w_wm1, w_rm2, w_wm2, w_rm3, w_wm3, w_rm4, w_wm4, w_v0, w_v1, w_v2, w_v3, w_v4, w_v6, w_v7, w_v8, w_v9, w_v10, inB_t, cl_nI, w_ui1, w_ui2, w_ul1, w_ul3, w_lsz, w_lget, w_ladd, w_lrem, sl_ladd, sl_lrem, sl_grw, n_eq, n_lt, n_le, n_add, n_ad1, n_lt4, n_neg, n_lt0, n_ge0, w_M, w_M1, w_M2, w_T, w_T1, w_C, w_C1, w_Z, w_and, w_and1, w_or, w_or1, w_not, w_not1, w_tn, w_tn1, w_E, w_E1, w_E2, w_nl, w_nl1, w_nl2, w_C2_0, w_Z1_0, w_C2_1, w_Z1_1, w_C2_2, w_Z1_2, w_C2_3, w_Z1_3, w_C2_4, w_Z1_4, w_C2_5, w_Z1_5, w_seq, w_seq1, w_seq2, w_seq3, w_if, w_if1, w_skip, w_set, w_set1, w_setR, w_setR1, w_setN, w_setN1, w_setN2, w_inc, w_inc1, w_put, w_put1, w_put2, w_put3, w_wf0, w_wf1, w_po, w_po1, w_po2, w_ast, w_ast1, w_ast2, w_ast3, w_aop, w_aop1, w_aop2, w_aop3, w_aop4, w_ret, w_ret0, w_ret1, w_retN, w_retN1, w_retN2, w_retV, w_throw, w_aN, w_aI, w_aI1, w_aI2, w_aR, w_aR1, w_ask, w_ask1, w_V, w_V1, w_V2, w_S, w_S1, w_CI, w_CI1, w_CR, w_CR1, w_CN, w_CN1, w_CN2, w_CV, w_CV1, w_CV2, w_pop, w_pop1, w_popR, w_popR1, w_cast, w_cast1, w_run, lc_0, lc_I, lc_R, lc_N, lc_J, w_run1, w_run2, ite_s1, ite_01, ite_10, ite_nz, i_10, i_01, i_20, i_02, i_21, i_12, i_30, i_03, i_40, i_04, il_00, il_10, il_20, il_01, il_02, sl_r, sl_I, sl_L, w_J, w_LJ, w_LJ1, w_BJ, w_BJ1, w_BJ2, w_Sh, w_Sh1, w_Sh2, w_BC, w_BC1, w_BC2, w_IL, w_IL1, w_LI, w_LI1, w_Rm, w_Rm1, w_Rm2, w_AJ, w_AJ1, w_AJ2, w_AJ3, w_rj0, w_wj0, w_rj1, w_wj1, w_rj2, w_wj2, w_rj3, w_wj3, w_rj4, w_wj4, w_uj1, w_uj2, w_uj3, w_uj4, sl_J, w_setJ, w_setJ1, w_aJs, w_aJs1, w_aJs2, w_aJs3, w_jop, w_jop1, w_jop2, w_jop3, w_jop4, w_retJ, w_retJ1, w_aJ, w_aJ1, w_CJ, w_CJ1, List.getElem?_cons_zero, List.getElem?_cons_succ, List.set_cons_zero, List.set_cons_succ, List.map_cons, List.map_nil, List.length_cons, List.length_nil, List.cons_append, List.nil_append, List.append_nil, List.replicate_succ, List.replicate_zero, Nat.reduceSub, Nat.reduceAdd, Nat.reduceEqDiff, if_true, if_false, true_and, and_true, reduceCtorEq, ite_true, ite_false, Bool.false_eq_true, Nat.zero_add, Nat.add_zero, Nat.sub_self, Nat.reduceLT, decide_eq_true_eq, Bool.not_eq_true, not_true_eq_false, not_false_eq_true, decide_true, decide_false, decide_not, Bool.decide_eq_true, and_self, or_self, or_true, true_or, or_false, false_or, false_and, and_false, ne_eq, Bool.not_not, Bool.not_eq_eq_eq_not, Nat.reduceEqDiff, Nat.reduceLeDiff, Bool.not_true, Bool.not_false, eq_self, ladd_I, ladd_L1, ladd_Ln, ladd_n, ladd_J, lrem_I, lrem_L1, lrem_Ln, lrem_N, grw_I, grw_L, grw_n, grw_J, sdr_u, tk_u, sdr_a, tk_a, sdr_r, tk_r, rg_get, List.length_range, fil_2, fil_I, sdr_f, tk_f, sl_fil, aO_2, pr_n, aO_I, aO_L, sl_aO, pr_I, pr_L, sl_pr, gN_n, d1_n, dl_n, gN_I, gN_L, sl_gN, d1_I, d1_L, d1_L1, sl_d1, dl_I, dl_L, dl_L1, sl_dl, sdr_dl, tk_dl, sl_dH, fil_2, sl_gT, sl_tI, tO_2, tO_Ln, tO_I, sl_tO, tI_n, stp_n, sl_lO, sl_dp, sl_cV, sl_rst, ib_0_8, ib_0_12, ib_0_48, cl_0, ib_1_8, ib_1_12, ib_1_48, cl_1, ib_2_8, ib_2_12, ib_2_48, cl_2, ib_3_8, ib_3_12, ib_3_48, cl_3, ib_4_8, ib_4_12, ib_4_48, cl_4, ib_5_8, ib_5_12, ib_5_48, cl_5, ib_6_8, ib_6_12, ib_6_48, cl_6, ib_7_8, ib_7_12, ib_7_48, cl_7, ib_8_12, ib_8_48, cl_8, ib_9_12, ib_9_48, cl_9, ib_10_12, ib_10_48, cl_10, ib_11_12, ib_11_48, cl_11, n_p4, n_p8, e_at, e_with, e_state, e_becomes, e_has, e_many, cmp_e, il_m1, ge_m1, f_L_flushes, b_L_flushes, k1, k2, k3, k4, hg3, hfh, k5, k6, s4, k7, k8]
  · have e3 : cv3 (fl2 σ) = cv2 (fl2 σ) := by unfold cv3; rw [if_neg c]
    have r4 := r3
    rw [← e3] at r4
    have W3' : WF (cv3 (fl2 σ)) := by rw [e3]; exact c2.1
    obtain ⟨υ5, l16e, k7, r5, f5⟩ := fld_4 (x := nI (dU σ (σ.2.2.1 0)).2) (go := go) (al := al) (l15 := some (ai (nI (lfN σ (σ.2.1 1).length)))) (l17 := l17d) (l18 := l18c) (l19 := none) (l20 := none) r4 W3'
    have r5' : RY (rst (fl3 σ) 0) υ5 A' := r5
    obtain ⟨υ6, k8, r6, f6⟩ := fle (x := nI (dU σ (σ.2.2.1 0)).2) (go := go) (al := al) (l15 := some (ai (nI (lfN σ (σ.2.1 1).length)))) W3 PA3 hB (Q.f3 I) _ 0 1000 υ5 l16e l17d l18c none none (Nat.zero_add _) (by omega) r5'
    refine ⟨υ6, A', ?_, r6, ((f02.tr ((Fl.u (by decide)).tr (Fl.u (by decide)))).tr f5).tr f6, hA'⟩
    simp (disch := first | omega | (simp only [w_ui2, w_ul3, w_uj3, ladd_n, lrem_N, grw_n, ladd_Ln, lrem_Ln, grw_L, List.length_range, fil_2, aO_2, pr_n, gN_n, d1_n, dl_n, fil_2, tO_2, tO_Ln, tI_n, stp_n]; omega)) only [w_I, w_L, w_L1, w_LR, w_LR1, w_LN, w_LN1, w_LN2, w_null, w_N, w_N1, w_B, w_B1, w_B2, w_GI, w_GI1, w_GR, w_GR1, w_A, w_A1, w_A2, w_A3, w_rd3, w_wr3, w_rd7, w_wr7, w_rd8, w_wr8, w_rd9, w_wr9, w_rd10, w_wr10, w_rm0, w_wm0, w_rm1, w_wm1, w_rm2, w_wm2, w_rm3, w_wm3, w_rm4, w_wm4, w_v0, w_v1, w_v2, w_v3, w_v4, w_v6, w_v7, w_v8, w_v9, w_v10, inB_t, cl_nI, w_ui1, w_ui2, w_ul1, w_ul3, w_lsz, w_lget, w_ladd, w_lrem, sl_ladd, sl_lrem, sl_grw, n_eq, n_lt, n_le, n_add, n_ad1, n_lt4, n_neg, n_lt0, n_ge0, w_M, w_M1, w_M2, w_T, w_T1, w_C, w_C1, w_Z, w_and, w_and1, w_or, w_or1, w_not, w_not1, w_tn, w_tn1, w_E, w_E1, w_E2, w_nl, w_nl1, w_nl2, w_C2_0, w_Z1_0, w_C2_1, w_Z1_1, w_C2_2, w_Z1_2, w_C2_3, w_Z1_3, w_C2_4, w_Z1_4, w_C2_5, w_Z1_5, w_seq, w_seq1, w_seq2, w_seq3, w_if, w_if1, w_skip, w_set, w_set1, w_setR, w_setR1, w_setN, w_setN1, w_setN2, w_inc, w_inc1, w_put, w_put1, w_put2, w_put3, w_wf0, w_wf1, w_po, w_po1, w_po2, w_ast, w_ast1, w_ast2, w_ast3, w_aop, w_aop1, w_aop2, w_aop3, w_aop4, w_ret, w_ret0, w_ret1, w_retN, w_retN1, w_retN2, w_retV, w_throw, w_aN, w_aI, w_aI1, w_aI2, w_aR, w_aR1, w_ask, w_ask1, w_V, w_V1, w_V2, w_S, w_S1, w_CI, w_CI1, w_CR, w_CR1, w_CN, w_CN1, w_CN2, w_CV, w_CV1, w_CV2, w_pop, w_pop1, w_popR, w_popR1, w_cast, w_cast1, w_run, lc_0, lc_I, lc_R, lc_N, lc_J, w_run1, w_run2, ite_s1, ite_01, ite_10, ite_nz, i_10, i_01, i_20, i_02, i_21, i_12, i_30, i_03, i_40, i_04, il_00, il_10, il_20, il_01, il_02, sl_r, sl_I, sl_L, w_J, w_LJ, w_LJ1, w_BJ, w_BJ1, w_BJ2, w_Sh, w_Sh1, w_Sh2, w_BC, w_BC1, w_BC2, w_IL, w_IL1, w_LI, w_LI1, w_Rm, w_Rm1, w_Rm2, w_AJ, w_AJ1, w_AJ2, w_AJ3, w_rj0, w_wj0, w_rj1, w_wj1, w_rj2, w_wj2, w_rj3, w_wj3, w_rj4, w_wj4, w_uj1, w_uj2, w_uj3, w_uj4, sl_J, w_setJ, w_setJ1, w_aJs, w_aJs1, w_aJs2, w_aJs3, w_jop, w_jop1, w_jop2, w_jop3, w_jop4, w_retJ, w_retJ1, w_aJ, w_aJ1, w_CJ, w_CJ1, List.getElem?_cons_zero, List.getElem?_cons_succ, List.set_cons_zero, List.set_cons_succ, List.map_cons, List.map_nil, List.length_cons, List.length_nil, List.cons_append, List.nil_append, List.append_nil, List.replicate_succ, List.replicate_zero, Nat.reduceSub, Nat.reduceAdd, Nat.reduceEqDiff, if_true, if_false, true_and, and_true, reduceCtorEq, ite_true, ite_false, Bool.false_eq_true, Nat.zero_add, Nat.add_zero, Nat.sub_self, Nat.reduceLT, decide_eq_true_eq, Bool.not_eq_true, not_true_eq_false, not_false_eq_true, decide_true, decide_false, decide_not, Bool.decide_eq_true, and_self, or_self, or_true, true_or, or_false, false_or, false_and, and_false, ne_eq, Bool.not_not, Bool.not_eq_eq_eq_not, Nat.reduceEqDiff, Nat.reduceLeDiff, Bool.not_true, Bool.not_false, eq_self, ladd_I, ladd_L1, ladd_Ln, ladd_n, ladd_J, lrem_I, lrem_L1, lrem_Ln, lrem_N, grw_I, grw_L, grw_n, grw_J, sdr_u, tk_u, sdr_a, tk_a, sdr_r, tk_r, rg_get, List.length_range, fil_2, fil_I, sdr_f, tk_f, sl_fil, aO_2, pr_n, aO_I, aO_L, sl_aO, pr_I, pr_L, sl_pr, gN_n, d1_n, dl_n, gN_I, gN_L, sl_gN, d1_I, d1_L, d1_L1, sl_d1, dl_I, dl_L, dl_L1, sl_dl, sdr_dl, tk_dl, sl_dH, fil_2, sl_gT, sl_tI, tO_2, tO_Ln, tO_I, sl_tO, tI_n, stp_n, sl_lO, sl_dp, sl_cV, sl_rst, ib_0_8, ib_0_12, ib_0_48, cl_0, ib_1_8, ib_1_12, ib_1_48, cl_1, ib_2_8, ib_2_12, ib_2_48, cl_2, ib_3_8, ib_3_12, ib_3_48, cl_3, ib_4_8, ib_4_12, ib_4_48, cl_4, ib_5_8, ib_5_12, ib_5_48, cl_5, ib_6_8, ib_6_12, ib_6_48, cl_6, ib_7_8, ib_7_12, ib_7_48, cl_7, ib_8_12, ib_8_48, cl_8, ib_9_12, ib_9_48, cl_9, ib_10_12, ib_10_48, cl_10, ib_11_12, ib_11_48, cl_11, n_p4, n_p8, e_at, e_with, e_state, e_becomes, e_has, e_many, cmp_e, il_m1, ge_m1, f_L_flushes, b_L_flushes, k1, k2, k3, k4, hg3, hfh, c, k7, k8]
end FLE
