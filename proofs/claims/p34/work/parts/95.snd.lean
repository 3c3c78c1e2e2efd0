/-! pure: the law sends -/
def LSd (τ : Sg) (n i : Nat) (x : Int32) : Sg := upI (upI (upJ (upJ (upI (upJ (upJ (upI τ 54 0 0 (nI (n + 1))) 0 n (τ.2.2.2 1 i)) 1 (4 + i) (τ.2.2.2 1 (4 + i) ||| jShl 1 (nI n))) 50 0 n x) 2 n 0) 4 n 0) 51 0 n (-1)) 52 0 n (-1)
section SN
variable {f : Prop} {σ σ' τ τ' υ : Sg} {A B m i j k a b q n z d p : Nat} {x y mm t : Int32}
theorem LSd_fl : Fl τ (LSd τ n i x) := (((((((Fl.u (by decide)).tr Fl.J).tr Fl.J).tr (Fl.u (by decide))).tr Fl.J).tr Fl.J).tr (Fl.u (by decide))).tr (Fl.u (by decide))
theorem LSd_50 : (LSd τ n i x).1 50 0 a = if a = n then x else τ.1 50 0 a := by simp [LSd, upI, upJ]
theorem LSd_51 : (LSd τ n i x).1 51 0 a = if a = n then -1 else τ.1 51 0 a := by simp [LSd, upI, upJ]
theorem LSd_52 : (LSd τ n i x).1 52 0 a = if a = n then -1 else τ.1 52 0 a := by simp [LSd, upI, upJ]
theorem LSd_54 : (LSd τ n i x).1 54 0 j = if j = 0 then nI (n + 1) else τ.1 54 0 j := by simp [LSd, upI, upJ]
theorem LSd_53 : (LSd τ n i x).1 53 = τ.1 53 := by funext o j; simp [LSd, upI, upJ]
theorem LSd_J : (LSd τ n i x).2.2.2 k j = if k = 0 ∧ j = n then τ.2.2.2 1 i else if k = 1 ∧ j = 4 + i then τ.2.2.2 1 (4 + i) ||| jShl 1 (nI n) else if k = 2 ∧ j = n then 0 else if k = 4 ∧ j = n then 0 else τ.2.2.2 k j := by
  unfold LSd
  rw [w_ui2, w_ui2, w_uj4, w_uj4]
  by_cases c4 : k = 4 ∧ j = n
  · rw [if_pos c4, if_neg (by omega), if_neg (by omega), if_neg (by omega), if_pos c4]
  · rw [if_neg c4]
    by_cases c2 : k = 2 ∧ j = n
    · rw [if_pos c2, if_neg (by omega), if_neg (by omega), if_pos c2]
    · rw [if_neg c2, w_ui2, w_uj4, w_uj4, if_neg c2, if_neg c4]
      by_cases c1 : k = 1 ∧ j = 4 + i
      · rw [if_pos c1, if_neg (by omega), if_pos c1]
      · rw [if_neg c1, if_neg c1]
        rfl
theorem LSd_set : upI (LSd τ n i x) 50 0 n y = LSd τ n i y := by
  refine Sg.ext' (fun k o j => ?_) (fun _ => rfl) (fun _ => rfl) rfl
  rw [w_ui1]
  by_cases c : k = 50 ∧ o = 0 ∧ j = n
  · obtain ⟨rfl, rfl, rfl⟩ := c
    rw [if_pos ⟨rfl, rfl, rfl⟩, LSd_50, if_pos rfl]
  · rw [if_neg c]
    unfold LSd
    simp only [w_ui1, w_uj1, if_neg c]
theorem LSd_sl : sleB (LSd τ n i x) (LSd τ n i y) = true := sl_Fl rfl
theorem RY.new (h : RY σ τ A) (W : WF σ) (hi : i < 4) (hn : σ.2.2.1 0 < 48) (hx : ∀ j, j < 4 → stI x (nI j) = if σ.1 14 j 0 = 0 then 3 else 0) : RY (sd2 σ i) (LSd τ (σ.2.2.1 0) i x) A := by
  have et : tk (sd2 σ i) = tk σ := by unfold tk; rw [sd2_I (by omega) (by decide)]
  have old : ∀ k a j, k < 30 → a ≠ σ.2.2.1 0 → (sd2 σ i).1 k a j = σ.1 k a j := fun k a j hk ha => sd2_I (fun q => ha q.1) (by omega)
  have old2 : ∀ k, k < 20 → (sd2 σ i).1 k = σ.1 k := fun k hk => by funext a j; exact sd2_I (by omega) (by omega)
  have esn : sdr (sd2 σ i) (σ.2.2.1 0) = i := by
    unfold sdr
    rw [sd2_new (by decide) (by decide), nm_v21, cl_nI (a := i) (by omega)]
  have eso : ∀ a, a ≠ σ.2.2.1 0 → sdr (sd2 σ i) a = sdr σ a := fun a ha => by unfold sdr; rw [old 21 a 0 (by decide) ha]
  have hli := W.len (k := 3 + i) (by omega)
  have ehn : hsl (sd2 σ i) (σ.2.2.1 0) = σ.2.1 (3 + i) := by
    unfold hsl hst
    rw [esn, sd2_L (by omega), sd2_new (by decide) (by decide), nm_v22, cl_nI (a := (σ.2.1 (3 + i)).length) (by omega), List.take_length]
  have eho : ∀ a, a ≠ σ.2.2.1 0 → hsl (sd2 σ i) a = hsl σ a := fun a ha => by
    unfold hsl hst
    rw [eso a ha, sd2_L (by omega), old 22 a 0 (by decide) ha]
  have ewN : ∀ a j, wN (LSd τ (σ.2.2.1 0) i x) a j = wN τ a j := fun a j => wN_of (by rw [LSd_J, if_neg (by omega), if_neg (by omega), if_neg (by omega), if_neg (by omega)])
  refine ⟨fun a j ha hj => ?_, fun a ha => ?_, fun a ha => ?_, fun j hj => ?_, fun j hj z z2 => ?_, fun j hj z => ?_, ?_, fun a ha k hk => ?_, fun j hj k hk => ?_, fun j hj k hk => ?_, fun a j ha hj => ?_, fun a j ha hj => ?_, fun a j ha hj => ?_, fun a j ha hj => ?_, fun j hj => ?_⟩
  · rw [sd2_n] at ha
    rw [LSd_50]
    by_cases c : a = σ.2.2.1 0
    · rw [if_pos c, c, sd2_27 hj]; exact hx j hj
    · rw [if_neg c, old 27 a j (by decide) c]; exact h.cp (by omega) hj
  · rw [sd2_n] at ha
    rw [LSd_51]
    by_cases c : a = σ.2.2.1 0
    · rw [if_pos c, c, sd2_new (by decide) (by decide), nm_v23]
    · rw [if_neg c, old 23 a 0 (by decide) c]; exact h.nu (by omega)
  · rw [sd2_n] at ha
    rw [LSd_52]
    by_cases c : a = σ.2.2.1 0
    · rw [if_pos c, c, sd2_new (by decide) (by decide), nm_v24]
    · rw [if_neg c, old 24 a 0 (by decide) c]; exact h.ag (by omega)
  · rw [LSd_53, old2 12 (by decide)]; exact h.gp hj
  · rw [old2 13 (by decide)] at z
    rw [et] at z2
    rw [LSd_53, old2 11 (by decide)]; exact h.kn hj z z2
  · rw [old2 13 (by decide)] at z
    rw [LSd_53, old2 15 (by decide)]; exact h.lo hj z
  · rw [old2 13 (by decide), old2 14 (by decide), old2 0 (by decide), old2 2 (by decide), old2 1 (by decide), sd2_n, sd2_L (by decide)]
    simp only [LSd_54, show ¬ ((1 : Nat) = 0) by decide, show ¬ ((2 : Nat) = 0) by decide, show ¬ ((3 : Nat) = 0) by decide, show ¬ ((4 : Nat) = 0) by decide, show ¬ ((5 : Nat) = 0) by decide, show ¬ ((6 : Nat) = 0) by decide, show ¬ ((7 : Nat) = 0) by decide, if_false, if_true]
    exact ⟨trivial, h.g1, h.g2, h.g3, h.g4, h.g5, h.g6, h.g7⟩
  · rw [sd2_n] at ha
    rw [LSd_J]
    by_cases c : a = σ.2.2.1 0
    · rw [if_pos ⟨rfl, c⟩, c, ehn]; exact h.db hi hk
    · rw [if_neg (by omega), if_neg (by omega), if_neg (by omega), if_neg (by omega), eho a c]; exact h.hb (by omega) hk
  · rw [LSd_J, if_neg (by omega), if_neg (by omega), if_neg (by omega), if_neg (by omega), sd2_L (by omega)]; exact h.db hj hk
  · rw [LSd_J, if_neg (by omega), sd2_n]
    have hk3 : bJ (τ.2.2.2 1 (4 + j)) k = true ↔ k < σ.2.2.1 0 ∧ sdr σ k = j := h.sb hj hk
    by_cases c : j = i
    · subst c
      rw [if_pos ⟨rfl, rfl⟩, bJ_or, bJ_one (by omega) hk, Bool.or_eq_true, hk3, decide_eq_true_eq]
      by_cases d : k = σ.2.2.1 0
      · rw [d, esn]; simp
      · rw [eso k d]
        constructor
        · rintro (q | q)
          · exact ⟨by omega, q.2⟩
          · exact absurd q d
        · rintro ⟨q1, q2⟩
          exact Or.inl ⟨by omega, q2⟩
    · rw [if_neg (by omega), if_neg (by omega), if_neg (by omega), hk3]
      by_cases d : k = σ.2.2.1 0
      · rw [d, esn]
        exact ⟨fun q => by omega, fun q => absurd q.2.symm c⟩
      · rw [eso k d]
        exact ⟨fun q => ⟨by omega, q.2⟩, fun q => ⟨by omega, q.2⟩⟩
  · rw [sd2_n] at ha
    rw [LSd_J, if_neg (by omega), if_neg (by omega)]
    by_cases c : a = σ.2.2.1 0
    · rw [if_pos ⟨rfl, c⟩, c, atz_0 hj, sd2_new (by decide) (by decide), nm_v29, fNeg4 hj]; rfl
    · rw [if_neg (by omega), if_neg (by omega), old 29 a j (by decide) c]; exact h.za (by omega) hj
  · rw [sd2_n] at ha
    rw [LSd_J, if_neg (by omega), if_neg (by omega), if_neg (by omega)]
    unfold pv
    by_cases c : a = σ.2.2.1 0
    · rw [if_pos ⟨rfl, c⟩, c, atz_0 hj, sd2_new (by decide) (by decide), nm_v28, fNeg4 hj, if_pos rfl, nI_0]
    · rw [if_neg (by omega), old 28 a j (by decide) c]; exact h.pa (by omega) hj
  · rw [ewN, LSd_J, if_neg (by omega), if_neg (by omega), if_neg (by omega), if_neg (by omega), sd2_n]
    exact ⟨h.wa ha hj, h.wA ha hj, fun z => h.w0 ha hj (by omega)⟩
  · rw [sd2_n] at ha
    rw [ewN, sd2_L (by omega), sd2_L (by omega)]
    by_cases c : a = σ.2.2.1 0
    · rw [c]
      have e0 := h.w0 hn hj (Nat.le_refl _)
      exact ⟨fun q => absurd (W.el (k := 7 + j) (by omega) q) (Nat.lt_irrefl _), fun q => by omega⟩
    · exact h.wm (by omega) hj
  · simp only [ewN]
    rw [sd2_L (by omega)]
    exact h.ws hj
theorem e_snd (h : RY σ τ A) (L : CI True σ B False 0 0) (hB : B + 2 < 4096) (hi : i < 4) (hal : ¬ σ.1 13 i 0 = 0) (hn : σ.2.2.1 0 < 48) : ∃ υ, f_L_sends [ar (12, 0), ar (14, 0), ar (14, 1), ar (14, 2), ar (14, 4), ar (12, 1), ar (12, 2), ar (12, 3), ar (12, 4), ai (nI i)] τ = some (.inl (some (ai (nI (σ.2.2.1 0)))), υ) ∧ RY (S_sd σ i) υ A ∧ Fl τ υ := by
  have W := L.1.1.1
  have C := L.1.1.2.2.2.1
  have g0 := h.g0
  have ou : ∀ j, j < 4 → hasI (τ.1 54 0 2) (nI j) = decide (σ.1 14 j 0 = 0) := fun j hj => h.ou hj
  generalize hN : σ.2.2.1 0 = n at hn g0
  obtain ⟨lc, υ, k1, e1, x, e2, e3⟩ := wh_ind (N := 1000) (c := (cCmp (bop 0) (xL 11) (xI 4))) (b := (sSeq (sIf (cZ (fun x => bop 5 x 0) (xCI (xS f_L_has (aI (xAld false (xLR 8) (xI 2)) (aI (xL 11) aNil))))) (sCV (xS f_L_becomes (aR (xLR 0) (aI (xL 10) (aI (xL 11) (aI (xI 3) aNil)))))) sSkip) (sInc 11 1))) (lc := [some (ar (12, 0)), some (ar (14, 0)), some (ar (14, 1)), some (ar (14, 2)), some (ar (14, 4)), some (ar (12, 1)), some (ar (12, 2)), some (ar (12, 3)), some (ar (12, 4)), some (ai (nI i)), some (ai (nI n)), some (ai 0)]) (σ := LSd τ n i 0) (fun k lc υ => lc = [some (ar (12, 0)), some (ar (14, 0)), some (ar (14, 1)), some (ar (14, 2)), some (ar (14, 4)), some (ar (12, 1)), some (ar (12, 2)), some (ar (12, 3)), some (ar (12, 4)), some (ai (nI i)), some (ai (nI n)), some (ai (nI k))] ∧ ∃ x, υ = LSd τ n i x ∧ ∀ j, j < 4 → stI x (nI j) = if j < k ∧ σ.1 14 j 0 = 0 then 3 else 0) 4 (by decide) ⟨by rw [nI_0], 0, rfl, fun j hj => by rw [st_0 hj, if_neg (by omega)]⟩ (fun k lc υ hk ⟨e1, x, e2, e3⟩ => by
    subst e1
    subst e2
    refine ⟨by simp (disch := first | omega | (simp only [w_ui2, w_ul3, w_uj3, ladd_n, lrem_N, grw_n, ladd_Ln, lrem_Ln, grw_L, List.length_range, fil_2, aO_2, pr_n, gN_n, d1_n, dl_n, fil_2, tO_2, tO_Ln, tI_n, stp_n]; omega)) only [w_I, w_L, w_L1, w_LR, w_LR1, w_LN, w_LN1, w_LN2, w_null, w_N, w_N1, w_B, w_B1, w_B2, w_GI, w_GI1, w_GR, w_GR1, w_A, w_A1, w_A2, w_A3, w_rd3, w_wr3, w_rd7, w_wr7, w_rd8, w_wr8, w_rd9, w_wr9, w_rd10, w_wr10, w_rm0, w_wm0, w_rm1, w_wm1, w_rm2, w_wm2, w_rm3, w_wm3, w_rm4, w_wm4, w_v0, w_v1, w_v2, w_v3, w_v4, w_v6, w_v7, w_v8, w_v9, w_v10, inB_t, cl_nI, w_ui1, w_ui2, w_ul1, w_ul3, w_lsz, w_lget, w_ladd, w_lrem, sl_ladd, sl_lrem, sl_grw, n_eq, n_lt, n_le, n_add, n_ad1, n_lt4, n_neg, n_lt0, n_ge0, w_M, w_M1, w_M2, w_T, w_T1, w_C, w_C1, w_Z, w_and, w_and1, w_or, w_or1, w_not, w_not1, w_tn, w_tn1, w_E, w_E1, w_E2, w_nl, w_nl1, w_nl2, w_C2_0, w_Z1_0, w_C2_1, w_Z1_1, w_C2_2, w_Z1_2, w_C2_3, w_Z1_3, w_C2_4, w_Z1_4, w_C2_5, w_Z1_5, w_seq, w_seq1, w_seq2, w_seq3, w_if, w_if1, w_skip, w_set, w_set1, w_setR, w_setR1, w_setN, w_setN1, w_setN2, w_inc, w_inc1, w_put, w_put1, w_put2, w_put3, w_wf0, w_wf1, w_po, w_po1, w_po2, w_ast, w_ast1, w_ast2, w_ast3, w_aop, w_aop1, w_aop2, w_aop3, w_aop4, w_ret, w_ret0, w_ret1, w_retN, w_retN1, w_retN2, w_retV, w_throw, w_aN, w_aI, w_aI1, w_aI2, w_aR, w_aR1, w_ask, w_ask1, w_V, w_V1, w_V2, w_S, w_S1, w_CI, w_CI1, w_CR, w_CR1, w_CN, w_CN1, w_CN2, w_CV, w_CV1, w_CV2, w_pop, w_pop1, w_popR, w_popR1, w_cast, w_cast1, w_run, lc_0, lc_I, lc_R, lc_N, lc_J, w_run1, w_run2, ite_s1, ite_01, ite_10, ite_nz, i_10, i_01, i_20, i_02, i_21, i_12, i_30, i_03, i_40, i_04, il_00, il_10, il_20, il_01, il_02, sl_r, sl_I, sl_L, w_J, w_LJ, w_LJ1, w_BJ, w_BJ1, w_BJ2, w_Sh, w_Sh1, w_Sh2, w_BC, w_BC1, w_BC2, w_IL, w_IL1, w_LI, w_LI1, w_Rm, w_Rm1, w_Rm2, w_AJ, w_AJ1, w_AJ2, w_AJ3, w_rj0, w_wj0, w_rj1, w_wj1, w_rj2, w_wj2, w_rj3, w_wj3, w_rj4, w_wj4, w_uj1, w_uj2, w_uj3, w_uj4, sl_J, w_setJ, w_setJ1, w_aJs, w_aJs1, w_aJs2, w_aJs3, w_jop, w_jop1, w_jop2, w_jop3, w_jop4, w_retJ, w_retJ1, w_aJ, w_aJ1, w_CJ, w_CJ1, List.getElem?_cons_zero, List.getElem?_cons_succ, List.set_cons_zero, List.set_cons_succ, List.map_cons, List.map_nil, List.length_cons, List.length_nil, List.cons_append, List.nil_append, List.append_nil, List.replicate_succ, List.replicate_zero, Nat.reduceSub, Nat.reduceAdd, Nat.reduceEqDiff, if_true, if_false, true_and, and_true, reduceCtorEq, ite_true, ite_false, Bool.false_eq_true, Nat.zero_add, Nat.add_zero, Nat.sub_self, Nat.reduceLT, decide_eq_true_eq, Bool.not_eq_true, not_true_eq_false, not_false_eq_true, decide_true, decide_false, decide_not, Bool.decide_eq_true, and_self, or_self, or_true, true_or, or_false, false_or, false_and, and_false, ne_eq, Bool.not_not, Bool.not_eq_eq_eq_not, Nat.reduceEqDiff, Nat.reduceLeDiff, Bool.not_true, Bool.not_false, eq_self, ladd_I, ladd_L1, ladd_Ln, ladd_n, ladd_J, lrem_I, lrem_L1, lrem_Ln, lrem_N, grw_I, grw_L, grw_n, grw_J, sdr_u, tk_u, sdr_a, tk_a, sdr_r, tk_r, rg_get, List.length_range, fil_2, fil_I, sdr_f, tk_f, sl_fil, aO_2, pr_n, aO_I, aO_L, sl_aO, pr_I, pr_L, sl_pr, gN_n, d1_n, dl_n, gN_I, gN_L, sl_gN, d1_I, d1_L, d1_L1, sl_d1, dl_I, dl_L, dl_L1, sl_dl, sdr_dl, tk_dl, sl_dH, fil_2, sl_gT, sl_tI, tO_2, tO_Ln, tO_I, sl_tO, tI_n, stp_n, sl_lO, sl_dp, sl_cV, sl_rst, ib_0_8, ib_0_12, ib_0_48, cl_0, ib_1_8, ib_1_12, ib_1_48, cl_1, ib_2_8, ib_2_12, ib_2_48, cl_2, ib_3_8, ib_3_12, ib_3_48, cl_3, ib_4_8, ib_4_12, ib_4_48, cl_4, ib_5_8, ib_5_12, ib_5_48, cl_5, ib_6_8, ib_6_12, ib_6_48, cl_6, ib_7_8, ib_7_12, ib_7_48, cl_7, ib_8_12, ib_8_48, cl_8, ib_9_12, ib_9_48, cl_9, ib_10_12, ib_10_48, cl_10, ib_11_12, ib_11_48, cl_11, n_p4, n_p8, e_at, e_with, e_state, e_becomes, e_has, e_many, cmp_e, il_m1, ge_m1, hk], ?_⟩
    have e54 : (LSd τ n i x).1 54 0 2 = τ.1 54 0 2 := by rw [LSd_54, if_neg (by decide)]
    have e50 : (LSd τ n i x).1 50 0 n = x := by rw [LSd_50, if_pos rfl]
    have ouk := ou k hk
    by_cases c : σ.1 14 k 0 = 0
    · refine ⟨_, _, by simp (disch := first | omega | (simp only [w_ui2, w_ul3, w_uj3, ladd_n, lrem_N, grw_n, ladd_Ln, lrem_Ln, grw_L, List.length_range, fil_2, aO_2, pr_n, gN_n, d1_n, dl_n, fil_2, tO_2, tO_Ln, tI_n, stp_n]; omega)) only [w_I, w_L, w_L1, w_LR, w_LR1, w_LN, w_LN1, w_LN2, w_null, w_N, w_N1, w_B, w_B1, w_B2, w_GI, w_GI1, w_GR, w_GR1, w_A, w_A1, w_A2, w_A3, w_rd3, w_wr3, w_rd7, w_wr7, w_rd8, w_wr8, w_rd9, w_wr9, w_rd10, w_wr10, w_rm0, w_wm0, w_rm1, w_wm1, w_rm2, w_wm2, w_rm3, w_wm3, w_rm4, w_wm4, w_v0, w_v1, w_v2, w_v3, w_v4, w_v6, w_v7, w_v8, w_v9, w_v10, inB_t, cl_nI, w_ui1, w_ui2, w_ul1, w_ul3, w_lsz, w_lget, w_ladd, w_lrem, sl_ladd, sl_lrem, sl_grw, n_eq, n_lt, n_le, n_add, n_ad1, n_lt4, n_neg, n_lt0, n_ge0, w_M, w_M1, w_M2, w_T, w_T1, w_C, w_C1, w_Z, w_and, w_and1, w_or, w_or1, w_not, w_not1, w_tn, w_tn1, w_E, w_E1, w_E2, w_nl, w_nl1, w_nl2, w_C2_0, w_Z1_0, w_C2_1, w_Z1_1, w_C2_2, w_Z1_2, w_C2_3, w_Z1_3, w_C2_4, w_Z1_4, w_C2_5, w_Z1_5, w_seq, w_seq1, w_seq2, w_seq3, w_if, w_if1, w_skip, w_set, w_set1, w_setR, w_setR1, w_setN, w_setN1, w_setN2, w_inc, w_inc1, w_put, w_put1, w_put2, w_put3, w_wf0, w_wf1, w_po, w_po1, w_po2, w_ast, w_ast1, w_ast2, w_ast3, w_aop, w_aop1, w_aop2, w_aop3, w_aop4, w_ret, w_ret0, w_ret1, w_retN, w_retN1, w_retN2, w_retV, w_throw, w_aN, w_aI, w_aI1, w_aI2, w_aR, w_aR1, w_ask, w_ask1, w_V, w_V1, w_V2, w_S, w_S1, w_CI, w_CI1, w_CR, w_CR1, w_CN, w_CN1, w_CN2, w_CV, w_CV1, w_CV2, w_pop, w_pop1, w_popR, w_popR1, w_cast, w_cast1, w_run, lc_0, lc_I, lc_R, lc_N, lc_J, w_run1, w_run2, ite_s1, ite_01, ite_10, ite_nz, i_10, i_01, i_20, i_02, i_21, i_12, i_30, i_03, i_40, i_04, il_00, il_10, il_20, il_01, il_02, sl_r, sl_I, sl_L, w_J, w_LJ, w_LJ1, w_BJ, w_BJ1, w_BJ2, w_Sh, w_Sh1, w_Sh2, w_BC, w_BC1, w_BC2, w_IL, w_IL1, w_LI, w_LI1, w_Rm, w_Rm1, w_Rm2, w_AJ, w_AJ1, w_AJ2, w_AJ3, w_rj0, w_wj0, w_rj1, w_wj1, w_rj2, w_wj2, w_rj3, w_wj3, w_rj4, w_wj4, w_uj1, w_uj2, w_uj3, w_uj4, sl_J, w_setJ, w_setJ1, w_aJs, w_aJs1, w_aJs2, w_aJs3, w_jop, w_jop1, w_jop2, w_jop3, w_jop4, w_retJ, w_retJ1, w_aJ, w_aJ1, w_CJ, w_CJ1, List.getElem?_cons_zero, List.getElem?_cons_succ, List.set_cons_zero, List.set_cons_succ, List.map_cons, List.map_nil, List.length_cons, List.length_nil, List.cons_append, List.nil_append, List.append_nil, List.replicate_succ, List.replicate_zero, Nat.reduceSub, Nat.reduceAdd, Nat.reduceEqDiff, if_true, if_false, true_and, and_true, reduceCtorEq, ite_true, ite_false, Bool.false_eq_true, Nat.zero_add, Nat.add_zero, Nat.sub_self, Nat.reduceLT, decide_eq_true_eq, Bool.not_eq_true, not_true_eq_false, not_false_eq_true, decide_true, decide_false, decide_not, Bool.decide_eq_true, and_self, or_self, or_true, true_or, or_false, false_or, false_and, and_false, ne_eq, Bool.not_not, Bool.not_eq_eq_eq_not, Nat.reduceEqDiff, Nat.reduceLeDiff, Bool.not_true, Bool.not_false, eq_self, ladd_I, ladd_L1, ladd_Ln, ladd_n, ladd_J, lrem_I, lrem_L1, lrem_Ln, lrem_N, grw_I, grw_L, grw_n, grw_J, sdr_u, tk_u, sdr_a, tk_a, sdr_r, tk_r, rg_get, List.length_range, fil_2, fil_I, sdr_f, tk_f, sl_fil, aO_2, pr_n, aO_I, aO_L, sl_aO, pr_I, pr_L, sl_pr, gN_n, d1_n, dl_n, gN_I, gN_L, sl_gN, d1_I, d1_L, d1_L1, sl_d1, dl_I, dl_L, dl_L1, sl_dl, sdr_dl, tk_dl, sl_dH, fil_2, sl_gT, sl_tI, tO_2, tO_Ln, tO_I, sl_tO, tI_n, stp_n, sl_lO, sl_dp, sl_cV, sl_rst, ib_0_8, ib_0_12, ib_0_48, cl_0, ib_1_8, ib_1_12, ib_1_48, cl_1, ib_2_8, ib_2_12, ib_2_48, cl_2, ib_3_8, ib_3_12, ib_3_48, cl_3, ib_4_8, ib_4_12, ib_4_48, cl_4, ib_5_8, ib_5_12, ib_5_48, cl_5, ib_6_8, ib_6_12, ib_6_48, cl_6, ib_7_8, ib_7_12, ib_7_48, cl_7, ib_8_12, ib_8_48, cl_8, ib_9_12, ib_9_48, cl_9, ib_10_12, ib_10_48, cl_10, ib_11_12, ib_11_48, cl_11, n_p4, n_p8, e_at, e_with, e_state, e_becomes, e_has, e_many, cmp_e, il_m1, ge_m1, e54, ouk, c, e50, LSd_set, LSd_sl]; (first | done | exact rfl), rfl, stW x (nI k) 3, rfl, fun j hj => ?_⟩
      rw [show (3 : Int32) = nI 3 from rfl, st_w hk hj (by decide), e3 j hj]
      by_cases d : j = k
      · rw [if_pos d, d, if_pos ⟨by omega, c⟩]
      · rw [if_neg d]
        by_cases e : j < k ∧ σ.1 14 j 0 = 0
        · rw [if_pos e, if_pos ⟨by omega, e.2⟩]; rfl
        · rw [if_neg e, if_neg (fun q => e ⟨by omega, q.2⟩)]
    · refine ⟨_, _, by simp (disch := first | omega | (simp only [w_ui2, w_ul3, w_uj3, ladd_n, lrem_N, grw_n, ladd_Ln, lrem_Ln, grw_L, List.length_range, fil_2, aO_2, pr_n, gN_n, d1_n, dl_n, fil_2, tO_2, tO_Ln, tI_n, stp_n]; omega)) only [w_I, w_L, w_L1, w_LR, w_LR1, w_LN, w_LN1, w_LN2, w_null, w_N, w_N1, w_B, w_B1, w_B2, w_GI, w_GI1, w_GR, w_GR1, w_A, w_A1, w_A2, w_A3, w_rd3, w_wr3, w_rd7, w_wr7, w_rd8, w_wr8, w_rd9, w_wr9, w_rd10, w_wr10, w_rm0, w_wm0, w_rm1, w_wm1, w_rm2, w_wm2, w_rm3, w_wm3, w_rm4, w_wm4, w_v0, w_v1, w_v2, w_v3, w_v4, w_v6, w_v7, w_v8, w_v9, w_v10, inB_t, cl_nI, w_ui1, w_ui2, w_ul1, w_ul3, w_lsz, w_lget, w_ladd, w_lrem, sl_ladd, sl_lrem, sl_grw, n_eq, n_lt, n_le, n_add, n_ad1, n_lt4, n_neg, n_lt0, n_ge0, w_M, w_M1, w_M2, w_T, w_T1, w_C, w_C1, w_Z, w_and, w_and1, w_or, w_or1, w_not, w_not1, w_tn, w_tn1, w_E, w_E1, w_E2, w_nl, w_nl1, w_nl2, w_C2_0, w_Z1_0, w_C2_1, w_Z1_1, w_C2_2, w_Z1_2, w_C2_3, w_Z1_3, w_C2_4, w_Z1_4, w_C2_5, w_Z1_5, w_seq, w_seq1, w_seq2, w_seq3, w_if, w_if1, w_skip, w_set, w_set1, w_setR, w_setR1, w_setN, w_setN1, w_setN2, w_inc, w_inc1, w_put, w_put1, w_put2, w_put3, w_wf0, w_wf1, w_po, w_po1, w_po2, w_ast, w_ast1, w_ast2, w_ast3, w_aop, w_aop1, w_aop2, w_aop3, w_aop4, w_ret, w_ret0, w_ret1, w_retN, w_retN1, w_retN2, w_retV, w_throw, w_aN, w_aI, w_aI1, w_aI2, w_aR, w_aR1, w_ask, w_ask1, w_V, w_V1, w_V2, w_S, w_S1, w_CI, w_CI1, w_CR, w_CR1, w_CN, w_CN1, w_CN2, w_CV, w_CV1, w_CV2, w_pop, w_pop1, w_popR, w_popR1, w_cast, w_cast1, w_run, lc_0, lc_I, lc_R, lc_N, lc_J, w_run1, w_run2, ite_s1, ite_01, ite_10, ite_nz, i_10, i_01, i_20, i_02, i_21, i_12, i_30, i_03, i_40, i_04, il_00, il_10, il_20, il_01, il_02, sl_r, sl_I, sl_L, w_J, w_LJ, w_LJ1, w_BJ, w_BJ1, w_BJ2, w_Sh, w_Sh1, w_Sh2, w_BC, w_BC1, w_BC2, w_IL, w_IL1, w_LI, w_LI1, w_Rm, w_Rm1, w_Rm2, w_AJ, w_AJ1, w_AJ2, w_AJ3, w_rj0, w_wj0, w_rj1, w_wj1, w_rj2, w_wj2, w_rj3, w_wj3, w_rj4, w_wj4, w_uj1, w_uj2, w_uj3, w_uj4, sl_J, w_setJ, w_setJ1, w_aJs, w_aJs1, w_aJs2, w_aJs3, w_jop, w_jop1, w_jop2, w_jop3, w_jop4, w_retJ, w_retJ1, w_aJ, w_aJ1, w_CJ, w_CJ1, List.getElem?_cons_zero, List.getElem?_cons_succ, List.set_cons_zero, List.set_cons_succ, List.map_cons, List.map_nil, List.length_cons, List.length_nil, List.cons_append, List.nil_append, List.append_nil, List.replicate_succ, List.replicate_zero, Nat.reduceSub, Nat.reduceAdd, Nat.reduceEqDiff, if_true, if_false, true_and, and_true, reduceCtorEq, ite_true, ite_false, Bool.false_eq_true, Nat.zero_add, Nat.add_zero, Nat.sub_self, Nat.reduceLT, decide_eq_true_eq, Bool.not_eq_true, not_true_eq_false, not_false_eq_true, decide_true, decide_false, decide_not, Bool.decide_eq_true, and_self, or_self, or_true, true_or, or_false, false_or, false_and, and_false, ne_eq, Bool.not_not, Bool.not_eq_eq_eq_not, Nat.reduceEqDiff, Nat.reduceLeDiff, Bool.not_true, Bool.not_false, eq_self, ladd_I, ladd_L1, ladd_Ln, ladd_n, ladd_J, lrem_I, lrem_L1, lrem_Ln, lrem_N, grw_I, grw_L, grw_n, grw_J, sdr_u, tk_u, sdr_a, tk_a, sdr_r, tk_r, rg_get, List.length_range, fil_2, fil_I, sdr_f, tk_f, sl_fil, aO_2, pr_n, aO_I, aO_L, sl_aO, pr_I, pr_L, sl_pr, gN_n, d1_n, dl_n, gN_I, gN_L, sl_gN, d1_I, d1_L, d1_L1, sl_d1, dl_I, dl_L, dl_L1, sl_dl, sdr_dl, tk_dl, sl_dH, fil_2, sl_gT, sl_tI, tO_2, tO_Ln, tO_I, sl_tO, tI_n, stp_n, sl_lO, sl_dp, sl_cV, sl_rst, ib_0_8, ib_0_12, ib_0_48, cl_0, ib_1_8, ib_1_12, ib_1_48, cl_1, ib_2_8, ib_2_12, ib_2_48, cl_2, ib_3_8, ib_3_12, ib_3_48, cl_3, ib_4_8, ib_4_12, ib_4_48, cl_4, ib_5_8, ib_5_12, ib_5_48, cl_5, ib_6_8, ib_6_12, ib_6_48, cl_6, ib_7_8, ib_7_12, ib_7_48, cl_7, ib_8_12, ib_8_48, cl_8, ib_9_12, ib_9_48, cl_9, ib_10_12, ib_10_48, cl_10, ib_11_12, ib_11_48, cl_11, n_p4, n_p8, e_at, e_with, e_state, e_becomes, e_has, e_many, cmp_e, il_m1, ge_m1, e54, ouk, c]; (first | done | exact rfl), rfl, x, rfl, fun j hj => ?_⟩
      rw [e3 j hj]
      by_cases e : j < k ∧ σ.1 14 j 0 = 0
      · rw [if_pos e, if_pos ⟨by omega, e.2⟩]
      · rw [if_neg e, if_neg (fun q => e ⟨by
          have : j ≠ k := fun z => c (z ▸ q.2)
          omega, q.2⟩)]) (fun lc υ ⟨e1, x, e2, e3⟩ => by
    subst e1
    subst e2
    simp (disch := first | omega | (simp only [w_ui2, w_ul3, w_uj3, ladd_n, lrem_N, grw_n, ladd_Ln, lrem_Ln, grw_L, List.length_range, fil_2, aO_2, pr_n, gN_n, d1_n, dl_n, fil_2, tO_2, tO_Ln, tI_n, stp_n]; omega)) only [w_I, w_L, w_L1, w_LR, w_LR1, w_LN, w_LN1, w_LN2, w_null, w_N, w_N1, w_B, w_B1, w_B2, w_GI, w_GI1, w_GR, w_GR1, w_A, w_A1, w_A2, w_A3, w_rd3, w_wr3, w_rd7, w_wr7, w_rd8, w_wr8, w_rd9, w_wr9, w_rd10, w_wr10, w_rm0, w_wm0, w_rm1, w_wm1, w_rm2, w_wm2, w_rm3, w_wm3, w_rm4, w_wm4, w_v0, w_v1, w_v2, w_v3, w_v4, w_v6, w_v7, w_v8, w_v9, w_v10, inB_t, cl_nI, w_ui1, w_ui2, w_ul1, w_ul3, w_lsz, w_lget, w_ladd, w_lrem, sl_ladd, sl_lrem, sl_grw, n_eq, n_lt, n_le, n_add, n_ad1, n_lt4, n_neg, n_lt0, n_ge0, w_M, w_M1, w_M2, w_T, w_T1, w_C, w_C1, w_Z, w_and, w_and1, w_or, w_or1, w_not, w_not1, w_tn, w_tn1, w_E, w_E1, w_E2, w_nl, w_nl1, w_nl2, w_C2_0, w_Z1_0, w_C2_1, w_Z1_1, w_C2_2, w_Z1_2, w_C2_3, w_Z1_3, w_C2_4, w_Z1_4, w_C2_5, w_Z1_5, w_seq, w_seq1, w_seq2, w_seq3, w_if, w_if1, w_skip, w_set, w_set1, w_setR, w_setR1, w_setN, w_setN1, w_setN2, w_inc, w_inc1, w_put, w_put1, w_put2, w_put3, w_wf0, w_wf1, w_po, w_po1, w_po2, w_ast, w_ast1, w_ast2, w_ast3, w_aop, w_aop1, w_aop2, w_aop3, w_aop4, w_ret, w_ret0, w_ret1, w_retN, w_retN1, w_retN2, w_retV, w_throw, w_aN, w_aI, w_aI1, w_aI2, w_aR, w_aR1, w_ask, w_ask1, w_V, w_V1, w_V2, w_S, w_S1, w_CI, w_CI1, w_CR, w_CR1, w_CN, w_CN1, w_CN2, w_CV, w_CV1, w_CV2, w_pop, w_pop1, w_popR, w_popR1, w_cast, w_cast1, w_run, lc_0, lc_I, lc_R, lc_N, lc_J, w_run1, w_run2, ite_s1, ite_01, ite_10, ite_nz, i_10, i_01, i_20, i_02, i_21, i_12, i_30, i_03, i_40, i_04, il_00, il_10, il_20, il_01, il_02, sl_r, sl_I, sl_L, w_J, w_LJ, w_LJ1, w_BJ, w_BJ1, w_BJ2, w_Sh, w_Sh1, w_Sh2, w_BC, w_BC1, w_BC2, w_IL, w_IL1, w_LI, w_LI1, w_Rm, w_Rm1, w_Rm2, w_AJ, w_AJ1, w_AJ2, w_AJ3, w_rj0, w_wj0, w_rj1, w_wj1, w_rj2, w_wj2, w_rj3, w_wj3, w_rj4, w_wj4, w_uj1, w_uj2, w_uj3, w_uj4, sl_J, w_setJ, w_setJ1, w_aJs, w_aJs1, w_aJs2, w_aJs3, w_jop, w_jop1, w_jop2, w_jop3, w_jop4, w_retJ, w_retJ1, w_aJ, w_aJ1, w_CJ, w_CJ1, List.getElem?_cons_zero, List.getElem?_cons_succ, List.set_cons_zero, List.set_cons_succ, List.map_cons, List.map_nil, List.length_cons, List.length_nil, List.cons_append, List.nil_append, List.append_nil, List.replicate_succ, List.replicate_zero, Nat.reduceSub, Nat.reduceAdd, Nat.reduceEqDiff, if_true, if_false, true_and, and_true, reduceCtorEq, ite_true, ite_false, Bool.false_eq_true, Nat.zero_add, Nat.add_zero, Nat.sub_self, Nat.reduceLT, decide_eq_true_eq, Bool.not_eq_true, not_true_eq_false, not_false_eq_true, decide_true, decide_false, decide_not, Bool.decide_eq_true, and_self, or_self, or_true, true_or, or_false, false_or, false_and, and_false, ne_eq, Bool.not_not, Bool.not_eq_eq_eq_not, Nat.reduceEqDiff, Nat.reduceLeDiff, Bool.not_true, Bool.not_false, eq_self, ladd_I, ladd_L1, ladd_Ln, ladd_n, ladd_J, lrem_I, lrem_L1, lrem_Ln, lrem_N, grw_I, grw_L, grw_n, grw_J, sdr_u, tk_u, sdr_a, tk_a, sdr_r, tk_r, rg_get, List.length_range, fil_2, fil_I, sdr_f, tk_f, sl_fil, aO_2, pr_n, aO_I, aO_L, sl_aO, pr_I, pr_L, sl_pr, gN_n, d1_n, dl_n, gN_I, gN_L, sl_gN, d1_I, d1_L, d1_L1, sl_d1, dl_I, dl_L, dl_L1, sl_dl, sdr_dl, tk_dl, sl_dH, fil_2, sl_gT, sl_tI, tO_2, tO_Ln, tO_I, sl_tO, tI_n, stp_n, sl_lO, sl_dp, sl_cV, sl_rst, ib_0_8, ib_0_12, ib_0_48, cl_0, ib_1_8, ib_1_12, ib_1_48, cl_1, ib_2_8, ib_2_12, ib_2_48, cl_2, ib_3_8, ib_3_12, ib_3_48, cl_3, ib_4_8, ib_4_12, ib_4_48, cl_4, ib_5_8, ib_5_12, ib_5_48, cl_5, ib_6_8, ib_6_12, ib_6_48, cl_6, ib_7_8, ib_7_12, ib_7_48, cl_7, ib_8_12, ib_8_48, cl_8, ib_9_12, ib_9_48, cl_9, ib_10_12, ib_10_48, cl_10, ib_11_12, ib_11_48, cl_11, n_p4, n_p8, e_at, e_with, e_state, e_becomes, e_has, e_many, cmp_e, il_m1, ge_m1])
  subst e1
  subst e2
  subst hN
  have R2 : RY (sd2 σ i) (LSd τ (σ.2.2.1 0) i x) A := h.new W hi hn (fun j hj => by rw [e3 j hj]; simp [hj])
  have W2 : WF (sd2 σ i) := W.sd2 hi hn
  have hm2 : σ.2.2.1 0 < (sd2 σ i).2.2.1 0 := by rw [sd2_n]; omega
  have hli := W.len (k := 3 + i) (by omega)
  have esn : sdr (sd2 σ i) (σ.2.2.1 0) = i := by
    unfold sdr
    rw [sd2_new (by decide) (by decide), nm_v21, cl_nI (a := i) (by omega)]
  have R3 : RY (sd3 σ i) (LD (LSd τ (σ.2.2.1 0) i x) (σ.2.2.1 0) i) A := by
    refine R2.dlv (σ1 := sd2 σ i) W2 (fun a ha => ?_) hm2 hi (by rw [sd2_L (by omega)]; exact new_notin W (by omega)) (fun z => ?_) (fun _ _ _ => rfl) (fun _ _ _ => rfl) (fun _ _ => rfl) rfl (fun _ _ => Iff.rfl) (by rw [sd2_L (by omega)]; exact new_notin W (by omega)) (List.Sublist.refl _)
    · rw [sd2_n] at ha
      by_cases c : a = σ.2.2.1 0
      · unfold hst
        rw [c, esn, sd2_L (by omega), sd2_new (by decide) (by decide), nm_v22, cl_nI (a := (σ.2.1 (3 + i)).length) (by omega)]
        exact Nat.le_refl _
      · have e1 : sdr (sd2 σ i) a = sdr σ a := by unfold sdr; rw [sd2_I (fun q => c q.1) (by decide)]
        have e2 : hst (sd2 σ i) a = hst σ a := by unfold hst; rw [sd2_I (fun q => c q.1) (by decide)]
        rw [e1, e2, sd2_L (by omega)]
        exact C.le a (by omega)
    · rw [sd2_new (by decide) (by decide), nm_v23]
  have R4 : RY (sd4 σ i) (LD (LSd τ (σ.2.2.1 0) i x) (σ.2.2.1 0) i) A := R3.ofC ⟨fun k hk h26 => by funext o j; exact sd4_I h26, rfl, rfl⟩
  have I4 := L.sn4 hi hal hn
  have W4 := I4.1.1.1
  have P4 := I4.2.2.2.2.2.1.1
  have hal4 : ¬ (sd4 σ i).1 14 i 0 = 0 := by
    rw [sd4_old (by decide) (by decide) (by decide) (by decide) (Or.inr (by decide))]
    exact L.2.1 i hi hal
  have n4 : (sd4 σ i).2.2.1 0 = σ.2.2.1 0 + 1 := by
    show (sd3 σ i).2.2.1 0 = _
    unfold sd3
    rw [dl_n, sd2_n]
  obtain ⟨υ, q1, q2, q3⟩ := e_pro R4 W4 P4 (by omega) (m := σ.2.2.1 0) (by rw [n4]; omega) hi (fun j hj _ => by
    rw [sd4_new hi (by decide) (by decide) (by decide) (by decide) (by decide) (by decide), nm_v28, fNeg4 hj]) hal4
  have d1 := e_dlv (τ := LSd τ (σ.2.2.1 0) i x) (m := σ.2.2.1 0) (i := i) (by omega) hi
  have s1 := (LD_fl (τ := LSd τ (σ.2.2.1 0) i x) (m := σ.2.2.1 0) (i := i)).sl
  have s2 := q3.sl
  refine ⟨υ, ?_, q2, LSd_fl.tr (LD_fl.tr q3)⟩
  have eq0 : upI (upI (upJ (upJ (upI (upJ (upJ (upI τ 54 0 0 (nI (σ.2.2.1 0 + 1))) 0 (σ.2.2.1 0) (τ.2.2.2 1 i)) 1 (4 + i) (τ.2.2.2 1 (4 + i) ||| jShl 1 (nI (σ.2.2.1 0)))) 50 0 (σ.2.2.1 0) 0) 2 (σ.2.2.1 0) 0) 4 (σ.2.2.1 0) 0) 51 0 (σ.2.2.1 0) (-1)) 52 0 (σ.2.2.1 0) (-1) = LSd τ (σ.2.2.1 0) i 0 := rfl
  simp (disch := first | omega | (simp only [w_ui2, w_ul3, w_uj3, ladd_n, lrem_N, grw_n, ladd_Ln, lrem_Ln, grw_L, List.length_range, fil_2, aO_2, pr_n, gN_n, d1_n, dl_n, fil_2, tO_2, tO_Ln, tI_n, stp_n]; omega)) only [w_I, w_L, w_L1, w_LR, w_LR1, w_LN, w_LN1, w_LN2, w_null, w_N, w_N1, w_B, w_B1, w_B2, w_GI, w_GI1, w_GR, w_GR1, w_A, w_A1, w_A2, w_A3, w_rd3, w_wr3, w_rd7, w_wr7, w_rd8, w_wr8, w_rd9, w_wr9, w_rd10, w_wr10, w_rm0, w_wm0, w_rm1, w_wm1, w_rm2, w_wm2, w_rm3, w_wm3, w_rm4, w_wm4, w_v0, w_v1, w_v2, w_v3, w_v4, w_v6, w_v7, w_v8, w_v9, w_v10, inB_t, cl_nI, w_ui1, w_ui2, w_ul1, w_ul3, w_lsz, w_lget, w_ladd, w_lrem, sl_ladd, sl_lrem, sl_grw, n_eq, n_lt, n_le, n_add, n_ad1, n_lt4, n_neg, n_lt0, n_ge0, w_M, w_M1, w_M2, w_T, w_T1, w_C, w_C1, w_Z, w_and, w_and1, w_or, w_or1, w_not, w_not1, w_tn, w_tn1, w_E, w_E1, w_E2, w_nl, w_nl1, w_nl2, w_C2_0, w_Z1_0, w_C2_1, w_Z1_1, w_C2_2, w_Z1_2, w_C2_3, w_Z1_3, w_C2_4, w_Z1_4, w_C2_5, w_Z1_5, w_seq, w_seq1, w_seq2, w_seq3, w_if, w_if1, w_skip, w_set, w_set1, w_setR, w_setR1, w_setN, w_setN1, w_setN2, w_inc, w_inc1, w_put, w_put1, w_put2, w_put3, w_wf0, w_wf1, w_po, w_po1, w_po2, w_ast, w_ast1, w_ast2, w_ast3, w_aop, w_aop1, w_aop2, w_aop3, w_aop4, w_ret, w_ret0, w_ret1, w_retN, w_retN1, w_retN2, w_retV, w_throw, w_aN, w_aI, w_aI1, w_aI2, w_aR, w_aR1, w_ask, w_ask1, w_V, w_V1, w_V2, w_S, w_S1, w_CI, w_CI1, w_CR, w_CR1, w_CN, w_CN1, w_CN2, w_CV, w_CV1, w_CV2, w_pop, w_pop1, w_popR, w_popR1, w_cast, w_cast1, w_run, lc_0, lc_I, lc_R, lc_N, lc_J, w_run1, w_run2, ite_s1, ite_01, ite_10, ite_nz, i_10, i_01, i_20, i_02, i_21, i_12, i_30, i_03, i_40, i_04, il_00, il_10, il_20, il_01, il_02, sl_r, sl_I, sl_L, w_J, w_LJ, w_LJ1, w_BJ, w_BJ1, w_BJ2, w_Sh, w_Sh1, w_Sh2, w_BC, w_BC1, w_BC2, w_IL, w_IL1, w_LI, w_LI1, w_Rm, w_Rm1, w_Rm2, w_AJ, w_AJ1, w_AJ2, w_AJ3, w_rj0, w_wj0, w_rj1, w_wj1, w_rj2, w_wj2, w_rj3, w_wj3, w_rj4, w_wj4, w_uj1, w_uj2, w_uj3, w_uj4, sl_J, w_setJ, w_setJ1, w_aJs, w_aJs1, w_aJs2, w_aJs3, w_jop, w_jop1, w_jop2, w_jop3, w_jop4, w_retJ, w_retJ1, w_aJ, w_aJ1, w_CJ, w_CJ1, List.getElem?_cons_zero, List.getElem?_cons_succ, List.set_cons_zero, List.set_cons_succ, List.map_cons, List.map_nil, List.length_cons, List.length_nil, List.cons_append, List.nil_append, List.append_nil, List.replicate_succ, List.replicate_zero, Nat.reduceSub, Nat.reduceAdd, Nat.reduceEqDiff, if_true, if_false, true_and, and_true, reduceCtorEq, ite_true, ite_false, Bool.false_eq_true, Nat.zero_add, Nat.add_zero, Nat.sub_self, Nat.reduceLT, decide_eq_true_eq, Bool.not_eq_true, not_true_eq_false, not_false_eq_true, decide_true, decide_false, decide_not, Bool.decide_eq_true, and_self, or_self, or_true, true_or, or_false, false_or, false_and, and_false, ne_eq, Bool.not_not, Bool.not_eq_eq_eq_not, Nat.reduceEqDiff, Nat.reduceLeDiff, Bool.not_true, Bool.not_false, eq_self, ladd_I, ladd_L1, ladd_Ln, ladd_n, ladd_J, lrem_I, lrem_L1, lrem_Ln, lrem_N, grw_I, grw_L, grw_n, grw_J, sdr_u, tk_u, sdr_a, tk_a, sdr_r, tk_r, rg_get, List.length_range, fil_2, fil_I, sdr_f, tk_f, sl_fil, aO_2, pr_n, aO_I, aO_L, sl_aO, pr_I, pr_L, sl_pr, gN_n, d1_n, dl_n, gN_I, gN_L, sl_gN, d1_I, d1_L, d1_L1, sl_d1, dl_I, dl_L, dl_L1, sl_dl, sdr_dl, tk_dl, sl_dH, fil_2, sl_gT, sl_tI, tO_2, tO_Ln, tO_I, sl_tO, tI_n, stp_n, sl_lO, sl_dp, sl_cV, sl_rst, ib_0_8, ib_0_12, ib_0_48, cl_0, ib_1_8, ib_1_12, ib_1_48, cl_1, ib_2_8, ib_2_12, ib_2_48, cl_2, ib_3_8, ib_3_12, ib_3_48, cl_3, ib_4_8, ib_4_12, ib_4_48, cl_4, ib_5_8, ib_5_12, ib_5_48, cl_5, ib_6_8, ib_6_12, ib_6_48, cl_6, ib_7_8, ib_7_12, ib_7_48, cl_7, ib_8_12, ib_8_48, cl_8, ib_9_12, ib_9_48, cl_9, ib_10_12, ib_10_48, cl_10, ib_11_12, ib_11_48, cl_11, n_p4, n_p8, e_at, e_with, e_state, e_becomes, e_has, e_many, cmp_e, il_m1, ge_m1, f_L_sends, b_L_sends, g0, eq0, k1, d1, s1, q1, s2]
end SN
