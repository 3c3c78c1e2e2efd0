/-! pure: what the reference writes: a message is dropped -/
section DR
variable {σ τ υ : Sg} {m i j k n a b o k2 o2 j2 t B q : Nat} {x y : Int32} {l : List Nat}
theorem Rel.rNum {σ' τ' : Sg} (h : Rel σ τ) (s1 : ∀ k, k < 30 → k ≠ 23 → k ≠ 24 → σ'.1 k = σ.1 k) (s2 : ∀ k, k ≠ 1 → k ≠ 2 → σ'.2.1 k = σ.2.1 k) (s3 : σ'.2.2.1 0 = σ.2.2.1 0) (t1 : ∀ k, 41 ≤ k → k ≠ 55 → k ≠ 56 → k ≠ 42 → τ'.1 k = τ.1 k) (h55 : ∀ a, a < σ.2.2.1 0 → τ'.1 55 0 a = σ'.1 23 a 0) (h56 : ∀ a, a < σ.2.2.1 0 → τ'.1 56 0 a = σ'.1 24 a 0) (h42 : τ'.1 42 0 0 = nI (σ'.2.1 1).length) : Rel σ' τ' := by
  obtain ⟨h1, h2, h3, h4, h5, h6, h7, h8, h9, h10, h11, h12, h13, h14, h15, h16, h17, h18, h19, h20, h21, h22⟩ := h
  have ht : tk σ' = tk σ := by unfold tk; rw [s1 0 (by decide) (by decide) (by decide)]
  unfold Rel
  rw [s1 21 (by decide) (by decide) (by decide), s1 27 (by decide) (by decide) (by decide), s1 26 (by decide) (by decide) (by decide), s1 28 (by decide) (by decide) (by decide), s1 25 (by decide) (by decide) (by decide), s1 13 (by decide) (by decide) (by decide), s1 14 (by decide) (by decide) (by decide), s1 16 (by decide) (by decide) (by decide), s1 12 (by decide) (by decide) (by decide), s1 11 (by decide) (by decide) (by decide), s1 15 (by decide) (by decide) (by decide), s1 1 (by decide) (by decide) (by decide), s1 0 (by decide) (by decide) (by decide), s1 2 (by decide) (by decide) (by decide), s3, ht]
  rw [t1 50 (by decide) (by decide) (by decide) (by decide), t1 51 (by decide) (by decide) (by decide) (by decide), t1 52 (by decide) (by decide) (by decide) (by decide), t1 53 (by decide) (by decide) (by decide) (by decide), t1 54 (by decide) (by decide) (by decide) (by decide), t1 57 (by decide) (by decide) (by decide) (by decide), t1 58 (by decide) (by decide) (by decide) (by decide), t1 59 (by decide) (by decide) (by decide) (by decide), t1 60 (by decide) (by decide) (by decide) (by decide), t1 61 (by decide) (by decide) (by decide) (by decide), t1 62 (by decide) (by decide) (by decide) (by decide), t1 63 (by decide) (by decide) (by decide) (by decide), t1 64 (by decide) (by decide) (by decide) (by decide), t1 65 (by decide) (by decide) (by decide) (by decide), t1 66 (by decide) (by decide) (by decide) (by decide), t1 41 (by decide) (by decide) (by decide) (by decide), t1 43 (by decide) (by decide) (by decide) (by decide), t1 44 (by decide) (by decide) (by decide) (by decide), t1 45 (by decide) (by decide) (by decide) (by decide)]
  exact ⟨h1, h2, h3, h4, h5, h55, h56, h8, h9, h10, fun a ha => by rw [s2 (3 + a) (by omega) (by omega)]; exact h11 a ha, fun a b ha hb => by rw [s2 (3 + a) (by omega) (by omega)] at hb ⊢; exact h12 a b ha hb, fun a ha => by rw [s2 (7 + a) (by omega) (by omega)]; exact h13 a ha, fun a b ha hb => by rw [s2 (7 + a) (by omega) (by omega)] at hb ⊢; exact h14 a b ha hb, h15, h16, h17, h18, h42, h20, h21, h22⟩
def csn (σ : Sg) (m : Nat) : Nat → Sg
  | 0 => upI σ 25 m 0 1
  | j + 1 => upI (if σ.1 13 j 0 = 0 then csn σ m j else S_tO (csn σ m j) (7 + j) m) 27 m j 4
theorem csn_s : csn σ m (j + 1) = upI (if σ.1 13 j 0 = 0 then csn σ m j else S_tO (csn σ m j) (7 + j) m) 27 m j 4 := rfl
theorem csn_I (h : k2 ≠ 25) (h1 : k2 ≠ 27) (h2 : k2 ≠ 30) : ∀ t, (csn σ m t).1 k2 o2 j2 = σ.1 k2 o2 j2 := by
  intro t
  induction t with
  | zero => exact upI_n h
  | succ t ih =>
    rw [csn_s, upI_n h1]
    split
    · exact ih
    · rw [tO_I h2]; exact ih
theorem csn_25 : ∀ t, (csn σ m t).1 25 o2 j2 = (upI σ 25 m 0 1).1 25 o2 j2 := by
  intro t
  induction t with
  | zero => rfl
  | succ t ih =>
    rw [csn_s, upI_n (by decide)]
    split
    · exact ih
    · rw [tO_I (by decide)]; exact ih
theorem csn_27 : ∀ t, (csn σ m t).1 27 o2 j2 = if o2 = m ∧ j2 < t then 4 else σ.1 27 o2 j2 := by
  intro t
  induction t with
  | zero => rw [if_neg (by omega)]; exact upI_n (by decide)
  | succ t ih =>
    have e : (if σ.1 13 t 0 = 0 then csn σ m t else S_tO (csn σ m t) (7 + t) m).1 27 o2 j2 = (csn σ m t).1 27 o2 j2 := by
      split
      · rfl
      · exact tO_I (by decide)
    rw [csn_s, w_ui1, e, ih]
    by_cases c : o2 = m ∧ j2 = t
    · rw [if_pos ⟨rfl, c.1, c.2⟩, if_pos ⟨c.1, by omega⟩]
    · rw [if_neg (fun q => c q.2)]
      by_cases d : o2 = m ∧ j2 < t
      · rw [if_pos d, if_pos ⟨d.1, by omega⟩]
      · rw [if_neg d, if_neg (by omega)]
theorem csn_2 : ∀ t, (csn σ m t).2.2 = σ.2.2 := by
  intro t
  induction t with
  | zero => rfl
  | succ t ih =>
    rw [csn_s, w_ui2]
    split
    · exact ih
    · rw [tO_2]; exact ih
theorem WF.csn (W : WF σ) : ∀ t, WF (csn σ m t) := by
  intro t
  induction t with
  | zero => exact W.b01 (Or.inr (Or.inr rfl)) (Or.inr rfl)
  | succ t ih =>
    rw [csn_s]
    split
    · exact ih.u (by decide)
    · exact (ih.tO (by omega)).u (by decide)
theorem tO_cong {A C : Sg} (h : A.2.1 = C.2.1) : (S_tO A k m).2.1 = (S_tO C k m).2.1 := by
  have e : toP A k m = toP C k m := by funext j; unfold toP; rw [h]
  unfold S_tO
  rw [e, h]
  split
  · unfold lrem upL
    show (fun k' => if k' = k then _ else A.2.1 k') = (fun k' => if k' = k then _ else C.2.1 k')
    rw [h]
  · exact h
theorem dpH_csn : ∀ t, (dpH (dp0 σ m) m t).2.1 = (csn σ m t).2.1 := by
  intro t
  induction t with
  | zero => rfl
  | succ t ih =>
    have e : (dp0 σ m).1 13 t 0 = σ.1 13 t 0 := by unfold dp0; rw [fil_I (by decide), upI_n (by decide)]
    rw [dpH_s, csn_s, w_ui2, e]
    split
    · exact ih
    · exact tO_cong ih
theorem idx_ne {b : Nat} (h : ¬ b = a) : (b :: l).idxOf a = l.idxOf a + 1 := by
  rw [List.idxOf_cons, show (b == a) = false from beq_false_of_ne h]
  rfl
theorem idx_flt : ∀ (l : List Nat), l.Nodup → m ∈ l → a ∈ l → a ≠ m → (l.filter (fun x => x != m)).idxOf a = if l.idxOf m < l.idxOf a then l.idxOf a - 1 else l.idxOf a := by
  intro l
  induction l with
  | nil => intro _ h; cases h
  | cons b l ih =>
    intro hn hm ha hne
    rw [List.nodup_cons] at hn
    by_cases e1 : b = m
    · subst e1
      have h0 : ¬ b = a := fun q => hne q.symm
      have hal : a ∈ l := by
        rcases List.mem_cons.mp ha with q | q
        · exact absurd q hne
        · exact q
      have hf : l.filter (fun x => x != b) = l := by
        rw [List.filter_eq_self]
        intro x hx
        have : x ≠ b := fun q => hn.1 (by rw [← q]; exact hx)
        simpa using this
      rw [List.filter_cons_of_neg (by simp), hf, List.idxOf_cons_self, idx_ne h0, if_pos (by omega)]
      omega
    · by_cases e2 : b = a
      · subst e2
        rw [List.filter_cons_of_pos (by simpa using e1), List.idxOf_cons_self, List.idxOf_cons_self, if_neg (by omega)]
      · have hml : m ∈ l := by
          rcases List.mem_cons.mp hm with q | q
          · exact absurd q.symm e1
          · exact q
        have hal : a ∈ l := by
          rcases List.mem_cons.mp ha with q | q
          · exact absurd q.symm e2
          · exact q
        have := ih hn.2 hml hal hne
        rw [List.filter_cons_of_pos (by simpa using e1), idx_ne e2, idx_ne e1, idx_ne e2, this]
        by_cases c : l.idxOf m < l.idxOf a
        · rw [if_pos c, if_pos (by omega)]; omega
        · rw [if_neg c, if_neg (by omega)]
theorem num_flt (hn : l.Nodup) (hl : l.length < 2147483648) (hm : m ∈ l) (hne : a ≠ m) : num (l.filter (fun x => x != m)) a = num l a - (if num l m < num l a then 1 else 0) := by
  have z : ∀ x : Int32, x - 0 = x := fun x => by simp
  have im := List.idxOf_lt_length_of_mem hm
  by_cases c : a ∈ l
  · have ia := List.idxOf_lt_length_of_mem c
    have cf : a ∈ l.filter (fun x => x != m) := by rw [List.mem_filter]; exact ⟨c, by simpa using hne⟩
    rw [num_in cf, num_in c, num_in hm, idx_flt l hn hm c hne]
    by_cases d : l.idxOf m < l.idxOf a
    · rw [if_pos d, if_pos (nI_lt d (by omega))]
      obtain ⟨p, hp⟩ : ∃ p, l.idxOf a = p + 1 := ⟨l.idxOf a - 1, by omega⟩
      rw [hp, nI_pred]
      rfl
    · rw [if_neg d, if_neg (nI_nlt (by omega) (by omega)), z]
  · have cf : a ∉ l.filter (fun x => x != m) := fun q => c (List.mem_filter.mp q).1
    have : ¬ nI (l.idxOf m) < (-1 : Int32) := by rw [Int32.lt_iff_toInt_lt, nI_toInt (by omega), show (-1 : Int32).toInt = -1 by decide]; omega
    rw [num_no cf, num_no c, num_in hm, if_neg this, z]
theorem rnm_v (hn : (σ.2.1 1).Nodup) : ∀ t, t ≤ (σ.2.1 1).length → (rnm σ t).1 23 a 0 = if a ∈ (σ.2.1 1).take t then nI ((σ.2.1 1).idxOf a) else σ.1 23 a 0 := by
  intro t
  induction t with
  | zero => intro _; rw [List.take_zero, if_neg (by simp)]; rfl
  | succ t ih =>
    intro ht
    rw [rnm_s, take_sn (by omega)]
    by_cases c : a = (σ.2.1 1).getD t 0
    · rw [← c, upI_s, if_pos (by simp), c, idx_get hn (by omega)]
    · rw [upI_o (fun q => c q.1), ih (by omega)]
      by_cases d : a ∈ (σ.2.1 1).take t
      · rw [if_pos d, if_pos (List.mem_append_left _ d)]
      · rw [if_neg d, if_neg]
        intro q
        rcases List.mem_append.mp q with q | q
        · exact d q
        · simp only [List.mem_singleton] at q
          exact c q
theorem dp_L1 (W : WF σ) : (S_dp σ m).2.1 1 = (σ.2.1 1).filter (fun x => x != m) := by
  have e3 : (dp3 σ m).2.1 1 = σ.2.1 1 := by
    show (S_tO (dp1 σ m) 2 m).2.1 1 = _
    rw [tO_Ln (by decide)]
    exact dpH_L (by decide) 4
  have hnd : ((dp3 σ m).2.1 1).Nodup := by rw [e3]; exact W.nd (by decide)
  unfold S_dp
  rw [rnm_2]
  show (S_tO (dp3 σ m) 1 m).2.1 1 = _
  rw [tO_L1 hnd, e3]
theorem dp_L2 (W : WF σ) : (S_dp σ m).2.1 2 = (σ.2.1 2).filter (fun x => x != m) := by
  have e1 : (dp1 σ m).2.1 2 = σ.2.1 2 := dpH_L (by decide) 4
  have hnd : ((dp1 σ m).2.1 2).Nodup := by rw [e1]; exact W.nd (by decide)
  unfold S_dp
  rw [rnm_2]
  show (S_tO (dp3 σ m) 1 m).2.1 2 = _
  rw [tO_Ln (by decide)]
  show (S_tO (dp1 σ m) 2 m).2.1 2 = _
  rw [tO_L1 hnd, e1]
theorem dp_Lo (h1 : k2 ≠ 1) (h2 : k2 ≠ 2) : (S_dp σ m).2.1 k2 = (csn σ m 4).2.1 k2 := by
  unfold S_dp
  rw [rnm_2]
  show (S_tO (dp3 σ m) 1 m).2.1 k2 = _
  rw [tO_Ln h1]
  show (S_tO (dp1 σ m) 2 m).2.1 k2 = _
  rw [tO_Ln h2]
  exact congrFun (dpH_csn 4) k2
theorem dp5_I (h : k2 ≠ 25) (h1 : k2 ≠ 27) (h2 : k2 ≠ 30) (h3 : k2 ≠ 24) (h4 : k2 ≠ 23) : (dp5 σ m).1 k2 o2 j2 = σ.1 k2 o2 j2 := by
  unfold dp5
  rw [upI_n h4, tO_I h2]
  unfold dp3
  rw [upI_n h3, tO_I h2]
  unfold dp1
  rw [dpH_I h2]
  unfold dp0
  rw [fil_I h1, upI_n h]
theorem dp_I (h : k2 ≠ 25) (h1 : k2 ≠ 27) (h2 : k2 ≠ 30) (h3 : k2 ≠ 24) (h4 : k2 ≠ 23) : (S_dp σ m).1 k2 o2 j2 = σ.1 k2 o2 j2 := by
  unfold S_dp
  rw [rnm_I h4]
  exact dp5_I h h1 h2 h3 h4
theorem dp_25 : (S_dp σ m).1 25 o2 j2 = (upI σ 25 m 0 1).1 25 o2 j2 := by
  unfold S_dp
  rw [rnm_I (by decide)]
  unfold dp5
  rw [upI_n (by decide), tO_I (by decide)]
  unfold dp3
  rw [upI_n (by decide), tO_I (by decide)]
  unfold dp1
  rw [dpH_I (by decide)]
  unfold dp0
  rw [fil_I (by decide)]
theorem dp_27 : (S_dp σ m).1 27 o2 j2 = if o2 = m ∧ j2 < 4 then 4 else σ.1 27 o2 j2 := by
  unfold S_dp
  rw [rnm_I (by decide)]
  unfold dp5
  rw [upI_n (by decide), tO_I (by decide)]
  unfold dp3
  rw [upI_n (by decide), tO_I (by decide)]
  unfold dp1
  rw [dpH_I (by decide)]
  have e : (dp0 σ m).1 27 o2 j2 = if 27 = 27 ∧ o2 = m ∧ j2 < 4 then 4 else (upI σ 25 m 0 1).1 27 o2 j2 := rfl
  rw [e, upI_n (by decide)]
  simp
theorem dp_24 : (S_dp σ m).1 24 o2 0 = if o2 = m then -1 else σ.1 24 o2 0 := by
  unfold S_dp
  rw [rnm_I (by decide)]
  unfold dp5
  rw [upI_n (by decide), tO_I (by decide)]
  unfold dp3
  rw [w_ui1, tO_I (by decide)]
  have : (dp1 σ m).1 24 o2 0 = σ.1 24 o2 0 := by
    unfold dp1
    rw [dpH_I (by decide)]
    unfold dp0
    rw [fil_I (by decide), upI_n (by decide)]
  rw [this]
  simp
theorem dp_23 (W : WF σ) (N : NB σ) (ha : a < σ.2.2.1 0) : (S_dp σ m).1 23 a 0 = num ((σ.2.1 1).filter (fun x => x != m)) a := by
  have e1 : (dp5 σ m).2.1 1 = (σ.2.1 1).filter (fun x => x != m) := by
    have := dp_L1 (m := m) W
    unfold S_dp at this
    rwa [rnm_2] at this
  have hnd : ((dp5 σ m).2.1 1).Nodup := by rw [e1]; exact List.Pairwise.filter _ (W.nd (by decide))
  unfold S_dp
  rw [rnm_v hnd _ (Nat.le_refl _), List.take_length, e1]
  by_cases c : a ∈ (σ.2.1 1).filter (fun x => x != m)
  · rw [if_pos c, num_in c]
  · rw [if_neg c, num_no c]
    unfold dp5
    rw [w_ui1]
    by_cases d : a = m
    · rw [if_pos ⟨rfl, d, rfl⟩]
    · rw [if_neg (fun q => d q.2.1), tO_I (by decide)]
      have e2 : (dp3 σ m).1 23 a 0 = σ.1 23 a 0 := by
        unfold dp3
        rw [upI_n (by decide), tO_I (by decide)]
        unfold dp1
        rw [dpH_I (by decide)]
        unfold dp0
        rw [fil_I (by decide), upI_n (by decide)]
      rw [e2, N a ha, num_no]
      intro q
      exact c (by rw [List.mem_filter]; exact ⟨q, by simpa using d⟩)
theorem NB.dp (N : NB σ) (W : WF σ) : NB (S_dp σ m) := fun a ha => by
  rw [dp_2] at ha
  rw [dp_23 W N ha, dp_L1 W]
theorem e_drops (h : Rel σ τ) (W : WF σ) (N : NB σ) (hm : m < σ.2.2.1 0) (hw : ∀ j, j < 4 → ¬ σ.1 13 j 0 = 0 → m ∈ σ.2.1 (7 + j) → σ.1 27 m j = 1) : ∃ υ, f_X3_drops [ar (11, 0), ai (nI m)] τ = some (.inl none, υ) ∧ Rel (S_dp σ m) υ ∧ Fr τ υ := by
  have hn := W.n
  have hL := W.len (k := 1) (by decide)
  obtain ⟨⟨lc, υ1⟩, h1, υ', h2, R1, F1⟩ := wh_inv (N := 1000) (c := (cCmp (bop 0) (xL 2) (xI 4))) (b := (sSeq (sSeq (sIf (cAnd (cCmp (bop 4) (xAld false (xGR 11 (fun _ => (12, 1)) (xLR 0)) (xBin (· + ·) (xBin (· * ·) (xI 4) (xL 1)) (xL 2))) (xI 1)) (cNot (cZ (fun x => bop 5 x 0) (xAld true (xGR 11 (fun _ => (12, 7)) (xLR 0)) (xL 2))))) (sCV (xV 11 f_X3_leavesQueue (xLR 0) (aI (xL 1) (aI (xL 2) aNil)))) sSkip) (sAst false (xGR 11 (fun _ => (12, 1)) (xLR 0)) (xBin (· + ·) (xBin (· * ·) (xI 4) (xL 1)) (xL 2)) (xI 4))) (sInc 2 1))) (fun j s => ∃ υ : Sg, s = ([some (ar (11, 0)), some (ai (nI m)), some (ai (nI j))], υ) ∧ Rel (csn σ m j) υ ∧ Fr τ υ) 4 (by decide) (fun j hj s hs => by
      obtain ⟨υ, rfl, R, F⟩ := hs
      simp (disch := first | omega | (simp only [w_ui2, w_ul3, ladd_n, lrem_N, grw_n, ladd_Ln, lrem_Ln, grw_L, List.length_range, fil_2, aO_2, pr_n, gN_n, d1_n, dl_n, fil_2, tO_2, tO_Ln, tI_n, stp_n]; omega)) only [w_I, w_L, w_L1, w_LR, w_LR1, w_LN, w_LN1, w_LN2, w_null, w_N, w_N1, w_B, w_B1, w_B2, w_GI, w_GI1, w_GR, w_GR1, w_A, w_A1, w_A2, w_A3, w_rd3, w_wr3, w_rd7, w_wr7, w_rd8, w_wr8, w_rd9, w_wr9, w_rd10, w_wr10, w_rm0, w_wm0, w_rm1, w_wm1, w_rm2, w_wm2, w_rm3, w_wm3, w_rm4, w_wm4, w_rm5, w_wm5, w_rm6, w_wm6, w_rm7, w_wm7, w_rm8, w_wm8, w_rm9, w_wm9, w_rm10, w_wm10, w_rm11, w_wm11, w_rm12, w_wm12, w_rm13, w_wm13, w_rm14, w_wm14, w_rm15, w_wm15, w_rm16, w_wm16, w_v0, w_v1, w_v11, w_v14, w_v2, w_v3, w_v4, w_v6, w_v7, w_v8, w_v9, w_v10, inB_t, cl_nI, w_ui1, w_ui2, w_ul1, w_ul3, w_lsz, w_lget, w_ladd, w_lrem, sl_ladd, sl_lrem, sl_grw, n_eq, n_lt, n_le, n_add, n_ad1, n_lt4, n_neg, n_lt0, n_ge0, w_M, w_M1, w_M2, w_T, w_T1, w_C, w_C1, w_Z, w_and, w_and1, w_or, w_or1, w_not, w_not1, w_tn, w_tn1, w_E, w_E1, w_E2, w_nl, w_nl1, w_nl2, w_C2_0, w_Z1_0, w_C2_1, w_Z1_1, w_C2_2, w_Z1_2, w_C2_3, w_Z1_3, w_C2_4, w_Z1_4, w_C2_5, w_Z1_5, w_seq, w_seq1, w_seq2, w_seq3, w_if, w_if1, w_skip, w_set, w_set1, w_setR, w_setR1, w_setN, w_setN1, w_setN2, w_inc, w_inc1, w_put, w_put1, w_put2, w_put3, w_wf0, w_wf1, w_po, w_po1, w_po2, w_ast, w_ast1, w_ast2, w_ast3, w_aop, w_aop1, w_aop2, w_aop3, w_aop4, w_ret, w_ret0, w_ret1, w_retN, w_retN1, w_retN2, w_retV, w_throw, w_aN, w_aI, w_aI1, w_aI2, w_aR, w_aR1, w_ask, w_ask1, w_V, w_V1, w_V2, w_S, w_S1, w_CI, w_CI1, w_CR, w_CR1, w_CN, w_CN1, w_CN2, w_CV, w_CV1, w_CV2, w_pop, w_pop1, w_popR, w_popR1, w_cast, w_cast1, w_run, w_run1, w_run2, ite_s1, ite_01, ite_10, ite_nz, i_10, i_01, i_20, i_02, i_21, i_12, i_30, i_03, i_40, i_04, il_00, il_10, il_20, il_01, il_02, sl_r, sl_I, sl_L, List.getElem?_cons_zero, List.getElem?_cons_succ, List.set_cons_zero, List.set_cons_succ, List.map_cons, List.map_nil, List.length_cons, List.length_nil, List.cons_append, List.nil_append, List.append_nil, List.replicate_succ, List.replicate_zero, Nat.reduceSub, Nat.reduceAdd, Nat.reduceEqDiff, if_true, if_false, true_and, and_true, reduceCtorEq, ite_true, ite_false, Bool.false_eq_true, Nat.zero_add, Nat.add_zero, Nat.sub_self, Nat.reduceLT, decide_eq_true_eq, Bool.not_eq_true, not_true_eq_false, not_false_eq_true, decide_true, decide_false, decide_not, Bool.decide_eq_true, and_self, or_self, or_true, true_or, or_false, false_or, false_and, and_false, ne_eq, Bool.not_not, Bool.not_eq_eq_eq_not, Nat.reduceEqDiff, Nat.reduceLeDiff, Bool.not_true, Bool.not_false, eq_self, ladd_I, ladd_L1, ladd_Ln, ladd_n, ladd_J, lrem_I, lrem_L1, lrem_Ln, lrem_N, grw_I, grw_L, grw_n, grw_J, sdr_u, tk_u, sdr_a, tk_a, sdr_r, tk_r, rg_get, List.length_range, fil_2, fil_I, sdr_f, tk_f, sl_fil, aO_2, pr_n, aO_I, aO_L, sl_aO, pr_I, pr_L, sl_pr, gN_n, d1_n, dl_n, gN_I, gN_L, sl_gN, d1_I, d1_L, d1_L1, sl_d1, dl_I, dl_L, dl_L1, sl_dl, sdr_dl, tk_dl, sl_dH, fil_2, sl_gT, sl_tI, tO_2, tO_Ln, tO_I, sl_tO, tI_n, stp_n, sl_lO, sl_dp, sl_cV, sl_rst, n_4m, n_48m, le_pred, ge0_pd, n_gt0, hj]) (fun j hj s hs => by
      obtain ⟨υ, rfl, R, F⟩ := hs
      have W1 : WF (csn σ m j) := W.csn j
      have hm1 : m < (csn σ m j).2.2.1 0 := by rw [csn_2]; exact hm
      have e1 := R.cpy hm1 hj
      rw [csn_27, if_neg (by omega)] at e1
      have e2 := R.fai hj
      rw [csn_I (by decide) (by decide) (by decide)] at e2
      by_cases c : σ.1 13 j 0 = 0
      · rw [if_pos c] at e2
        refine ⟨([some (ar (11, 0)), some (ai (nI m)), some (ai (nI (j + 1)))], upI υ 51 0 (4 * m + j) 4), ?_, _, rfl, ?_, F.tr (Fr.u (by decide))⟩
        · by_cases d : σ.1 27 m j = 1 <;> simp (disch := first | omega | (simp only [w_ui2, w_ul3, ladd_n, lrem_N, grw_n, ladd_Ln, lrem_Ln, grw_L, List.length_range, fil_2, aO_2, pr_n, gN_n, d1_n, dl_n, fil_2, tO_2, tO_Ln, tI_n, stp_n]; omega)) only [w_I, w_L, w_L1, w_LR, w_LR1, w_LN, w_LN1, w_LN2, w_null, w_N, w_N1, w_B, w_B1, w_B2, w_GI, w_GI1, w_GR, w_GR1, w_A, w_A1, w_A2, w_A3, w_rd3, w_wr3, w_rd7, w_wr7, w_rd8, w_wr8, w_rd9, w_wr9, w_rd10, w_wr10, w_rm0, w_wm0, w_rm1, w_wm1, w_rm2, w_wm2, w_rm3, w_wm3, w_rm4, w_wm4, w_rm5, w_wm5, w_rm6, w_wm6, w_rm7, w_wm7, w_rm8, w_wm8, w_rm9, w_wm9, w_rm10, w_wm10, w_rm11, w_wm11, w_rm12, w_wm12, w_rm13, w_wm13, w_rm14, w_wm14, w_rm15, w_wm15, w_rm16, w_wm16, w_v0, w_v1, w_v11, w_v14, w_v2, w_v3, w_v4, w_v6, w_v7, w_v8, w_v9, w_v10, inB_t, cl_nI, w_ui1, w_ui2, w_ul1, w_ul3, w_lsz, w_lget, w_ladd, w_lrem, sl_ladd, sl_lrem, sl_grw, n_eq, n_lt, n_le, n_add, n_ad1, n_lt4, n_neg, n_lt0, n_ge0, w_M, w_M1, w_M2, w_T, w_T1, w_C, w_C1, w_Z, w_and, w_and1, w_or, w_or1, w_not, w_not1, w_tn, w_tn1, w_E, w_E1, w_E2, w_nl, w_nl1, w_nl2, w_C2_0, w_Z1_0, w_C2_1, w_Z1_1, w_C2_2, w_Z1_2, w_C2_3, w_Z1_3, w_C2_4, w_Z1_4, w_C2_5, w_Z1_5, w_seq, w_seq1, w_seq2, w_seq3, w_if, w_if1, w_skip, w_set, w_set1, w_setR, w_setR1, w_setN, w_setN1, w_setN2, w_inc, w_inc1, w_put, w_put1, w_put2, w_put3, w_wf0, w_wf1, w_po, w_po1, w_po2, w_ast, w_ast1, w_ast2, w_ast3, w_aop, w_aop1, w_aop2, w_aop3, w_aop4, w_ret, w_ret0, w_ret1, w_retN, w_retN1, w_retN2, w_retV, w_throw, w_aN, w_aI, w_aI1, w_aI2, w_aR, w_aR1, w_ask, w_ask1, w_V, w_V1, w_V2, w_S, w_S1, w_CI, w_CI1, w_CR, w_CR1, w_CN, w_CN1, w_CN2, w_CV, w_CV1, w_CV2, w_pop, w_pop1, w_popR, w_popR1, w_cast, w_cast1, w_run, w_run1, w_run2, ite_s1, ite_01, ite_10, ite_nz, i_10, i_01, i_20, i_02, i_21, i_12, i_30, i_03, i_40, i_04, il_00, il_10, il_20, il_01, il_02, sl_r, sl_I, sl_L, List.getElem?_cons_zero, List.getElem?_cons_succ, List.set_cons_zero, List.set_cons_succ, List.map_cons, List.map_nil, List.length_cons, List.length_nil, List.cons_append, List.nil_append, List.append_nil, List.replicate_succ, List.replicate_zero, Nat.reduceSub, Nat.reduceAdd, Nat.reduceEqDiff, if_true, if_false, true_and, and_true, reduceCtorEq, ite_true, ite_false, Bool.false_eq_true, Nat.zero_add, Nat.add_zero, Nat.sub_self, Nat.reduceLT, decide_eq_true_eq, Bool.not_eq_true, not_true_eq_false, not_false_eq_true, decide_true, decide_false, decide_not, Bool.decide_eq_true, and_self, or_self, or_true, true_or, or_false, false_or, false_and, and_false, ne_eq, Bool.not_not, Bool.not_eq_eq_eq_not, Nat.reduceEqDiff, Nat.reduceLeDiff, Bool.not_true, Bool.not_false, eq_self, ladd_I, ladd_L1, ladd_Ln, ladd_n, ladd_J, lrem_I, lrem_L1, lrem_Ln, lrem_N, grw_I, grw_L, grw_n, grw_J, sdr_u, tk_u, sdr_a, tk_a, sdr_r, tk_r, rg_get, List.length_range, fil_2, fil_I, sdr_f, tk_f, sl_fil, aO_2, pr_n, aO_I, aO_L, sl_aO, pr_I, pr_L, sl_pr, gN_n, d1_n, dl_n, gN_I, gN_L, sl_gN, d1_I, d1_L, d1_L1, sl_d1, dl_I, dl_L, dl_L1, sl_dl, sdr_dl, tk_dl, sl_dH, fil_2, sl_gT, sl_tI, tO_2, tO_Ln, tO_I, sl_tO, tI_n, stp_n, sl_lO, sl_dp, sl_cV, sl_rst, n_4m, n_48m, le_pred, ge0_pd, n_gt0, e1, e2, d]
        · rw [csn_s, if_pos c]
          exact R.wCpy hm1 hj
      · rw [if_neg c] at e2
        by_cases d : σ.1 27 m j = 1
        · obtain ⟨υ2, g1, F2, G2⟩ := e_leavesQ R W1 hm1 hj
          have R2 : Rel (S_tO (csn σ m j) (7 + j) m) υ2 := G2 _ (fun k hk => tO_k (by omega)) (fun k hk => tO_Ln hk) (by rw [tO_2]) (tO_L1 (W1.nd (by omega)))
          have s2 := F2.sl
          refine ⟨([some (ar (11, 0)), some (ai (nI m)), some (ai (nI (j + 1)))], upI υ2 51 0 (4 * m + j) 4), ?_, _, rfl, ?_, (F.tr F2).tr (Fr.u (by decide))⟩
          · simp (disch := first | omega | (simp only [w_ui2, w_ul3, ladd_n, lrem_N, grw_n, ladd_Ln, lrem_Ln, grw_L, List.length_range, fil_2, aO_2, pr_n, gN_n, d1_n, dl_n, fil_2, tO_2, tO_Ln, tI_n, stp_n]; omega)) only [w_I, w_L, w_L1, w_LR, w_LR1, w_LN, w_LN1, w_LN2, w_null, w_N, w_N1, w_B, w_B1, w_B2, w_GI, w_GI1, w_GR, w_GR1, w_A, w_A1, w_A2, w_A3, w_rd3, w_wr3, w_rd7, w_wr7, w_rd8, w_wr8, w_rd9, w_wr9, w_rd10, w_wr10, w_rm0, w_wm0, w_rm1, w_wm1, w_rm2, w_wm2, w_rm3, w_wm3, w_rm4, w_wm4, w_rm5, w_wm5, w_rm6, w_wm6, w_rm7, w_wm7, w_rm8, w_wm8, w_rm9, w_wm9, w_rm10, w_wm10, w_rm11, w_wm11, w_rm12, w_wm12, w_rm13, w_wm13, w_rm14, w_wm14, w_rm15, w_wm15, w_rm16, w_wm16, w_v0, w_v1, w_v11, w_v14, w_v2, w_v3, w_v4, w_v6, w_v7, w_v8, w_v9, w_v10, inB_t, cl_nI, w_ui1, w_ui2, w_ul1, w_ul3, w_lsz, w_lget, w_ladd, w_lrem, sl_ladd, sl_lrem, sl_grw, n_eq, n_lt, n_le, n_add, n_ad1, n_lt4, n_neg, n_lt0, n_ge0, w_M, w_M1, w_M2, w_T, w_T1, w_C, w_C1, w_Z, w_and, w_and1, w_or, w_or1, w_not, w_not1, w_tn, w_tn1, w_E, w_E1, w_E2, w_nl, w_nl1, w_nl2, w_C2_0, w_Z1_0, w_C2_1, w_Z1_1, w_C2_2, w_Z1_2, w_C2_3, w_Z1_3, w_C2_4, w_Z1_4, w_C2_5, w_Z1_5, w_seq, w_seq1, w_seq2, w_seq3, w_if, w_if1, w_skip, w_set, w_set1, w_setR, w_setR1, w_setN, w_setN1, w_setN2, w_inc, w_inc1, w_put, w_put1, w_put2, w_put3, w_wf0, w_wf1, w_po, w_po1, w_po2, w_ast, w_ast1, w_ast2, w_ast3, w_aop, w_aop1, w_aop2, w_aop3, w_aop4, w_ret, w_ret0, w_ret1, w_retN, w_retN1, w_retN2, w_retV, w_throw, w_aN, w_aI, w_aI1, w_aI2, w_aR, w_aR1, w_ask, w_ask1, w_V, w_V1, w_V2, w_S, w_S1, w_CI, w_CI1, w_CR, w_CR1, w_CN, w_CN1, w_CN2, w_CV, w_CV1, w_CV2, w_pop, w_pop1, w_popR, w_popR1, w_cast, w_cast1, w_run, w_run1, w_run2, ite_s1, ite_01, ite_10, ite_nz, i_10, i_01, i_20, i_02, i_21, i_12, i_30, i_03, i_40, i_04, il_00, il_10, il_20, il_01, il_02, sl_r, sl_I, sl_L, List.getElem?_cons_zero, List.getElem?_cons_succ, List.set_cons_zero, List.set_cons_succ, List.map_cons, List.map_nil, List.length_cons, List.length_nil, List.cons_append, List.nil_append, List.append_nil, List.replicate_succ, List.replicate_zero, Nat.reduceSub, Nat.reduceAdd, Nat.reduceEqDiff, if_true, if_false, true_and, and_true, reduceCtorEq, ite_true, ite_false, Bool.false_eq_true, Nat.zero_add, Nat.add_zero, Nat.sub_self, Nat.reduceLT, decide_eq_true_eq, Bool.not_eq_true, not_true_eq_false, not_false_eq_true, decide_true, decide_false, decide_not, Bool.decide_eq_true, and_self, or_self, or_true, true_or, or_false, false_or, false_and, and_false, ne_eq, Bool.not_not, Bool.not_eq_eq_eq_not, Nat.reduceEqDiff, Nat.reduceLeDiff, Bool.not_true, Bool.not_false, eq_self, ladd_I, ladd_L1, ladd_Ln, ladd_n, ladd_J, lrem_I, lrem_L1, lrem_Ln, lrem_N, grw_I, grw_L, grw_n, grw_J, sdr_u, tk_u, sdr_a, tk_a, sdr_r, tk_r, rg_get, List.length_range, fil_2, fil_I, sdr_f, tk_f, sl_fil, aO_2, pr_n, aO_I, aO_L, sl_aO, pr_I, pr_L, sl_pr, gN_n, d1_n, dl_n, gN_I, gN_L, sl_gN, d1_I, d1_L, d1_L1, sl_d1, dl_I, dl_L, dl_L1, sl_dl, sdr_dl, tk_dl, sl_dH, fil_2, sl_gT, sl_tI, tO_2, tO_Ln, tO_I, sl_tO, tI_n, stp_n, sl_lO, sl_dp, sl_cV, sl_rst, n_4m, n_48m, le_pred, ge0_pd, n_gt0, e1, e2, d, g1, s2]
          · rw [csn_s, if_neg c]
            exact R2.wCpy (by rw [tO_2]; exact hm1) hj
        · have hnm : m ∉ (csn σ m j).2.1 (7 + j) := by
            intro q
            have : ∀ t, t ≤ j → (csn σ m t).2.1 (7 + j) = σ.2.1 (7 + j) := by
              intro t
              induction t with
              | zero => intro _; rfl
              | succ t ih =>
                intro ht
                rw [csn_s, w_ui2]
                split
                · exact ih (by omega)
                · rw [tO_Ln (by omega)]; exact ih (by omega)
            rw [this j (Nat.le_refl _)] at q
            exact d (hw j hj c q)
          have e3 : S_tO (csn σ m j) (7 + j) m = csn σ m j := by
            unfold S_tO
            rw [if_neg (fun q => hnm (toP_iff.mp q))]
          refine ⟨([some (ar (11, 0)), some (ai (nI m)), some (ai (nI (j + 1)))], upI υ 51 0 (4 * m + j) 4), ?_, _, rfl, ?_, F.tr (Fr.u (by decide))⟩
          · simp (disch := first | omega | (simp only [w_ui2, w_ul3, ladd_n, lrem_N, grw_n, ladd_Ln, lrem_Ln, grw_L, List.length_range, fil_2, aO_2, pr_n, gN_n, d1_n, dl_n, fil_2, tO_2, tO_Ln, tI_n, stp_n]; omega)) only [w_I, w_L, w_L1, w_LR, w_LR1, w_LN, w_LN1, w_LN2, w_null, w_N, w_N1, w_B, w_B1, w_B2, w_GI, w_GI1, w_GR, w_GR1, w_A, w_A1, w_A2, w_A3, w_rd3, w_wr3, w_rd7, w_wr7, w_rd8, w_wr8, w_rd9, w_wr9, w_rd10, w_wr10, w_rm0, w_wm0, w_rm1, w_wm1, w_rm2, w_wm2, w_rm3, w_wm3, w_rm4, w_wm4, w_rm5, w_wm5, w_rm6, w_wm6, w_rm7, w_wm7, w_rm8, w_wm8, w_rm9, w_wm9, w_rm10, w_wm10, w_rm11, w_wm11, w_rm12, w_wm12, w_rm13, w_wm13, w_rm14, w_wm14, w_rm15, w_wm15, w_rm16, w_wm16, w_v0, w_v1, w_v11, w_v14, w_v2, w_v3, w_v4, w_v6, w_v7, w_v8, w_v9, w_v10, inB_t, cl_nI, w_ui1, w_ui2, w_ul1, w_ul3, w_lsz, w_lget, w_ladd, w_lrem, sl_ladd, sl_lrem, sl_grw, n_eq, n_lt, n_le, n_add, n_ad1, n_lt4, n_neg, n_lt0, n_ge0, w_M, w_M1, w_M2, w_T, w_T1, w_C, w_C1, w_Z, w_and, w_and1, w_or, w_or1, w_not, w_not1, w_tn, w_tn1, w_E, w_E1, w_E2, w_nl, w_nl1, w_nl2, w_C2_0, w_Z1_0, w_C2_1, w_Z1_1, w_C2_2, w_Z1_2, w_C2_3, w_Z1_3, w_C2_4, w_Z1_4, w_C2_5, w_Z1_5, w_seq, w_seq1, w_seq2, w_seq3, w_if, w_if1, w_skip, w_set, w_set1, w_setR, w_setR1, w_setN, w_setN1, w_setN2, w_inc, w_inc1, w_put, w_put1, w_put2, w_put3, w_wf0, w_wf1, w_po, w_po1, w_po2, w_ast, w_ast1, w_ast2, w_ast3, w_aop, w_aop1, w_aop2, w_aop3, w_aop4, w_ret, w_ret0, w_ret1, w_retN, w_retN1, w_retN2, w_retV, w_throw, w_aN, w_aI, w_aI1, w_aI2, w_aR, w_aR1, w_ask, w_ask1, w_V, w_V1, w_V2, w_S, w_S1, w_CI, w_CI1, w_CR, w_CR1, w_CN, w_CN1, w_CN2, w_CV, w_CV1, w_CV2, w_pop, w_pop1, w_popR, w_popR1, w_cast, w_cast1, w_run, w_run1, w_run2, ite_s1, ite_01, ite_10, ite_nz, i_10, i_01, i_20, i_02, i_21, i_12, i_30, i_03, i_40, i_04, il_00, il_10, il_20, il_01, il_02, sl_r, sl_I, sl_L, List.getElem?_cons_zero, List.getElem?_cons_succ, List.set_cons_zero, List.set_cons_succ, List.map_cons, List.map_nil, List.length_cons, List.length_nil, List.cons_append, List.nil_append, List.append_nil, List.replicate_succ, List.replicate_zero, Nat.reduceSub, Nat.reduceAdd, Nat.reduceEqDiff, if_true, if_false, true_and, and_true, reduceCtorEq, ite_true, ite_false, Bool.false_eq_true, Nat.zero_add, Nat.add_zero, Nat.sub_self, Nat.reduceLT, decide_eq_true_eq, Bool.not_eq_true, not_true_eq_false, not_false_eq_true, decide_true, decide_false, decide_not, Bool.decide_eq_true, and_self, or_self, or_true, true_or, or_false, false_or, false_and, and_false, ne_eq, Bool.not_not, Bool.not_eq_eq_eq_not, Nat.reduceEqDiff, Nat.reduceLeDiff, Bool.not_true, Bool.not_false, eq_self, ladd_I, ladd_L1, ladd_Ln, ladd_n, ladd_J, lrem_I, lrem_L1, lrem_Ln, lrem_N, grw_I, grw_L, grw_n, grw_J, sdr_u, tk_u, sdr_a, tk_a, sdr_r, tk_r, rg_get, List.length_range, fil_2, fil_I, sdr_f, tk_f, sl_fil, aO_2, pr_n, aO_I, aO_L, sl_aO, pr_I, pr_L, sl_pr, gN_n, d1_n, dl_n, gN_I, gN_L, sl_gN, d1_I, d1_L, d1_L1, sl_d1, dl_I, dl_L, dl_L1, sl_dl, sdr_dl, tk_dl, sl_dH, fil_2, sl_gT, sl_tI, tO_2, tO_Ln, tO_I, sl_tO, tI_n, stp_n, sl_lO, sl_dp, sl_cV, sl_rst, n_4m, n_48m, le_pred, ge0_pd, n_gt0, e1, e2, d]
          · rw [csn_s, if_neg c, e3]
            exact R.wCpy hm1 hj) (fun s hs => by
      obtain ⟨υ, rfl, R, F⟩ := hs
      simp (disch := first | omega | (simp only [w_ui2, w_ul3, ladd_n, lrem_N, grw_n, ladd_Ln, lrem_Ln, grw_L, List.length_range, fil_2, aO_2, pr_n, gN_n, d1_n, dl_n, fil_2, tO_2, tO_Ln, tI_n, stp_n]; omega)) only [w_I, w_L, w_L1, w_LR, w_LR1, w_LN, w_LN1, w_LN2, w_null, w_N, w_N1, w_B, w_B1, w_B2, w_GI, w_GI1, w_GR, w_GR1, w_A, w_A1, w_A2, w_A3, w_rd3, w_wr3, w_rd7, w_wr7, w_rd8, w_wr8, w_rd9, w_wr9, w_rd10, w_wr10, w_rm0, w_wm0, w_rm1, w_wm1, w_rm2, w_wm2, w_rm3, w_wm3, w_rm4, w_wm4, w_rm5, w_wm5, w_rm6, w_wm6, w_rm7, w_wm7, w_rm8, w_wm8, w_rm9, w_wm9, w_rm10, w_wm10, w_rm11, w_wm11, w_rm12, w_wm12, w_rm13, w_wm13, w_rm14, w_wm14, w_rm15, w_wm15, w_rm16, w_wm16, w_v0, w_v1, w_v11, w_v14, w_v2, w_v3, w_v4, w_v6, w_v7, w_v8, w_v9, w_v10, inB_t, cl_nI, w_ui1, w_ui2, w_ul1, w_ul3, w_lsz, w_lget, w_ladd, w_lrem, sl_ladd, sl_lrem, sl_grw, n_eq, n_lt, n_le, n_add, n_ad1, n_lt4, n_neg, n_lt0, n_ge0, w_M, w_M1, w_M2, w_T, w_T1, w_C, w_C1, w_Z, w_and, w_and1, w_or, w_or1, w_not, w_not1, w_tn, w_tn1, w_E, w_E1, w_E2, w_nl, w_nl1, w_nl2, w_C2_0, w_Z1_0, w_C2_1, w_Z1_1, w_C2_2, w_Z1_2, w_C2_3, w_Z1_3, w_C2_4, w_Z1_4, w_C2_5, w_Z1_5, w_seq, w_seq1, w_seq2, w_seq3, w_if, w_if1, w_skip, w_set, w_set1, w_setR, w_setR1, w_setN, w_setN1, w_setN2, w_inc, w_inc1, w_put, w_put1, w_put2, w_put3, w_wf0, w_wf1, w_po, w_po1, w_po2, w_ast, w_ast1, w_ast2, w_ast3, w_aop, w_aop1, w_aop2, w_aop3, w_aop4, w_ret, w_ret0, w_ret1, w_retN, w_retN1, w_retN2, w_retV, w_throw, w_aN, w_aI, w_aI1, w_aI2, w_aR, w_aR1, w_ask, w_ask1, w_V, w_V1, w_V2, w_S, w_S1, w_CI, w_CI1, w_CR, w_CR1, w_CN, w_CN1, w_CN2, w_CV, w_CV1, w_CV2, w_pop, w_pop1, w_popR, w_popR1, w_cast, w_cast1, w_run, w_run1, w_run2, ite_s1, ite_01, ite_10, ite_nz, i_10, i_01, i_20, i_02, i_21, i_12, i_30, i_03, i_40, i_04, il_00, il_10, il_20, il_01, il_02, sl_r, sl_I, sl_L, List.getElem?_cons_zero, List.getElem?_cons_succ, List.set_cons_zero, List.set_cons_succ, List.map_cons, List.map_nil, List.length_cons, List.length_nil, List.cons_append, List.nil_append, List.append_nil, List.replicate_succ, List.replicate_zero, Nat.reduceSub, Nat.reduceAdd, Nat.reduceEqDiff, if_true, if_false, true_and, and_true, reduceCtorEq, ite_true, ite_false, Bool.false_eq_true, Nat.zero_add, Nat.add_zero, Nat.sub_self, Nat.reduceLT, decide_eq_true_eq, Bool.not_eq_true, not_true_eq_false, not_false_eq_true, decide_true, decide_false, decide_not, Bool.decide_eq_true, and_self, or_self, or_true, true_or, or_false, false_or, false_and, and_false, ne_eq, Bool.not_not, Bool.not_eq_eq_eq_not, Nat.reduceEqDiff, Nat.reduceLeDiff, Bool.not_true, Bool.not_false, eq_self, ladd_I, ladd_L1, ladd_Ln, ladd_n, ladd_J, lrem_I, lrem_L1, lrem_Ln, lrem_N, grw_I, grw_L, grw_n, grw_J, sdr_u, tk_u, sdr_a, tk_a, sdr_r, tk_r, rg_get, List.length_range, fil_2, fil_I, sdr_f, tk_f, sl_fil, aO_2, pr_n, aO_I, aO_L, sl_aO, pr_I, pr_L, sl_pr, gN_n, d1_n, dl_n, gN_I, gN_L, sl_gN, d1_I, d1_L, d1_L1, sl_d1, dl_I, dl_L, dl_L1, sl_dl, sdr_dl, tk_dl, sl_dH, fil_2, sl_gT, sl_tI, tO_2, tO_Ln, tO_I, sl_tO, tI_n, stp_n, sl_lO, sl_dp, sl_cV, sl_rst, n_4m, n_48m, le_pred, ge0_pd, n_gt0]) ([some (ar (11, 0)), some (ai (nI m)), some (ai 0)], upI τ 54 0 m 1) ⟨_, by rw [nI_0], h.wDrp, Fr.u (by decide)⟩
  cases h2
  have hm1 : m < (csn σ m 4).2.2.1 0 := by rw [csn_2]; exact hm
  have c23 : ∀ a, (csn σ m 4).1 23 a 0 = σ.1 23 a 0 := fun a => csn_I (by decide) (by decide) (by decide) 4
  have c24 : ∀ a, (csn σ m 4).1 24 a 0 = σ.1 24 a 0 := fun a => csn_I (by decide) (by decide) (by decide) 4
  have cn4 : (csn σ m 4).2.2.1 0 = σ.2.2.1 0 := by rw [csn_2]
  have cL1 : (csn σ m 4).2.1 1 = σ.2.1 1 := by rw [← dpH_csn]; exact dpH_L (by decide) 4
  have e0 := R1.num hm1
  rw [c23, N m hm] at e0
  have e55 : ∀ a, a < σ.2.2.1 0 → υ1.1 55 0 a = num (σ.2.1 1) a := fun a ha => by rw [R1.num (by rw [cn4]; exact ha), c23, N a ha]
  have fin : ∀ υ2 : Sg, (∀ k, 41 ≤ k → k ≠ 55 → k ≠ 56 → k ≠ 42 → υ2.1 k = υ1.1 k) → (∀ a, a < σ.2.2.1 0 → υ2.1 55 0 a = num ((σ.2.1 1).filter (fun x => x != m)) a) → υ2.1 56 = υ1.1 56 → υ2.1 42 0 0 = nI ((σ.2.1 1).filter (fun x => x != m)).length → Rel (S_dp σ m) (upI υ2 56 0 m (-1)) := fun υ2 g1 g2 g3 g4 => by
    refine R1.rNum (fun k hk q1 q2 => ?_) (fun k q1 q2 => dp_Lo q1 q2) (by rw [dp_2, cn4]) (fun k hk q1 q2 q3 => ?_) (fun a ha => ?_) (fun a ha => ?_) ?_
    · funext o j
      by_cases d1 : k = 25
      · rw [d1, dp_25, csn_25]
      · by_cases d2 : k = 27
        · rw [d2, dp_27, csn_27]
        · rw [dp_I d1 d2 (by omega) q2 q1, csn_I d1 d2 (by omega)]
    · rw [upI_k q2]; exact g1 k hk q1 q2 q3
    · rw [cn4] at ha
      rw [upI_n (by decide), g2 a ha, dp_23 W N ha]
    · have := R1.agr ha
      rw [c24] at this
      rw [w_ui1, g3, this, dp_24]
      by_cases d : a = m
      · rw [if_pos ⟨rfl, rfl, d⟩, if_pos d]
      · rw [if_neg (fun q => d q.2.2), if_neg d]
    · rw [upI_n (by decide), g4, dp_L1 W]
  by_cases c : m ∈ σ.2.1 1
  · have im := List.idxOf_lt_length_of_mem c
    have e0' : ¬ υ1.1 55 0 m = -1 := by rw [e0, num_in c, n_neg (by omega)]; exact fun q => q
    have hlen : ((σ.2.1 1).filter (fun x => x != m)).length + 1 = (σ.2.1 1).length := by
      have := eraseIdx_flt (σ.2.1 1) ((σ.2.1 1).idxOf m) (W.nd (by decide)) im
      rw [get_idx c] at this
      rw [← this, List.length_eraseIdx_of_lt im]
      omega
    obtain ⟨⟨lc, υ2⟩, g1, υ', g2, F2, G2⟩ := wh_inv (N := 1000) (c := (cCmp (bop 0) (xL 2) (xGI 11 41 (xLR 0)))) (b := (sSeq (sAop (· - ·) (xGR 11 (fun _ => (12, 5)) (xLR 0)) (xL 2) (xTern (cCmp (bop 2) (xAld false (xGR 11 (fun _ => (12, 5)) (xLR 0)) (xL 2)) (xAld false (xGR 11 (fun _ => (12, 5)) (xLR 0)) (xL 1))) (xI 1) (xI 0))) (sInc 2 1))) (fun k s => ∃ υ : Sg, s = ([some (ar (11, 0)), some (ai (nI m)), some (ai (nI k))], υ) ∧ (υ.2 = υ1.2 ∧ ∀ k, k ≠ 55 → υ.1 k = υ1.1 k) ∧ ∀ a, a < σ.2.2.1 0 → υ.1 55 0 a = if a < k ∧ num (σ.2.1 1) m < num (σ.2.1 1) a then num (σ.2.1 1) a - 1 else num (σ.2.1 1) a) (σ.2.2.1 0) (by omega) (fun k hk s hs => by
        obtain ⟨υ, rfl, F, G⟩ := hs
        have e1 : υ.1 41 0 0 = nI (σ.2.2.1 0) := by rw [F.2 41 (by decide), R1.mes, cn4]
        simp (disch := first | omega | (simp only [w_ui2, w_ul3, ladd_n, lrem_N, grw_n, ladd_Ln, lrem_Ln, grw_L, List.length_range, fil_2, aO_2, pr_n, gN_n, d1_n, dl_n, fil_2, tO_2, tO_Ln, tI_n, stp_n]; omega)) only [w_I, w_L, w_L1, w_LR, w_LR1, w_LN, w_LN1, w_LN2, w_null, w_N, w_N1, w_B, w_B1, w_B2, w_GI, w_GI1, w_GR, w_GR1, w_A, w_A1, w_A2, w_A3, w_rd3, w_wr3, w_rd7, w_wr7, w_rd8, w_wr8, w_rd9, w_wr9, w_rd10, w_wr10, w_rm0, w_wm0, w_rm1, w_wm1, w_rm2, w_wm2, w_rm3, w_wm3, w_rm4, w_wm4, w_rm5, w_wm5, w_rm6, w_wm6, w_rm7, w_wm7, w_rm8, w_wm8, w_rm9, w_wm9, w_rm10, w_wm10, w_rm11, w_wm11, w_rm12, w_wm12, w_rm13, w_wm13, w_rm14, w_wm14, w_rm15, w_wm15, w_rm16, w_wm16, w_v0, w_v1, w_v11, w_v14, w_v2, w_v3, w_v4, w_v6, w_v7, w_v8, w_v9, w_v10, inB_t, cl_nI, w_ui1, w_ui2, w_ul1, w_ul3, w_lsz, w_lget, w_ladd, w_lrem, sl_ladd, sl_lrem, sl_grw, n_eq, n_lt, n_le, n_add, n_ad1, n_lt4, n_neg, n_lt0, n_ge0, w_M, w_M1, w_M2, w_T, w_T1, w_C, w_C1, w_Z, w_and, w_and1, w_or, w_or1, w_not, w_not1, w_tn, w_tn1, w_E, w_E1, w_E2, w_nl, w_nl1, w_nl2, w_C2_0, w_Z1_0, w_C2_1, w_Z1_1, w_C2_2, w_Z1_2, w_C2_3, w_Z1_3, w_C2_4, w_Z1_4, w_C2_5, w_Z1_5, w_seq, w_seq1, w_seq2, w_seq3, w_if, w_if1, w_skip, w_set, w_set1, w_setR, w_setR1, w_setN, w_setN1, w_setN2, w_inc, w_inc1, w_put, w_put1, w_put2, w_put3, w_wf0, w_wf1, w_po, w_po1, w_po2, w_ast, w_ast1, w_ast2, w_ast3, w_aop, w_aop1, w_aop2, w_aop3, w_aop4, w_ret, w_ret0, w_ret1, w_retN, w_retN1, w_retN2, w_retV, w_throw, w_aN, w_aI, w_aI1, w_aI2, w_aR, w_aR1, w_ask, w_ask1, w_V, w_V1, w_V2, w_S, w_S1, w_CI, w_CI1, w_CR, w_CR1, w_CN, w_CN1, w_CN2, w_CV, w_CV1, w_CV2, w_pop, w_pop1, w_popR, w_popR1, w_cast, w_cast1, w_run, w_run1, w_run2, ite_s1, ite_01, ite_10, ite_nz, i_10, i_01, i_20, i_02, i_21, i_12, i_30, i_03, i_40, i_04, il_00, il_10, il_20, il_01, il_02, sl_r, sl_I, sl_L, List.getElem?_cons_zero, List.getElem?_cons_succ, List.set_cons_zero, List.set_cons_succ, List.map_cons, List.map_nil, List.length_cons, List.length_nil, List.cons_append, List.nil_append, List.append_nil, List.replicate_succ, List.replicate_zero, Nat.reduceSub, Nat.reduceAdd, Nat.reduceEqDiff, if_true, if_false, true_and, and_true, reduceCtorEq, ite_true, ite_false, Bool.false_eq_true, Nat.zero_add, Nat.add_zero, Nat.sub_self, Nat.reduceLT, decide_eq_true_eq, Bool.not_eq_true, not_true_eq_false, not_false_eq_true, decide_true, decide_false, decide_not, Bool.decide_eq_true, and_self, or_self, or_true, true_or, or_false, false_or, false_and, and_false, ne_eq, Bool.not_not, Bool.not_eq_eq_eq_not, Nat.reduceEqDiff, Nat.reduceLeDiff, Bool.not_true, Bool.not_false, eq_self, ladd_I, ladd_L1, ladd_Ln, ladd_n, ladd_J, lrem_I, lrem_L1, lrem_Ln, lrem_N, grw_I, grw_L, grw_n, grw_J, sdr_u, tk_u, sdr_a, tk_a, sdr_r, tk_r, rg_get, List.length_range, fil_2, fil_I, sdr_f, tk_f, sl_fil, aO_2, pr_n, aO_I, aO_L, sl_aO, pr_I, pr_L, sl_pr, gN_n, d1_n, dl_n, gN_I, gN_L, sl_gN, d1_I, d1_L, d1_L1, sl_d1, dl_I, dl_L, dl_L1, sl_dl, sdr_dl, tk_dl, sl_dH, fil_2, sl_gT, sl_tI, tO_2, tO_Ln, tO_I, sl_tO, tI_n, stp_n, sl_lO, sl_dp, sl_cV, sl_rst, n_4m, n_48m, le_pred, ge0_pd, n_gt0, e1, hk]) (fun k hk s hs => by
        obtain ⟨υ, rfl, F, G⟩ := hs
        have z : ∀ x : Int32, x - 0 = x := fun x => by simp
        have e1 := G k hk
        rw [if_neg (by omega)] at e1
        have e2 := G m hm
        have irr : ¬ num (σ.2.1 1) m < num (σ.2.1 1) m := Int32.lt_irrefl
        rw [if_neg (fun q => irr q.2)] at e2
        refine ⟨([some (ar (11, 0)), some (ai (nI m)), some (ai (nI (k + 1)))], upI υ 55 0 k (if num (σ.2.1 1) m < num (σ.2.1 1) k then num (σ.2.1 1) k - 1 else num (σ.2.1 1) k)), ?_, _, rfl, ⟨F.1, fun k2 hk2 => by rw [upI_k hk2]; exact F.2 k2 hk2⟩, fun a ha => ?_⟩
        · by_cases d : num (σ.2.1 1) m < num (σ.2.1 1) k
          · simp (disch := first | omega | (simp only [w_ui2, w_ul3, ladd_n, lrem_N, grw_n, ladd_Ln, lrem_Ln, grw_L, List.length_range, fil_2, aO_2, pr_n, gN_n, d1_n, dl_n, fil_2, tO_2, tO_Ln, tI_n, stp_n]; omega)) only [w_I, w_L, w_L1, w_LR, w_LR1, w_LN, w_LN1, w_LN2, w_null, w_N, w_N1, w_B, w_B1, w_B2, w_GI, w_GI1, w_GR, w_GR1, w_A, w_A1, w_A2, w_A3, w_rd3, w_wr3, w_rd7, w_wr7, w_rd8, w_wr8, w_rd9, w_wr9, w_rd10, w_wr10, w_rm0, w_wm0, w_rm1, w_wm1, w_rm2, w_wm2, w_rm3, w_wm3, w_rm4, w_wm4, w_rm5, w_wm5, w_rm6, w_wm6, w_rm7, w_wm7, w_rm8, w_wm8, w_rm9, w_wm9, w_rm10, w_wm10, w_rm11, w_wm11, w_rm12, w_wm12, w_rm13, w_wm13, w_rm14, w_wm14, w_rm15, w_wm15, w_rm16, w_wm16, w_v0, w_v1, w_v11, w_v14, w_v2, w_v3, w_v4, w_v6, w_v7, w_v8, w_v9, w_v10, inB_t, cl_nI, w_ui1, w_ui2, w_ul1, w_ul3, w_lsz, w_lget, w_ladd, w_lrem, sl_ladd, sl_lrem, sl_grw, n_eq, n_lt, n_le, n_add, n_ad1, n_lt4, n_neg, n_lt0, n_ge0, w_M, w_M1, w_M2, w_T, w_T1, w_C, w_C1, w_Z, w_and, w_and1, w_or, w_or1, w_not, w_not1, w_tn, w_tn1, w_E, w_E1, w_E2, w_nl, w_nl1, w_nl2, w_C2_0, w_Z1_0, w_C2_1, w_Z1_1, w_C2_2, w_Z1_2, w_C2_3, w_Z1_3, w_C2_4, w_Z1_4, w_C2_5, w_Z1_5, w_seq, w_seq1, w_seq2, w_seq3, w_if, w_if1, w_skip, w_set, w_set1, w_setR, w_setR1, w_setN, w_setN1, w_setN2, w_inc, w_inc1, w_put, w_put1, w_put2, w_put3, w_wf0, w_wf1, w_po, w_po1, w_po2, w_ast, w_ast1, w_ast2, w_ast3, w_aop, w_aop1, w_aop2, w_aop3, w_aop4, w_ret, w_ret0, w_ret1, w_retN, w_retN1, w_retN2, w_retV, w_throw, w_aN, w_aI, w_aI1, w_aI2, w_aR, w_aR1, w_ask, w_ask1, w_V, w_V1, w_V2, w_S, w_S1, w_CI, w_CI1, w_CR, w_CR1, w_CN, w_CN1, w_CN2, w_CV, w_CV1, w_CV2, w_pop, w_pop1, w_popR, w_popR1, w_cast, w_cast1, w_run, w_run1, w_run2, ite_s1, ite_01, ite_10, ite_nz, i_10, i_01, i_20, i_02, i_21, i_12, i_30, i_03, i_40, i_04, il_00, il_10, il_20, il_01, il_02, sl_r, sl_I, sl_L, List.getElem?_cons_zero, List.getElem?_cons_succ, List.set_cons_zero, List.set_cons_succ, List.map_cons, List.map_nil, List.length_cons, List.length_nil, List.cons_append, List.nil_append, List.append_nil, List.replicate_succ, List.replicate_zero, Nat.reduceSub, Nat.reduceAdd, Nat.reduceEqDiff, if_true, if_false, true_and, and_true, reduceCtorEq, ite_true, ite_false, Bool.false_eq_true, Nat.zero_add, Nat.add_zero, Nat.sub_self, Nat.reduceLT, decide_eq_true_eq, Bool.not_eq_true, not_true_eq_false, not_false_eq_true, decide_true, decide_false, decide_not, Bool.decide_eq_true, and_self, or_self, or_true, true_or, or_false, false_or, false_and, and_false, ne_eq, Bool.not_not, Bool.not_eq_eq_eq_not, Nat.reduceEqDiff, Nat.reduceLeDiff, Bool.not_true, Bool.not_false, eq_self, ladd_I, ladd_L1, ladd_Ln, ladd_n, ladd_J, lrem_I, lrem_L1, lrem_Ln, lrem_N, grw_I, grw_L, grw_n, grw_J, sdr_u, tk_u, sdr_a, tk_a, sdr_r, tk_r, rg_get, List.length_range, fil_2, fil_I, sdr_f, tk_f, sl_fil, aO_2, pr_n, aO_I, aO_L, sl_aO, pr_I, pr_L, sl_pr, gN_n, d1_n, dl_n, gN_I, gN_L, sl_gN, d1_I, d1_L, d1_L1, sl_d1, dl_I, dl_L, dl_L1, sl_dl, sdr_dl, tk_dl, sl_dH, fil_2, sl_gT, sl_tI, tO_2, tO_Ln, tO_I, sl_tO, tI_n, stp_n, sl_lO, sl_dp, sl_cV, sl_rst, n_4m, n_48m, le_pred, ge0_pd, n_gt0, e1, e2, d]
          · simp (disch := first | omega | (simp only [w_ui2, w_ul3, ladd_n, lrem_N, grw_n, ladd_Ln, lrem_Ln, grw_L, List.length_range, fil_2, aO_2, pr_n, gN_n, d1_n, dl_n, fil_2, tO_2, tO_Ln, tI_n, stp_n]; omega)) only [w_I, w_L, w_L1, w_LR, w_LR1, w_LN, w_LN1, w_LN2, w_null, w_N, w_N1, w_B, w_B1, w_B2, w_GI, w_GI1, w_GR, w_GR1, w_A, w_A1, w_A2, w_A3, w_rd3, w_wr3, w_rd7, w_wr7, w_rd8, w_wr8, w_rd9, w_wr9, w_rd10, w_wr10, w_rm0, w_wm0, w_rm1, w_wm1, w_rm2, w_wm2, w_rm3, w_wm3, w_rm4, w_wm4, w_rm5, w_wm5, w_rm6, w_wm6, w_rm7, w_wm7, w_rm8, w_wm8, w_rm9, w_wm9, w_rm10, w_wm10, w_rm11, w_wm11, w_rm12, w_wm12, w_rm13, w_wm13, w_rm14, w_wm14, w_rm15, w_wm15, w_rm16, w_wm16, w_v0, w_v1, w_v11, w_v14, w_v2, w_v3, w_v4, w_v6, w_v7, w_v8, w_v9, w_v10, inB_t, cl_nI, w_ui1, w_ui2, w_ul1, w_ul3, w_lsz, w_lget, w_ladd, w_lrem, sl_ladd, sl_lrem, sl_grw, n_eq, n_lt, n_le, n_add, n_ad1, n_lt4, n_neg, n_lt0, n_ge0, w_M, w_M1, w_M2, w_T, w_T1, w_C, w_C1, w_Z, w_and, w_and1, w_or, w_or1, w_not, w_not1, w_tn, w_tn1, w_E, w_E1, w_E2, w_nl, w_nl1, w_nl2, w_C2_0, w_Z1_0, w_C2_1, w_Z1_1, w_C2_2, w_Z1_2, w_C2_3, w_Z1_3, w_C2_4, w_Z1_4, w_C2_5, w_Z1_5, w_seq, w_seq1, w_seq2, w_seq3, w_if, w_if1, w_skip, w_set, w_set1, w_setR, w_setR1, w_setN, w_setN1, w_setN2, w_inc, w_inc1, w_put, w_put1, w_put2, w_put3, w_wf0, w_wf1, w_po, w_po1, w_po2, w_ast, w_ast1, w_ast2, w_ast3, w_aop, w_aop1, w_aop2, w_aop3, w_aop4, w_ret, w_ret0, w_ret1, w_retN, w_retN1, w_retN2, w_retV, w_throw, w_aN, w_aI, w_aI1, w_aI2, w_aR, w_aR1, w_ask, w_ask1, w_V, w_V1, w_V2, w_S, w_S1, w_CI, w_CI1, w_CR, w_CR1, w_CN, w_CN1, w_CN2, w_CV, w_CV1, w_CV2, w_pop, w_pop1, w_popR, w_popR1, w_cast, w_cast1, w_run, w_run1, w_run2, ite_s1, ite_01, ite_10, ite_nz, i_10, i_01, i_20, i_02, i_21, i_12, i_30, i_03, i_40, i_04, il_00, il_10, il_20, il_01, il_02, sl_r, sl_I, sl_L, List.getElem?_cons_zero, List.getElem?_cons_succ, List.set_cons_zero, List.set_cons_succ, List.map_cons, List.map_nil, List.length_cons, List.length_nil, List.cons_append, List.nil_append, List.append_nil, List.replicate_succ, List.replicate_zero, Nat.reduceSub, Nat.reduceAdd, Nat.reduceEqDiff, if_true, if_false, true_and, and_true, reduceCtorEq, ite_true, ite_false, Bool.false_eq_true, Nat.zero_add, Nat.add_zero, Nat.sub_self, Nat.reduceLT, decide_eq_true_eq, Bool.not_eq_true, not_true_eq_false, not_false_eq_true, decide_true, decide_false, decide_not, Bool.decide_eq_true, and_self, or_self, or_true, true_or, or_false, false_or, false_and, and_false, ne_eq, Bool.not_not, Bool.not_eq_eq_eq_not, Nat.reduceEqDiff, Nat.reduceLeDiff, Bool.not_true, Bool.not_false, eq_self, ladd_I, ladd_L1, ladd_Ln, ladd_n, ladd_J, lrem_I, lrem_L1, lrem_Ln, lrem_N, grw_I, grw_L, grw_n, grw_J, sdr_u, tk_u, sdr_a, tk_a, sdr_r, tk_r, rg_get, List.length_range, fil_2, fil_I, sdr_f, tk_f, sl_fil, aO_2, pr_n, aO_I, aO_L, sl_aO, pr_I, pr_L, sl_pr, gN_n, d1_n, dl_n, gN_I, gN_L, sl_gN, d1_I, d1_L, d1_L1, sl_d1, dl_I, dl_L, dl_L1, sl_dl, sdr_dl, tk_dl, sl_dH, fil_2, sl_gT, sl_tI, tO_2, tO_Ln, tO_I, sl_tO, tI_n, stp_n, sl_lO, sl_dp, sl_cV, sl_rst, n_4m, n_48m, le_pred, ge0_pd, n_gt0, e1, e2, d, z]
        · rw [w_ui1]
          by_cases d : a = k
          · subst d
            rw [if_pos ⟨rfl, rfl, rfl⟩]
            by_cases d2 : num (σ.2.1 1) m < num (σ.2.1 1) a
            · rw [if_pos d2, if_pos ⟨by omega, d2⟩]
            · rw [if_neg d2, if_neg (fun q => d2 q.2)]
          · rw [if_neg (fun q => d q.2.2), G a ha]
            by_cases d2 : num (σ.2.1 1) m < num (σ.2.1 1) a
            · by_cases d3 : a < k
              · rw [if_pos ⟨d3, d2⟩, if_pos ⟨by omega, d2⟩]
              · rw [if_neg (fun q => d3 q.1), if_neg (fun q => d3 (by omega))]
            · rw [if_neg (fun q => d2 q.2), if_neg (fun q => d2 q.2)]) (fun s hs => by
        obtain ⟨υ, rfl, F, G⟩ := hs
        have e1 : υ.1 41 0 0 = nI (σ.2.2.1 0) := by rw [F.2 41 (by decide), R1.mes, cn4]
        simp (disch := first | omega | (simp only [w_ui2, w_ul3, ladd_n, lrem_N, grw_n, ladd_Ln, lrem_Ln, grw_L, List.length_range, fil_2, aO_2, pr_n, gN_n, d1_n, dl_n, fil_2, tO_2, tO_Ln, tI_n, stp_n]; omega)) only [w_I, w_L, w_L1, w_LR, w_LR1, w_LN, w_LN1, w_LN2, w_null, w_N, w_N1, w_B, w_B1, w_B2, w_GI, w_GI1, w_GR, w_GR1, w_A, w_A1, w_A2, w_A3, w_rd3, w_wr3, w_rd7, w_wr7, w_rd8, w_wr8, w_rd9, w_wr9, w_rd10, w_wr10, w_rm0, w_wm0, w_rm1, w_wm1, w_rm2, w_wm2, w_rm3, w_wm3, w_rm4, w_wm4, w_rm5, w_wm5, w_rm6, w_wm6, w_rm7, w_wm7, w_rm8, w_wm8, w_rm9, w_wm9, w_rm10, w_wm10, w_rm11, w_wm11, w_rm12, w_wm12, w_rm13, w_wm13, w_rm14, w_wm14, w_rm15, w_wm15, w_rm16, w_wm16, w_v0, w_v1, w_v11, w_v14, w_v2, w_v3, w_v4, w_v6, w_v7, w_v8, w_v9, w_v10, inB_t, cl_nI, w_ui1, w_ui2, w_ul1, w_ul3, w_lsz, w_lget, w_ladd, w_lrem, sl_ladd, sl_lrem, sl_grw, n_eq, n_lt, n_le, n_add, n_ad1, n_lt4, n_neg, n_lt0, n_ge0, w_M, w_M1, w_M2, w_T, w_T1, w_C, w_C1, w_Z, w_and, w_and1, w_or, w_or1, w_not, w_not1, w_tn, w_tn1, w_E, w_E1, w_E2, w_nl, w_nl1, w_nl2, w_C2_0, w_Z1_0, w_C2_1, w_Z1_1, w_C2_2, w_Z1_2, w_C2_3, w_Z1_3, w_C2_4, w_Z1_4, w_C2_5, w_Z1_5, w_seq, w_seq1, w_seq2, w_seq3, w_if, w_if1, w_skip, w_set, w_set1, w_setR, w_setR1, w_setN, w_setN1, w_setN2, w_inc, w_inc1, w_put, w_put1, w_put2, w_put3, w_wf0, w_wf1, w_po, w_po1, w_po2, w_ast, w_ast1, w_ast2, w_ast3, w_aop, w_aop1, w_aop2, w_aop3, w_aop4, w_ret, w_ret0, w_ret1, w_retN, w_retN1, w_retN2, w_retV, w_throw, w_aN, w_aI, w_aI1, w_aI2, w_aR, w_aR1, w_ask, w_ask1, w_V, w_V1, w_V2, w_S, w_S1, w_CI, w_CI1, w_CR, w_CR1, w_CN, w_CN1, w_CN2, w_CV, w_CV1, w_CV2, w_pop, w_pop1, w_popR, w_popR1, w_cast, w_cast1, w_run, w_run1, w_run2, ite_s1, ite_01, ite_10, ite_nz, i_10, i_01, i_20, i_02, i_21, i_12, i_30, i_03, i_40, i_04, il_00, il_10, il_20, il_01, il_02, sl_r, sl_I, sl_L, List.getElem?_cons_zero, List.getElem?_cons_succ, List.set_cons_zero, List.set_cons_succ, List.map_cons, List.map_nil, List.length_cons, List.length_nil, List.cons_append, List.nil_append, List.append_nil, List.replicate_succ, List.replicate_zero, Nat.reduceSub, Nat.reduceAdd, Nat.reduceEqDiff, if_true, if_false, true_and, and_true, reduceCtorEq, ite_true, ite_false, Bool.false_eq_true, Nat.zero_add, Nat.add_zero, Nat.sub_self, Nat.reduceLT, decide_eq_true_eq, Bool.not_eq_true, not_true_eq_false, not_false_eq_true, decide_true, decide_false, decide_not, Bool.decide_eq_true, and_self, or_self, or_true, true_or, or_false, false_or, false_and, and_false, ne_eq, Bool.not_not, Bool.not_eq_eq_eq_not, Nat.reduceEqDiff, Nat.reduceLeDiff, Bool.not_true, Bool.not_false, eq_self, ladd_I, ladd_L1, ladd_Ln, ladd_n, ladd_J, lrem_I, lrem_L1, lrem_Ln, lrem_N, grw_I, grw_L, grw_n, grw_J, sdr_u, tk_u, sdr_a, tk_a, sdr_r, tk_r, rg_get, List.length_range, fil_2, fil_I, sdr_f, tk_f, sl_fil, aO_2, pr_n, aO_I, aO_L, sl_aO, pr_I, pr_L, sl_pr, gN_n, d1_n, dl_n, gN_I, gN_L, sl_gN, d1_I, d1_L, d1_L1, sl_d1, dl_I, dl_L, dl_L1, sl_dl, sdr_dl, tk_dl, sl_dH, fil_2, sl_gT, sl_tI, tO_2, tO_Ln, tO_I, sl_tO, tI_n, stp_n, sl_lO, sl_dp, sl_cV, sl_rst, n_4m, n_48m, le_pred, ge0_pd, n_gt0, e1, Nat.lt_irrefl]) ([some (ar (11, 0)), some (ai (nI m)), some (ai 0)], υ1) ⟨υ1, by rw [nI_0], ⟨rfl, fun _ _ => rfl⟩, fun a ha => by rw [if_neg (by omega), e55 a ha]⟩
    cases g2
    have e42 : υ2.1 42 0 0 = nI (σ.2.1 1).length := by rw [F2.2 42 (by decide), R1.nbd, cL1]
    have z1 : nI (σ.2.1 1).length - 1 = nI ((σ.2.1 1).filter (fun x => x != m)).length := by rw [← hlen, nI_pred]
    refine ⟨upI (upI (upI υ2 55 0 m (-1)) 42 0 0 (nI ((σ.2.1 1).filter (fun x => x != m)).length)) 56 0 m (-1), ?_, fin _ (fun k q1 q2 q3 q4 => ?_) (fun a ha => ?_) ?_ ?_, ?_⟩
    · simp (disch := first | omega | (simp only [w_ui2, w_ul3, ladd_n, lrem_N, grw_n, ladd_Ln, lrem_Ln, grw_L, List.length_range, fil_2, aO_2, pr_n, gN_n, d1_n, dl_n, fil_2, tO_2, tO_Ln, tI_n, stp_n]; omega)) only [w_I, w_L, w_L1, w_LR, w_LR1, w_LN, w_LN1, w_LN2, w_null, w_N, w_N1, w_B, w_B1, w_B2, w_GI, w_GI1, w_GR, w_GR1, w_A, w_A1, w_A2, w_A3, w_rd3, w_wr3, w_rd7, w_wr7, w_rd8, w_wr8, w_rd9, w_wr9, w_rd10, w_wr10, w_rm0, w_wm0, w_rm1, w_wm1, w_rm2, w_wm2, w_rm3, w_wm3, w_rm4, w_wm4, w_rm5, w_wm5, w_rm6, w_wm6, w_rm7, w_wm7, w_rm8, w_wm8, w_rm9, w_wm9, w_rm10, w_wm10, w_rm11, w_wm11, w_rm12, w_wm12, w_rm13, w_wm13, w_rm14, w_wm14, w_rm15, w_wm15, w_rm16, w_wm16, w_v0, w_v1, w_v11, w_v14, w_v2, w_v3, w_v4, w_v6, w_v7, w_v8, w_v9, w_v10, inB_t, cl_nI, w_ui1, w_ui2, w_ul1, w_ul3, w_lsz, w_lget, w_ladd, w_lrem, sl_ladd, sl_lrem, sl_grw, n_eq, n_lt, n_le, n_add, n_ad1, n_lt4, n_neg, n_lt0, n_ge0, w_M, w_M1, w_M2, w_T, w_T1, w_C, w_C1, w_Z, w_and, w_and1, w_or, w_or1, w_not, w_not1, w_tn, w_tn1, w_E, w_E1, w_E2, w_nl, w_nl1, w_nl2, w_C2_0, w_Z1_0, w_C2_1, w_Z1_1, w_C2_2, w_Z1_2, w_C2_3, w_Z1_3, w_C2_4, w_Z1_4, w_C2_5, w_Z1_5, w_seq, w_seq1, w_seq2, w_seq3, w_if, w_if1, w_skip, w_set, w_set1, w_setR, w_setR1, w_setN, w_setN1, w_setN2, w_inc, w_inc1, w_put, w_put1, w_put2, w_put3, w_wf0, w_wf1, w_po, w_po1, w_po2, w_ast, w_ast1, w_ast2, w_ast3, w_aop, w_aop1, w_aop2, w_aop3, w_aop4, w_ret, w_ret0, w_ret1, w_retN, w_retN1, w_retN2, w_retV, w_throw, w_aN, w_aI, w_aI1, w_aI2, w_aR, w_aR1, w_ask, w_ask1, w_V, w_V1, w_V2, w_S, w_S1, w_CI, w_CI1, w_CR, w_CR1, w_CN, w_CN1, w_CN2, w_CV, w_CV1, w_CV2, w_pop, w_pop1, w_popR, w_popR1, w_cast, w_cast1, w_run, w_run1, w_run2, ite_s1, ite_01, ite_10, ite_nz, i_10, i_01, i_20, i_02, i_21, i_12, i_30, i_03, i_40, i_04, il_00, il_10, il_20, il_01, il_02, sl_r, sl_I, sl_L, List.getElem?_cons_zero, List.getElem?_cons_succ, List.set_cons_zero, List.set_cons_succ, List.map_cons, List.map_nil, List.length_cons, List.length_nil, List.cons_append, List.nil_append, List.append_nil, List.replicate_succ, List.replicate_zero, Nat.reduceSub, Nat.reduceAdd, Nat.reduceEqDiff, if_true, if_false, true_and, and_true, reduceCtorEq, ite_true, ite_false, Bool.false_eq_true, Nat.zero_add, Nat.add_zero, Nat.sub_self, Nat.reduceLT, decide_eq_true_eq, Bool.not_eq_true, not_true_eq_false, not_false_eq_true, decide_true, decide_false, decide_not, Bool.decide_eq_true, and_self, or_self, or_true, true_or, or_false, false_or, false_and, and_false, ne_eq, Bool.not_not, Bool.not_eq_eq_eq_not, Nat.reduceEqDiff, Nat.reduceLeDiff, Bool.not_true, Bool.not_false, eq_self, ladd_I, ladd_L1, ladd_Ln, ladd_n, ladd_J, lrem_I, lrem_L1, lrem_Ln, lrem_N, grw_I, grw_L, grw_n, grw_J, sdr_u, tk_u, sdr_a, tk_a, sdr_r, tk_r, rg_get, List.length_range, fil_2, fil_I, sdr_f, tk_f, sl_fil, aO_2, pr_n, aO_I, aO_L, sl_aO, pr_I, pr_L, sl_pr, gN_n, d1_n, dl_n, gN_I, gN_L, sl_gN, d1_I, d1_L, d1_L1, sl_d1, dl_I, dl_L, dl_L1, sl_dl, sdr_dl, tk_dl, sl_dH, fil_2, sl_gT, sl_tI, tO_2, tO_Ln, tO_I, sl_tO, tI_n, stp_n, sl_lO, sl_dp, sl_cV, sl_rst, n_4m, n_48m, le_pred, ge0_pd, n_gt0, f_X3_drops, b_X3_drops, h1, e0', g1, e42, z1]
    · rw [upI_k q4, upI_k q2]; exact F2.2 k q2
    · rw [upI_n (by decide), w_ui1]
      by_cases d : a = m
      · rw [if_pos ⟨rfl, rfl, d⟩, num_no]
        rw [d, List.mem_filter]
        simp
      · rw [if_neg (fun q => d q.2.2), G2 a ha, num_flt (W.nd (by decide)) (by omega) c d]
        have z : ∀ x : Int32, x - 0 = x := fun x => by simp
        by_cases d2 : num (σ.2.1 1) m < num (σ.2.1 1) a
        · rw [if_pos ⟨ha, d2⟩, if_pos d2]
        · rw [if_neg (fun q => d2 q.2), if_neg d2, z]
    · rw [upI_k (by decide), upI_k (by decide)]; exact F2.2 56 (by decide)
    · exact upI_s
    · refine F1.tr ⟨F2.1, fun k hk => ?_⟩
      rw [upI_k (by omega), upI_k (by omega), upI_k (by omega)]
      exact F2.2 k (by omega)
  · have hf : (σ.2.1 1).filter (fun x => x != m) = σ.2.1 1 := by
      rw [List.filter_eq_self]
      intro x hx
      have : x ≠ m := fun q => c (by rw [← q]; exact hx)
      simpa using this
    have e0' : υ1.1 55 0 m = -1 := by rw [e0, num_no c]
    refine ⟨upI υ1 56 0 m (-1), ?_, fin υ1 (fun _ _ _ _ _ => rfl) (fun a ha => by rw [hf]; exact e55 a ha) rfl (by rw [hf, R1.nbd, cL1]), F1.tr (Fr.u (by decide))⟩
    simp (disch := first | omega | (simp only [w_ui2, w_ul3, ladd_n, lrem_N, grw_n, ladd_Ln, lrem_Ln, grw_L, List.length_range, fil_2, aO_2, pr_n, gN_n, d1_n, dl_n, fil_2, tO_2, tO_Ln, tI_n, stp_n]; omega)) only [w_I, w_L, w_L1, w_LR, w_LR1, w_LN, w_LN1, w_LN2, w_null, w_N, w_N1, w_B, w_B1, w_B2, w_GI, w_GI1, w_GR, w_GR1, w_A, w_A1, w_A2, w_A3, w_rd3, w_wr3, w_rd7, w_wr7, w_rd8, w_wr8, w_rd9, w_wr9, w_rd10, w_wr10, w_rm0, w_wm0, w_rm1, w_wm1, w_rm2, w_wm2, w_rm3, w_wm3, w_rm4, w_wm4, w_rm5, w_wm5, w_rm6, w_wm6, w_rm7, w_wm7, w_rm8, w_wm8, w_rm9, w_wm9, w_rm10, w_wm10, w_rm11, w_wm11, w_rm12, w_wm12, w_rm13, w_wm13, w_rm14, w_wm14, w_rm15, w_wm15, w_rm16, w_wm16, w_v0, w_v1, w_v11, w_v14, w_v2, w_v3, w_v4, w_v6, w_v7, w_v8, w_v9, w_v10, inB_t, cl_nI, w_ui1, w_ui2, w_ul1, w_ul3, w_lsz, w_lget, w_ladd, w_lrem, sl_ladd, sl_lrem, sl_grw, n_eq, n_lt, n_le, n_add, n_ad1, n_lt4, n_neg, n_lt0, n_ge0, w_M, w_M1, w_M2, w_T, w_T1, w_C, w_C1, w_Z, w_and, w_and1, w_or, w_or1, w_not, w_not1, w_tn, w_tn1, w_E, w_E1, w_E2, w_nl, w_nl1, w_nl2, w_C2_0, w_Z1_0, w_C2_1, w_Z1_1, w_C2_2, w_Z1_2, w_C2_3, w_Z1_3, w_C2_4, w_Z1_4, w_C2_5, w_Z1_5, w_seq, w_seq1, w_seq2, w_seq3, w_if, w_if1, w_skip, w_set, w_set1, w_setR, w_setR1, w_setN, w_setN1, w_setN2, w_inc, w_inc1, w_put, w_put1, w_put2, w_put3, w_wf0, w_wf1, w_po, w_po1, w_po2, w_ast, w_ast1, w_ast2, w_ast3, w_aop, w_aop1, w_aop2, w_aop3, w_aop4, w_ret, w_ret0, w_ret1, w_retN, w_retN1, w_retN2, w_retV, w_throw, w_aN, w_aI, w_aI1, w_aI2, w_aR, w_aR1, w_ask, w_ask1, w_V, w_V1, w_V2, w_S, w_S1, w_CI, w_CI1, w_CR, w_CR1, w_CN, w_CN1, w_CN2, w_CV, w_CV1, w_CV2, w_pop, w_pop1, w_popR, w_popR1, w_cast, w_cast1, w_run, w_run1, w_run2, ite_s1, ite_01, ite_10, ite_nz, i_10, i_01, i_20, i_02, i_21, i_12, i_30, i_03, i_40, i_04, il_00, il_10, il_20, il_01, il_02, sl_r, sl_I, sl_L, List.getElem?_cons_zero, List.getElem?_cons_succ, List.set_cons_zero, List.set_cons_succ, List.map_cons, List.map_nil, List.length_cons, List.length_nil, List.cons_append, List.nil_append, List.append_nil, List.replicate_succ, List.replicate_zero, Nat.reduceSub, Nat.reduceAdd, Nat.reduceEqDiff, if_true, if_false, true_and, and_true, reduceCtorEq, ite_true, ite_false, Bool.false_eq_true, Nat.zero_add, Nat.add_zero, Nat.sub_self, Nat.reduceLT, decide_eq_true_eq, Bool.not_eq_true, not_true_eq_false, not_false_eq_true, decide_true, decide_false, decide_not, Bool.decide_eq_true, and_self, or_self, or_true, true_or, or_false, false_or, false_and, and_false, ne_eq, Bool.not_not, Bool.not_eq_eq_eq_not, Nat.reduceEqDiff, Nat.reduceLeDiff, Bool.not_true, Bool.not_false, eq_self, ladd_I, ladd_L1, ladd_Ln, ladd_n, ladd_J, lrem_I, lrem_L1, lrem_Ln, lrem_N, grw_I, grw_L, grw_n, grw_J, sdr_u, tk_u, sdr_a, tk_a, sdr_r, tk_r, rg_get, List.length_range, fil_2, fil_I, sdr_f, tk_f, sl_fil, aO_2, pr_n, aO_I, aO_L, sl_aO, pr_I, pr_L, sl_pr, gN_n, d1_n, dl_n, gN_I, gN_L, sl_gN, d1_I, d1_L, d1_L1, sl_d1, dl_I, dl_L, dl_L1, sl_dl, sdr_dl, tk_dl, sl_dH, fil_2, sl_gT, sl_tI, tO_2, tO_Ln, tO_I, sl_tO, tI_n, stp_n, sl_lO, sl_dp, sl_cV, sl_rst, n_4m, n_48m, le_pred, ge0_pd, n_gt0, f_X3_drops, b_X3_drops, h1, e0', or_true]
end DR
