/-! pure: each round of the law (laid by wip/whole/gen/st.py) -/
def LI (σ : Sg) (B : Nat) : Prop := CI True σ B False 0 0 ∧ Rel σ σ
def ST (σ : Sg) (B : Nat) (r : Option Sg) : Prop := ∃ υ, r = some υ ∧ LI υ (B + 60) ∧ cD 5 26 σ υ
section ST
variable {f e : Prop} {σ τ υ ω o2 : Sg} {m i j k n q B B' m0 i0 m1 i1 : Nat} {x y a b : Int32} {r : Option Sg} {w : Int64}
theorem PA.mono (h : PA σ B) (hB : B ≤ B') : PA σ B' := by
  obtain ⟨P, g, hg, eg, A⟩ := h
  exact ⟨P.mono hB, g, by omega, eg, A⟩
theorem CI.mono (h : CI f σ B e m0 i0) (hB : B ≤ B') : CI f σ B' e m0 i0 := ⟨h.1, h.2.1, h.2.2.1, h.2.2.2.1, h.2.2.2.2.1, h.2.2.2.2.2.1.mono hB, h.2.2.2.2.2.2⟩
theorem CI.of {σ' : Sg} (h : CI f σ B e m0 i0) (he : ∀ k, k < 40 → σ'.1 k = σ.1 k) (hL : σ'.2.1 = σ.2.1) (hN : ∀ k, k ≠ 1 → k ≠ 2 → σ'.2.2.1 k = σ.2.2.1 k) : CI f σ' B e m0 i0 := by
  obtain ⟨Y, V, q4, q5, q6, P, R, S⟩ := h
  have W := Y.1.1
  have hn := hN 0 (by decide) (by decide)
  have W' : WF σ' := W.of (fun k hk => he k (by omega)) hn (by rw [hL]) (fun k hk => ⟨by rw [hL]; exact W.nd hk, fun x hx => by rw [hL] at hx; exact W.el hk hx, by rw [hN _ (by omega) (by omega)]; exact W.cap hk⟩)
  have h13 := he 13 (by decide)
  have h14 := he 14 (by decide)
  have h25 := he 25 (by decide)
  have h27 := he 27 (by decide)
  have h28 := he 28 (by decide)
  refine ⟨Y.of W' (fun k hk => he k (by omega)) (fun k _ _ => by rw [hL]) hn, fun b hb z => ?_, fun a ha hna hd j hj hv => ?_, fun b hb z a ha hx hc => ?_, fun b hb z a ha hx hd hp => ?_, P.of h28 (he 12 (by decide)) (he 1 (by decide)) (he 24 (by decide)) (by rw [hL]) hn, fun b hb z => ?_, by rw [alP_of h13]; exact S⟩
  · rw [h13] at z; rw [h14]; exact V b hb z
  · rw [hn] at ha; rw [hL] at hna; rw [h25] at hd; rw [h14] at hv; rw [h28]; exact q4 a ha hna hd j hj hv
  · rw [h13] at z; rw [hn] at ha; rw [h27] at hc; rw [hL]; exact q5 b hb z a ha hx hc
  · rw [h13] at z; rw [hn] at ha; rw [h25] at hd; rw [h28] at hp; rw [hL]; exact q6 b hb z a ha hx hd hp
  · rw [h13] at z
    exact rdy_of (he 26 (by decide)) (fun j => by rw [he 16 (by decide)]) (he 21 (by decide)) (by rw [hL]) (R b hb z)
theorem st_fin (hq : r = some υ) (I : CI True ω B' False 0 0) (hB : B' ≤ B + 60) (R : Rel ω υ) (F : Fp o2 υ) (h1 : o2.1 = ω.1) (h2 : o2.2.1 = ω.2.1) (h3 : ∀ k, k ≠ 1 → k ≠ 2 → o2.2.2.1 k = ω.2.2.1 k) (c : cD 5 26 σ o2) : ST σ B r := by
  have e1 : ∀ k, k < 40 → υ.1 k = ω.1 k := fun k hk => (F.2 k hk).trans (congrFun h1 k)
  have e2 : υ.2.1 = ω.2.1 := (congrArg (·.1) F.1).trans h2
  have e3 : ∀ k, k ≠ 1 → k ≠ 2 → υ.2.2.1 k = ω.2.2.1 k := fun k q1 q2 => (congrFun (congrArg (fun z => z.2.1) F.1) k).trans (h3 k q1 q2)
  have c2 : cD 0 0 o2 υ := cD.of (congrArg (fun z => z.2.1) F.1)
  exact ⟨υ, hq, ⟨(I.of e1 e2 e3).mono hB, R.ofC (fun k hk => e1 k (by omega)) e2 (e3 0 (by decide) (by decide))⟩, c.tr c2⟩
theorem st_same (L : LI σ B) (hq : r = some (upI σ 40 0 0 x)) : ST σ B r := st_fin (ω := σ) (o2 := σ) hq L.1 (by omega) L.2.u40 (Fp.u (by decide)) rfl rfl (fun _ _ _ => rfl) (cD.rf.mono (by omega) (by omega))
theorem st_J (L : LI σ B) (hq : r = some (upI (upJ σ w) 40 0 0 x)) : ST σ B r := st_fin (ω := σ) (o2 := upJ σ w) hq L.1 (by omega) ((L.2.ofM (fun _ _ => rfl)).u40) (Fp.u (by decide)) rfl rfl (fun _ _ _ => rfl) ((cD.of rfl).mono (by omega) (by omega))
theorem st_ex (L : LI σ B) (hq : r = some (upI (grw σ 1 6) 40 0 0 x)) : ST σ B r := st_fin (ω := σ) (o2 := grw σ 1 6) hq L.1 (by omega) ((L.2.ofM (fun _ _ => rfl)).u40) (Fp.u (by decide)) rfl rfl (fun k q1 q2 => by simp [grw, upN, q1, q2]) (cl_grw.mono (by omega) (by omega))
theorem LI.W (L : LI σ B) : WF σ := L.1.1.1.1
theorem LI.J (L : LI σ B) (w : Int64) : Rel σ (upJ σ w) := L.2.ofM (fun _ _ => rfl)
theorem LI.G (L : LI σ B) : Rel σ (grw σ 1 6) := L.2.ofM (fun _ _ => rfl)
theorem LI.mm (L : LI σ B) (c : isM σ x) : ∃ m, m < σ.2.2.1 0 ∧ x = nI m := (in_of (by have := L.W.n; omega)).mp c
theorem isI_m (c : isI x) : ∃ m, m < 4 ∧ x = nI m := in_4.mp c
theorem s_4 (L : LI σ B) : ST σ B (q_4 a b σ) := by
  have W := L.W
  exact st_same L (qk_4 (p_messages W) (e_messages L.2) (Fp.u (by decide)))
theorem s_18 (L : LI σ B) : ST σ B (q_18 a b σ) := by
  have W := L.W
  exact st_same L (qk_18 (p_holder) (e_holder L.2) (Fp.u (by decide)))
theorem s_21 (L : LI σ B) : ST σ B (q_21 a b σ) := by
  have W := L.W
  exact st_same L (qk_21 (p_numbered) (e_numbered L.2) (Fp.u (by decide)))
theorem s_30 (L : LI σ B) : ST σ B (q_30 a b σ) := by
  have W := L.W
  exact st_same L (qk_30 (p_view) (e_view L.2) (Fp.u (by decide)))
theorem s_5 (L : LI σ B) : ST σ B (q_5 a b σ) := by
  have W := L.W
  by_cases c : isM σ a
  · obtain ⟨m, hm, rfl⟩ := L.mm c
    exact st_J L (qk_5 (p_sender W hm) (sleB_refl _) (e_sender (L.J _) W hm) (Fp.u (by decide)) upI_s)
  · exact st_ex L (qe1_5 (n_sender W c) (x_sender L.G W c) (Fp.u (by decide)) upI_s)
theorem s_22 (L : LI σ B) : ST σ B (q_22 a b σ) := by
  have W := L.W
  by_cases c : isM σ a
  · obtain ⟨m, hm, rfl⟩ := L.mm c
    exact st_J L (qk_22 (p_numberOf W hm) (sleB_refl _) (e_numberOf (L.J _) W hm) (Fp.u (by decide)) upI_s)
  · exact st_ex L (qe1_22 (n_numberOf W c) (x_numberOf L.G W c) (Fp.u (by decide)) upI_s)
theorem s_25 (L : LI σ B) : ST σ B (q_25 a b σ) := by
  have W := L.W
  by_cases c : isM σ a
  · obtain ⟨m, hm, rfl⟩ := L.mm c
    exact st_J L (qk_25 (p_agreed W hm) (sleB_refl _) (e_agreed (L.J _) W hm) (Fp.u (by decide)) upI_s)
  · exact st_ex L (qe1_25 (n_agreed W c) (x_agreed L.G W c) (Fp.u (by decide)) upI_s)
theorem s_6 (L : LI σ B) : ST σ B (q_6 a b σ) := by
  have W := L.W
  by_cases c : isM σ a ∧ isI b
  · obtain ⟨m, hm, rfl⟩ := L.mm c.1
    obtain ⟨i, hi, rfl⟩ := isI_m c.2
    exact st_J L (qk_6 (p_copy W hm hi) (sleB_refl _) (e_copy (L.J _) W hm hi) (Fp.u (by decide)) upI_s)
  · exact st_ex L (qe1_6 (n_copy W c) (x_copy L.G W c) (Fp.u (by decide)) upI_s)
theorem s_8 (L : LI σ B) : ST σ B (q_8 a b σ) := by
  have W := L.W
  by_cases c : isM σ a ∧ isI b
  · obtain ⟨m, hm, rfl⟩ := L.mm c.1
    obtain ⟨i, hi, rfl⟩ := isI_m c.2
    exact st_J L (qk_8 (p_stamp W hm hi) (sleB_refl _) (e_stamp (L.J _) W hm hi) (Fp.u (by decide)) upI_s)
  · exact st_ex L (qe1_8 (n_stamp W c) (x_stamp L.G W c) (Fp.u (by decide)) upI_s)
theorem s_24 (L : LI σ B) : ST σ B (q_24 a b σ) := by
  have W := L.W
  by_cases c : isM σ a ∧ isI b
  · obtain ⟨m, hm, rfl⟩ := L.mm c.1
    obtain ⟨i, hi, rfl⟩ := isI_m c.2
    exact st_J L (qk_24 (p_proposal W hm hi) (sleB_refl _) (e_proposal (L.J _) W hm hi) (Fp.u (by decide)) upI_s)
  · exact st_ex L (qe1_24 (n_proposal W c) (x_proposal L.G W c) (Fp.u (by decide)) upI_s)
theorem s_7 (L : LI σ B) : ST σ B (q_7 a b σ) := by
  have W := L.W
  by_cases c : isI a ∧ isI b
  · obtain ⟨m, hm, rfl⟩ := isI_m c.1
    obtain ⟨i, hi, rfl⟩ := isI_m c.2
    exact st_J L (qk_7 (p_clock hm hi) (sleB_refl _) (e_clock (L.J _) hm hi) (Fp.u (by decide)) upI_s)
  · exact st_ex L (qe1_7 (n_clock c) (x_clock c) (Fp.u (by decide)) upI_s)
theorem s_9 (L : LI σ B) : ST σ B (q_9 a b σ) := by
  have W := L.W
  by_cases c : isM σ a ∧ isM σ b
  · obtain ⟨m, hm, rfl⟩ := L.mm c.1
    obtain ⟨i, hi, rfl⟩ := L.mm c.2
    exact st_J L (qk_9 (p_precedes W hm hi) (sleB_refl _) (e_precedes (L.J _) W hm hi) (Fp.u (by decide)) upI_s)
  · exact st_ex L (qe1_9 (n_precedes W c) (x_precedes L.G W c) (Fp.u (by decide)) upI_s)
theorem s_10 (L : LI σ B) : ST σ B (q_10 a b σ) := by
  have W := L.W
  by_cases c : isM σ a ∧ isM σ b
  · obtain ⟨m, hm, rfl⟩ := L.mm c.1
    obtain ⟨i, hi, rfl⟩ := L.mm c.2
    have e := L.1.1.1.2.2.2.1.hist L.1.1.1.2.2.1 W hm hi
    have p := p_precedesByHistory W hm hi
    have e2 : (if ¬ σ.1 29 m (sdr σ i) = -1 ∧ σ.1 29 m (sdr σ i) < σ.1 22 i 0 then (1 : Int32) else 0) = if bef σ m i = true then 1 else 0 := by
      by_cases d : bef σ m i = true
      · rw [if_pos (e.mpr d), if_pos d]
      · rw [if_neg (fun q => d (e.mp q)), if_neg d]
    rw [e2] at p
    exact st_J L (qk_10 p (sleB_refl _) (e_precedesByHistory (L.J _) W hm hi) (Fp.u (by decide)) upI_s)
  · exact st_ex L (qe1_10 (n_precedesByHistory W c) (x_precedesByHistory L.G W c) (Fp.u (by decide)) upI_s)
theorem s_11 (L : LI σ B) : ST σ B (q_11 a b σ) := by
  have W := L.W
  by_cases c : isM σ a ∧ isM σ b
  · obtain ⟨m, hm, rfl⟩ := L.mm c.1
    obtain ⟨i, hi, rfl⟩ := L.mm c.2
    exact st_J L (qk_11 (p_areConcurrent W hm hi) (sleB_refl _) (e_areConcurrent (L.J _) W hm hi) (Fp.u (by decide)) upI_s)
  · exact st_ex L (qe1_11 (n_areConcurrent W c) (x_areConcurrent L.G W c) (Fp.u (by decide)) upI_s)
theorem s_12 (L : LI σ B) : ST σ B (q_12 a b σ) := by
  have W := L.W
  by_cases c : isI a
  · obtain ⟨i, hi, rfl⟩ := isI_m c
    exact st_J L (qk_12 (p_delivered hi) (sleB_refl _) (e_delivered (L.J _) hi) (Fp.u (by decide)) upI_s)
  · exact st_ex L (qe1_12 (n_delivered c) (x_delivered c) (Fp.u (by decide)) upI_s)
theorem s_14 (L : LI σ B) : ST σ B (q_14 a b σ) := by
  have W := L.W
  by_cases c : isI a
  · obtain ⟨i, hi, rfl⟩ := isI_m c
    exact st_J L (qk_14 (p_waiting hi) (sleB_refl _) (e_waiting (L.J _) hi) (Fp.u (by decide)) upI_s)
  · exact st_ex L (qe1_14 (n_waiting c) (x_waiting c) (Fp.u (by decide)) upI_s)
theorem s_13 (L : LI σ B) : ST σ B (q_13 a b σ) := by
  have W := L.W
  by_cases c : isI a
  · obtain ⟨i, hi, rfl⟩ := isI_m c
    by_cases d : 0 ≤ b ∧ b < nI (σ.2.1 (3 + i)).length
    · obtain ⟨j, hj, rfl⟩ := (in_of (by have := W.len (k := 3 + i) (by omega); omega)).mp d
      exact st_J L (qk_13 (p_deliveredAt W hi hj) (sleB_refl _) (e_deliveredAt (L.J _) W hi hj) (Fp.u (by decide)) upI_s)
    · exact st_ex L (qe1_13 (n2_deliveredAt hi d) (x2_deliveredAt L.G W hi d) (Fp.u (by decide)) upI_s)
  · exact st_ex L (qe1_13 (n_deliveredAt c) (x_deliveredAt c) (Fp.u (by decide)) upI_s)
theorem s_15 (L : LI σ B) : ST σ B (q_15 a b σ) := by
  have W := L.W
  by_cases c : isI a
  · obtain ⟨i, hi, rfl⟩ := isI_m c
    by_cases d : 0 ≤ b ∧ b < nI (σ.2.1 (7 + i)).length
    · obtain ⟨j, hj, rfl⟩ := (in_of (by have := W.len (k := 7 + i) (by omega); omega)).mp d
      exact st_J L (qk_15 (p_waitingAt W hi hj) (sleB_refl _) (e_waitingAt (L.J _) W hi hj) (Fp.u (by decide)) upI_s)
    · exact st_ex L (qe1_15 (n2_waitingAt hi d) (x2_waitingAt L.G W hi d) (Fp.u (by decide)) upI_s)
  · exact st_ex L (qe1_15 (n_waitingAt c) (x_waitingAt c) (Fp.u (by decide)) upI_s)
theorem s_16 (L : LI σ B) : ST σ B (q_16 a b σ) := by
  have W := L.W
  by_cases c : isM σ a ∧ isI b
  · obtain ⟨m, hm, rfl⟩ := L.mm c.1
    obtain ⟨i, hi, rfl⟩ := isI_m c.2
    exact st_J L (qk_16 (p_needs W hm hi) (sleB_refl _) (e_needs (L.J _) W L.1.1.1.2.2.1 (L.1.1.1.2.2.2.1.bl W) hm hi) (Fp.u (by decide)) upI_s)
  · exact st_ex L (qe1_16 (n_needs W c) (x_needs L.G W c) (Fp.u (by decide)) upI_s)
theorem s_17 (L : LI σ B) : ST σ B (q_17 a b σ) := by
  have W := L.W
  by_cases c : isM σ a ∧ isI b
  · obtain ⟨m, hm, rfl⟩ := L.mm c.1
    obtain ⟨i, hi, rfl⟩ := isI_m c.2
    exact st_J L (qk_17 (p_firstNeeded W hm hi) (sleB_refl _) (e_firstNeeded (L.J _) W L.1.1.1.2.2.1 (L.1.1.1.2.2.2.1.bl W) hm hi) (Fp.u (by decide)) upI_s)
  · exact st_ex L (qe1_17 (n_firstNeeded W c) (x_firstNeeded L.G W c) (Fp.u (by decide)) upI_s)
theorem s_29 (L : LI σ B) : ST σ B (q_29 a b σ) := by
  have W := L.W
  by_cases c : isI a
  · obtain ⟨i, hi, rfl⟩ := isI_m c
    exact st_J L (qk_29 (p_isAlive W hi) (sleB_refl _) (e_isAlive (L.J _) W hi) (Fp.u (by decide)) upI_s)
  · exact st_ex L (qe1_29 (n_isAlive c) (x_isAlive c) (Fp.u (by decide)) upI_s)
theorem s_23 (L : LI σ B) : ST σ B (q_23 a b σ) := by
  have W := L.W
  by_cases c : isI a
  · obtain ⟨i, hi, rfl⟩ := isI_m c
    by_cases d : σ.1 13 i 0 = 0
    · exact st_J L (qk_23 (p2_ordered hi d) (sleB_refl _) (e2_ordered (L.J _) hi d) (Fp.u (by decide)) upI_s)
    · obtain ⟨q, q1, q2⟩ := L.1.1.2.2.1 trivial i hi d
      have hl := W.len (k := 1) (by decide)
      exact st_J L (qk_23 (p_ordered W hi d q2 (by omega)) (sleB_refl _) (e_ordered (L.J _) W (L.1.1.2.1 trivial) L.1.1.1.2.1 L.1.1.1.2.2.1 hi d q2 q1) (Fp.u (by decide)) upI_s)
  · exact st_ex L (qe1_23 (n_ordered c) (x_ordered c) (Fp.u (by decide)) upI_s)
theorem s_2 (L : LI σ B) : ST σ B (q_2 a b σ) := by
  have W := L.W
  by_cases c : isM σ a ∧ isI b
  · obtain ⟨m, hm, rfl⟩ := L.mm c.1
    obtain ⟨i, hi, rfl⟩ := isI_m c.2
    by_cases d : σ.1 27 m i = 0
    · have R : Rel (upI σ 27 m i 3) (upI (upI (upI σ 27 m i 3) 40 0 0 0) 51 0 (4 * m + i) 3) := ((L.2.ofM (fun k hk => upI_k (by omega)) : Rel σ (upI σ 27 m i 3)).u40 (x := 0)).wCpy hm hi
      have Rm : Rel σ (upI σ 27 m i 3) := L.2.ofM (fun k hk => upI_k (by omega))
      have F : Fp (upI σ 27 m i 3) (upI (upI (upI σ 27 m i 3) 40 0 0 0) 51 0 (4 * m + i) 3) := (Fp.u (by decide)).tr (Fp.u (by decide))
      exact st_fin (qk_2 (p_lose W hm hi d) (sleB_refl σ) (e_lose Rm W hm hi d) F (by rw [upI_n (by decide), upI_s])) (L.1.wc hm hi (by rw [d]; simp) (by simp)) (by omega) R F rfl rfl (fun _ _ _ => rfl) ((cD.of rfl).mono (by omega) (by omega))
    · exact st_ex L (qe2_2 (t_lose W hm hi d) (y_lose L.G W hm hi d) (Fp.u (by decide)) upI_s)
  · exact st_ex L (qe1_2 (n_lose W c) (x_lose L.G W c) (Fp.u (by decide)) upI_s)
theorem s_3 (L : LI σ B) : ST σ B (q_3 a b σ) := by
  have W := L.W
  by_cases c : isM σ a ∧ isI b
  · obtain ⟨m, hm, rfl⟩ := L.mm c.1
    obtain ⟨i, hi, rfl⟩ := isI_m c.2
    by_cases d : σ.1 27 m i = 3
    · have R : Rel (upI σ 27 m i 0) (upI (upI (upI σ 27 m i 0) 40 0 0 0) 51 0 (4 * m + i) 0) := ((L.2.ofM (fun k hk => upI_k (by omega)) : Rel σ (upI σ 27 m i 0)).u40 (x := 0)).wCpy hm hi
      have Rm : Rel σ (upI σ 27 m i 0) := L.2.ofM (fun k hk => upI_k (by omega))
      have F : Fp (upI σ 27 m i 0) (upI (upI (upI σ 27 m i 0) 40 0 0 0) 51 0 (4 * m + i) 0) := (Fp.u (by decide)).tr (Fp.u (by decide))
      exact st_fin (qk_3 (p_sendAgain W hm hi d) (sleB_refl σ) (e_sendAgain Rm W hm hi d) F (by rw [upI_n (by decide), upI_s])) (L.1.wc hm hi (by rw [d]; simp) (by simp)) (by omega) R F rfl rfl (fun _ _ _ => rfl) ((cD.of rfl).mono (by omega) (by omega))
    · exact st_ex L (qe2_3 (t_sendAgain W hm hi d) (y_sendAgain L.G W hm hi d) (Fp.u (by decide)) upI_s)
  · exact st_ex L (qe1_3 (n_sendAgain W c) (x_sendAgain L.G W c) (Fp.u (by decide)) upI_s)
theorem s_20 (L : LI σ B) : ST σ B (q_20 a b σ) := by
  have W := L.W
  by_cases c : isI a
  · obtain ⟨i, hi, rfl⟩ := isI_m c
    by_cases d : σ.1 13 i 0 = 0
    · exact st_ex L (qe2_20 (t_tell hi d) (y_tell L.G hi d) (Fp.u (by decide)) upI_s)
    · have Rm : ∀ w, Rel σ (upJ (upI σ 11 i 0 (nI (σ.2.1 1).length)) w) := fun w => L.2.ofM (fun k hk => upI_k (by omega))
      have F := fun w => (Fp.u (by decide) : Fp (upJ (upI σ 11 i 0 (nI (σ.2.1 1).length)) w) (upI (upJ (upI σ 11 i 0 (nI (σ.2.1 1).length)) w) 40 0 0 0)).tr (Fp.u (k := 65) (o := 0) (j := i) (x := nI (σ.2.1 1).length) (by decide))
      exact st_fin (qk_20 (p_tell hi d) (sleB_refl σ) (e_tell (Rm _) W (L.1.1.2.1 trivial) hi d) (F _) (by rw [upI_n (by decide), upI_s])) (L.1.tell hi) (by omega) ((Rm _).u40.wKno) (F _) rfl rfl (fun _ _ _ => rfl) ((cD.of rfl).mono (by omega) (by omega))
  · exact st_ex L (qe1_20 (n_tell c) (x_tell c) (Fp.u (by decide)) upI_s)
theorem s_27 (L : LI σ B) : ST σ B (q_27 a b σ) := by
  have W := L.W
  by_cases c : isI a
  · obtain ⟨i, hi, rfl⟩ := isI_m c
    by_cases d : σ.1 13 i 0 = 0 ∨ cAn σ 4 = 1
    · exact st_ex L (qe2_27 (t_fail hi d) (y_fail L.G hi d) (Fp.u (by decide)) upI_s)
    · have d1 : ¬ σ.1 13 i 0 = 0 := fun q => d (Or.inl q)
      have d2 : ¬ cAn σ 4 = 1 := fun q => d (Or.inr q)
      obtain ⟨q, q1, q2⟩ := L.1.1.2.2.1 trivial i hi d1
      have hl := W.len (k := 1) (by decide)
      have Rm : Rel σ (upI (upI σ 15 i 0 (nI (fI (nnP σ i) (min q (σ.2.1 1).length)))) 13 i 0 0) := L.2.ofM (fun k hk => by rw [upI_k (by omega), upI_k (by omega)])
      obtain ⟨υ, g1, R, F, g2⟩ := e_fail Rm W (L.1.1.2.1 trivial) L.1.1.1.2.1 L.1.1.1.2.2.1 hi d1 d2 q2 q1
      exact st_fin (qk_27 (p_fail W hi d1 d2 q2 (by omega)) (sleB_refl σ) g1 F g2) (L.1.fail hi d1 d2) (by omega) R F rfl rfl (fun _ _ _ => rfl) ((cD.of rfl).mono (by omega) (by omega))
  · exact st_ex L (qe1_27 (n_fail c) (x_fail c) (Fp.u (by decide)) upI_s)
theorem s_19 (L : LI σ B) : ST σ B (q_19 a b σ) := by
  have W := L.W
  by_cases c : isI a
  · obtain ⟨i, hi, rfl⟩ := isI_m c
    by_cases d : σ.1 13 i 0 = 0 ∨ fI (fvP σ) 4 < 4 ∨ fI (nnP σ i) (σ.2.1 1).length < (σ.2.1 1).length
    · exact st_ex L (qe2_19 (t_passToken W hi d) (y_passToken L.G L.1.1.1 hi d) (Fp.u (by decide)) upI_s)
    · have d1 : ¬ σ.1 13 i 0 = 0 := fun q => d (Or.inl q)
      have d2 : ¬ fI (fvP σ) 4 < 4 := fun q => d (Or.inr (Or.inl q))
      have d3 : ¬ fI (nnP σ i) (σ.2.1 1).length < (σ.2.1 1).length := fun q => d (Or.inr (Or.inr q))
      have Rm : ∀ w, Rel σ (upJ (S_gT σ i) w) := fun w => L.2.ofM (fun k hk => gT_k (by omega) (by omega) (by omega) (by omega))
      obtain ⟨υ, g1, R, F, g2⟩ := e_passToken (Rm _) L.1.1.1 (L.1.1.2.1 trivial) hi d1 d2 d3 (L.1.rcv hi d1)
      have hL : ∀ x ∈ σ.2.1 1, x ∈ σ.2.1 (3 + i) := fun x hx => by
        by_cases z : x ∈ σ.2.1 (3 + i)
        · exact z
        · exfalso
          obtain ⟨j, hj, e⟩ := List.getElem_of_mem hx
          refine d3 (fI_iff.mpr ⟨j, hj, ?_⟩)
          unfold nnP
          rw [List.getD_eq_getElem?_getD, List.getElem?_eq_getElem hj, Option.getD_some, e, decide_eq_true_eq, pl_neg L.1.1.1.2.2.1 W (W.el (by decide) hx) hi]
          exact z
      exact st_fin (qk_19 (p_passToken W (L.1.1.1.2.1.nu W) hi d1 d2 d3) sl_gT g1 F g2) (L.1.passT hi d1 hL) (by omega) R F rfl rfl (fun _ _ _ => rfl) ((cl_gT.tz (cD.of rfl)).mono (by omega) (by omega))
  · exact st_ex L (qe1_19 (n_passToken c) (x_passToken c) (Fp.u (by decide)) upI_s)
end ST
