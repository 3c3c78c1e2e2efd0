/-! pure: the last rounds of the law; all rounds -/
section RD
variable {f e : Prop} {σ τ υ ω o2 : Sg} {m i j k n q B B' m0 i0 m1 i1 : Nat} {x y a b : Int32} {r : Option Sg} {w : Int64}
theorem st_okJ (hq : r = some υ) (I : CI True ω B' False 0 0) (hB : B' ≤ B + 60) (R : Rel ω υ) (F : Fp (upJ ω w) υ) (c : cD 5 26 σ ω) : ST σ B r := st_fin hq I hB R F rfl rfl (fun _ _ _ => rfl) (c.tr (cD.of rfl))
theorem LI.MJ (L : LI σ B) (h : ∀ k, 41 ≤ k → ω.1 k = σ.1 k) (w : Int64) : Rel σ (upJ ω w) := L.2.ofM h
theorem sd_k (hk : 41 ≤ k) : (S_sd σ i).1 k = σ.1 k := by
  unfold S_sd
  rw [pr_k (by omega) (by omega) (by omega) (by omega) (by omega)]
  funext o j
  rw [sd4_I (by omega)]
  unfold sd3
  rw [dl_I (by omega) (by omega) (by omega) (by omega) (by omega) (by omega), sd2_I (by omega) (by omega)]
theorem dU_k (hk : 41 ≤ k) : ∀ t, (dU σ t).1.1 k = σ.1 k := by
  intro t
  induction t with
  | zero => rfl
  | succ t ih =>
    rw [dU_s]
    split
    · exact (dp_k (by omega) (by omega) (by omega) (by omega) (by omega)).trans ih
    · exact ih
theorem fl_k (h : CI True σ B False 0 0) (hB : B < 1000000) (hk : 41 ≤ k) : (S_fl σ).1 k = σ.1 k := by
  obtain ⟨⟨W3, A3, P3, PA3⟩, _⟩ := h.fl hB
  obtain ⟨I1, _⟩ := fl2_ci h
  have M : Mo (fl1 σ) (fl2 σ) := (lO_ci I1 4 (Nat.le_refl _)).2.1
  have e1 : (fl1 σ).1 k = σ.1 k := dU_k hk _
  have e2 : (fl2 σ).1 k = (fl1 σ).1 k := M.kk (by omega) (by omega) (by omega) (by omega) (by omega) (by omega)
  have e3 : (fl3 σ).1 k = (fl2 σ).1 k := by funext o j; exact cV_I (by omega) (by omega) (by omega) (by omega) (by omega) (by omega)
  have hn := W3.n
  have e4 : (S_fl σ).1 k = (fl3 σ).1 k := (rst_PA W3 PA3 hB ((fl3 σ).2.2.1 0) (by omega)).2.1 k (by omega) (by omega) (by omega)
  exact e4.trans (e3.trans (e2.trans e1))
theorem s_0 (L : LI σ B) (hB : B < 1000000) : ST σ B (q_0 a b σ) := by
  have W := L.W
  by_cases c : isI a
  · obtain ⟨i, hi, rfl⟩ := isI_m c
    by_cases d : σ.1 13 i 0 = 0 ∨ fI (fvP σ) 4 < 4 ∨ ¬ σ.2.2.1 0 < 48
    · exact st_ex L (qe2_0 (t_send W hi d) (y_send L.G W hi d) (Fp.u (by decide)) upI_s)
    · have d1 : ¬ σ.1 13 i 0 = 0 := fun q => d (Or.inl q)
      have d2 : ¬ fI (fvP σ) 4 < 4 := fun q => d (Or.inr (Or.inl q))
      have d3 : σ.2.2.1 0 < 48 := by
        by_cases z : σ.2.2.1 0 < 48
        · exact z
        · exact absurd (Or.inr (Or.inr z)) d
      have Rm := L.MJ (ω := S_sd σ i) (fun k hk => sd_k hk)
      obtain ⟨υ, g1, R, F, g2⟩ := e_send (Rm (nI (σ.2.2.1 0)).toInt64) L.1 (by omega) hi d1 d2 d3
      exact st_okJ (ω := S_sd σ i) (qk_0 (p_send W hi d1 d2 d3) sl_sd g1 F g2) (L.1.send (by omega) hi d1 d3) (by omega) R F (cl_sd hi)
  · exact st_ex L (qe1_0 (n_send c) (x_send c) (Fp.u (by decide)) upI_s)
theorem tI_k (hk : 41 ≤ k) : (S_tI (S_pr σ m i) m i).1 k = σ.1 k := by
  funext o j
  rw [tI_I (by omega) (by omega) (by omega) (by omega) (by omega) (by omega), pr_I (by omega) (by omega) (by omega) (by omega) (by omega)]
theorem s_1 (L : LI σ B) (hB : B < 1000000) : ST σ B (q_1 a b σ) := by
  have W := L.W
  by_cases c : isM σ a ∧ isI b
  · obtain ⟨m, hm, rfl⟩ := L.mm c.1
    obtain ⟨i, hi, rfl⟩ := isI_m c.2
    by_cases d : σ.1 13 i 0 = 0 ∨ ¬ σ.1 27 m i = 0
    · exact st_ex L (qe2_1 (t_arrive W hm hi d) (y_arrive L.G W hm hi d) (Fp.u (by decide)) upI_s)
    · have d1 : ¬ σ.1 13 i 0 = 0 := fun q => d (Or.inl q)
      have d2 : σ.1 27 m i = 0 := by
        by_cases z : σ.1 27 m i = 0
        · exact z
        · exact absurd (Or.inr z) d
      have Rm := L.MJ (ω := S_tI (S_pr σ m i) m i) (fun k hk => tI_k hk)
      obtain ⟨P, ⟨x1, x2⟩, υ, g1, R, F, g2⟩ := e_arrive (Rm (nI (r_tI (S_pr σ m i) m i)).toInt64) L.1 (by omega) hm hi d1 d2
      exact st_okJ (ω := S_tI (S_pr σ m i) m i) (qk_1 (p_arrive W hm hi d1 d2 P x1 x2) (sl_trans (b := S_pr σ m i) sl_pr sl_tI) g1 F g2) (L.1.arrive (by omega) hm hi d1 d2) (by omega) R F ((cD.tz (τ := S_pr σ m i) cl_pr (cl_tI hi)).mono (by omega) (by omega))
  · exact st_ex L (qe1_1 (n_arrive W c) (x_arrive L.G W c) (Fp.u (by decide)) upI_s)
theorem s_26 (L : LI σ B) (hB : B < 1000000) : ST σ B (q_26 a b σ) := by
  have W := L.W
  have hl := W.len (k := 2) (by decide)
  obtain ⟨PBh, g, hg, eg, A⟩ := L.1.2.2.2.2.2.1
  by_cases c : 0 ≤ a ∧ a < nI (σ.2.1 2).length
  · obtain ⟨j, hj, rfl⟩ := (in_of (by omega)).mp c
    obtain ⟨υ, v, g1, R, F, g2, g3⟩ := e_agreedAt (x := nI j) (L.J (nI ((σ.2.1 2).getD j 0)).toInt64) W A (by omega)
    rw [g3 j hj rfl] at g1
    rw [if_pos c] at g2
    exact st_fin (qk_26 (p_agreedAt W hj) (sleB_refl _) g1 F g2) L.1 (by omega) R F rfl rfl (fun _ _ _ => rfl) ((cD.of rfl).mono (by omega) (by omega))
  · obtain ⟨υ, v, g1, R, F, g2, g3⟩ := e_agreedAt (x := a) L.G W A (by omega)
    rw [if_neg c] at g2
    exact st_fin (o2 := grw σ 1 6) (qe1_26 (n_agreedAt c) g1 F g2) L.1 (by omega) R F rfl rfl (fun k q1 q2 => by simp [grw, upN, q1, q2]) (cl_grw.mono (by omega) (by omega))
theorem s_28 (L : LI σ B) (hB : B < 1000000) : ST σ B (q_28 a b σ) := by
  have W := L.W
  by_cases c : fI (fvP σ) 4 < 4
  · obtain ⟨⟨W3, A3, P3, PA3⟩, IF⟩ := L.1.fl hB
    obtain ⟨I1, I2, n2, h13, hall⟩ := fl2_ci L.1
    have Rm := L.MJ (ω := S_fl σ) (fun k hk => fl_k L.1 hB hk)
    obtain ⟨g, hg, eg⟩ := P3.2.2
    obtain ⟨υ, g1, R, F, g2⟩ := e_flush (Rm (nI (dU σ (σ.2.2.1 0)).2).toInt64) c L.1.pd I1.il I1.1.1.2.2.2.2.1 I2.2.2.2.2.2.2.2 (fun i hi hal => I2.rcv hi hal) W3 A3 P3 hB
    exact st_okJ (ω := S_fl σ) (qk_28 (ev_fl W c I1.il I2.2.2.2.2.2.2.2 ⟨W3, A3, eg⟩ (by omega)) (sl_fl W) g1 F g2) IF (by omega) R F ((cl_fl W).mono (by omega) (by omega))
  · exact st_ex L (qe2_28 (ev_fl0 c) (e_flush0 L.G c) (Fp.u (by decide)) upI_s)
end RD
