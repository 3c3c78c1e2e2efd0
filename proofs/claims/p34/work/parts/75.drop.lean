/-! pure: what the reference writes: a message is dropped -/
section DR
variable {σ τ υ : Sg} {m i j k n a b o k2 o2 j2 t B q : Nat} {x y : Int32} {l : List Nat}
def csn (σ : Sg) (m : Nat) : Nat → Sg
  | 0 => upI σ 25 m 0 1
  | j + 1 => upI (if σ.1 13 j 0 = 0 then csn σ m j else S_tO (csn σ m j) (7 + j) m) 27 m j 4
theorem csn_s : csn σ m (j + 1) = upI (if σ.1 13 j 0 = 0 then csn σ m j else S_tO (csn σ m j) (7 + j) m) 27 m j 4 := rfl
theorem WF.csn (W : WF σ) : ∀ t, WF (csn σ m t) := by
  intro t
  induction t with
  | zero => exact W.b01 (Or.inr (Or.inr rfl)) (Or.inr rfl)
  | succ t ih =>
    rw [csn_s]
    split
    · exact ih.u (by decide)
    · exact (ih.tO (by omega)).u (by decide)
theorem tO_cong {A C : Sg} (h : A.2.1 = C.2.1) : (S_tO A k m).2.1 = (S_tO C k m).2.1 := by
  have e : toP A k m = toP C k m := by funext j; unfold toP; rw [h]
  unfold S_tO
  rw [e, h]
  split
  · unfold lrem upL
    show (fun k' => if k' = k then _ else A.2.1 k') = (fun k' => if k' = k then _ else C.2.1 k')
    rw [h]
  · exact h
theorem dpH_csn : ∀ t, (dpH (dp0 σ m) m t).2.1 = (csn σ m t).2.1 := by
  intro t
  induction t with
  | zero => rfl
  | succ t ih =>
    have e : (dp0 σ m).1 13 t 0 = σ.1 13 t 0 := by unfold dp0; rw [fil_I (by decide), upI_n (by decide)]
    rw [dpH_s, csn_s, w_ui2, e]
    split
    · exact ih
    · exact tO_cong ih
theorem rnm_v (hn : (σ.2.1 1).Nodup) : ∀ t, t ≤ (σ.2.1 1).length → (rnm σ t).1 23 a 0 = if a ∈ (σ.2.1 1).take t then nI ((σ.2.1 1).idxOf a) else σ.1 23 a 0 := by
  intro t
  induction t with
  | zero => intro _; rw [List.take_zero, if_neg (by simp)]; rfl
  | succ t ih =>
    intro ht
    rw [rnm_s, take_sn (by omega)]
    by_cases c : a = (σ.2.1 1).getD t 0
    · rw [← c, upI_s, if_pos (by simp), c, idx_get hn (by omega)]
    · rw [upI_o (fun q => c q.1), ih (by omega)]
      by_cases d : a ∈ (σ.2.1 1).take t
      · rw [if_pos d, if_pos (List.mem_append_left _ d)]
      · rw [if_neg d, if_neg]
        intro q
        rcases List.mem_append.mp q with q | q
        · exact d q
        · simp only [List.mem_singleton] at q
          exact c q
theorem dp_L1 (W : WF σ) : (S_dp σ m).2.1 1 = (σ.2.1 1).filter (fun x => x != m) := by
  have e3 : (dp3 σ m).2.1 1 = σ.2.1 1 := by
    show (S_tO (dp1 σ m) 2 m).2.1 1 = _
    rw [tO_Ln (by decide)]
    exact dpH_L (by decide) 4
  have hnd : ((dp3 σ m).2.1 1).Nodup := by rw [e3]; exact W.nd (by decide)
  unfold S_dp
  rw [rnm_2]
  show (S_tO (dp3 σ m) 1 m).2.1 1 = _
  rw [tO_L1 hnd, e3]
theorem dp_L2 (W : WF σ) : (S_dp σ m).2.1 2 = (σ.2.1 2).filter (fun x => x != m) := by
  have e1 : (dp1 σ m).2.1 2 = σ.2.1 2 := dpH_L (by decide) 4
  have hnd : ((dp1 σ m).2.1 2).Nodup := by rw [e1]; exact W.nd (by decide)
  unfold S_dp
  rw [rnm_2]
  show (S_tO (dp3 σ m) 1 m).2.1 2 = _
  rw [tO_Ln (by decide)]
  show (S_tO (dp1 σ m) 2 m).2.1 2 = _
  rw [tO_L1 hnd, e1]
theorem dp_Lo (h1 : k2 ≠ 1) (h2 : k2 ≠ 2) : (S_dp σ m).2.1 k2 = (csn σ m 4).2.1 k2 := by
  unfold S_dp
  rw [rnm_2]
  show (S_tO (dp3 σ m) 1 m).2.1 k2 = _
  rw [tO_Ln h1]
  show (S_tO (dp1 σ m) 2 m).2.1 k2 = _
  rw [tO_Ln h2]
  exact congrFun (dpH_csn 4) k2
theorem dp5_I (h : k2 ≠ 25) (h1 : k2 ≠ 27) (h2 : k2 ≠ 30) (h3 : k2 ≠ 24) (h4 : k2 ≠ 23) : (dp5 σ m).1 k2 o2 j2 = σ.1 k2 o2 j2 := by
  unfold dp5
  rw [upI_n h4, tO_I h2]
  unfold dp3
  rw [upI_n h3, tO_I h2]
  unfold dp1
  rw [dpH_I h2]
  unfold dp0
  rw [fil_I h1, upI_n h]
theorem dp_I (h : k2 ≠ 25) (h1 : k2 ≠ 27) (h2 : k2 ≠ 30) (h3 : k2 ≠ 24) (h4 : k2 ≠ 23) : (S_dp σ m).1 k2 o2 j2 = σ.1 k2 o2 j2 := by
  unfold S_dp
  rw [rnm_I h4]
  exact dp5_I h h1 h2 h3 h4
theorem dp_25 : (S_dp σ m).1 25 o2 j2 = (upI σ 25 m 0 1).1 25 o2 j2 := by
  unfold S_dp
  rw [rnm_I (by decide)]
  unfold dp5
  rw [upI_n (by decide), tO_I (by decide)]
  unfold dp3
  rw [upI_n (by decide), tO_I (by decide)]
  unfold dp1
  rw [dpH_I (by decide)]
  unfold dp0
  rw [fil_I (by decide)]
theorem dp_27 : (S_dp σ m).1 27 o2 j2 = if o2 = m ∧ j2 < 4 then 4 else σ.1 27 o2 j2 := by
  unfold S_dp
  rw [rnm_I (by decide)]
  unfold dp5
  rw [upI_n (by decide), tO_I (by decide)]
  unfold dp3
  rw [upI_n (by decide), tO_I (by decide)]
  unfold dp1
  rw [dpH_I (by decide)]
  have e : (dp0 σ m).1 27 o2 j2 = if 27 = 27 ∧ o2 = m ∧ j2 < 4 then 4 else (upI σ 25 m 0 1).1 27 o2 j2 := rfl
  rw [e, upI_n (by decide)]
  simp
theorem dp_24 : (S_dp σ m).1 24 o2 0 = if o2 = m then -1 else σ.1 24 o2 0 := by
  unfold S_dp
  rw [rnm_I (by decide)]
  unfold dp5
  rw [upI_n (by decide), tO_I (by decide)]
  unfold dp3
  rw [w_ui1, tO_I (by decide)]
  have : (dp1 σ m).1 24 o2 0 = σ.1 24 o2 0 := by
    unfold dp1
    rw [dpH_I (by decide)]
    unfold dp0
    rw [fil_I (by decide), upI_n (by decide)]
  rw [this]
  simp
theorem dp_23 (W : WF σ) (N : NB σ) (ha : a < σ.2.2.1 0) : (S_dp σ m).1 23 a 0 = num ((σ.2.1 1).filter (fun x => x != m)) a := by
  have e1 : (dp5 σ m).2.1 1 = (σ.2.1 1).filter (fun x => x != m) := by
    have := dp_L1 (m := m) W
    unfold S_dp at this
    rwa [rnm_2] at this
  have hnd : ((dp5 σ m).2.1 1).Nodup := by rw [e1]; exact List.Pairwise.filter _ (W.nd (by decide))
  unfold S_dp
  rw [rnm_v hnd _ (Nat.le_refl _), List.take_length, e1]
  by_cases c : a ∈ (σ.2.1 1).filter (fun x => x != m)
  · rw [if_pos c, num_in c]
  · rw [if_neg c, num_no c]
    unfold dp5
    rw [w_ui1]
    by_cases d : a = m
    · rw [if_pos ⟨rfl, d, rfl⟩]
    · rw [if_neg (fun q => d q.2.1), tO_I (by decide)]
      have e2 : (dp3 σ m).1 23 a 0 = σ.1 23 a 0 := by
        unfold dp3
        rw [upI_n (by decide), tO_I (by decide)]
        unfold dp1
        rw [dpH_I (by decide)]
        unfold dp0
        rw [fil_I (by decide), upI_n (by decide)]
      rw [e2, N a ha, num_no]
      intro q
      exact c (by rw [List.mem_filter]; exact ⟨q, by simpa using d⟩)
theorem NB.dp (N : NB σ) (W : WF σ) : NB (S_dp σ m) := fun a ha => by
  rw [dp_2] at ha
  rw [dp_23 W N ha, dp_L1 W]
end DR
