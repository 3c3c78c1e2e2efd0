/-! pure: how many cells and slots -/
def rmN (σ : Sg) : Nat → Nat
  | 0 => 0
  | k + 1 => rmN σ k + σ.2.2.1 (10 + k)
/-- new cells and slots are paid for by room, but for a few -/
def cD (d s : Nat) (σ τ : Sg) : Prop := sC τ + rmN σ 11 ≤ sC σ + rmN τ 11 + d ∧ sS τ + 4 * rmN σ 11 ≤ sS σ + 4 * rmN τ 11 + s
section CT
variable {σ τ υ : Sg} {m i j k n a b o k2 o2 j2 t B q d s d' s' : Nat} {x y : Int32} {l : List Nat} {f : Nat → Int32}
theorem cD.tr (h : cD d s σ τ) (h' : cD d' s' τ υ) : cD (d + d') (s + s') σ υ := by
  unfold cD at *
  omega
theorem cD.tz (h : cD 0 0 σ τ) (h' : cD 0 0 τ υ) : cD 0 0 σ υ := h.tr h'
theorem cD.mono (h : cD d s σ τ) (h1 : d ≤ d') (h2 : s ≤ s') : cD d' s' σ τ := by
  unfold cD at *
  omega
theorem cD.of (h : τ.2.2.1 = σ.2.2.1) : cD 0 0 σ τ := by
  have e : ∀ t, rmN τ t = rmN σ t := by
    intro t
    induction t with
    | zero => rfl
    | succ t ih => unfold rmN; rw [ih, h]
  have h1 : sC τ = sC σ := congrArg (fun z => z 1) h
  have h2 : sS τ = sS σ := congrArg (fun z => z 2) h
  unfold cD
  rw [e, h1, h2]
  omega
theorem cD.rf : cD 0 0 σ σ := cD.of rfl
theorem rmN_same (h : ∀ k, k < t → τ.2.2.1 (10 + k) = σ.2.2.1 (10 + k)) : rmN τ t = rmN σ t := by
  induction t with
  | zero => rfl
  | succ t ih =>
    unfold rmN
    rw [ih (fun k hk => h k (by omega)), h t (by omega)]
theorem rmN_up (hk : k < t) (h : ∀ k2, k2 < t → k2 ≠ k → τ.2.2.1 (10 + k2) = σ.2.2.1 (10 + k2)) (h1 : τ.2.2.1 (10 + k) = σ.2.2.1 (10 + k) + d) : rmN τ t = rmN σ t + d := by
  induction t with
  | zero => exact absurd hk (Nat.not_lt_zero _)
  | succ t ih =>
    unfold rmN
    by_cases c : k = t
    · subst c
      rw [h1, rmN_same (fun k2 hk2 => h k2 (by omega) (by omega))]
      omega
    · rw [ih (by omega) (fun k2 hk2 hne => h k2 (by omega) hne), h t (by omega) (fun q => c q.symm)]
      omega
theorem cl_ladd (hk : k < 11) : cD 0 0 σ (ladd σ k m) := by
  by_cases c : (σ.2.1 k).length < σ.2.2.1 (10 + k)
  · have e : lgrow σ k = σ := if_pos c
    have e2 : (ladd σ k m).2.2.1 = (lgrow σ k).2.2.1 := rfl
    rw [e] at e2
    exact cD.of e2
  · have e : lgrow σ k = grw (upN σ (10 + k) (newCap (σ.2.2.1 (10 + k)))) 1 (newCap (σ.2.2.1 (10 + k))) := if_neg c
    have e1 : sC (ladd σ k m) = sC σ + 1 := by
      show (lgrow σ k).2.2.1 1 = _
      rw [e]
      simp [grw, upN, sC, sS, show ¬ 1 = 10 + k by omega, show ¬ 2 = 10 + k by omega]
    have e2 : sS (ladd σ k m) = sS σ + newCap (σ.2.2.1 (10 + k)) := by
      show (lgrow σ k).2.2.1 2 = _
      rw [e]
      simp [grw, upN, sC, sS, show ¬ 1 = 10 + k by omega, show ¬ 2 = 10 + k by omega]
    have hR := ladd_R (σ := σ) (k := k) (m := m)
    rw [if_neg c] at hR
    have hge : σ.2.2.1 (10 + k) + 1 ≤ newCap (σ.2.2.1 (10 + k)) ∧ newCap (σ.2.2.1 (10 + k)) ≤ 4 * (newCap (σ.2.2.1 (10 + k)) - σ.2.2.1 (10 + k)) := by
      unfold newCap
      split <;> omega
    have e3 := rmN_up (σ := σ) (τ := ladd σ k m) (t := 11) (k := k) (d := newCap (σ.2.2.1 (10 + k)) - σ.2.2.1 (10 + k)) hk (fun k2 _ hne => ladd_C hne) (by rw [hR]; omega)
    unfold cD
    rw [e1, e2, e3]
    omega
theorem cl_gN : cD 0 0 σ (S_gN σ m) := by
  unfold S_gN
  split
  · exact cD.tz (cD.of rfl) (cl_ladd (σ := upI σ 23 m 0 _) (by decide))
  · exact cD.rf
theorem cl_d1 (hi : i < 4) : cD 0 0 σ (S_d1 σ m i) := (cD.of (τ := upI (upI σ 27 m i 2) 29 m i (nI (σ.2.1 (3 + i)).length)) rfl).tz ((cl_ladd (k := 3 + i) (m := m) (by omega)).tz (cD.of rfl))
theorem cl_dl (hi : i < 4) : cD 0 0 σ (S_dl σ m i) := by
  unfold S_dl
  split
  · exact (cl_d1 hi).tz (cl_gN.tz (cD.of rfl))
  · exact cl_d1 hi
theorem cl_stp (hi : i < 4) : cD 0 0 σ (stp σ i) := (cD.of (τ := lrem σ (7 + i) (frc σ i)) rfl).tz (cl_dl hi)
theorem cl_itr (hi : i < 4) : ∀ t, cD 0 0 σ (itr i t σ) := by
  intro t
  induction t with
  | zero => exact cD.rf
  | succ t ih => exact ih.tz (cl_stp hi)
theorem cl_tI (hi : i < 4) : cD 0 0 σ (S_tI σ m i) := by
  unfold S_tI
  split
  · exact (cl_dl hi).tz (cl_itr hi _)
  · exact (cD.of (τ := upI σ 27 m i 1) rfl).tz (cl_ladd (by omega))
theorem cl_aO : cD 0 0 σ (S_aO σ m x) := (cD.of (τ := upI (upI σ 24 m 0 x) 1 0 0 x) rfl).tz (cl_ladd (by decide))
theorem cl_pr : cD 0 0 σ (S_pr σ m i) := by
  unfold S_pr
  split
  · exact cD.of rfl
  · exact (cD.of (τ := S_p1 σ m i) rfl).tz cl_aO
theorem cl_lI (hi : i < 4) : ∀ m, cD 0 0 σ (lI i σ m) := by
  intro m
  induction m with
  | zero => exact cD.rf
  | succ m ih =>
    rw [lI_s]
    split
    · exact ih.tz (cl_tI hi)
    · exact ih
theorem cl_lO : ∀ i, i ≤ 4 → cD 0 0 σ (lO σ i) := by
  intro i
  induction i with
  | zero => intro _; exact cD.rf
  | succ i ih =>
    intro hi
    rw [lO_s]
    exact (ih (by omega)).tz (cl_lI (by omega) _)
theorem cl_gNl (l : List Nat) : ∀ σ : Sg, cD 0 0 σ (gNl l σ) := by
  induction l with
  | nil => intro σ; exact cD.rf
  | cons a l ih => intro σ; exact (cl_gN (m := a)).tz (ih (S_gN σ a))
theorem cl_gT : cD 0 0 σ (S_gT σ i) := (cD.of (τ := upI σ 0 0 0 (nI i)) rfl).tz ((cl_gNl _ _).tz (cD.of rfl))
theorem cl_cV : cD 0 0 σ (S_cV σ) := by
  have h2 : cD 0 0 σ (cv2 σ) := cD.of (by rw [cv2_2])
  have h3 : cD 0 0 σ (cv3 σ) := by
    unfold cv3
    split
    · exact h2.tz cl_gT
    · exact h2
  exact h3.tz (cD.of (by unfold S_cV; rw [cv4_2]))
theorem cl_rst : ∀ t, cD 0 0 σ (rst σ t) := by
  intro t
  induction t with
  | zero => exact cD.rf
  | succ t ih =>
    rw [rst_s]
    cases nxt (rst σ t) (σ.2.2.1 0) with
    | none => exact ih
    | some m => exact ih.tz cl_aO
theorem cl_fl (W : WF σ) : cD 0 0 σ (S_fl σ) := (cD.of (congrArg (·.1) (dU_ok W _).2.1) : cD 0 0 σ (fl1 σ)).tz ((cl_lO 4 (Nat.le_refl _) : cD 0 0 (fl1 σ) (fl2 σ)).tz ((cl_cV : cD 0 0 (fl2 σ) (fl3 σ)).tz (cl_rst _)))
theorem cl_grw : cD a b σ (grw σ a b) := by
  have e := rmN_same (σ := σ) (τ := grw σ a b) (t := 11) (fun k _ => grw_Rm)
  unfold cD
  rw [e]
  simp [grw, upN, sC, sS]
  omega
theorem cl_sd (hi : i < 4) : cD 5 26 σ (S_sd σ i) := by
  have h1 : cD 5 26 σ (newMsg σ (nI (σ.2.2.1 0)) (nI i) (nI (σ.2.1 (3 + i)).length)) := by
    obtain ⟨a, b⟩ := nw_N (σ := σ) (i := nI (σ.2.2.1 0)) (s := nI i) (h := nI (σ.2.1 (3 + i)).length)
    have e := rmN_same (σ := σ) (τ := newMsg σ (nI (σ.2.2.1 0)) (nI i) (nI (σ.2.1 (3 + i)).length)) (t := 11) (fun k _ => nm_N)
    unfold cD
    rw [e, a, b]
    omega
  have h2 : cD 0 0 (sd1 σ i) (sd2 σ i) := cD.of rfl
  have h3 : cD 0 0 (sd3 σ i) (sd4 σ i) := cD.of rfl
  exact h1.tr ((cl_ladd (by decide) : cD 0 0 _ (sd1 σ i)).tz (h2.tz ((cl_dl hi : cD 0 0 (sd2 σ i) (sd3 σ i)).tz (h3.tz cl_pr))))
theorem rm_le (W : WF σ) : rmN σ 11 ≤ 1100 := by
  have : ∀ t, t ≤ 11 → rmN σ t ≤ 100 * t := by
    intro t
    induction t with
    | zero => intro _; exact Nat.le_refl _
    | succ t ih =>
      intro ht
      have h1 := ih (by omega)
      have h2 := W.cap (k := t) (by omega)
      unfold rmN
      omega
  exact this 11 (Nat.le_refl _)
end CT
