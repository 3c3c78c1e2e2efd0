/-! pure: what the class does leaves the law's part alone -/
def Lw (σ τ : Sg) : Prop := (∀ k, 50 ≤ k → τ.1 k = σ.1 k) ∧ τ.2.2.2 = σ.2.2.2
section LWS
variable {f e : Prop} {σ σ' τ υ ω : Sg} {A B m i j k a b q n z d p t m0 i0 o : Nat} {x y : Int32} {g : Nat → Int32}
theorem Lw.rf : Lw σ σ := ⟨fun _ _ => rfl, rfl⟩
theorem Lw.tr (h : Lw σ τ) (h' : Lw τ υ) : Lw σ υ := ⟨fun k hk => (h'.1 k hk).trans (h.1 k hk), h'.2.trans h.2⟩
theorem lw_u (hk : k < 50) : Lw σ (upI σ k o j x) := ⟨fun _ h => upI_k (by omega), rfl⟩
theorem lw_g : Lw σ (grw σ a b) := ⟨fun _ _ => rfl, rfl⟩
theorem lw_lg : Lw σ (lgrow σ k) := by
  unfold lgrow
  split
  · exact Lw.rf
  · exact ⟨fun _ _ => rfl, rfl⟩
theorem lw_a : Lw σ (ladd σ k m) := ⟨fun k h => ladd_k (by omega), ladd_J⟩
theorem lw_r : Lw σ (lrem σ k j) := ⟨fun k h => lrem_k (by omega), rfl⟩
theorem lw_fil (hk : k < 50) : Lw σ (fil σ k o n g) := ⟨fun k2 h => by
  funext o2 j2
  show (if k2 = k ∧ o2 = o ∧ j2 < n then g j2 else σ.1 k2 o2 j2) = _
  rw [if_neg (by omega)], rfl⟩
theorem lw_gN : Lw σ (S_gN σ m) := by
  unfold S_gN
  split
  · exact (lw_u (by decide)).tr lw_a
  · exact Lw.rf
theorem lw_d1 : Lw σ (S_d1 σ m i) := (((lw_u (by decide)).tr (lw_u (by decide))).tr lw_a).tr (lw_u (by decide))
theorem lw_dl : Lw σ (S_dl σ m i) := by
  unfold S_dl
  split
  · exact (lw_d1.tr lw_gN).tr (lw_u (by decide))
  · exact lw_d1
theorem lw_stp : Lw σ (stp σ i) := lw_r.tr lw_dl
theorem lw_itr : ∀ t, Lw σ (itr i t σ)
  | 0 => Lw.rf
  | t + 1 => (lw_itr t).tr lw_stp
theorem lw_tI : Lw σ (S_tI σ m i) := by
  unfold S_tI
  split
  · exact lw_dl.tr (lw_itr _)
  · exact (lw_u (by decide)).tr lw_a
theorem lw_aO : Lw σ (S_aO σ m x) := ((lw_u (by decide)).tr (lw_u (by decide))).tr lw_a
theorem lw_pr : Lw σ (S_pr σ m i) := by
  have h1 : Lw σ (S_p1 σ m i) := (lw_u (by decide)).tr (lw_u (by decide))
  unfold S_pr
  split
  · exact h1
  · exact h1.tr lw_aO
theorem lw_gNl : ∀ (l : List Nat) (σ : Sg), Lw σ (gNl l σ)
  | [], _ => Lw.rf
  | _ :: l, _ => lw_gN.tr (lw_gNl l _)
theorem lw_gT : Lw σ (S_gT σ i) := ((lw_u (by decide)).tr (lw_gNl _ _)).tr (lw_u (by decide))
theorem lw_tO : Lw σ (S_tO σ k m) := by
  unfold S_tO
  split
  · exact lw_r
  · exact Lw.rf
theorem lw_dpH : ∀ t, Lw σ (dpH σ m t) := by
  intro t
  induction t with
  | zero => exact Lw.rf
  | succ t ih =>
    rw [dpH_s]
    split
    · exact ih
    · exact ih.tr lw_tO
theorem lw_rnm : ∀ t, Lw σ (rnm σ t)
  | 0 => Lw.rf
  | t + 1 => (lw_rnm t).tr (lw_u (by decide))
theorem lw_dp : Lw σ (S_dp σ m) := by
  have h0 : Lw σ (dp0 σ m) := (lw_u (by decide)).tr (lw_fil (by decide))
  have h1 : Lw σ (dp1 σ m) := h0.tr (lw_dpH _)
  have h3 : Lw σ (dp3 σ m) := (h1.tr lw_tO).tr (lw_u (by decide))
  have h5 : Lw σ (dp5 σ m) := (h3.tr lw_tO).tr (lw_u (by decide))
  exact h5.tr (lw_rnm _)
theorem lw_dU : ∀ t, Lw σ (dU σ t).1 := by
  intro t
  induction t with
  | zero => exact Lw.rf
  | succ t ih =>
    rw [dU_s]
    split
    · exact ih.tr lw_dp
    · exact ih
theorem lw_lI : ∀ t, Lw σ (lI i σ t) := by
  intro t
  induction t with
  | zero => exact Lw.rf
  | succ t ih =>
    rw [lI_s]
    split
    · exact ih.tr lw_tI
    · exact ih
theorem lw_lO : ∀ t, Lw σ (lO σ t)
  | 0 => Lw.rf
  | t + 1 => (lw_lO t).tr (lw_lI _)
theorem lw_cv1 : ∀ t, Lw σ (cv1 σ t)
  | 0 => Lw.rf
  | t + 1 => (lw_cv1 t).tr (lw_u (by decide))
theorem lw_cv4 : ∀ t, Lw σ (cv4 σ t) := by
  intro t
  induction t with
  | zero => exact Lw.rf
  | succ t ih =>
    rw [cv4_s]
    split
    · exact ih
    · exact ih.tr (lw_u (by decide))
theorem lw_cV : Lw σ (S_cV σ) := by
  have h2 : Lw σ (cv2 σ) := (lw_cv1 4).tr (lw_u (by decide))
  have h3 : Lw σ (cv3 σ) := by
    unfold cv3
    split
    · exact h2.tr lw_gT
    · exact h2
  exact h3.tr (lw_cv4 4)
theorem lw_rst : ∀ t, Lw σ (rst σ t) := by
  intro t
  induction t with
  | zero => exact Lw.rf
  | succ t ih =>
    rw [rst_s]
    cases nxt (rst σ t) (σ.2.2.1 0) with
    | none => exact ih
    | some m => exact ih.tr lw_aO
theorem lw_fl : Lw σ (S_fl σ) := (((lw_dU _ : Lw σ (fl1 σ)).tr (lw_lO 4 : Lw (fl1 σ) (fl2 σ))).tr (lw_cV : Lw (fl2 σ) (fl3 σ))).tr (lw_rst _)
theorem lw_sd : Lw σ (S_sd σ i) := by
  have h1 : Lw σ (newMsg σ (nI (σ.2.2.1 0)) (nI i) (nI (σ.2.1 (3 + i)).length)) := ⟨fun k hk => by funext o j; exact nm_I (by omega), rfl⟩
  have h2 : Lw (sd1 σ i) (sd2 σ i) := lw_fil (by decide)
  have h3 : Lw (sd3 σ i) (sd4 σ i) := ⟨fun k hk => by funext o j; exact sd4_I (by omega), rfl⟩
  exact (((((h1.tr lw_a : Lw σ (sd1 σ i)).tr h2).tr (lw_dl : Lw (sd2 σ i) (sd3 σ i))).tr h3)).tr lw_pr
theorem RY.lw (h : RY σ τ A) (hl : Lw τ υ) : RY σ υ A := h.ofL (fun k h1 _ => hl.1 k h1) hl.2
end LWS
