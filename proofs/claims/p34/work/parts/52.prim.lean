/-! pure: what single writes leave as it was; they keep the state well formed -/
section PRIM
variable {σ : Sg} {k o j k2 o2 j2 m : Nat} {x : Int32} {l : List Nat}
theorem lgrow_I : (lgrow σ k).1 = σ.1 := by unfold lgrow; split <;> rfl
theorem lgrow_L : (lgrow σ k).2.1 = σ.2.1 := by unfold lgrow; split <;> rfl
theorem lgrow_J : (lgrow σ k).2.2.2 = σ.2.2.2 := by unfold lgrow; split <;> rfl
theorem lgrow_n : (lgrow σ k).2.2.1 0 = σ.2.2.1 0 := by
  unfold lgrow
  split
  · rfl
  · simp [grw, upN, show ¬ (0 : Nat) = 10 + k by omega]
theorem lgrow_N (h : k2 ≠ k) : (lgrow σ k).2.2.1 (10 + k2) = σ.2.2.1 (10 + k2) := by
  unfold lgrow
  split
  · rfl
  · simp [grw, upN, show ¬ 10 + k2 = 10 + k by omega, show ¬ 10 + k2 = 1 by omega, show ¬ 10 + k2 = 2 by omega, show ¬ k2 = k from h]
theorem lgrow_R : (lgrow σ k).2.2.1 (10 + k) = if (σ.2.1 k).length < σ.2.2.1 (10 + k) then σ.2.2.1 (10 + k) else newCap (σ.2.2.1 (10 + k)) := by
  unfold lgrow
  split
  · rfl
  · simp [grw, upN, show ¬ 10 + k = 1 by omega, show ¬ 10 + k = 2 by omega]
theorem ladd_I (h : k2 ≠ 30) : (ladd σ k m).1 k2 o2 j2 = σ.1 k2 o2 j2 := by
  unfold ladd
  rw [w_ul1, w_ui1, if_neg (fun q => h q.1), lgrow_I]
theorem ladd_L : (ladd σ k m).2.1 k2 = if k2 = k then σ.2.1 k ++ [m] else σ.2.1 k2 := by
  unfold ladd upL
  show (if k2 = k then _ else (upI (lgrow σ k) _ _ _ _).2.1 k2) = _
  rw [w_ui2, lgrow_L]
theorem ladd_L1 : (ladd σ k m).2.1 k = σ.2.1 k ++ [m] := by rw [ladd_L, if_pos rfl]
theorem ladd_Ln (h : k2 ≠ k) : (ladd σ k m).2.1 k2 = σ.2.1 k2 := by rw [ladd_L, if_neg h]
theorem ladd_n : (ladd σ k m).2.2.1 0 = σ.2.2.1 0 := lgrow_n
theorem ladd_J : (ladd σ k m).2.2.2 = σ.2.2.2 := lgrow_J
theorem ladd_C (h : k2 ≠ k) : (ladd σ k m).2.2.1 (10 + k2) = σ.2.2.1 (10 + k2) := lgrow_N h
theorem ladd_R : (ladd σ k m).2.2.1 (10 + k) = if (σ.2.1 k).length < σ.2.2.1 (10 + k) then σ.2.2.1 (10 + k) else newCap (σ.2.2.1 (10 + k)) := lgrow_R
theorem lrem_I (h : k2 ≠ 30) : (lrem σ k j).1 k2 o2 j2 = σ.1 k2 o2 j2 := by
  unfold lrem
  rw [w_ul1, w_ui1, if_neg (fun q => h q.1)]
theorem lrem_L1 : (lrem σ k j).2.1 k = (σ.2.1 k).eraseIdx j := if_pos rfl
theorem lrem_Ln (h : k2 ≠ k) : (lrem σ k j).2.1 k2 = σ.2.1 k2 := if_neg h
theorem lrem_N : (lrem σ k j).2.2 = σ.2.2 := rfl
theorem upI_n (h : k2 ≠ k) : (upI σ k o j x).1 k2 o2 j2 = σ.1 k2 o2 j2 := if_neg (fun q => h q.1)
theorem upI_s : (upI σ k o j x).1 k o j = x := if_pos ⟨rfl, rfl, rfl⟩
theorem grw_I {a b : Nat} : (grw σ a b).1 = σ.1 := rfl
theorem grw_L {a b : Nat} : (grw σ a b).2.1 = σ.2.1 := rfl
theorem grw_J {a b : Nat} : (grw σ a b).2.2.2 = σ.2.2.2 := rfl
theorem grw_n {a b : Nat} : (grw σ a b).2.2.1 0 = σ.2.2.1 0 := by simp [grw, upN]
theorem grw_Rm {a b : Nat} : (grw σ a b).2.2.1 (10 + k) = σ.2.2.1 (10 + k) := by simp [grw, upN, show ¬ 10 + k = 1 by omega, show ¬ 10 + k = 2 by omega]
theorem sdr_u (h : k ≠ 21) : sdr (upI σ k o j x) m = sdr σ m := by unfold sdr; rw [upI_n (Ne.symm h)]
theorem tk_u (h : k ≠ 0) : tk (upI σ k o j x) = tk σ := by unfold tk; rw [upI_n (Ne.symm h)]
theorem sdr_a {a : Nat} : sdr (ladd σ k a) m = sdr σ m := by unfold sdr; rw [ladd_I (by decide)]
theorem tk_a {a : Nat} : tk (ladd σ k a) = tk σ := by unfold tk; rw [ladd_I (by decide)]
theorem sdr_r {a : Nat} : sdr (lrem σ k a) m = sdr σ m := by unfold sdr; rw [lrem_I (by decide)]
theorem tk_r {a : Nat} : tk (lrem σ k a) = tk σ := by unfold tk; rw [lrem_I (by decide)]
/-- two states that agree in what WF speaks of -/
theorem WF.of {τ : Sg} (W : WF σ) (hI : ∀ k, (k = 10 ∨ k = 20 ∨ k = 21 ∨ k = 0 ∨ k = 13 ∨ k = 14 ∨ k = 25) → τ.1 k = σ.1 k) (hn : τ.2.2.1 0 = σ.2.2.1 0) (h0 : τ.2.1 0 = σ.2.1 0) (hL : ∀ k, k < 11 → (τ.2.1 k).Nodup ∧ (∀ x ∈ τ.2.1 k, x < σ.2.2.1 0) ∧ τ.2.2.1 (10 + k) < 100) : WF τ := by
  obtain ⟨w1, w2, w3, w4, w5, w6, w7, w8, w9⟩ := W
  have e21 := hI 21 (by simp)
  have e0 := hI 0 (by simp)
  refine ⟨by rw [hn]; exact w1, by rw [h0, hn]; exact w2, fun i h => by rw [hI 10 (by simp)]; exact w3 i h, fun m h => by rw [hI 20 (by simp)]; exact w4 m (by rwa [hn] at h), fun m h => ?_, ?_, fun k h => ?_, fun i h => ?_, fun m h => ?_⟩
  · unfold sdr
    rw [e21]
    exact w5 m (by rwa [hn] at h)
  · unfold tk
    rw [e0]
    exact w6
  · rw [hn]
    exact hL k h
  · rw [hI 13 (by simp), hI 14 (by simp)]
    exact w8 i h
  · rw [hI 25 (by simp)]
    exact w9 m (by rwa [hn] at h)
theorem WF.u (W : WF σ) (h : k ≠ 10 ∧ k ≠ 20 ∧ k ≠ 21 ∧ k ≠ 0 ∧ k ≠ 13 ∧ k ≠ 14 ∧ k ≠ 25) : WF (upI σ k o j x) :=
  W.of (fun k2 h2 => by funext o2 j2; exact upI_n (by omega)) rfl rfl (fun k hk => ⟨W.nd hk, fun x hx => W.el hk hx, W.cap hk⟩)
theorem WF.add (W : WF σ) (hk : k < 11) (h0 : k ≠ 0) (hm : m < σ.2.2.1 0) (hnm : m ∉ σ.2.1 k) : WF (ladd σ k m) := by
  refine W.of (fun k2 h2 => by funext o2 j2; exact ladd_I (by omega)) ladd_n (ladd_Ln (Ne.symm h0)) (fun k2 hk2 => ?_)
  by_cases e : k2 = k
  · subst e
    rw [ladd_L1, ladd_R]
    refine ⟨?_, fun x hx => ?_, ?_⟩
    · rw [List.nodup_append]
      refine ⟨W.nd hk, by simp, fun a ha b hb e => ?_⟩
      simp at hb
      subst hb
      subst e
      exact hnm ha
    · rcases List.mem_append.mp hx with q | q
      · exact W.el hk q
      · simp at q
        omega
    · have h1 := W.len hk
      have h2 := W.cap hk
      split
      · exact h2
      · unfold newCap
        split <;> omega
  · rw [ladd_Ln e, ladd_C e]
    exact ⟨W.nd hk2, fun x hx => W.el hk2 hx, W.cap hk2⟩
theorem WF.rem (W : WF σ) (h0 : k ≠ 0) : WF (lrem σ k j) := by
  refine W.of (fun k2 h2 => by funext o2 j2; exact lrem_I (by omega)) rfl (lrem_Ln (Ne.symm h0)) (fun k2 hk2 => ?_)
  by_cases e : k2 = k
  · subst e
    rw [lrem_L1, lrem_N]
    exact ⟨(W.nd hk2).sublist (List.eraseIdx_sublist ..), fun x hx => W.el hk2 (List.mem_of_mem_eraseIdx hx), W.cap hk2⟩
  · rw [lrem_Ln e, lrem_N]
    exact ⟨W.nd hk2, fun x hx => W.el hk2 hx, W.cap hk2⟩
theorem WF.g (W : WF σ) {a b : Nat} : WF (grw σ a b) := W.of (fun _ _ => rfl) grw_n rfl (fun k hk => ⟨W.nd hk, fun x hx => W.el hk hx, by rw [grw_Rm]; exact W.cap hk⟩)
theorem WF.J (W : WF σ) {y : Int64} {b c : Nat} : WF (upJ σ b c y) := W
theorem WF.tk' (W : WF σ) {t : Nat} (ht : t < 4) : WF (upI σ 0 0 0 (nI t)) := by
  obtain ⟨w1, w2, w3, w4, w5, w6, w7, w8, w9⟩ := W
  refine ⟨w1, w2, w3, w4, w5, ?_, w7, w8, w9⟩
  have e : tk (upI σ 0 0 0 (nI t)) = t := by unfold tk; rw [upI_s, cl_nI (a := t) (by omega)]
  rw [e]
  exact ⟨upI_s, ht⟩
theorem WF.b01 (W : WF σ) (h : k = 13 ∨ k = 14 ∨ k = 25) (hx : x = 0 ∨ x = 1) : WF (upI σ k o j x) := by
  obtain ⟨w1, w2, w3, w4, w5, w6, w7, w8, w9⟩ := W
  have hu : ∀ k2 o2 j2, (upI σ k o j x).1 k2 o2 j2 = x ∨ (upI σ k o j x).1 k2 o2 j2 = σ.1 k2 o2 j2 := fun k2 o2 j2 => by
    rw [w_ui1]
    split
    · exact Or.inl rfl
    · exact Or.inr rfl
  have hn : ∀ k2, k2 ≠ 13 → k2 ≠ 14 → k2 ≠ 25 → ∀ o2 j2, (upI σ k o j x).1 k2 o2 j2 = σ.1 k2 o2 j2 := fun k2 a b c o2 j2 => upI_n (by omega)
  refine ⟨w1, w2, fun i h => by rw [hn 10 (by decide) (by decide) (by decide)]; exact w3 i h, fun m h => by rw [hn 20 (by decide) (by decide) (by decide)]; exact w4 m h, fun m h => ?_, ?_, w7, fun i h => ⟨?_, ?_⟩, fun m h => ?_⟩
  · unfold sdr
    rw [hn 21 (by decide) (by decide) (by decide)]
    exact w5 m h
  · unfold tk
    rw [hn 0 (by decide) (by decide) (by decide)]
    exact w6
  · rcases hu 13 i 0 with e | e <;> rw [e]
    · exact hx
    · exact (w8 i h).1
  · rcases hu 14 i 0 with e | e <;> rw [e]
    · exact hx
    · exact (w8 i h).2
  · rcases hu 25 m 0 with e | e <;> rw [e]
    · exact hx
    · exact w9 m h
end PRIM
