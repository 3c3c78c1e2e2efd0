/-! pure: what the reference writes: an arrival -/
def HX (σ : Sg) (i : Nat) : Prop := i = tk σ → ∀ a, a < σ.2.2.1 0 → a ∉ σ.2.1 (3 + i) → σ.1 23 a 0 = -1
section CM
variable {σ τ υ : Sg} {m i j k n a b o k2 o2 j2 t : Nat} {x y : Int32} {l : List Nat}
theorem canB_of {σ' : Sg} (h1 : σ'.1 26 = σ.1 26) (h2 : σ'.1 16 = σ.1 16) (h3 : σ'.1 21 = σ.1 21) : canB σ' m i = canB σ m i := by
  have e : cR σ' m i = cR σ m i := by
    funext j
    unfold cR
    rw [h1, h2, sdr_of h3]
  unfold canB
  rw [e]
theorem dl_23 (h : a ≠ m) : (S_dl σ m i).1 23 a 0 = σ.1 23 a 0 := by
  have h1 : (S_gN (S_d1 σ m i) m).1 23 a 0 = σ.1 23 a 0 := by
    unfold S_gN
    split
    · rw [ladd_I (by decide), upI_o (fun q => h q.1), d1_I (by decide) (by decide) (by decide) (by decide)]
    · exact d1_I (by decide) (by decide) (by decide) (by decide)
  unfold S_dl
  split
  · rw [upI_n (by decide), h1]
  · exact d1_I (by decide) (by decide) (by decide) (by decide)
theorem HX.dl (h : HX σ i) : HX (S_dl σ m i) i := by
  intro e a ha hr
  rw [tk_dl] at e
  rw [dl_n] at ha
  rw [dl_L1] at hr
  have h1 : a ≠ m := fun q => hr (by rw [q]; simp)
  rw [dl_23 h1]
  exact h e a ha (fun q => hr (List.mem_append_left _ q))
theorem HX.stp (h : HX σ i) : HX (stp σ i) i := by
  have h1 : HX (lrem σ (7 + i) (frc σ i)) i := by
    intro e a ha hr
    rw [tk_r] at e
    rw [lrem_Ln (by omega)] at hr
    rw [lrem_I (by decide)]
    exact h e a ha hr
  exact h1.dl
theorem HX.itr (h : HX σ i) : ∀ t, HX (itr i t σ) i := by
  intro t
  induction t with
  | zero => exact h
  | succ t ih => exact ih.stp
end CM
