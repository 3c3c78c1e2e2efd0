/-! pure: all rounds -/
section RE
variable {f e : Prop} {σ τ υ ω o2 : Sg} {m i j k n q B B' m0 i0 m1 i1 : Nat} {x y a b : Int32} {r : Option Sg} {w : Int64}
theorem s_law (L : LI σ B) (hB : B < 1000000) : ST σ B (q_law x a b σ) := by
  unfold q_law
  split
  · exact s_0 L hB
  · exact s_1 L hB
  · exact s_2 L
  · exact s_3 L
  · exact s_4 L
  · exact s_5 L
  · exact s_6 L
  · exact s_7 L
  · exact s_8 L
  · exact s_9 L
  · exact s_10 L
  · exact s_11 L
  · exact s_12 L
  · exact s_13 L
  · exact s_14 L
  · exact s_15 L
  · exact s_16 L
  · exact s_17 L
  · exact s_18 L
  · exact s_19 L
  · exact s_20 L
  · exact s_21 L
  · exact s_22 L
  · exact s_23 L
  · exact s_24 L
  · exact s_25 L
  · exact s_26 L hB
  · exact s_27 L
  · exact s_28 L hB
  · exact s_29 L
  · exact s_30 L
  · exact ⟨σ, rfl, ⟨L.1.mono (by omega), L.2⟩, cD.rf.mono (by omega) (by omega)⟩
theorem s_loop (xs : Nat → Int32) (n : Nat) : ∀ k i σ B, LI σ B → B + 60 * k < 1000000 → ∃ υ, goL xs n k i σ = some υ ∧ LI υ (B + 60 * k) ∧ cD (5 * k) (26 * k) σ υ := by
  intro k
  induction k with
  | zero => intro i σ B L _; exact ⟨σ, rfl, L, cD.rf⟩
  | succ k ih =>
    intro i σ B L hB
    by_cases c : i + 2 < n
    · obtain ⟨ω, g1, L1, c1⟩ := s_law (x := xs i) (a := xs (i + 1)) (b := xs (i + 2)) L (by omega)
      obtain ⟨υ, g2, L2, c2⟩ := ih (i + 3) ω (B + 60) L1 (by omega)
      refine ⟨υ, ?_, ⟨L2.1.mono (by omega), L2.2⟩, (c1.tr c2).mono (by omega) (by omega)⟩
      show (if i + 2 < n then (q_law (xs i) (xs (i + 1)) (xs (i + 2)) σ).bind (goL xs n k (i + 3)) else some σ) = _
      rw [if_pos c, g1]
      exact g2
    · refine ⟨σ, ?_, ⟨L.1.mono (by omega), L.2⟩, cD.rf.mono (by omega) (by omega)⟩
      show (if i + 2 < n then (q_law (xs i) (xs (i + 1)) (xs (i + 2)) σ).bind (goL xs n k (i + 3)) else some σ) = _
      rw [if_neg c]
theorem z_I (h : k ≠ 10) (h1 : k ≠ 13) (h2 : k ≠ 14) : σ0.1 k i j = 0 := by
  show (if k = 10 then nI i else if k = 13 ∨ k = 14 then 1 else 0) = 0
  rw [if_neg h, if_neg (by omega)]
theorem z_13 : σ0.1 13 i j = 1 := rfl
theorem z_14 : σ0.1 14 i j = 1 := rfl
theorem z_L : σ0.2.1 k = [] := rfl
theorem z_n : σ0.2.2.1 0 = 0 := rfl
theorem z_N : σ0.2.2.1 (10 + k) = 0 := by
  show (if 10 + k = 1 then 40 else if 10 + k = 2 then 1316 else 0) = 0
  rw [if_neg (by omega), if_neg (by omega)]
theorem z_tk : tk σ0 = 0 := rfl
theorem z_W : WF σ0 := by
  refine ⟨by decide, rfl, fun i _ => rfl, fun m hm => absurd hm (Nat.not_lt_zero _), fun m hm => absurd hm (Nat.not_lt_zero _), ⟨by rw [z_tk]; rfl, by decide⟩, fun k hk => ⟨by rw [z_L]; exact List.nodup_nil, (fun x hx => by rw [z_L] at hx; cases hx), by rw [z_N]; decide⟩, fun i hi => ⟨Or.inr rfl, Or.inr rfl⟩, fun m hm => absurd hm (Nat.not_lt_zero _)⟩
theorem z_CI : CI True σ0 0 False 0 0 := by
  have no : ∀ m, ¬ m < σ0.2.2.1 0 := fun m hm => absurd hm (Nat.not_lt_zero _)
  have nl : ∀ k x, ¬ x ∈ σ0.2.1 k := fun k x hx => by rw [z_L] at hx; cases hx
  have e0 : (0 : Int32) = nI 0 := rfl
  refine ⟨⟨⟨z_W, fun a ha => absurd ha (no a), fun a b ha => absurd ha (no a), ⟨fun b k hb hk => ?_, fun b p hb hp => ?_, fun m hm => absurd hm (no m), fun b m k hb hm => absurd hm (nl _ _)⟩, fun _ a ha => absurd ha (no a), fun _ a ha => absurd ha (nl _ _), fun a ha => absurd ha (nl _ _)⟩, fun _ _ => ?_, fun _ b hb _ => ⟨0, Nat.zero_le _, rfl⟩, fun b hb a ha => absurd ha (nl _ _), fun b hb _ m hm => absurd hm (no m)⟩, fun b hb _ => ?_, fun a ha => absurd ha (no a), fun b hb _ a ha => absurd ha (no a), fun b hb _ a ha => absurd ha (no a), ⟨⟨fun a j ha => absurd ha (no a), fun b hb => ⟨0, Nat.le_refl _, rfl⟩, ⟨0, Nat.le_refl _, rfl⟩⟩, 0, Nat.le_refl _, rfl, fun a ha => absurd ha (no a), by rw [z_L]; exact List.Pairwise.nil⟩, fun b hb _ => ?_, ?_⟩
  · rw [z_L]; rfl
  · rw [z_L] at hp; exact absurd hp (Nat.not_lt_zero _)
  · rw [z_L, z_tk]; rfl
  · rw [z_14]; decide
  · rw [rdyF]
    intro a ha
    exact absurd ha (nl _ _)
  · exact fI_iff.mpr ⟨0, by decide, rfl⟩
theorem z_Rel : Rel σ0 σ0 := by
  have no : ∀ m, ¬ m < σ0.2.2.1 0 := fun m hm => absurd hm (Nat.not_lt_zero _)
  refine ⟨fun m hm => absurd hm (no m), fun m i hm => absurd hm (no m), fun m i hm => absurd hm (no m), fun m i hm => absurd hm (no m), fun m hm => absurd hm (no m), fun m hm => absurd hm (no m), fun m hm => absurd hm (no m), fun i hi => rfl, fun i hi => rfl, fun i j hi hj => rfl, fun i hi => rfl, fun i j hi hj => ?_, fun i hi => rfl, fun i j hi hj => ?_, fun i hi => rfl, fun i hi _ _ => rfl, fun i hi h => ?_, rfl, rfl, rfl, rfl, rfl⟩
  · rw [z_L] at hj; exact absurd hj (Nat.not_lt_zero _)
  · rw [z_L] at hj; exact absurd hj (Nat.not_lt_zero _)
  · rw [z_13] at h; exact absurd h (by decide)
theorem pure_all (xs : Nat → Int32) (n : Nat) : ∃ σF, goL xs n 512 0 σ0 = some σF ∧ sC σF ≤ 601024 ∧ sS σF ≤ 7293034 := by
  obtain ⟨υ, g, L, c⟩ := s_loop xs n 512 0 σ0 0 ⟨z_CI, z_Rel⟩ (by decide)
  have hr := rm_le L.W
  have e1 : sC σ0 = 40 := rfl
  have e2 : sS σ0 = 1316 := rfl
  have e3 : rmN σ0 11 = 0 := by decide
  obtain ⟨c1, c2⟩ := c
  rw [e1, e3] at c1
  rw [e2, e3] at c2
  exact ⟨υ, g, by omega, by omega⟩
end RE
