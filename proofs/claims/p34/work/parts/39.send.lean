/-! send: a new message; the sender's clock is copied -/
/-- a new message, numbered n, in the state -/
def newMsg (σ : Sg) (i s h : Int32) : Sg := grw (upN (fun kc o j => if o = σ.2.2.1 0 ∧ 20 ≤ kc ∧ kc < 30 then (match kc with
    | 20 => i
    | 21 => s
    | 22 => h
    | 23 => -1
    | 24 => -1
    | 28 => fNeg j
    | 29 => fNeg j
    | _ => 0) else σ.1 kc o j, σ.2) 0 (σ.2.2.1 0 + 1)) 5 26
def nwI (σ : Sg) (i s h : Int32) : Nat → Nat → Nat → Int32 := fun kc o j => if o = σ.2.2.1 0 ∧ 20 ≤ kc ∧ kc < 30 then (match kc with
    | 20 => i
    | 21 => s
    | 22 => h
    | 23 => -1
    | 24 => -1
    | 28 => fNeg j
    | 29 => fNeg j
    | _ => 0) else σ.1 kc o j
/-- the addresses, with the new message's -/
def nwL (L : Tg → Nat) (n b a1 a2 a3 a4 : Nat) : Tg → Nat := fun t => if t.2 = n then (match t.1 with
    | 6 => b
    | 7 => a1
    | 8 => a2
    | 9 => a3
    | 10 => a4
    | _ => L t) else L t
theorem nwL_ne {L : Tg → Nat} {n b a1 a2 a3 a4 : Nat} {t : Tg} (h : t.1 < 6 ∨ 10 < t.1 ∨ t.2 ≠ n) : nwL L n b a1 a2 a3 a4 t = L t := by
  obtain ⟨tk, i⟩ := t
  unfold nwL
  dsimp only at h ⊢
  split
  · split
    all_goals first | rfl | omega
  · rfl
theorem ownr_bnd {kc o : Nat} {t : Tg} (h : ownr kc o = t) (h1 : 20 ≤ kc) (h2 : kc < 30) : 6 ≤ t.1 ∧ t.1 ≤ 10 ∧ t.2 = o := by
  subst h
  unfold ownr
  repeat' split
  all_goals (dsimp only; omega)
theorem vld_new {σ : Sg} {t : Tg} (h : vld (upN σ 0 (σ.2.2.1 0 + 1)) t = true) : vld σ t = true ∨ (6 ≤ t.1 ∧ t.1 ≤ 10 ∧ t.2 = σ.2.2.1 0) := by
  obtain ⟨tk, i⟩ := t
  have h0 : (upN σ 0 (σ.2.2.1 0 + 1)).2.2.1 0 = σ.2.2.1 0 + 1 := by simp [upN]
  unfold vld at h ⊢
  dsimp only at h ⊢
  split at h
  all_goals first
    | exact Or.inl h
    | (rw [h0] at h
       have h9 := of_decide_eq_true h
       rcases Nat.lt_or_ge i (σ.2.2.1 0) with q | q
       · exact Or.inl (decide_eq_true q)
       · exact Or.inr ⟨by decide, by decide, by omega⟩)
    | (have e : (upN σ 0 (σ.2.2.1 0 + 1)).2.2.1 (10 + i) = σ.2.2.1 (10 + i) := if_neg (by omega)
       rw [e] at h
       exact Or.inl h)
theorem vld_6 {σ : Sg} {t : Tg} (h : vld σ t = true) (h1 : 6 ≤ t.1) (h2 : t.1 ≤ 10) : t.2 < σ.2.2.1 0 := by
  obtain ⟨tk, i⟩ := t
  unfold vld at h
  dsimp only at h h1 h2 ⊢
  split at h
  all_goals first | omega | exact of_decide_eq_true h | exact absurd h (by decide)
theorem shp_r' (tk i : Nat) : ∀ u ∈ shp tk i, (match u with | .inl _ => True | .inr t => t.1 < 6 ∨ 10 < t.1 ∨ (tk = 6 ∧ t.2 = i)) := by
  unfold shp
  split <;> simp
theorem shp_r {tk i : Nat} {t : Tg} (h : .inr t ∈ shp tk i) : t.1 < 6 ∨ 10 < t.1 ∨ (tk = 6 ∧ t.2 = i) := shp_r' tk i _ h
theorem cell_new {L : Tg → Nat} {cy : Nat → ClassId} {σ : Sg} {b a1 a2 a3 a4 : Nat} {i s h : Int32} {t : Tg} (hv : vld σ t = true) (hm : ∀ k, k < 11 → ∀ x ∈ σ.2.1 k, x < σ.2.2.1 0) : cellOf (nwL L (σ.2.2.1 0) b a1 a2 a3 a4) cy (upN (nwI σ i s h, σ.2) 0 (σ.2.2.1 0 + 1)) t = cellOf L cy σ t := by
  have own : ∀ kc o, ownr kc o = t → ∀ j, (upN (nwI σ i s h, σ.2) 0 (σ.2.2.1 0 + 1)).1 kc o j = σ.1 kc o j := fun kc o ho j => if_neg fun z => by
    obtain ⟨q1, q2, q3⟩ := ownr_bnd ho z.2.1 z.2.2
    have := vld_6 hv q1 q2
    omega
  have hN : ∀ i, (upN (nwI σ i s h, σ.2) 0 (σ.2.2.1 0 + 1)).2.2.1 (10 + i.toNatClampNeg) = σ.2.2.1 (10 + i.toNatClampNeg) := fun i => if_neg (by omega)
  unfold cellOf
  cases ha : ash t with
  | some q =>
    dsimp only
    have : (fun j => (upN (nwI σ i s h, σ.2) 0 (σ.2.2.1 0 + 1)).1 q.2.2.1 q.2.2.2 j) = (fun j => σ.1 q.2.2.1 q.2.2.2 j) := funext fun j => own _ _ (ash_own ha) j
    rw [this]
  | none =>
    obtain ⟨tk, k⟩ := t
    dsimp only
    unfold cellN
    dsimp only
    split
    · have : (fun j => if j < 4 then some (nwL L (σ.2.2.1 0) b a1 a2 a3 a4 (2, j)) else none) = (fun j => if j < 4 then some (L (2, j)) else none) := by
        funext j
        rw [nwL_ne (Or.inl (show (2 : Nat) < 6 by decide))]
      rw [this]
    · have e1 : (upN (nwI σ i s h, σ.2) 0 (σ.2.2.1 0 + 1)).2.2.1 (10 + k) = σ.2.2.1 (10 + k) := if_neg (by omega)
      have e3 : (upN (nwI σ i s h, σ.2) 0 (σ.2.2.1 0 + 1)).1 30 k 0 = σ.1 30 k 0 := if_neg (fun z => by omega)
      rw [e1, e3, nwL_ne (t := if σ.2.2.1 (10 + k) = 0 then (13, 0) else (5, k)) (by split <;> simp)]
      rfl
    · have e1 : (upN (nwI σ i s h, σ.2) 0 (σ.2.2.1 0 + 1)).2.2.1 (10 + k) = σ.2.2.1 (10 + k) := if_neg (by omega)
      rw [e1]
      have hk : k < 11 := by
        have : (decide (k < 11) && decide (σ.2.2.1 (10 + k) ≠ 0)) = true := hv
        rw [Bool.and_eq_true] at this
        exact of_decide_eq_true this.1
      have : (fun j : Nat => ((σ.2.1 k)[j]?).map (fun m => nwL L (σ.2.2.1 0) b a1 a2 a3 a4 (6, m))) = (fun j : Nat => ((σ.2.1 k)[j]?).map (fun m => L (6, m))) := by
        funext j
        cases hj : (σ.2.1 k)[j]? with
        | none => rfl
        | some m =>
          have := hm k hk m (List.mem_of_getElem? hj)
          show some (nwL L (σ.2.2.1 0) b a1 a2 a3 a4 (6, m)) = some (L (6, m))
          rw [nwL_ne (t := (6, m)) (Or.inr (Or.inr (show m ≠ σ.2.2.1 0 by omega)))]
      show (Sum.inl _ : va_E) = Sum.inl _
      rw [show (upN (nwI σ i s h, σ.2) 0 (σ.2.2.1 0 + 1)).2.1 k = σ.2.1 k from rfl, this]
    · rfl
    · rfl
    · congr 2
      refine List.map_congr_left fun u hu => ?_
      cases u with
      | inl kc =>
        show Value.int _ = Value.int _
        rw [own kc k (shp_own hu) 0]
      | inr u =>
        show Value.ref _ = Value.ref _
        rw [nwL_ne ?_]
        rcases shp_r hu with q | q | ⟨q1, q2⟩
        · exact Or.inl q
        · exact Or.inr (Or.inl q)
        · subst q1
          have hlt := vld_6 hv (show 6 ≤ 6 by decide) (show 6 ≤ 10 by decide)
          dsimp only at hlt
          exact Or.inr (Or.inr (by omega))
