/-! the heap with a new message holds the state with a new message -/
theorem nw_new {L : Tg → Nat} {n b a1 a2 a3 a4 : Nat} {t : Tg} (h1 : 6 ≤ t.1) (h2 : t.1 ≤ 10) (h3 : t.2 = n) : t = (6, n) ∧ nwL L n b a1 a2 a3 a4 t = b ∨ t = (7, n) ∧ nwL L n b a1 a2 a3 a4 t = a1 ∨ t = (8, n) ∧ nwL L n b a1 a2 a3 a4 t = a2 ∨ t = (9, n) ∧ nwL L n b a1 a2 a3 a4 t = a3 ∨ t = (10, n) ∧ nwL L n b a1 a2 a3 a4 t = a4 := by
  obtain ⟨tk, i⟩ := t
  dsimp only at h1 h2 h3
  subst h3
  have : tk = 6 ∨ tk = 7 ∨ tk = 8 ∨ tk = 9 ∨ tk = 10 := by omega
  rcases this with rfl | rfl | rfl | rfl | rfl <;> simp [nwL]
theorem nw_inj {L : Tg → Nat} {n b a1 a2 a3 a4 : Nat} {t u : Tg} (hnd : [b, a1, a2, a3, a4].Nodup) (h1 : 6 ≤ t.1) (h2 : t.1 ≤ 10) (h3 : t.2 = n) (h1' : 6 ≤ u.1) (h2' : u.1 ≤ 10) (h3' : u.2 = n) (h : nwL L n b a1 a2 a3 a4 t = nwL L n b a1 a2 a3 a4 u) : t = u := by
  simp at hnd
  rcases nw_new (L := L) (b := b) (a1 := a1) (a2 := a2) (a3 := a3) (a4 := a4) h1 h2 h3 with ⟨e, q⟩ | ⟨e, q⟩ | ⟨e, q⟩ | ⟨e, q⟩ | ⟨e, q⟩ <;>
  rcases nw_new (L := L) (b := b) (a1 := a1) (a2 := a2) (a3 := a3) (a4 := a4) h1' h2' h3' with ⟨e', q'⟩ | ⟨e', q'⟩ | ⟨e', q'⟩ | ⟨e', q'⟩ | ⟨e', q'⟩ <;>
  first
  | (rw [q, q'] at h; omega)
  | (rw [e, e'])
theorem RepX.newMsg {g : Gx} {L : Tg → Nat} {σ : Sg} {H : Heap} {i s h : Int32} {b a1 a2 a3 a4 : Nat} (hw : NX g (RepX g L σ) [(b, cMsg i s h a1 a2 a3 a4), (a1, cI4 g (fun _ => 0)), (a2, cI4 g (fun _ => 0)), (a3, cI4 g fNeg), (a4, cI4 g fNeg)] H) : RepX g (nwL L (σ.2.2.1 0) b a1 a2 a3 a4) (newMsg σ i s h) H := by
  obtain ⟨H0, ⟨L', hL, r1, r2, r3, r4, r5⟩, hz, hsz, hq, hat, hnd⟩ := hw
  refine RepX.grw (σ := upN (nwI σ i s h, σ.2) 0 (σ.2.2.1 0 + 1)) (H := H) (a := 5) (b := 26) ?_ (fun _ _ => rfl)
  have old : ∀ t : Tg, vld σ t = true → nwL L' (σ.2.2.1 0) b a1 a2 a3 a4 t = L' t := fun t hv => nwL_ne (by
    by_cases q : t.1 < 6
    · exact Or.inl q
    · by_cases q2 : 10 < t.1
      · exact Or.inr (Or.inl q2)
      · have := vld_6 hv (by omega) (by omega)
        exact Or.inr (Or.inr (by omega)))
  have hlt : ∀ t : Tg, vld σ t = true → L' t < H0.size := fun t hv => (r1 t hv).lt
  have hmm : ∀ k, k < 11 → ∀ x ∈ σ.2.1 k, x < σ.2.2.1 0 := fun k hk => (r5 k hk).2
  have hb : ∀ x ∈ [b, a1, a2, a3, a4], H0.size ≤ x := by
    intro x hx
    simp at hx
    rcases hx with rfl | rfl | rfl | rfl | rfl
    · exact (hat _ (List.mem_of_getElem? (i := 0) rfl)).2
    · exact (hat _ (List.mem_of_getElem? (i := 1) rfl)).2
    · exact (hat _ (List.mem_of_getElem? (i := 2) rfl)).2
    · exact (hat _ (List.mem_of_getElem? (i := 3) rfl)).2
    · exact (hat _ (List.mem_of_getElem? (i := 4) rfl)).2
  have hge : ∀ t : Tg, 6 ≤ t.1 → t.1 ≤ 10 → t.2 = σ.2.2.1 0 → H0.size ≤ nwL L' (σ.2.2.1 0) b a1 a2 a3 a4 t := fun t q1 q2 q3 => by
    rcases nw_new (L := L') (b := b) (a1 := a1) (a2 := a2) (a3 := a3) (a4 := a4) q1 q2 q3 with ⟨-, e⟩ | ⟨-, e⟩ | ⟨-, e⟩ | ⟨-, e⟩ | ⟨-, e⟩ <;> (rw [e]; exact hb _ (by simp))
  refine ⟨nwL L' (σ.2.2.1 0) b a1 a2 a3 a4, fun t ht => ?_, fun t hv => ?_, fun t u hv hu hz9 => ?_, fun t hv ht => ?_, ?_, fun k hk => ?_⟩
  · unfold nwL
    split
    · split
      all_goals first | rfl | exact hL t ht
    · exact hL t ht
  · rcases vld_new (σ := σ) hv with q | ⟨q1, q2, q3⟩
    · rw [old t q, cell_new q hmm]
      exact (r1 t q).kept (hq _ (hlt t q))
    · obtain ⟨tk, o⟩ := t
      dsimp only at q1 q2 q3
      subst q3
      have : tk = 6 ∨ tk = 7 ∨ tk = 8 ∨ tk = 9 ∨ tk = 10 := by omega
      rcases this with rfl | rfl | rfl | rfl | rfl
      · have h9 := (hat _ (List.mem_of_getElem? (i := 0) rfl)).1
        have e : cellOf (nwL L' (σ.2.2.1 0) b a1 a2 a3 a4) g.2.1 (upN (nwI σ i s h, σ.2) 0 (σ.2.2.1 0 + 1)) (6, σ.2.2.1 0) = cMsg i s h a1 a2 a3 a4 := by
          show (Sum.inr (cix 6, (shp 6 (σ.2.2.1 0)).map _) : va_E) = _
          simp [cMsg, cix, shp, fvl, nwL, nwI, upN]
        rw [e]
        have e2 : nwL L' (σ.2.2.1 0) b a1 a2 a3 a4 (6, σ.2.2.1 0) = b := by simp [nwL]
        rw [e2]
        exact h9
      · have h9 := (hat _ (List.mem_of_getElem? (i := 1) rfl)).1
        have e : cellOf (nwL L' (σ.2.2.1 0) b a1 a2 a3 a4) g.2.1 (upN (nwI σ i s h, σ.2) 0 (σ.2.2.1 0 + 1)) (7, σ.2.2.1 0) = cI4 g (fun _ => 0) := by
          show (Sum.inl (g.2.1 0, 4, .inl (fun j => nwI σ i s h 26 (σ.2.2.1 0) j)) : va_E) = _
          simp [nwI]
        rw [e]
        have e2 : nwL L' (σ.2.2.1 0) b a1 a2 a3 a4 (7, σ.2.2.1 0) = a1 := by simp [nwL]
        rw [e2]
        exact h9
      · have h9 := (hat _ (List.mem_of_getElem? (i := 2) rfl)).1
        have e : cellOf (nwL L' (σ.2.2.1 0) b a1 a2 a3 a4) g.2.1 (upN (nwI σ i s h, σ.2) 0 (σ.2.2.1 0 + 1)) (8, σ.2.2.1 0) = cI4 g (fun _ => 0) := by
          show (Sum.inl (g.2.1 0, 4, .inl (fun j => nwI σ i s h 27 (σ.2.2.1 0) j)) : va_E) = _
          simp [nwI]
        rw [e]
        have e2 : nwL L' (σ.2.2.1 0) b a1 a2 a3 a4 (8, σ.2.2.1 0) = a2 := by simp [nwL]
        rw [e2]
        exact h9
      · have h9 := (hat _ (List.mem_of_getElem? (i := 3) rfl)).1
        have e : cellOf (nwL L' (σ.2.2.1 0) b a1 a2 a3 a4) g.2.1 (upN (nwI σ i s h, σ.2) 0 (σ.2.2.1 0 + 1)) (9, σ.2.2.1 0) = cI4 g fNeg := by
          show (Sum.inl (g.2.1 0, 4, .inl (fun j => nwI σ i s h 28 (σ.2.2.1 0) j)) : va_E) = _
          simp [nwI]
        rw [e]
        have e2 : nwL L' (σ.2.2.1 0) b a1 a2 a3 a4 (9, σ.2.2.1 0) = a3 := by simp [nwL]
        rw [e2]
        exact h9
      · have h9 := (hat _ (List.mem_of_getElem? (i := 4) rfl)).1
        have e : cellOf (nwL L' (σ.2.2.1 0) b a1 a2 a3 a4) g.2.1 (upN (nwI σ i s h, σ.2) 0 (σ.2.2.1 0 + 1)) (10, σ.2.2.1 0) = cI4 g fNeg := by
          show (Sum.inl (g.2.1 0, 4, .inl (fun j => nwI σ i s h 29 (σ.2.2.1 0) j)) : va_E) = _
          simp [nwI]
        rw [e]
        have e2 : nwL L' (σ.2.2.1 0) b a1 a2 a3 a4 (10, σ.2.2.1 0) = a4 := by simp [nwL]
        rw [e2]
        exact h9
  · rcases vld_new (σ := σ) hv with q | ⟨q1, q2, q3⟩
    · rcases vld_new (σ := σ) hu with p | ⟨p1, p2, p3⟩
      · rw [old t q, old u p] at hz9
        exact r2 t u q p hz9
      · have e1 := hlt t q
        have e2 := hge u p1 p2 p3
        rw [old t q] at hz9
        omega
    · rcases vld_new (σ := σ) hu with p | ⟨p1, p2, p3⟩
      · have e1 := hlt u p
        have e2 := hge t q1 q2 q3
        rw [old u p] at hz9
        omega
      · exact nw_inj hnd q1 q2 q3 p1 p2 p3 hz9
  · rcases vld_new (σ := σ) hv with q | ⟨q1, q2, q3⟩
    · rw [old t q]
      exact r3 t q ht
    · exact Nat.le_trans hz (hge t q1 q2 q3)
  · rw [nwL_ne (t := (13, 0)) (Or.inr (Or.inl (by decide)))]
    exact r4
  · have e0 : (upN (nwI σ i s h, σ.2) 0 (σ.2.2.1 0 + 1)).2.2.1 0 = σ.2.2.1 0 + 1 := by simp [upN]
    have e1 : (upN (nwI σ i s h, σ.2) 0 (σ.2.2.1 0 + 1)).2.2.1 (10 + k) = σ.2.2.1 (10 + k) := if_neg (by omega)
    rw [e0, e1]
    exact ⟨(r5 k hk).1, fun x hx => Nat.lt_succ_of_lt ((r5 k hk).2 x hx)⟩
