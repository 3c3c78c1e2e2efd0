/-! pure: what the reference looks up: orders -/
def num (l : List Nat) (a : Nat) : Int32 := if a ∈ l then nI (l.idxOf a) else -1
def NB (σ : Sg) : Prop := ∀ a, a < σ.2.2.1 0 → σ.1 23 a 0 = num (σ.2.1 1) a
def PL (σ : Sg) : Prop := ∀ a i, a < σ.2.2.1 0 → i < 4 → σ.1 29 a i = num (σ.2.1 (3 + i)) a
section MQ2
variable {σ τ υ : Sg} {m i j k n a b o k2 o2 j2 t B q : Nat} {x y : Int32} {l : List Nat}
theorem num_no (h : a ∉ l) : num l a = -1 := if_neg h
theorem num_in (h : a ∈ l) : num l a = nI (l.idxOf a) := if_pos h
theorem num_neg (hl : l.length < 2147483648) : (num l a = -1) = (a ∉ l) := by
  unfold num
  by_cases h : a ∈ l
  · rw [if_pos h, n_neg (by have := List.idxOf_lt_length_of_mem h; omega)]
    simp [h]
  · simp [h]
theorem idx_get (hn : l.Nodup) (h : j < l.length) : l.idxOf (l.getD j 0) = j := by
  rw [List.getD_eq_getElem?_getD, List.getElem?_eq_getElem h]
  exact hn.idxOf_getElem j h
theorem get_idx (h : a ∈ l) : l.getD (l.idxOf a) 0 = a := by
  have h1 := List.idxOf_lt_length_of_mem h
  rw [List.getD_eq_getElem?_getD, List.getElem?_eq_getElem h1]
  exact List.getElem_idxOf h1
theorem NB.nu (N : NB σ) (W : WF σ) : NU σ := fun m hm hq => by
  rw [N m hm, num_neg (by have := W.len (k := 1) (by decide); omega)] at hq
  exact hq
def KH (σ : Sg) : Prop := ¬ σ.1 13 (tk σ) 0 = 0 → σ.1 11 (tk σ) 0 = nI (σ.2.1 1).length
end MQ2
