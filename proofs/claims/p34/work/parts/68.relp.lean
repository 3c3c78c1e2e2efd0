/-! pure: pairs of writes, of the class and of the reference (laid by wip/whole/gen/rel.py) -/
section RP
variable {σ τ υ : Sg} {m i j k n a b o k2 o2 j2 t : Nat} {x y : Int32} {f : Nat → Int32} {l : List Nat}
theorem upI_k (h : k2 ≠ k) : (upI σ k o j x).1 k2 = σ.1 k2 := by funext a b; exact upI_n h
theorem upI_o (h : ¬ (o2 = o ∧ j2 = j)) : (upI σ k o j x).1 k o2 j2 = σ.1 k o2 j2 := if_neg (fun q => h q.2)
theorem ladd_k (h : k2 ≠ 30) : (ladd σ k m).1 k2 = σ.1 k2 := by funext a b; exact ladd_I h
theorem lrem_k (h : k2 ≠ 30) : (lrem σ k j).1 k2 = σ.1 k2 := by funext a b; exact lrem_I h
theorem getD_app {l : List Nat} {j : Nat} : (l ++ [m]).getD j 0 = if j < l.length then l.getD j 0 else if j = l.length then m else 0 := by
  rw [List.getD_eq_getElem?_getD, List.getD_eq_getElem?_getD]
  by_cases h1 : j < l.length
  · rw [if_pos h1, List.getElem?_append_left h1]
  · rw [if_neg h1]
    by_cases h2 : j = l.length
    · rw [if_pos h2, h2, List.getElem?_append_right (Nat.le_refl _), Nat.sub_self]
      rfl
    · rw [if_neg h2, List.getElem?_append_right (by omega)]
      have : ([m] : List Nat)[j - l.length]? = none := by
        rw [List.getElem?_eq_none]
        simp
        omega
      rw [this]
      rfl
end RP
