/-! abstract references (tags: kind, index), abstract values, the abstract state: ints by (kind, object, index); lists of message numbers; numbers (0: messages, 1: cells made, 2: slots made, 10+k: room of list k); the law's rows of longs -/
abbrev Tg : Type := Nat × Nat
abbrev AV : Type := Value ⊕ Tg
abbrev Sg : Type := (Nat → Nat → Nat → Int32) × (Nat → List Nat) × (Nat → Nat) × (Nat → Nat → Int64)
abbrev ai (x : Int32) : AV := .inl (.int x)
abbrev ar (t : Tg) : AV := .inr t
abbrev an : AV := .inl .null
def cv (L : Tg → Nat) : AV → Value
  | .inl v => v
  | .inr t => .ref (L t)
def upI (σ : Sg) (k o j : Nat) (x : Int32) : Sg := (fun k' o' j' => if k' = k ∧ o' = o ∧ j' = j then x else σ.1 k' o' j', σ.2)
def upL (σ : Sg) (k : Nat) (l : List Nat) : Sg := (σ.1, fun k' => if k' = k then l else σ.2.1 k', σ.2.2)
def upN (σ : Sg) (k n : Nat) : Sg := (σ.1, σ.2.1, fun k' => if k' = k then n else σ.2.2.1 k', σ.2.2.2)
def upJ (σ : Sg) (k j : Nat) (x : Int64) : Sg := (σ.1, σ.2.1, σ.2.2.1, fun k' j' => if k' = k ∧ j' = j then x else σ.2.2.2 k' j')
abbrev sC (σ : Sg) : Nat := σ.2.2.1 1
abbrev sS (σ : Sg) : Nat := σ.2.2.1 2
def sle (σ τ : Sg) : Prop := sC σ ≤ sC τ ∧ sS σ ≤ sS τ
theorem sle.refl (σ : Sg) : sle σ σ := ⟨Nat.le_refl _, Nat.le_refl _⟩
theorem sle.trans {a b c : Sg} (h : sle a b) (k : sle b c) : sle a c := ⟨Nat.le_trans h.1 k.1, Nat.le_trans h.2 k.2⟩
/-- an object's fields: an int of that kind, or a fixed reference -/
def shp (tk i : Nat) : List (Nat ⊕ Tg) := match tk with
  | 0 => [.inr (1, 0), .inr (4, 0), .inr (4, 1), .inr (4, 2), .inl 0, .inl 1, .inl 2]
  | 2 => [.inl 10, .inr (3, i), .inr (4, 3 + i), .inr (4, 7 + i), .inl 11, .inl 12, .inl 13, .inl 14, .inl 15]
  | 6 => [.inl 20, .inl 21, .inl 22, .inr (7, i), .inr (8, i), .inr (9, i), .inr (10, i), .inl 23, .inl 24, .inl 25]
  | _ => []
def cix (tk : Nat) : Nat := match tk with
  | 0 => 3
  | 2 => 1
  | 6 => 2
  | _ => 0
def fvl (L : Tg → Nat) (σ : Sg) (i : Nat) : Nat ⊕ Tg → Value
  | .inl k => .int (σ.1 k i 0)
  | .inr t => .ref (L t)
/-- the law's rows of ints: c, n, a, e, g -/
def mtb : List (Bool × Nat × Nat) := [(false, 48, 50), (false, 48, 51), (false, 48, 52), (false, 12, 53), (false, 8, 54)]
/-- the law's rows of longs: h, d, z, w, p -/
def lsh (i : Nat) : Nat := if i = 1 then 8 else 48
/-- rows of ints: boolean or int, length, kind, object -/
def ash (t : Tg) : Option (Bool × Nat × Nat × Nat) := match t.1 with
  | 3 => some (false, 4, 16, t.2)
  | 7 => some (false, 4, 26, t.2)
  | 8 => some (false, 4, 27, t.2)
  | 9 => some (false, 4, 28, t.2)
  | 10 => some (false, 4, 29, t.2)
  | 12 => (mtb[t.2]?).map (fun r => (r.1, r.2.1, r.2.2, 0))
  | _ => none
def cellN (L : Tg → Nat) (cy : Nat → ClassId) (σ : Sg) (t : Tg) : va_E := match t.1 with
  | 1 => .inl (cy 2, 4, .inr (.inr (.inr (.inr (fun j => if j < 4 then some (L (2, j)) else none)))))
  | 4 => .inr (0, [.int (σ.1 30 t.2 0), .ref (L (if σ.2.2.1 (10 + t.2) = 0 then (13, 0) else (5, t.2))), .int (nI (σ.2.1 t.2).length)])
  | 5 => .inl (cy 3, σ.2.2.1 (10 + t.2), .inr (.inr (.inr (.inr (fun j => ((σ.2.1 t.2)[j]?).map (fun m => L (6, m)))))))
  | 13 => .inl (cy 3, 0, .inr (.inr (.inr (.inr (fun _ => none)))))
  | 14 => .inl (cy 4, lsh t.2, .inr (.inl (fun j => σ.2.2.2 t.2 j)))
  | _ => .inr (cix t.1, (shp t.1 t.2).map (fvl L σ t.2))
def cellOf (L : Tg → Nat) (cy : Nat → ClassId) (σ : Sg) (t : Tg) : va_E := match ash t with
  | some a => .inl (cy (if a.1 then 1 else 0), a.2.1, .inl (fun j => σ.1 a.2.2.1 a.2.2.2 j))
  | none => cellN L cy σ t
/-- which tags there are -/
def vld (σ : Sg) (t : Tg) : Bool := match t.1 with
  | 0 => t.2 == 0
  | 1 => t.2 == 0
  | 2 => decide (t.2 < 4)
  | 3 => decide (t.2 < 4)
  | 4 => decide (t.2 < 11)
  | 5 => decide (t.2 < 11) && decide (σ.2.2.1 (10 + t.2) ≠ 0)
  | 6 => decide (t.2 < σ.2.2.1 0)
  | 7 => decide (t.2 < σ.2.2.1 0)
  | 8 => decide (t.2 < σ.2.2.1 0)
  | 9 => decide (t.2 < σ.2.2.1 0)
  | 10 => decide (t.2 < σ.2.2.1 0)
  | 12 => decide (t.2 < 5)
  | 14 => decide (t.2 < 5)
  | _ => false
/-- whose the ints of a kind are -/
def ownr (k o : Nat) : Tg := if k < 3 then (0, o) else if k < 16 then (2, o) else if k = 16 then (3, o) else if k < 26 then (6, o) else if k = 26 then (7, o) else if k = 27 then (8, o) else if k = 28 then (9, o) else if k = 29 then (10, o) else if k = 30 then (4, o) else if k < 46 then (11, o) else (12, k - 50)
theorem ownr_5 (k o : Nat) : (ownr k o).1 ≠ 5 := by
  unfold ownr
  repeat' split
  all_goals simp
theorem upI_ne {σ : Sg} {k o j k' o' j' : Nat} {x : Int32} (h : ¬ (k' = k ∧ o' = o)) : (upI σ k o j x).1 k' o' j' = σ.1 k' o' j' := if_neg (fun q => h ⟨q.1, q.2.1⟩)
theorem mtb_kind : ∀ i, i < 5 → ∀ r, mtb[i]? = some r → r.2.2 = 50 + i := by decide
theorem ash_own {t : Tg} {a : Bool × Nat × Nat × Nat} (h : ash t = some a) : ownr a.2.2.1 a.2.2.2 = t := by
  obtain ⟨tk, i⟩ := t
  unfold ash at h
  dsimp only at h
  split at h
  case h_6 =>
    obtain ⟨r, hr, rfl⟩ := Option.map_eq_some_iff.mp h
    have hi : i < 5 := (List.getElem?_eq_some_iff.mp hr).1
    have := mtb_kind i hi r hr
    have h6 : r.2.2 - 50 = i := by omega
    simp only [ownr]
    repeat' split
    all_goals first | omega | (rw [h6]; try rfl)
  case h_7 => cases h
  all_goals (cases h; rfl)
theorem shp_own' (tk i : Nat) : ∀ u ∈ shp tk i, (match u with | .inl k => ownr k i = (tk, i) | .inr _ => True) := by
  unfold shp
  split <;> simp [ownr]
theorem shp_own {tk i k : Nat} (h : .inl k ∈ shp tk i) : ownr k i = (tk, i) := shp_own' tk i _ h
theorem shp_5' (tk i : Nat) : ∀ u ∈ shp tk i, (match u with | .inl _ => True | .inr t => t.1 ≠ 5) := by
  unfold shp
  split <;> simp
theorem shp_5 {tk i : Nat} {t : Tg} (h : .inr t ∈ shp tk i) : t.1 ≠ 5 := shp_5' tk i _ h
theorem cellOf_ne {L : Tg → Nat} {cy : Nat → ClassId} {σ : Sg} {k o j : Nat} {x : Int32} {t : Tg} (ht : ownr k o ≠ t) : cellOf L cy (upI σ k o j x) t = cellOf L cy σ t := by
  unfold cellOf
  cases ha : ash t with
  | some a =>
    dsimp only
    have h1 : ¬ (a.2.2.1 = k ∧ a.2.2.2 = o) := fun q => ht (by rw [← q.1, ← q.2]; exact ash_own ha)
    have h2 : (fun j' => (upI σ k o j x).1 a.2.2.1 a.2.2.2 j') = (fun j' => σ.1 a.2.2.1 a.2.2.2 j') := funext fun j' => upI_ne h1
    rw [h2]
  | none =>
    dsimp only
    unfold cellN
    split
    · rfl
    · rename_i h4
      have h1 : ¬ (30 = k ∧ t.2 = o) := fun q => ht (by
        rw [← q.1, ← q.2]
        obtain ⟨a, b⟩ := t
        simp at h4
        subst h4
        rfl)
      rw [upI_ne h1]
      rfl
    · rfl
    · rfl
    · rfl
    · congr 2
      refine List.map_congr_left fun f hf => ?_
      cases f with
      | inr u => rfl
      | inl k' =>
        have h1 : ¬ (k' = k ∧ t.2 = o) := fun q => ht (by
          rw [← q.1, ← q.2]
          exact shp_own hf)
        show Value.int _ = Value.int _
        rw [upI_ne h1]
