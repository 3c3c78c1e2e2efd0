/-! pure: loops; the class's state well formed; what small methods give -/
section WHL
variable {c : Ex Bool} {b : Sx} {N : Nat}
theorem wh_succ {lc : LcT} {σ : Sg} : sWh c b (N + 1) lc σ = (c lc σ).bind fun r => if r.1 = true then (b lc r.2).bind fun o => match o with
    | .inl q => sWh c b N q.1 q.2
    | .inr q => some (.inr q)
    else some (.inl (lc, r.2)) := rfl
theorem wh_from (A : Nat → LcT × Sg) {n : Nat} (hc : ∀ j, j < n → c (A j).1 (A j).2 = some (true, (A j).2)) (hb : ∀ j, j < n → b (A j).1 (A j).2 = some (.inl (A (j + 1)))) : ∀ d M j, j + d = n → sWh c b (M + d) (A j).1 (A j).2 = sWh c b M (A n).1 (A n).2 := by
  intro d
  induction d with
  | zero => intro M j h; rw [Nat.add_zero] at h; subst h; rfl
  | succ d ih =>
    intro M j h
    have e : sWh c b (M + (d + 1)) (A j).1 (A j).2 = sWh c b (M + d) (A (j + 1)).1 (A (j + 1)).2 := by
      rw [← Nat.add_assoc, wh_succ, hc j (by omega)]
      simp only [Option.bind_some, if_true]
      rw [hb j (by omega)]
      rfl
    rw [e]
    exact ih M (j + 1) (by omega)
theorem wh_run (A : Nat → LcT × Sg) (n : Nat) (hN : n < N) (hc : ∀ j, j < n → c (A j).1 (A j).2 = some (true, (A j).2)) (hb : ∀ j, j < n → b (A j).1 (A j).2 = some (.inl (A (j + 1)))) (hz : c (A n).1 (A n).2 = some (false, (A n).2)) : sWh c b N (A 0).1 (A 0).2 = some (.inl (A n)) := by
  obtain ⟨M, rfl⟩ : ∃ M, N = (M + 1) + n := ⟨N - n - 1, by omega⟩
  rw [wh_from A hc hb n (M + 1) 0 (by omega)]
  rw [wh_succ, hz]
  rfl
theorem wh_exit {r : Res × Sg} (A : Nat → LcT × Sg) (n : Nat) (hN : n < N) (hc : ∀ j, j < n → c (A j).1 (A j).2 = some (true, (A j).2)) (hb : ∀ j, j < n → b (A j).1 (A j).2 = some (.inl (A (j + 1)))) (hz : c (A n).1 (A n).2 = some (true, (A n).2)) (hx : b (A n).1 (A n).2 = some (.inr r)) : sWh c b N (A 0).1 (A 0).2 = some (.inr r) := by
  obtain ⟨M, rfl⟩ : ∃ M, N = (M + 1) + n := ⟨N - n - 1, by omega⟩
  rw [wh_from A hc hb n (M + 1) 0 (by omega)]
  rw [wh_succ, hz]
  simp only [Option.bind_some, if_true]
  rw [hx]
  rfl
/-- the least place below n with that property; n if there is none -/
def fI (P : Nat → Bool) : Nat → Nat
  | 0 => 0
  | n + 1 => if fI P n < n then fI P n else if P n = true then n else n + 1
theorem fI_le (P : Nat → Bool) (n : Nat) : fI P n ≤ n := by
  induction n with
  | zero => exact Nat.le_refl 0
  | succ n ih => unfold fI; split <;> (try split) <;> omega
theorem fI_lt {P : Nat → Bool} {n j : Nat} (h : j < fI P n) : P j = false := by
  induction n with
  | zero => exact absurd h (Nat.not_lt_zero _)
  | succ n ih =>
    unfold fI at h
    split at h
    · exact ih h
    · split at h
      · by_cases e : j < fI P n
        · exact ih e
        · have := fI_le P n; omega
      · rename_i h1 h2
        by_cases e : j < fI P n
        · exact ih e
        · have := fI_le P n
          have : j = n := by omega
          subst this
          simpa using h2
theorem fI_at {P : Nat → Bool} {n : Nat} (h : fI P n < n) : P (fI P n) = true := by
  induction n with
  | zero => exact absurd h (Nat.not_lt_zero _)
  | succ n ih =>
    unfold fI at h ⊢
    split
    · rename_i h1; exact ih h1
    · rename_i h1
      rw [if_neg h1] at h
      split
      · rename_i h2; exact h2
      · rename_i h2; rw [if_neg h2] at h; exact absurd h (Nat.lt_irrefl _)
theorem fI_ex {P : Nat → Bool} {n j : Nat} (h : j < n) (hp : P j = true) : fI P n ≤ j := by
  rcases Nat.lt_or_ge j (fI P n) with q | q
  · rw [fI_lt q] at hp; cases hp
  · exact q
/-- a loop that looks for something -/
theorem wh_find {P : Nat → Bool} {R : Nat → Res × Sg} (A : Nat → LcT × Sg) (n : Nat) (hN : n < N) (hc : ∀ j, j < n → c (A j).1 (A j).2 = some (true, (A j).2)) (hb : ∀ j, j < n → b (A j).1 (A j).2 = if P j = true then some (.inr (R j)) else some (.inl (A (j + 1)))) (hz : c (A n).1 (A n).2 = some (false, (A n).2)) : sWh c b N (A 0).1 (A 0).2 = if fI P n < n then some (.inr (R (fI P n))) else some (.inl (A n)) := by
  have hle := fI_le P n
  split
  · rename_i h
    refine wh_exit A (fI P n) (by omega) (fun j hj => hc j (by omega)) (fun j hj => ?_) (hc _ h) ?_
    · rw [hb j (by omega), if_neg (by rw [fI_lt hj]; decide)]
    · rw [hb _ h, if_pos (fI_at h)]
  · rename_i h
    refine wh_run A n hN hc (fun j hj => ?_) hz
    rw [hb j hj, if_neg (by rw [fI_lt (n := n) (P := P) (by omega)]; decide)]
theorem fI_iff {P : Nat → Bool} {n : Nat} : fI P n < n ↔ ∃ j, j < n ∧ P j = true := ⟨fun h => ⟨_, h, fI_at h⟩, fun ⟨_, h, hp⟩ => Nat.lt_of_le_of_lt (fI_ex h hp) h⟩
end WHL
def sdr (σ : Sg) (m : Nat) : Nat := (σ.1 21 m 0).toNatClampNeg
def tk (σ : Sg) : Nat := (σ.1 0 0 0).toNatClampNeg
/-- the class's state, as far as no call ever changes it -/
def WF (σ : Sg) : Prop := σ.2.2.1 0 ≤ 48 ∧ σ.2.1 0 = List.range (σ.2.2.1 0) ∧ (∀ i, i < 4 → σ.1 10 i 0 = nI i) ∧ (∀ m, m < σ.2.2.1 0 → σ.1 20 m 0 = nI m) ∧ (∀ m, m < σ.2.2.1 0 → σ.1 21 m 0 = nI (sdr σ m) ∧ sdr σ m < 4) ∧ (σ.1 0 0 0 = nI (tk σ) ∧ tk σ < 4)
  ∧ (∀ k, k < 11 → (σ.2.1 k).Nodup ∧ (∀ x ∈ σ.2.1 k, x < σ.2.2.1 0) ∧ σ.2.2.1 (10 + k) < 100) ∧ (∀ i, i < 4 → (σ.1 13 i 0 = 0 ∨ σ.1 13 i 0 = 1) ∧ (σ.1 14 i 0 = 0 ∨ σ.1 14 i 0 = 1)) ∧ ∀ m, m < σ.2.2.1 0 → σ.1 25 m 0 = 0 ∨ σ.1 25 m 0 = 1
theorem nodup_le : ∀ (n : Nat) (l : List Nat), l.Nodup → (∀ x ∈ l, x < n) → l.length ≤ n := by
  intro n
  induction n with
  | zero =>
    intro l _ h
    cases l with
    | nil => exact Nat.le_refl 0
    | cons a l => exact absurd (h a List.mem_cons_self) (Nat.not_lt_zero _)
  | succ n ih =>
    intro l hl h
    have h1 := ih (l.erase n) (hl.erase n) (fun x hx => by
      have h2 := h x (List.mem_of_mem_erase hx)
      have h3 : x ≠ n := fun e => by subst e; exact (List.Nodup.not_mem_erase hl) hx
      omega)
    have := List.length_erase (a := n) (l := l)
    split at this <;> omega
section WFS
variable {σ : Sg}
theorem WF.n (W : WF σ) : σ.2.2.1 0 ≤ 48 := W.1
theorem WF.sent (W : WF σ) : σ.2.1 0 = List.range (σ.2.2.1 0) := W.2.1
theorem WF.id (W : WF σ) {i : Nat} (h : i < 4) : σ.1 10 i 0 = nI i := W.2.2.1 i h
theorem WF.mid (W : WF σ) {m : Nat} (h : m < σ.2.2.1 0) : σ.1 20 m 0 = nI m := W.2.2.2.1 m h
theorem WF.sn (W : WF σ) {m : Nat} (h : m < σ.2.2.1 0) : σ.1 21 m 0 = nI (sdr σ m) := (W.2.2.2.2.1 m h).1
theorem WF.sn4 (W : WF σ) {m : Nat} (h : m < σ.2.2.1 0) : sdr σ m < 4 := (W.2.2.2.2.1 m h).2
theorem WF.tok (W : WF σ) : σ.1 0 0 0 = nI (tk σ) := W.2.2.2.2.2.1.1
theorem WF.tk4 (W : WF σ) : tk σ < 4 := W.2.2.2.2.2.1.2
theorem WF.nd (W : WF σ) {k : Nat} (h : k < 11) : (σ.2.1 k).Nodup := (W.2.2.2.2.2.2.1 k h).1
theorem WF.el (W : WF σ) {k x : Nat} (h : k < 11) (hx : x ∈ σ.2.1 k) : x < σ.2.2.1 0 := (W.2.2.2.2.2.2.1 k h).2.1 x hx
theorem WF.cap (W : WF σ) {k : Nat} (h : k < 11) : σ.2.2.1 (10 + k) < 100 := (W.2.2.2.2.2.2.1 k h).2.2
theorem WF.al (W : WF σ) {i : Nat} (h : i < 4) : σ.1 13 i 0 = 0 ∨ σ.1 13 i 0 = 1 := (W.2.2.2.2.2.2.2.1 i h).1
theorem WF.iv (W : WF σ) {i : Nat} (h : i < 4) : σ.1 14 i 0 = 0 ∨ σ.1 14 i 0 = 1 := (W.2.2.2.2.2.2.2.1 i h).2
theorem WF.dr (W : WF σ) {m : Nat} (h : m < σ.2.2.1 0) : σ.1 25 m 0 = 0 ∨ σ.1 25 m 0 = 1 := W.2.2.2.2.2.2.2.2 m h
theorem WF.len (W : WF σ) {k : Nat} (h : k < 11) : (σ.2.1 k).length ≤ 48 := Nat.le_trans (nodup_le _ _ (W.nd h) (fun x hx => W.el h hx)) W.n
theorem WF.get (W : WF σ) {k j : Nat} (h : k < 11) (hj : j < (σ.2.1 k).length) : (σ.2.1 k).getD j 0 < σ.2.2.1 0 := by
  rw [List.getD_eq_getElem?_getD, List.getElem?_eq_getElem hj]
  exact W.el h (List.getElem_mem hj)
end WFS
theorem rg_get {n j : Nat} (h : j < n) : (List.range n).getD j 0 = j := by
  rw [List.getD_eq_getElem?_getD, List.getElem?_range h]
  rfl
theorem WF.sget {σ : Sg} (W : WF σ) {j : Nat} (h : j < σ.2.2.1 0) : f_lget [ar (4, 0), ai (nI j)] σ = some (.inl (some (ar (6, j))), σ) := by
  have hn := W.n
  have hl : (σ.2.1 0).length = σ.2.2.1 0 := by rw [W.sent, List.length_range]
  rw [w_lget (by decide) (by omega) (by omega), W.sent, rg_get h]
