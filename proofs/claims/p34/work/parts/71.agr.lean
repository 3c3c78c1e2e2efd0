/-! pure: what the reference writes: proposals, agreement -/
def enc (q : Nat) : Int32 := if q = 0 then -1 else nI q
def pv (σ : Sg) (m j : Nat) : Nat := if σ.1 28 m j = -1 then 0 else (σ.1 28 m j).toNatClampNeg
def mx (σ : Sg) (m : Nat) : Nat → Nat
  | 0 => 0
  | j + 1 => max (mx σ m j) (pv σ m j)
def PB (σ : Sg) (B : Nat) : Prop := (∀ m j, m < σ.2.2.1 0 → j < 4 → σ.1 28 m j = enc (pv σ m j) ∧ pv σ m j ≤ B) ∧ (∀ i, i < 4 → ∃ p, p ≤ B ∧ σ.1 12 i 0 = nI p) ∧ ∃ g, g ≤ B ∧ σ.1 1 0 0 = nI g
section AG
variable {σ τ υ : Sg} {m i j k n a b o k2 o2 j2 t B : Nat} {x y : Int32} {l : List Nat}
theorem enc_lt {a b : Nat} (ha : a < 2147483648) (hb : b < 2147483648) : (enc a < enc b) = (a < b) := by
  unfold enc
  have e1 : ((-1 : Int32) < -1) = False := by decide
  by_cases h1 : a = 0
  · by_cases h2 : b = 0
    · rw [if_pos h1, if_pos h2, e1]; simp [h1, h2]
    · rw [if_pos h1, if_neg h2]
      have : (-1 : Int32) < nI b := by rw [Int32.lt_iff_toInt_lt, nI_toInt hb, show (-1 : Int32).toInt = -1 by decide]; omega
      simp [this]; omega
  · by_cases h2 : b = 0
    · rw [if_neg h1, if_pos h2]
      have : ¬ nI a < (-1 : Int32) := by rw [Int32.lt_iff_toInt_lt, nI_toInt ha, show (-1 : Int32).toInt = -1 by decide]; omega
      simp [this]; omega
    · rw [if_neg h1, if_neg h2, n_lt ha hb]
theorem iMax_enc {a b : Nat} (ha : a < 2147483648) (hb : b < 2147483648) : iMax (enc a) (enc b) = enc (max a b) := by
  unfold iMax
  have e := enc_lt ha hb
  by_cases h : a < b
  · rw [if_pos (by rw [e]; exact h), Nat.max_eq_right (by omega)]
  · rw [if_neg (by rw [e]; exact h), Nat.max_eq_left (by omega)]
theorem mx_le (h : PB σ B) (hm : m < σ.2.2.1 0) : ∀ j, j ≤ 4 → mx σ m j ≤ B := by
  intro j
  induction j with
  | zero => intro _; exact Nat.zero_le _
  | succ j ih =>
    intro hj
    have := ih (by omega)
    have := (h.1 m j hm (by omega)).2
    unfold mx
    omega
theorem gPn_mx (h : PB σ B) (hB : B < 2147483648) (hm : m < σ.2.2.1 0) : ∀ j, j ≤ 4 → gPn σ m j = enc (mx σ m j) := by
  intro j
  induction j with
  | zero => intro _; rfl
  | succ j ih =>
    intro hj
    have h1 := mx_le h hm j (by omega)
    obtain ⟨h2, h3⟩ := h.1 m j hm (by omega)
    unfold gPn mx
    rw [ih (by omega), h2, iMax_enc (by omega) (by omega)]
theorem enc_pos {q : Nat} (h : 0 < q) : enc q = nI q := if_neg (by omega)
theorem enc_neg {q : Nat} (hq : q < 2147483648) : (enc q = -1) = (q = 0) := by
  unfold enc
  by_cases h : q = 0
  · simp [h]
  · rw [if_neg h, n_neg hq]; simp [h]
theorem p1_pv (hi : i < 4) {z : Nat} (hz : nPr σ i = nI z) (hz2 : z < 2147483648) (h0 : 0 < z) : pv (S_p1 σ m i) a j = if a = m ∧ j = i then z else pv σ a j := by
  have e : (S_p1 σ m i).1 28 a j = if a = m ∧ j = i then nI z else σ.1 28 a j := by
    unfold S_p1
    rw [w_ui1, hz, upI_n (by decide)]
    simp
  unfold pv
  rw [e]
  by_cases c : a = m ∧ j = i
  · rw [if_pos c, if_pos c, if_neg (by rw [n_neg hz2]; exact fun q => q), cl_nI hz2]
  · rw [if_neg c, if_neg c]
theorem PB.p1 (h : PB σ B) (hB : B + 1 < 2147483648) (hi : i < 4) : PB (S_p1 σ m i) (B + 1) ∧ ∃ z, 0 < z ∧ z ≤ B + 1 ∧ nPr σ i = nI z ∧ ∃ g, g < z ∧ σ.1 1 0 0 = nI g := by
  obtain ⟨p, hp, ep⟩ := h.2.1 i hi
  obtain ⟨g, hg, eg⟩ := h.2.2
  have hz : nPr σ i = nI (max p g + 1) := by
    unfold nPr iMax
    rw [ep, eg]
    by_cases c : p < g
    · rw [if_pos (nI_lt c (by omega)), n_ad1, Nat.max_eq_right (by omega)]
    · rw [if_neg (nI_nlt (by omega) (by omega)), n_ad1, Nat.max_eq_left (by omega)]
  refine ⟨⟨fun a j ha hj => ?_, fun b hb => ?_, ⟨g, by omega, ?_⟩⟩, max p g + 1, by omega, by omega, hz, g, by omega, eg⟩
  · rw [p1_pv hi hz (by omega) (by omega)]
    obtain ⟨q1, q2⟩ := h.1 a j ha hj
    unfold S_p1
    rw [w_ui1, hz, upI_n (by decide)]
    by_cases c : a = m ∧ j = i
    · rw [if_pos ⟨rfl, c.1, c.2⟩, if_pos c]
      exact ⟨(enc_pos (by omega)).symm, by omega⟩
    · rw [if_neg (fun q => c q.2), if_neg c]
      exact ⟨q1, by omega⟩
  · unfold S_p1
    rw [upI_n (by decide), w_ui1, hz]
    by_cases c : b = i
    · rw [if_pos ⟨rfl, c, rfl⟩]; exact ⟨_, by omega, rfl⟩
    · rw [if_neg (fun q => c q.2.1)]
      obtain ⟨p', q1, q2⟩ := h.2.1 b hb
      exact ⟨p', by omega, q2⟩
  · unfold S_p1
    rw [upI_n (by decide), upI_n (by decide)]
    exact eg
theorem mx_ge : ∀ n, j < n → pv σ m j ≤ mx σ m n := by
  intro n
  induction n with
  | zero => intro h; omega
  | succ n ih =>
    intro h
    unfold mx
    by_cases e : j = n
    · subst e; omega
    · have := ih (by omega); omega
end AG
