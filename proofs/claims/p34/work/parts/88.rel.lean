/-! pure: the law's rows beside the class -/
def hsl (σ : Sg) (m : Nat) : List Nat := (σ.2.1 (3 + sdr σ m)).take (hst σ m)
def wN (τ : Sg) (m i : Nat) : Nat := (atJ (τ.2.2.2 3 m) (nI i)).toNatClampNeg
/-- the class's part of σ, the law's part of τ -/
def RY (σ τ : Sg) (A : Nat) : Prop :=
  (∀ m i, m < σ.2.2.1 0 → i < 4 → stI (τ.1 50 0 m) (nI i) = σ.1 27 m i)
  ∧ (∀ m, m < σ.2.2.1 0 → τ.1 51 0 m = σ.1 23 m 0)
  ∧ (∀ m, m < σ.2.2.1 0 → τ.1 52 0 m = σ.1 24 m 0)
  ∧ (∀ i, i < 4 → τ.1 53 0 i = σ.1 12 i 0)
  ∧ (∀ i, i < 4 → ¬ σ.1 13 i 0 = 0 → ¬ i = tk σ → τ.1 53 0 (4 + i) = σ.1 11 i 0)
  ∧ (∀ i, i < 4 → σ.1 13 i 0 = 0 → τ.1 53 0 (8 + i) = σ.1 15 i 0)
  ∧ (τ.1 54 0 0 = nI (σ.2.2.1 0) ∧ τ.1 54 0 1 = nI (set4 (fun i => decide (σ.1 13 i 0 = 0))) ∧ τ.1 54 0 2 = nI (set4 (fun i => decide (σ.1 14 i 0 = 0))) ∧ τ.1 54 0 3 = σ.1 0 0 0 ∧ τ.1 54 0 4 = σ.1 2 0 0 ∧ τ.1 54 0 5 = nI (σ.2.1 1).length ∧ τ.1 54 0 6 = σ.1 1 0 0 ∧ τ.1 54 0 7 = nI A)
  ∧ (∀ m, m < σ.2.2.1 0 → ∀ k, k < 64 → (bJ (τ.2.2.2 0 m) k = true ↔ k ∈ hsl σ m))
  ∧ (∀ i, i < 4 → ∀ k, k < 64 → (bJ (τ.2.2.2 1 i) k = true ↔ k ∈ σ.2.1 (3 + i)))
  ∧ (∀ i, i < 4 → ∀ k, k < 64 → (bJ (τ.2.2.2 1 (4 + i)) k = true ↔ k < σ.2.2.1 0 ∧ sdr σ k = i))
  ∧ (∀ m i, m < σ.2.2.1 0 → i < 4 → atJ (τ.2.2.2 2 m) (nI i) = σ.1 29 m i + 1)
  ∧ (∀ m i, m < σ.2.2.1 0 → i < 4 → atJ (τ.2.2.2 4 m) (nI i) = nI (pv σ m i))
  ∧ (∀ m i, m < 48 → i < 4 → atJ (τ.2.2.2 3 m) (nI i) = nI (wN τ m i) ∧ wN τ m i ≤ A ∧ (σ.2.2.1 0 ≤ m → wN τ m i = 0))
  ∧ (∀ m i, m < σ.2.2.1 0 → i < 4 → (m ∈ σ.2.1 (7 + i) ↔ 0 < wN τ m i ∧ m ∉ σ.2.1 (3 + i)))
  ∧ (∀ i, i < 4 → (σ.2.1 (7 + i)).Pairwise (fun a b => wN τ a i < wN τ b i))
/-- all but the law's part is as it was -/
def Fl (τ υ : Sg) : Prop := υ.2.1 = τ.2.1 ∧ υ.2.2.1 = τ.2.2.1 ∧ ∀ k, k < 50 → υ.1 k = τ.1 k
section RLS
variable {σ τ υ : Sg} {A m i j k o : Nat} {x : Int32} {y : Int64}
theorem Fl.rf : Fl τ τ := ⟨rfl, rfl, fun _ _ => rfl⟩
theorem Fl.tr {ω : Sg} (h : Fl τ υ) (h' : Fl υ ω) : Fl τ ω := ⟨h'.1.trans h.1, h'.2.1.trans h.2.1, fun k hk => (h'.2.2 k hk).trans (h.2.2 k hk)⟩
theorem Fl.u (hk : 50 ≤ k) : Fl τ (upI τ k o j x) := ⟨rfl, rfl, fun k2 h2 => by funext o2 j2; exact upI_n (by omega)⟩
theorem Fl.J : Fl τ (upJ τ k j y) := ⟨rfl, rfl, fun _ _ => rfl⟩
theorem Fl.sl (h : Fl τ υ) : sleB τ υ = true := by
  unfold sleB sC sS
  rw [h.2.1]
  simp
theorem Fl.n (h : Fl τ υ) : υ.2.2.1 0 = τ.2.2.1 0 := by rw [h.2.1]
theorem RY.cp (h : RY σ τ A) (hm : m < σ.2.2.1 0) (hi : i < 4) : stI (τ.1 50 0 m) (nI i) = σ.1 27 m i := h.1 m i hm hi
theorem RY.nu (h : RY σ τ A) (hm : m < σ.2.2.1 0) : τ.1 51 0 m = σ.1 23 m 0 := h.2.1 m hm
theorem RY.ag (h : RY σ τ A) (hm : m < σ.2.2.1 0) : τ.1 52 0 m = σ.1 24 m 0 := h.2.2.1 m hm
theorem RY.gp (h : RY σ τ A) (hi : i < 4) : τ.1 53 0 i = σ.1 12 i 0 := h.2.2.2.1 i hi
theorem RY.kn (h : RY σ τ A) (hi : i < 4) (ha : ¬ σ.1 13 i 0 = 0) (ht : ¬ i = tk σ) : τ.1 53 0 (4 + i) = σ.1 11 i 0 := h.2.2.2.2.1 i hi ha ht
theorem RY.lo (h : RY σ τ A) (hi : i < 4) (ha : σ.1 13 i 0 = 0) : τ.1 53 0 (8 + i) = σ.1 15 i 0 := h.2.2.2.2.2.1 i hi ha
theorem RY.g0 (h : RY σ τ A) : τ.1 54 0 0 = nI (σ.2.2.1 0) := h.2.2.2.2.2.2.1.1
theorem RY.g1 (h : RY σ τ A) : τ.1 54 0 1 = nI (set4 (fun i => decide (σ.1 13 i 0 = 0))) := h.2.2.2.2.2.2.1.2.1
theorem RY.g2 (h : RY σ τ A) : τ.1 54 0 2 = nI (set4 (fun i => decide (σ.1 14 i 0 = 0))) := h.2.2.2.2.2.2.1.2.2.1
theorem RY.g3 (h : RY σ τ A) : τ.1 54 0 3 = σ.1 0 0 0 := h.2.2.2.2.2.2.1.2.2.2.1
theorem RY.g4 (h : RY σ τ A) : τ.1 54 0 4 = σ.1 2 0 0 := h.2.2.2.2.2.2.1.2.2.2.2.1
theorem RY.g5 (h : RY σ τ A) : τ.1 54 0 5 = nI (σ.2.1 1).length := h.2.2.2.2.2.2.1.2.2.2.2.2.1
theorem RY.g6 (h : RY σ τ A) : τ.1 54 0 6 = σ.1 1 0 0 := h.2.2.2.2.2.2.1.2.2.2.2.2.2.1
theorem RY.g7 (h : RY σ τ A) : τ.1 54 0 7 = nI A := h.2.2.2.2.2.2.1.2.2.2.2.2.2.2
theorem RY.hb (h : RY σ τ A) (hm : m < σ.2.2.1 0) (hk : k < 64) : bJ (τ.2.2.2 0 m) k = true ↔ k ∈ hsl σ m := h.2.2.2.2.2.2.2.1 m hm k hk
theorem RY.db (h : RY σ τ A) (hi : i < 4) (hk : k < 64) : bJ (τ.2.2.2 1 i) k = true ↔ k ∈ σ.2.1 (3 + i) := h.2.2.2.2.2.2.2.2.1 i hi k hk
theorem RY.sb (h : RY σ τ A) (hi : i < 4) (hk : k < 64) : bJ (τ.2.2.2 1 (4 + i)) k = true ↔ k < σ.2.2.1 0 ∧ sdr σ k = i := h.2.2.2.2.2.2.2.2.2.1 i hi k hk
theorem RY.za (h : RY σ τ A) (hm : m < σ.2.2.1 0) (hi : i < 4) : atJ (τ.2.2.2 2 m) (nI i) = σ.1 29 m i + 1 := h.2.2.2.2.2.2.2.2.2.2.1 m i hm hi
theorem RY.pa (h : RY σ τ A) (hm : m < σ.2.2.1 0) (hi : i < 4) : atJ (τ.2.2.2 4 m) (nI i) = nI (pv σ m i) := h.2.2.2.2.2.2.2.2.2.2.2.1 m i hm hi
theorem RY.wa (h : RY σ τ A) (hm : m < 48) (hi : i < 4) : atJ (τ.2.2.2 3 m) (nI i) = nI (wN τ m i) := (h.2.2.2.2.2.2.2.2.2.2.2.2.1 m i hm hi).1
theorem RY.wA (h : RY σ τ A) (hm : m < 48) (hi : i < 4) : wN τ m i ≤ A := (h.2.2.2.2.2.2.2.2.2.2.2.2.1 m i hm hi).2.1
theorem RY.w0 (h : RY σ τ A) (hm : m < 48) (hi : i < 4) (hn : σ.2.2.1 0 ≤ m) : wN τ m i = 0 := (h.2.2.2.2.2.2.2.2.2.2.2.2.1 m i hm hi).2.2 hn
theorem RY.wm (h : RY σ τ A) (hm : m < σ.2.2.1 0) (hi : i < 4) : m ∈ σ.2.1 (7 + i) ↔ 0 < wN τ m i ∧ m ∉ σ.2.1 (3 + i) := h.2.2.2.2.2.2.2.2.2.2.2.2.2.1 m i hm hi
theorem RY.ws (h : RY σ τ A) (hi : i < 4) : (σ.2.1 (7 + i)).Pairwise (fun a b => wN τ a i < wN τ b i) := h.2.2.2.2.2.2.2.2.2.2.2.2.2.2 i hi
theorem RY.f (h : RY σ τ A) (hi : i < 4) : hasI (τ.1 54 0 1) (nI i) = decide (σ.1 13 i 0 = 0) := by rw [h.g1, has_set4 hi]
theorem RY.ou (h : RY σ τ A) (hi : i < 4) : hasI (τ.1 54 0 2) (nI i) = decide (σ.1 14 i 0 = 0) := by rw [h.g2, has_set4 hi]
theorem wN_of (hJ : υ.2.2.2 3 m = τ.2.2.2 3 m) : wN υ m i = wN τ m i := by unfold wN; rw [hJ]
/-- the law's part is the same -/
theorem RY.ofL (h : RY σ τ A) (he : ∀ k, 50 ≤ k → k < 55 → υ.1 k = τ.1 k) (hJ : υ.2.2.2 = τ.2.2.2) : RY σ υ A := by
  have hw : ∀ m i, wN υ m i = wN τ m i := fun m i => wN_of (by rw [hJ])
  unfold RY at h ⊢
  simp only [hw]
  rw [he 50 (by decide) (by decide), he 51 (by decide) (by decide), he 52 (by decide) (by decide), he 53 (by decide) (by decide), he 54 (by decide) (by decide), hJ]
  exact h
/-- the class's part is the same -/
def Ce (σ υ : Sg) : Prop := (∀ k, k < 30 → k ≠ 26 → υ.1 k = σ.1 k) ∧ υ.2.1 = σ.2.1 ∧ υ.2.2.1 0 = σ.2.2.1 0
theorem Ce.rf : Ce σ σ := ⟨fun _ _ _ => rfl, rfl, rfl⟩
theorem Ce.tr (h : Ce σ τ) (h' : Ce τ υ) : Ce σ υ := ⟨fun k hk hz => (h'.1 k hk hz).trans (h.1 k hk hz), h'.2.1.trans h.2.1, h'.2.2.trans h.2.2⟩
theorem Ce.sy (h : Ce σ τ) : Ce τ σ := ⟨fun k hk hz => (h.1 k hk hz).symm, h.2.1.symm, h.2.2.symm⟩
theorem Fl.ce (h : Fl τ υ) : Ce τ υ := ⟨fun k hk _ => h.2.2 k (by omega), h.1, by rw [h.2.1]⟩
theorem Ce.c_sdr (h : Ce σ υ) : sdr υ m = sdr σ m := by unfold sdr; rw [h.1 21 (by decide) (by decide)]
theorem Ce.c_tk (h : Ce σ υ) : tk υ = tk σ := by unfold tk; rw [h.1 0 (by decide) (by decide)]
theorem Ce.c_hst (h : Ce σ υ) : hst υ m = hst σ m := by unfold hst; rw [h.1 22 (by decide) (by decide)]
theorem Ce.c_pv (h : Ce σ υ) : pv υ m j = pv σ m j := by unfold pv; rw [h.1 28 (by decide) (by decide)]
theorem Ce.c_hsl (h : Ce σ υ) : hsl υ m = hsl σ m := by unfold hsl; rw [h.c_sdr, h.c_hst, h.2.1]
theorem RY.ofC (h : RY σ τ A) (hc : Ce σ υ) : RY υ τ A := by
  have h1 : ∀ m, hsl υ m = hsl σ m := fun m => hc.c_hsl
  have h2 : ∀ m, sdr υ m = sdr σ m := fun m => hc.c_sdr
  have h3 : ∀ m j, pv υ m j = pv σ m j := fun m j => hc.c_pv
  obtain ⟨he, hL, hn⟩ := id hc
  unfold RY at h ⊢
  simp only [h1, h2, h3]
  rw [hc.c_tk, he 27 (by decide) (by decide), he 23 (by decide) (by decide), he 24 (by decide) (by decide), he 12 (by decide) (by decide), he 13 (by decide) (by decide), he 11 (by decide) (by decide), he 15 (by decide) (by decide), he 14 (by decide) (by decide), he 0 (by decide) (by decide), he 2 (by decide) (by decide), he 1 (by decide) (by decide), he 29 (by decide) (by decide), hL, hn]
  exact h
theorem RY.ofF (h : RY σ τ A) (hF : Fl σ υ) : RY υ τ A := h.ofC hF.ce
end RLS
