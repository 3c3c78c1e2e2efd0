/-! Arrays.fill(int[], int) -/
theorem ash_n {t : Tg} {b : Bool} {n kc o : Nat} (h : ash t = some (b, n, kc, o)) : n ≤ 192 := by
  obtain ⟨tk, i⟩ := t
  unfold ash at h
  dsimp only at h
  split at h
  case h_6 =>
    obtain ⟨r, hr, he⟩ := Option.map_eq_some_iff.mp h
    have hi : i < 5 := (List.getElem?_eq_some_iff.mp hr).1
    have h9 : ∀ i, i < 5 → ∀ r, mtb[i]? = some r → r.2.1 ≤ 192 := by decide
    have h8 := h9 i hi r hr
    cases he
    exact h8
  case h_7 => cases h
  all_goals (cases h; decide)
theorem fillA_0 {σ : Sg} {kc o : Nat} {x : Int32} : fillA σ kc o 0 x = σ := by
  unfold fillA
  have h : (fun k' o' j' => if k' = kc ∧ o' = o ∧ j' < 0 then x else σ.1 k' o' j') = σ.1 := by
    funext k' o' j'
    exact if_neg (fun q => Nat.not_lt_zero _ q.2.2)
  rw [h]
theorem fillA_s {σ : Sg} {kc o k : Nat} {x : Int32} : upI (fillA σ kc o k x) kc o k x = fillA σ kc o (k + 1) x := by
  unfold fillA upI
  have h : (fun k' o' j' => if k' = kc ∧ o' = o ∧ j' = k then x else if k' = kc ∧ o' = o ∧ j' < k then x else σ.1 k' o' j') = (fun k' o' j' => if k' = kc ∧ o' = o ∧ j' < k + 1 then x else σ.1 k' o' j') := by
    funext k' o' j'
    by_cases h1 : k' = kc ∧ o' = o
    · rcases Nat.lt_trichotomy j' k with q | q | q
      · rw [if_neg (fun z => by omega), if_pos ⟨h1.1, h1.2, q⟩, if_pos ⟨h1.1, h1.2, by omega⟩]
      · rw [if_pos ⟨h1.1, h1.2, q⟩, if_pos ⟨h1.1, h1.2, by omega⟩]
      · rw [if_neg (fun z => by omega), if_neg (fun z => by omega), if_neg (fun z => by omega)]
    · rw [if_neg (fun z => h1 ⟨z.1, z.2.1⟩), if_neg (fun z => h1 ⟨z.1, z.2.1⟩), if_neg (fun z => h1 ⟨z.1, z.2.1⟩)]
  exact Prod.ext h rfl
theorem fill_lp {κ : Kx} {nL fX lX : Nat} {own : String} (hx : Hx κ cJ7_fill_53178 nL own fX lX) {t : Tg} {n kc o : Nat} {x : Int32} {σ : Sg} (ha : ash t = some (false, n, kc, o)) (hv : vld σ t = true)
    (kk : ∀ lc, Acf κ 20 [] lc (fillA σ kc o n x)) : ∀ d k, d + k = n → Acf κ 5 [] [some (ar t), some (ai x), some (ai (nI k)), some (ai (nI n))] (fillA σ kc o k x) := by
  have hn : n < 2147483648 := Nat.lt_of_le_of_lt (ash_n ha) (by decide)
  intro d
  induction d with
  | zero =>
    intro k hk
    rw [Nat.zero_add] at hk
    subst hk
    exact A_iload_n (i := 2) hx dJ7_fill_53178_5 rfl (A_iload_n (i := 3) hx dJ7_fill_53178_6 rfl (A_icmp_ge (tgt := 20) hx dJ7_fill_53178_7 (by decide) (fun _ => kk _) (fun q => absurd (nI_le (Nat.le_refl k) hn) q)))
  | succ d ih =>
    intro k hk
    have hkn : k < n := by omega
    refine A_iload_n (i := 2) hx dJ7_fill_53178_5 rfl (A_iload_n (i := 3) hx dJ7_fill_53178_6 rfl (A_icmp_ge (tgt := 20) hx dJ7_fill_53178_7 (by decide) (fun q => absurd q (nI_ge hkn hn)) (fun _ => ?_)))
    refine A_aload_n (i := 0) hx dJ7_fill_53178_10 rfl (A_iload_n (i := 2) hx dJ7_fill_53178_11 rfl (A_iload_n (i := 1) hx dJ7_fill_53178_12 rfl (A_iast hx ha hv (vp_in_nI hkn hn) dJ7_fill_53178_13 ?_)))
    rw [nI_clamp (Nat.lt_trans hkn hn), fillA_s]
    refine A_iinc (i := 2) hx dJ7_fill_53178_14 rfl (nI_1 k) (A_goto (tgt := 5) hx dJ7_fill_53178_17 (by decide) ?_)
    exact ih (k + 1) (by omega)
theorem c_fill {l : Launch} {g : Gx} (hl : l.stackTraces = false) : CtX l g yJ7_fill_53178 cJ7_fill_53178 4 none 1 20 f_fill := by
  refine CtX.of (by decide) hl (fun κ h1 h2 hx hr as σ σF r hs hsem => ?_)
  unfold f_fill at hsem
  split at hsem
  · rename_i t x
    split at hsem
    · rename_i n kc o ha
      obtain ⟨hv, h⟩ := ite_s hsem
      cases h
      refine ⟨(by simp [lcOf]), sle.refl _, fun k9 => ?_⟩
      refine A_iconst (v := 0) hx dJ7_fill_53178_0 (by decide) (A_istore_n (i := 2) hx dJ7_fill_53178_1 (by show 2 < 4; decide) (A_aload_n (i := 0) hx dJ7_fill_53178_2 rfl (A_alen hx ha hv dJ7_fill_53178_3 (A_istore_n (i := 3) hx dJ7_fill_53178_4 (by show 3 < 4; decide) ?_))))
      have h := fill_lp hx (x := x) ha hv (fun lc => A_vret hx hr dJ7_fill_53178_20 k9) n 0 rfl
      rw [fillA_0] at h
      exact h
    · cases hsem
  · cases hsem
