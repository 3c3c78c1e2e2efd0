/-! the law's entry: a class, a model, a long; the first state -/
section ENT
variable {κ : Kx} {cc : ByteArray} {nL fX lX : Nat} {own : String} {pc : Nat} {st : List AV} {lc : LcT} {Rp : Heap → Prop} {nc ns : Nat} {Pw : Heap → Prop} {ws : va_W}
theorem H_newl (hx : Hx κ cc nL own fX lX) {n : Nat} (hn : n < 65536) (hc : nc + 1 ≤ (kr κ).1) (hs : ns + n ≤ (kr κ).2)
    (d : decode cc pc = .ok (.newarray .long, 2)) (k : ∀ a : Nat, AcH κ (fun H' => ∃ H : Heap, Rp H ∧ H.size = a ∧ va_at (kg κ).1 vwCl (a, .inl ((kg κ).2.1 4, n, .inr (.inl (fun _ => 0)))) H' ∧ ∀ q : Nat, q < H.size → H'[q]? = H[q]?) (nc + 1) (ns + n) (pc + 2) (aq a :: st) lc) : AcH κ Rp nc ns pc (ai (nI n) :: st) lc := by
  obtain ⟨p, l, e, R, s, m, args, below, meth, c, Q, g, L, c0, s0, fc, fs0⟩ := κ
  obtain ⟨⟨hxe, hxb, hxl, hxo, hxw⟩, hxk, hxz, hxc, hxs, hxt, hxf, hxr⟩ := hx
  intro H locs ls h1 h2 h3 h4
  have h31 : n < 2 ^ 31 := Nat.lt_trans hn (by decide)
  refine va_newaK hxe hxb (atype := .long) (hxw _ uz_arrayClass_5_45) rfl d rfl (nI_pos h31) (nI_clamp h31) (by show n * 8 ≤ _; omega) (by rw [hxc]; exact hc) (by rw [hxs]; exact hs) rfl fun H1 cA e1 z1 o1 hAr hNm => ?_
  have k4 : s.vm.findClass ("[" ++ FieldType.long.toString) = some (g.2.1 4) := (h3.1.2 4 _ rfl).2
  have hcA : cA = g.2.1 4 := Option.some.inj (hNm.symm.trans k4)
  subst hcA
  refine k H.size H1 locs ls h1 ⟨H, h2, rfl, ?_, o1⟩ (h3.kept (fun q hq _ => o1 q hq)) ⟨by rw [z1]; exact Nat.le_trans h4.1 (Nat.le_succ _), fun q hq1 hq2 => (o1 q (Nat.lt_of_lt_of_le hq1 h4.1)).trans (h4.2.1 q hq1 hq2), h4.2.2⟩
  show H1[H.size]? = some (vp_cell _ _)
  rw [e1, vp_cell_l]
  rfl
theorem N_newl (hx : Hx κ cc nL own fX lX) {n : Nat} (hn : n < 65536) (hc : nc + 1 ≤ (kr κ).1) (hs : ns + n ≤ (kr κ).2) (d : decode cc pc = .ok (.newarray .long, 2)) (k : ∀ a : Nat, AcH κ (NX (kg κ) Pw (ws ++ [(a, .inl ((kg κ).2.1 4, n, .inr (.inl (fun _ => 0))))])) (nc + 1) (ns + n) (pc + 2) (aq a :: st) lc) : AcH κ (NX (kg κ) Pw ws) nc ns pc (ai (nI n) :: st) lc :=
  H_newl hx hn hc hs d (fun a => AcH.mono (fun H h => by obtain ⟨H0, q1, q2, q3, q4⟩ := h; exact q1.push q2 q3 q4) (k a))
end ENT
def fsW (g : Gx) (b : Nat) (q : Nat → Nat) (m : Nat) (r : Nat → Nat) (o : Nat) : va_W := (cmW g b q ++ mdW g m r) ++ [(o, .inl (g.2.1 4, 1, .inr (.inl (fun _ => 0))))]
theorem L_entry {κ : Kx} (hx : Hx κ cL_law 7 RL 16 620) (hAO : va_AO RX0 (ks κ)) (hst : (kl κ).stackTraces = false) (hc : 40 ≤ (kr κ).1) (hs : 1316 ≤ (kr κ).2) {bs : Nat} {Rp : Heap → Prop}
    (k : ∀ b q m r o, AcH κ (NX (kg κ) Rp (fsW (kg κ) b q m r o)) 40 1316 23 [] [some (aq bs), some (aq b), some (aq m), some (aq o), some (ai (nI 0)), none, none]) : AcH κ Rp 0 0 0 [] [some (aq bs), none, none, none, none, none, none] := by
  refine N_newc hx in_X2 tyX2 tyX2_ok (ci := 3) rfl ul_L_8 ux_X2 un_X2 (fs := [.null, .null, .null, .null, .int 0, .int 0, .int 0]) (by decide) (by omega) (by omega) dL_law_0 (fun b => ?_)
  refine H_dup hx (Or.inr ⟨_, rfl⟩) dL_law_3 ?_
  refine H_callI (as := []) (rest := [aq b]) (b := b) hx XT_A rfl (c_iCm hst) hAO (fun H h => h) uc_X2_init um_L_101 ui_X2_init un_X2 ⟨rfl, by decide, by decide, rfl⟩ (by simp [wt, wtA, Value.category]) (by decide) (by decide) (by omega) (by omega) dL_law_4 (fun v => ?_)
  refine AcH.pure (P := v = none) (fun hv => ?_) (fun H h => h.1)
  subst hv
  refine AcH.mono (fun H h => h.2) (AcH.ex fun q => ?_)
  refine H_astore_n (i := 1) hx dL_law_7 (by show 1 < 7; decide) ?_
  refine N_newc hx in_X3 tyX3 tyX3_ok (ci := 4) rfl ul_L_102 ux_X3 un_X3 (fs := [.int 0, .int 0, .null, .null, .null, .null, .null, .null, .null, .int 0, .int 0, .null, .null, .null, .null, .null, .null, .null, .null, .null, .null, .int 0, .int 0]) (by decide) (by omega) (by omega) dL_law_8 (fun m => ?_)
  refine H_dup hx (Or.inr ⟨_, rfl⟩) dL_law_11 ?_
  refine H_callI (as := []) (rest := [aq m]) (b := m) hx XT_T rfl (c_iMd hst) trivial (fun H h => h) uc_X3_init um_L_104 ui_X3_init un_X3 ⟨rfl, by decide, by decide, rfl⟩ (by simp [wt, wtA, Value.category]) (by decide) (by decide) (by omega) (by omega) dL_law_12 (fun v => ?_)
  refine AcH.pure (P := v = none) (fun hv => ?_) (fun H h => h.1)
  subst hv
  refine AcH.mono (fun H h => h.2) (AcH.ex fun r => ?_)
  refine AcH.mono (fun H h9 => h9.flat) ?_
  refine H_astore_n (i := 2) hx dL_law_15 (by show 2 < 7; decide) ?_
  refine H_iconst (v := nI 1) hx dL_law_16 (by decide) (N_newl hx (by decide) (by omega) (by omega) dL_law_17 (fun o => ?_))
  refine H_astore_n (i := 3) hx dL_law_19 (by show 3 < 7; decide) (H_iconst (v := nI 0) hx dL_law_20 (by decide) (H_istore hx dL_law_21 (by show 4 < 7; decide) ?_))
  exact k b q m r o
/-- the first state -/
def σ0 : Sg := (fun k o _ => if k = 10 then nI o else if k = 13 ∨ k = 14 then 1 else 0, fun _ => [], fun k => if k = 1 then 40 else if k = 2 then 1316 else 0, 0)
def L0 (d b : Nat) (q : Nat → Nat) (m : Nat) (r : Nat → Nat) (o : Nat) : Tg → Nat := fun t => match t.1 with
  | 0 => b
  | 1 => q 0
  | 2 => q (1 + 4 * t.2)
  | 3 => q (2 + 4 * t.2)
  | 4 => if t.2 < 3 then q (17 + t.2) else if t.2 < 7 then q (3 + 4 * (t.2 - 3)) else q (4 + 4 * (t.2 - 7))
  | 11 => m
  | 12 => r t.2
  | 13 => d
  | 14 => o
  | _ => 0
def tgs : List Tg := [(0, 0), (1, 0), (2, 0), (3, 0), (4, 3), (4, 7), (2, 1), (3, 1), (4, 4), (4, 8), (2, 2), (3, 2), (4, 5), (4, 9), (2, 3), (3, 3), (4, 6), (4, 10), (4, 0), (4, 1), (4, 2), (11, 0), (12, 0), (12, 1), (12, 2), (12, 3), (12, 4), (12, 5), (12, 6), (12, 7), (12, 8), (12, 9), (12, 10), (12, 11), (12, 12), (12, 13), (12, 14), (12, 15), (12, 16), (14, 0)]
theorem vld0 {t : Tg} (h : vld σ0 t = true) : t ∈ tgs := by
  obtain ⟨tk, i⟩ := t
  have hb : tk < 15 ∧ i < 17 := by
    unfold vld at h
    dsimp only at h
    split at h <;> simp [σ0] at h <;> omega
  have h9 := List.all_eq_true.mp (List.all_eq_true.mp (by decide +kernel : ((List.range 15).all fun tk => (List.range 17).all fun i => !vld σ0 (tk, i) || tgs.contains (tk, i)) = true) tk (List.mem_range.mpr hb.1)) i (List.mem_range.mpr hb.2)
  rw [h] at h9
  simpa using h9
theorem up4 {f : Nat → Option Nat} {a b c d : Nat} (hf : ∀ j, f j = none) : va_up (va_up (va_up (va_up f 0 (some a)) 1 (some b)) 2 (some c)) 3 (some d) = fun j => if j < 4 then some (if j = 0 then a else if j = 1 then b else if j = 2 then c else d) else none := by
  funext j
  unfold va_up
  by_cases h0 : j = 0
  · subst h0; rfl
  · by_cases h1 : j = 1
    · subst h1; rfl
    · by_cases h2 : j = 2
      · subst h2; rfl
      · by_cases h3 : j = 3
        · subst h3; rfl
        · simp [h0, h1, h2, h3, hf, show ¬ j < 4 by omega]
theorem fsW_eq (g : Gx) (b : Nat) (q : Nat → Nat) (m : Nat) (r : Nat → Nat) (o : Nat) : fsW g b q m r o = tgs.map (fun t => (L0 g.2.2.2 b q m r o t, cellOf (L0 g.2.2.2 b q m r o) g.2.1 σ0 t)) := by
  have e1 : cRow g (va_up (va_up (va_up (va_up (fun _ => none) 0 (some (q 1))) 1 (some (q 5))) 2 (some (q 9))) 3 (some (q 13))) = cellOf (L0 g.2.2.2 b q m r o) g.2.1 σ0 (1, 0) := by
    rw [up4 (fun _ => rfl)]
    show _ = (Sum.inl (g.2.1 2, 4, .inr (.inr (.inr (.inr (fun j => if j < 4 then some (q (1 + 4 * j)) else none))))) : va_E)
    unfold cRow
    congr 7
    funext j
    by_cases h : j < 4
    · rw [if_pos h, if_pos h]
      have : j = 0 ∨ j = 1 ∨ j = 2 ∨ j = 3 := by omega
      rcases this with rfl | rfl | rfl | rfl <;> rfl
    · rw [if_neg h, if_neg h]
  unfold fsW cmW mdW
  rw [e1]
  rfl
theorem RepX.first {g : Gx} {Pw : Heap → Prop} {b : Nat} {q : Nat → Nat} {m : Nat} {r : Nat → Nat} {o : Nat} {H : Heap} (h : NX g Pw (fsW g b q m r o) H) : RepX g (L0 g.2.2.2 b q m r o) σ0 H := by
  obtain ⟨H0, h1, h2, h3, h4, h5, h6⟩ := h
  rw [fsW_eq] at h5 h6
  have h7 : ∀ t ∈ tgs, va_at g.1 vwCl (L0 g.2.2.2 b q m r o t, cellOf (L0 g.2.2.2 b q m r o) g.2.1 σ0 t) H ∧ H0.size ≤ L0 g.2.2.2 b q m r o t := fun t ht => h5 _ (List.mem_map.mpr ⟨t, ht, rfl⟩)
  rw [List.map_map] at h6
  have inj : ∀ t ∈ tgs, ∀ u ∈ tgs, L0 g.2.2.2 b q m r o t = L0 g.2.2.2 b q m r o u → t = u := fun t ht u hu e => by
    obtain ⟨i, hi⟩ := List.getElem?_of_mem ht
    obtain ⟨j, hj⟩ := List.getElem?_of_mem hu
    have a1 : (tgs.map ((fun x : Nat × va_E => x.1) ∘ fun t => (L0 g.2.2.2 b q m r o t, cellOf (L0 g.2.2.2 b q m r o) g.2.1 σ0 t)))[i]? = some (L0 g.2.2.2 b q m r o t) := by rw [List.getElem?_map, hi]; rfl
    have a2 : (tgs.map ((fun x : Nat × va_E => x.1) ∘ fun t => (L0 g.2.2.2 b q m r o t, cellOf (L0 g.2.2.2 b q m r o) g.2.1 σ0 t)))[j]? = some (L0 g.2.2.2 b q m r o t) := by rw [List.getElem?_map, hj, e]; rfl
    have e3 : i = j := (List.getElem?_inj (List.getElem?_eq_some_iff.mp a1).1 h6).mp (a1.trans a2.symm)
    subst e3
    exact Option.some.inj (hi.symm.trans hj)
  exact ⟨L0 g.2.2.2 b q m r o, fun _ _ => rfl, fun t ht => (h7 t (vld0 ht)).1, fun t u ht hu e => inj t (vld0 ht) u (vld0 hu) e, fun t ht _ => Nat.le_trans h2 (h7 t (vld0 ht)).2, rfl, fun k _ => ⟨Nat.zero_le _, fun x hx => by cases hx⟩⟩
