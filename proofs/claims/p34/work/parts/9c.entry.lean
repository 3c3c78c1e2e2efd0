/-! the law's entry: a class, its rows; the first state -/
section ENT
variable {κ : Kx} {cc : ByteArray} {nL fX lX : Nat} {own : String} {pc : Nat} {st : List AV} {lc : LcT} {Rp : Heap → Prop} {nc ns : Nat} {Pw : Heap → Prop} {ws : va_W}
theorem H_newl (hx : Hx κ cc nL own fX lX) {n : Nat} (hn : n < 65536) (hc : nc + 1 ≤ (kr κ).1) (hs : ns + n ≤ (kr κ).2)
    (d : decode cc pc = .ok (.newarray .long, 2)) (k : ∀ a : Nat, AcH κ (fun H' => ∃ H : Heap, Rp H ∧ H.size = a ∧ va_at (kg κ).1 vwCl (a, .inl ((kg κ).2.1 4, n, .inr (.inl (fun _ => 0)))) H' ∧ ∀ q : Nat, q < H.size → H'[q]? = H[q]?) (nc + 1) (ns + n) (pc + 2) (aq a :: st) lc) : AcH κ Rp nc ns pc (ai (nI n) :: st) lc := by
  obtain ⟨p, l, e, R, s, m, args, below, meth, c, Q, g, L, c0, s0, fc, fs0⟩ := κ
  obtain ⟨⟨hxe, hxb, hxl, hxo, hxw⟩, hxk, hxz, hxc, hxs, hxt, hxf, hxr⟩ := hx
  intro H locs ls h1 h2 h3 h4
  have h31 : n < 2 ^ 31 := Nat.lt_trans hn (by decide)
  refine va_newaK hxe hxb (atype := .long) (hxw _ uz_arrayClass_3_224) rfl d rfl (nI_pos h31) (nI_clamp h31) (by show n * 8 ≤ _; omega) (by rw [hxc]; exact hc) (by rw [hxs]; exact hs) rfl fun H1 cA e1 z1 o1 hAr hNm => ?_
  have k4 : s.vm.findClass ("[" ++ FieldType.long.toString) = some (g.2.1 4) := (h3.1.2 4 _ rfl).2
  have hcA : cA = g.2.1 4 := Option.some.inj (hNm.symm.trans k4)
  subst hcA
  refine k H.size H1 locs ls h1 ⟨H, h2, rfl, ?_, o1⟩ (h3.kept (fun q hq _ => o1 q hq)) ⟨by rw [z1]; exact Nat.le_trans h4.1 (Nat.le_succ _), fun q hq1 hq2 => (o1 q (Nat.lt_of_lt_of_le hq1 h4.1)).trans (h4.2.1 q hq1 hq2), h4.2.2⟩
  show H1[H.size]? = some (vp_cell _ _)
  rw [e1, vp_cell_l]
  rfl
theorem N_newl (hx : Hx κ cc nL own fX lX) {n : Nat} (hn : n < 65536) (hc : nc + 1 ≤ (kr κ).1) (hs : ns + n ≤ (kr κ).2) (d : decode cc pc = .ok (.newarray .long, 2)) (k : ∀ a : Nat, AcH κ (NX (kg κ) Pw (ws ++ [(a, .inl ((kg κ).2.1 4, n, .inr (.inl (fun _ => 0))))])) (nc + 1) (ns + n) (pc + 2) (aq a :: st) lc) : AcH κ (NX (kg κ) Pw ws) nc ns pc (ai (nI n) :: st) lc :=
  H_newl hx hn hc hs d (fun a => AcH.mono (fun H h => by obtain ⟨H0, q1, q2, q3, q4⟩ := h; exact q1.push q2 q3 q4) (k a))
end ENT
def fsW (g : Gx) (b : Nat) (q : Nat → Nat) (r : Nat → Nat) : va_W := ((((((((((cmW g b q ++ [(r 0, .inl (g.2.1 0, 48, .inl (fun _ => 0)))]) ++ [(r 1, .inl (g.2.1 4, 48, .inr (.inl (fun _ => 0))))]) ++ [(r 2, .inl (g.2.1 4, 8, .inr (.inl (fun _ => 0))))]) ++ [(r 3, .inl (g.2.1 4, 48, .inr (.inl (fun _ => 0))))]) ++ [(r 4, .inl (g.2.1 4, 48, .inr (.inl (fun _ => 0))))]) ++ [(r 5, .inl (g.2.1 4, 48, .inr (.inl (fun _ => 0))))]) ++ [(r 6, .inl (g.2.1 0, 48, .inl (fun _ => 0)))]) ++ [(r 7, .inl (g.2.1 0, 48, .inl (fun _ => 0)))]) ++ [(r 8, .inl (g.2.1 0, 12, .inl (fun _ => 0)))]) ++ [(r 9, .inl (g.2.1 0, 8, .inl (fun _ => 0)))])
theorem L_entry {κ : Kx} (hx : Hx κ cL_law 15 RL 17 712) (hAO : va_AO RX0 (ks κ)) (hst : (kl κ).stackTraces = false) (hc : 31 ≤ (kr κ).1) (hs : 460 ≤ (kr κ).2) {bs : Nat} {Rp : Heap → Prop}
    (k : ∀ b q r, AcH κ (NX (kg κ) Rp (fsW (kg κ) b q r)) 31 460 66 [] [some (aq bs), some (aq b), some (aq (r 0)), some (aq (r 1)), some (aq (r 2)), some (aq (r 3)), some (aq (r 4)), some (aq (r 5)), some (aq (r 6)), some (aq (r 7)), some (aq (r 8)), some (aq (r 9)), none, none, none]) : AcH κ Rp 0 0 0 [] [some (aq bs), none, none, none, none, none, none, none, none, none, none, none, none, none, none] := by
  refine N_newc hx in_X2 tyX2 tyX2_ok (ci := 3) rfl ul_L_9 ux_X2 un_X2 (fs := [.null, .null, .null, .null, .int 0, .int 0, .int 0]) (by decide) (by omega) (by omega) dL_law_0 (fun b => ?_)
  refine H_dup hx (Or.inr ⟨_, rfl⟩) dL_law_3 ?_
  refine H_callI (as := []) (rest := [aq b]) (b := b) hx XT_A rfl (c_iCm hst) hAO (fun H h => h) uc_X2_init um_L_204 ui_X2_init un_X2 ⟨rfl, by decide, by decide, rfl⟩ (by simp [wt, wtA, Value.category]) (by decide) (by decide) (by omega) (by omega) dL_law_4 (fun v => ?_)
  refine AcH.pure (P := v = none) (fun hv => ?_) (fun H h => h.1)
  subst hv
  refine AcH.mono (fun H h => h.2) (AcH.ex fun q => ?_)
  refine H_astore_n (i := 1) hx dL_law_7 (by show 1 < 15; decide) ?_
  refine H_bipush (v := nI 48) hx dL_law_8 (by decide) (N_newi hx (by decide) (by omega) (by omega) dL_law_10 (fun r0 => ?_))
  refine H_astore_n (i := 2) hx dL_law_12 (by show 2 < 15; decide) ?_
  refine H_bipush (v := nI 48) hx dL_law_13 (by decide) (N_newl hx (by decide) (by omega) (by omega) dL_law_15 (fun r1 => ?_))
  refine H_astore_n (i := 3) hx dL_law_17 (by show 3 < 15; decide) ?_
  refine H_bipush (v := nI 8) hx dL_law_18 (by decide) (N_newl hx (by decide) (by omega) (by omega) dL_law_20 (fun r2 => ?_))
  refine H_astore (i := 4) hx dL_law_22 (by show 4 < 15; decide) ?_
  refine H_bipush (v := nI 48) hx dL_law_24 (by decide) (N_newl hx (by decide) (by omega) (by omega) dL_law_26 (fun r3 => ?_))
  refine H_astore (i := 5) hx dL_law_28 (by show 5 < 15; decide) ?_
  refine H_bipush (v := nI 48) hx dL_law_30 (by decide) (N_newl hx (by decide) (by omega) (by omega) dL_law_32 (fun r4 => ?_))
  refine H_astore (i := 6) hx dL_law_34 (by show 6 < 15; decide) ?_
  refine H_bipush (v := nI 48) hx dL_law_36 (by decide) (N_newl hx (by decide) (by omega) (by omega) dL_law_38 (fun r5 => ?_))
  refine H_astore (i := 7) hx dL_law_40 (by show 7 < 15; decide) ?_
  refine H_bipush (v := nI 48) hx dL_law_42 (by decide) (N_newi hx (by decide) (by omega) (by omega) dL_law_44 (fun r6 => ?_))
  refine H_astore (i := 8) hx dL_law_46 (by show 8 < 15; decide) ?_
  refine H_bipush (v := nI 48) hx dL_law_48 (by decide) (N_newi hx (by decide) (by omega) (by omega) dL_law_50 (fun r7 => ?_))
  refine H_astore (i := 9) hx dL_law_52 (by show 9 < 15; decide) ?_
  refine H_bipush (v := nI 12) hx dL_law_54 (by decide) (N_newi hx (by decide) (by omega) (by omega) dL_law_56 (fun r8 => ?_))
  refine H_astore (i := 10) hx dL_law_58 (by show 10 < 15; decide) ?_
  refine H_bipush (v := nI 8) hx dL_law_60 (by decide) (N_newi hx (by decide) (by omega) (by omega) dL_law_62 (fun r9 => ?_))
  refine H_astore (i := 11) hx dL_law_64 (by show 11 < 15; decide) ?_
  exact k b q (fun n => [r0, r1, r2, r3, r4, r5, r6, r7, r8, r9].getD n 0)
/-- the first state -/
def σ0 : Sg := (fun k o _ => if k = 10 then nI o else if k = 13 ∨ k = 14 then 1 else 0, fun _ => [], fun k => if k = 1 then 31 else if k = 2 then 460 else 0, fun _ _ => 0)
def L0 (d b : Nat) (q : Nat → Nat) (r : Nat → Nat) : Tg → Nat := fun t => match t.1 with
  | 0 => b
  | 1 => q 0
  | 2 => q (1 + 4 * t.2)
  | 3 => q (2 + 4 * t.2)
  | 4 => if t.2 < 3 then q (17 + t.2) else if t.2 < 7 then q (3 + 4 * (t.2 - 3)) else q (4 + 4 * (t.2 - 7))
  | 12 => if t.2 = 0 then r 0 else r (5 + t.2)
  | 13 => d
  | 14 => r (1 + t.2)
  | _ => 0
def tgs : List Tg := [(0, 0), (1, 0), (2, 0), (3, 0), (4, 3), (4, 7), (2, 1), (3, 1), (4, 4), (4, 8), (2, 2), (3, 2), (4, 5), (4, 9), (2, 3), (3, 3), (4, 6), (4, 10), (4, 0), (4, 1), (4, 2), (12, 0), (14, 0), (14, 1), (14, 2), (14, 3), (14, 4), (12, 1), (12, 2), (12, 3), (12, 4)]
theorem vld0 {t : Tg} (h : vld σ0 t = true) : t ∈ tgs := by
  obtain ⟨tk, i⟩ := t
  have hb : tk < 15 ∧ i < 17 := by
    unfold vld at h
    dsimp only at h
    split at h <;> simp [σ0] at h <;> omega
  have h9 := List.all_eq_true.mp (List.all_eq_true.mp (by decide +kernel : ((List.range 15).all fun tk => (List.range 17).all fun i => !vld σ0 (tk, i) || tgs.contains (tk, i)) = true) tk (List.mem_range.mpr hb.1)) i (List.mem_range.mpr hb.2)
  rw [h] at h9
  simpa using h9
theorem up4 {f : Nat → Option Nat} {a b c d : Nat} (hf : ∀ j, f j = none) : va_up (va_up (va_up (va_up f 0 (some a)) 1 (some b)) 2 (some c)) 3 (some d) = fun j => if j < 4 then some (if j = 0 then a else if j = 1 then b else if j = 2 then c else d) else none := by
  funext j
  unfold va_up
  by_cases h0 : j = 0
  · subst h0; rfl
  · by_cases h1 : j = 1
    · subst h1; rfl
    · by_cases h2 : j = 2
      · subst h2; rfl
      · by_cases h3 : j = 3
        · subst h3; rfl
        · simp [h0, h1, h2, h3, hf, show ¬ j < 4 by omega]
theorem fsW_eq (g : Gx) (b : Nat) (q : Nat → Nat) (r : Nat → Nat) : fsW g b q r = tgs.map (fun t => (L0 g.2.2.2 b q r t, cellOf (L0 g.2.2.2 b q r) g.2.1 σ0 t)) := by
  have e1 : cRow g (va_up (va_up (va_up (va_up (fun _ => none) 0 (some (q 1))) 1 (some (q 5))) 2 (some (q 9))) 3 (some (q 13))) = cellOf (L0 g.2.2.2 b q r) g.2.1 σ0 (1, 0) := by
    rw [up4 (fun _ => rfl)]
    show _ = (Sum.inl (g.2.1 2, 4, .inr (.inr (.inr (.inr (fun j => if j < 4 then some (q (1 + 4 * j)) else none))))) : va_E)
    unfold cRow
    congr 7
    funext j
    by_cases h : j < 4
    · rw [if_pos h, if_pos h]
      have : j = 0 ∨ j = 1 ∨ j = 2 ∨ j = 3 := by omega
      rcases this with rfl | rfl | rfl | rfl <;> rfl
    · rw [if_neg h, if_neg h]
  unfold fsW cmW
  rw [e1]
  rfl
theorem RepX.first {g : Gx} {Pw : Heap → Prop} {b : Nat} {q : Nat → Nat} {r : Nat → Nat} {H : Heap} (h : NX g Pw (fsW g b q r) H) : RepX g (L0 g.2.2.2 b q r) σ0 H := by
  obtain ⟨H0, h1, h2, h3, h4, h5, h6⟩ := h
  rw [fsW_eq] at h5 h6
  have h7 : ∀ t ∈ tgs, va_at g.1 vwCl (L0 g.2.2.2 b q r t, cellOf (L0 g.2.2.2 b q r) g.2.1 σ0 t) H ∧ H0.size ≤ L0 g.2.2.2 b q r t := fun t ht => h5 _ (List.mem_map.mpr ⟨t, ht, rfl⟩)
  rw [List.map_map] at h6
  have inj : ∀ t ∈ tgs, ∀ u ∈ tgs, L0 g.2.2.2 b q r t = L0 g.2.2.2 b q r u → t = u := fun t ht u hu e => by
    obtain ⟨i, hi⟩ := List.getElem?_of_mem ht
    obtain ⟨j, hj⟩ := List.getElem?_of_mem hu
    have a1 : (tgs.map ((fun x : Nat × va_E => x.1) ∘ fun t => (L0 g.2.2.2 b q r t, cellOf (L0 g.2.2.2 b q r) g.2.1 σ0 t)))[i]? = some (L0 g.2.2.2 b q r t) := by rw [List.getElem?_map, hi]; rfl
    have a2 : (tgs.map ((fun x : Nat × va_E => x.1) ∘ fun t => (L0 g.2.2.2 b q r t, cellOf (L0 g.2.2.2 b q r) g.2.1 σ0 t)))[j]? = some (L0 g.2.2.2 b q r t) := by rw [List.getElem?_map, hj, e]; rfl
    have e3 : i = j := (List.getElem?_inj (List.getElem?_eq_some_iff.mp a1).1 h6).mp (a1.trans a2.symm)
    subst e3
    exact Option.some.inj (hi.symm.trans hj)
  exact ⟨L0 g.2.2.2 b q r, fun _ _ => rfl, fun t ht => (h7 t (vld0 ht)).1, fun t u ht hu e => inj t (vld0 ht) u (vld0 hu) e, fun t ht _ => Nat.le_trans h2 (h7 t (vld0 ht)).2, rfl, fun k _ => ⟨Nat.zero_le _, fun x hx => by cases hx⟩⟩
-- .. as the class and the law have it
section Z0
variable {k i j m : Nat}
theorem z_13 : σ0.1 13 i j = 1 := rfl
theorem z_14 : σ0.1 14 i j = 1 := rfl
theorem z_L : σ0.2.1 k = [] := rfl
theorem z_N : σ0.2.2.1 (10 + k) = 0 := by
  show (if 10 + k = 1 then 31 else if 10 + k = 2 then 460 else 0) = 0
  rw [if_neg (by omega), if_neg (by omega)]
theorem z_tk : tk σ0 = 0 := rfl
theorem z_W : WF σ0 := by
  refine ⟨by decide, rfl, fun i _ => rfl, fun m hm => absurd hm (Nat.not_lt_zero _), fun m hm => absurd hm (Nat.not_lt_zero _), ⟨by rw [z_tk]; rfl, by decide⟩, fun k hk => ⟨by rw [z_L]; exact List.nodup_nil, (fun x hx => by rw [z_L] at hx; cases hx), by rw [z_N]; decide⟩, fun i hi => ⟨Or.inr rfl, Or.inr rfl⟩, fun m hm => absurd hm (Nat.not_lt_zero _)⟩
theorem z_CI : CI True σ0 0 False 0 0 := by
  have no : ∀ m, ¬ m < σ0.2.2.1 0 := fun m hm => absurd hm (Nat.not_lt_zero _)
  have nl : ∀ k x, ¬ x ∈ σ0.2.1 k := fun k x hx => by rw [z_L] at hx; cases hx
  have e0 : (0 : Int32) = nI 0 := rfl
  refine ⟨⟨⟨z_W, fun a ha => absurd ha (no a), fun a b ha => absurd ha (no a), ⟨fun b k hb hk => ?_, fun b p hb hp => ?_, fun m hm => absurd hm (no m), fun b m k hb hm => absurd hm (nl _ _)⟩, fun _ a ha => absurd ha (no a), fun _ a ha => absurd ha (nl _ _), fun a ha => absurd ha (nl _ _)⟩, fun _ _ => ?_, fun _ b hb _ => ⟨0, Nat.zero_le _, rfl⟩, fun b hb a ha => absurd ha (nl _ _), fun b hb _ m hm => absurd hm (no m)⟩, fun b hb _ => ?_, fun a ha => absurd ha (no a), fun b hb _ a ha => absurd ha (no a), fun b hb _ a ha => absurd ha (no a), ⟨⟨fun a j ha => absurd ha (no a), fun b hb => ⟨0, Nat.le_refl _, rfl⟩, ⟨0, Nat.le_refl _, rfl⟩⟩, 0, Nat.le_refl _, rfl, fun a ha => absurd ha (no a), by rw [z_L]; exact List.Pairwise.nil⟩, fun b hb _ => ?_, ?_⟩
  · rw [z_L]; rfl
  · rw [z_L] at hp; exact absurd hp (Nat.not_lt_zero _)
  · rw [z_L, z_tk]; rfl
  · rw [z_14]; decide
  · rw [rdyF]
    intro a ha
    exact absurd ha (nl _ _)
  · exact fI_iff.mpr ⟨0, by decide, rfl⟩
theorem z_RY : RY σ0 σ0 0 := by
  have no : ∀ m, ¬ m < σ0.2.2.1 0 := fun m hm => absurd hm (Nat.not_lt_zero _)
  have hw : ∀ m i, i < 4 → wN σ0 m i = 0 := fun m i hi => by
    have e : σ0.2.2.2 3 m = 0 := rfl
    unfold wN
    rw [e, atz_0 hi]
    rfl
  refine ⟨fun m i hm => absurd hm (no m), fun m hm => absurd hm (no m), fun m hm => absurd hm (no m), fun i hi => rfl, fun i hi _ _ => rfl, fun i hi _ => rfl, ⟨rfl, ?_, ?_, rfl, rfl, rfl, rfl, rfl⟩, fun m hm => absurd hm (no m), fun i hi k hk => ?_, fun i hi k hk => ?_, fun m i hm => absurd hm (no m), fun m i hm => absurd hm (no m), fun m i hm hi => ?_, fun m i hm => absurd hm (no m), fun i hi => ?_⟩
  · have : set4 (fun i => decide (σ0.1 13 i 0 = 0)) = 0 := by decide
    rw [this]; rfl
  · have : set4 (fun i => decide (σ0.1 14 i 0 = 0)) = 0 := by decide
    rw [this]; rfl
  · have e : σ0.2.2.2 1 i = 0 := rfl
    rw [e, bJ_0, z_L]
    simp
  · have e : σ0.2.2.2 1 (4 + i) = 0 := rfl
    rw [e, bJ_0]
    exact ⟨(fun q => by cases q), fun q => absurd q.1 (no k)⟩
  · have e : σ0.2.2.2 3 m = 0 := rfl
    rw [hw m i hi, e, atz_0 hi]
    exact ⟨rfl, Nat.le_refl _, fun _ => rfl⟩
  · rw [z_L]; exact List.Pairwise.nil
theorem z_RK : RK 0 0 σ0 := ⟨z_RY, z_CI, fun m j hm => absurd hm (Nat.not_lt_zero _)⟩
theorem z_Jv : Jv σ0 0 (gx σ0 12) := ⟨0, 0, z_RK.xx 12, Nat.zero_le _, Nat.zero_le _, (cl_gx 12).mono (by omega) (by omega)⟩
end Z0
