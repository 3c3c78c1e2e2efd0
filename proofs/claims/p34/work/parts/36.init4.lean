/-! constructors: of the class -/
theorem XT_A : XT (fun U => va_AO RX0 U) := fun s U h hW => h.moved hW.alike
section INC
variable {κ : Kx} {cc : ByteArray} {nL fX lX : Nat} {own : String} {pc : Nat} {st : List AV} {lc : LcT} {Rp Rq : Heap → Prop} {nc ns : Nat}
theorem H_anewM (hx : Hx κ cc nL own fX lX) (hAO : va_AO RX0 (ks κ)) {idx n : Nat} (hl : Cond.classLink own idx RX0 ∈ UW) (hn : n < 65536) (hc : nc + 1 ≤ (kr κ).1) (hs : ns + n ≤ (kr κ).2)
    (d : decode cc pc = .ok (.anewarray idx, 3)) (k : ∀ a : Nat, AcH κ (fun H' => ∃ H : Heap, Rp H ∧ H.size = a ∧ va_at (kg κ).1 vwCl (a, .inl ((kg κ).2.1 2, n, .inr (.inr (.inr (.inr (fun _ => none)))))) H' ∧ ∀ q : Nat, q < H.size → H'[q]? = H[q]?) (nc + 1) (ns + n) (pc + 3) (aq a :: st) lc) : AcH κ Rp nc ns pc (ai (nI n) :: st) lc := by
  obtain ⟨p, l, e, R, s, m, args, below, meth, c, Q, g, L, c0, s0, fc, fs0⟩ := κ
  obtain ⟨⟨hxe, hxb, hxl, hxo, hxw⟩, hxk, hxz, hxc, hxs, hxt, hxf, hxr⟩ := hx
  intro H locs ls h1 h2 h3 h4
  have hcl : (nI n).toNatClampNeg = n := nI_clamp (Nat.lt_trans hn (by decide))
  refine W.anew hxe hxb hxo (hxw _ hl) (va_AO.use hAO) rfl d rfl (nI_pos (Nat.lt_trans hn (by decide))) (by rw [hcl]; omega) (by rw [hxc]; exact hc) (by rw [hcl, hxs]; exact hs) fun cA kA comp f1 f2 f3 f4 => ?_
  obtain ⟨kA3, comp3, k1, k2, k3, k4⟩ := (h3.1.2 2 _ rfl).2
  have hcA : cA = g.2.1 2 := Option.some.inj (f1.symm.trans k4)
  subst hcA
  rw [hcl]
  have o1 : ∀ q : Nat, q < H.size → (H.push ({ cls := g.2.1 2, slots := Array.replicate n .null, vm := .none } : Cell))[q]? = H[q]? := fun q hq => by rw [Array.getElem?_push, if_neg (Nat.ne_of_lt hq)]
  refine k H.size _ locs ls h1 ⟨H, h2, rfl, ?_, o1⟩ (h3.kept (fun q hq _ => o1 q hq)) ⟨by rw [Array.size_push]; exact Nat.le_trans h4.1 (Nat.le_succ _), fun q hq1 hq2 => (o1 q (Nat.lt_of_lt_of_le hq1 h4.1)).trans (h4.2.1 q hq1 hq2), h4.2.2⟩
  show (H.push _)[H.size]? = some (vp_cell _ _)
  rw [Array.getElem?_push_size, vp_cell_q, ← arrV_new]
  rfl
theorem H_aastM (hx : Hx κ cc nL own fX lX) {a n v : Nat} {f : Nat → Option Nat} {i : Int32} (hat : ∀ H, Rp H → va_at (kg κ).1 vwCl (a, .inl ((kg κ).2.1 2, n, .inr (.inr (.inr (.inr f))))) H) (hvat : ∀ H, Rp H → ∃ vs, va_at (kg κ).1 vwCl (v, .inr (1, vs)) H) (hin : vp_in i n) (hg : gA (kg κ) a)
    (hput : ∀ H H', Rp H → va_at (kg κ).1 vwCl (a, .inl ((kg κ).2.1 2, n, .inr (.inr (.inr (.inr (va_up f i.toNatClampNeg (some v))))))) H' → (∀ q : Nat, q ≠ a → H'[q]? = H[q]?) → Rq H') (d : decode cc pc = .ok (.aastore, 1)) (k : AcH κ Rq nc ns (pc + 1) st lc) : AcH κ Rp nc ns pc (aq v :: ai i :: aq a :: st) lc := by
  obtain ⟨p, l, e, R, s, m, args, below, meth, c, Q, g, L, c0, s0, fc, fs0⟩ := κ
  obtain ⟨⟨hxe, hxb, hxl, hxo, hxw⟩, hxk, hxz, hxc, hxs, hxt, hxf, hxr⟩ := hx
  intro H locs ls h1 h2 h3 h4
  have hlt : i.toNatClampNeg < n := Nat.not_le.mp fun q => hin (Or.inr q)
  have h0 : ¬ i < 0 := fun q => hin (Or.inl q)
  obtain ⟨vs, r', hr', cellV, g1, g2, g3, -⟩ := hvat H h2
  have hcls := (h3.1.1 1 _ rfl).2
  obtain ⟨kA, comp, k1, k2, k3, -⟩ := (h3.1.2 2 _ rfl).2
  have hcomp : comp = g.1.1 1 := Option.some.inj (k3.symm.trans hcls.1)
  subst hcomp
  obtain ⟨kC, hkC, -⟩ := hcls.2
  refine W.aast hxe hxb (hat H h2) (fun q h => by cases h) (fun h => by cases h) k1 k2 rfl hkC ⟨h0, by show _ < (arrV _ _ _).slots.size; rw [arrV_size]; exact hlt⟩ g1 (fun q h => by rw [g3] at h; cases h) (by rw [g2]; exact hkC) (by rw [g2]; exact va_assign hcls) rfl rfl d fun H1 z1 z oq => ?_
  refine k H1 _ ls h1 (hput H H1 h2 ?_ oq) (h3.kept (fun q _ ha => oq q (fun z => ha (by rw [z]; exact hg)))) (h4.put z oq hg)
  show H1[a]? = some (vp_cell _ _)
  rw [z1, vp_cell_q, vp_cell_q, arrV_store]
  congr 2
  funext q
  by_cases hq : q = i.toNatClampNeg
  · subst hq
    simp [updV, va_up, va_rf]
  · simp [updV, va_up, hq]
end INC
abbrev cRow (g : Gx) (f : Nat → Option Nat) : va_E := .inl (g.2.1 2, 4, .inr (.inr (.inr (.inr f))))
/-- one member more -/
theorem ini_step {κ : Kx} {Pw : Heap → Prop} {ws : va_W} {b mb i nc ns : Nat} {f : Nat → Option Nat} (hx : Hx κ cX2_init 2 RX2 5 101) (hst : (kl κ).stackTraces = false) (hi : i < 4) (w0 : ws[0]? = some (b, .inr (3, [.ref mb, .null, .null, .null, .int 0, .int 0, .int 0]))) (w1 : ws[1]? = some (mb, cRow (kg κ) f)) (hc : nc + 4 ≤ (kr κ).1) (hs : ns + 19 ≤ (kr κ).2)
    (k : ∀ m c r h, AcH κ (NX (kg κ) Pw ((ws ++ [(m, cMem (nI i) c r h), (c, cI4 (kg κ) (fun _ => 0)), (r, cAL (kg κ).2.2.2), (h, cAL (kg κ).2.2.2)]).set 1 (mb, cRow (kg κ) (va_up f i (some m))))) (nc + 4) (ns + 19) 14 [] [some (aq b), some (ai (nI (i + 1)))]) : AcH κ (NX (kg κ) Pw ws) nc ns 14 [] [some (aq b), some (ai (nI i))] := by
  have z31 : i < 2 ^ 31 := by omega
  have hl1 := (List.getElem?_eq_some_iff.mp w1).1
  refine H_iload_n (i := 1) hx dX2_init_14 rfl (H_iconst (v := nI 4) hx dX2_init_15 (by decide) (H_icmp_ge (tgt := 39) hx dX2_init_16 (by decide) (fun q => absurd q (nI_ge hi (by decide))) (fun _ => ?_)))
  refine H_aload_n (i := 0) (t := b) hx dX2_init_19 rfl (N_get hx 0 w0 in_X2 (C := RX2) (ref := RX2) (T := TX2) (N := 7) rfl (slot := 0) (Or.inl rfl) (by decide) uf_X2_11 (v := .ref mb) rfl dX2_init_20 (H_iload_n (i := 1) hx dX2_init_23 rfl ?_))
  refine N_newc hx in_X0 tyX0 tyX0_ok (ci := 1) rfl ul_X2_9 ux_X0 un_X0 (fs := [.int 0, .null, .null, .null, .int 0, .int 0, .int 0, .int 0, .int 0]) (by decide) (by omega) (by omega) dX2_init_24 (fun m => ?_)
  refine H_dup hx (Or.inr ⟨_, rfl⟩) dX2_init_27 (H_iload_n (i := 1) hx dX2_init_28 rfl ?_)
  refine H_callI (as := [.int (nI i)]) (rest := [aq m, ai (nI i), aq mb]) (b := m) hx XT_T rfl (c_iMem hst) trivial (fun H h => h) uc_X0_init um_X2_15 ui_X0_init un_X0 ⟨rfl, by decide, by decide, rfl⟩ (by simp [wt, wtA, Value.category]) (by decide) (by decide) (by omega) (by omega) dX2_init_29 (fun v => ?_)
  refine AcH.pure (P := v = none) (fun hv => ?_) (fun H h => h.1)
  subst hv
  refine AcH.mono (fun H h => h.2) (AcH.ex fun c => AcH.ex fun r => AcH.ex fun h => ?_)
  refine AcH.mono (fun H h9 => h9.flat) ?_
  have w1' : (ws ++ [(m, cMem (nI i) c r h), (c, cI4 (kg κ) (fun _ => 0)), (r, cAL (kg κ).2.2.2), (h, cAL (kg κ).2.2.2)])[1]? = some (mb, cRow (kg κ) f) := by rw [List.getElem?_append_left hl1]; exact w1
  have wm : (ws ++ [(m, cMem (nI i) c r h), (c, cI4 (kg κ) (fun _ => 0)), (r, cAL (kg κ).2.2.2), (h, cAL (kg κ).2.2.2)])[ws.length]? = some (m, cMem (nI i) c r h) := by rw [List.getElem?_append_right (Nat.le_refl _), Nat.sub_self]; rfl
  refine AcH.pure (P := gA (kg κ) mb) (fun hg => ?_) (fun H h9 => h9.gA w1')
  refine H_aastM (Rq := NX (kg κ) Pw ((ws ++ [(m, cMem (nI i) c r h), (c, cI4 (kg κ) (fun _ => 0)), (r, cAL (kg κ).2.2.2), (h, cAL (kg κ).2.2.2)]).set 1 (mb, cRow (kg κ) (va_up f i (some m))))) hx (fun H h9 => h9.at w1') (fun H h9 => ⟨_, h9.at wm⟩) (vp_in_nI hi (by decide)) hg (fun H H' h9 h4 hq => by rw [nI_clamp z31] at h4; exact h9.put w1' h4 hq) dX2_init_32 ?_
  exact H_iinc (i := 1) hx dX2_init_33 rfl (nI_1 i) (H_goto (tgt := 14) hx dX2_init_36 (by decide) (k m c r h))
/-- what a new Causewaymail consists of -/
def cmW (g : Gx) (b : Nat) (q : Nat → Nat) : va_W := [(b, .inr (3, [.ref (q 0), .ref (q 17), .ref (q 18), .ref (q 19), .int 0, .int 0, .int 0])), (q 0, cRow g (va_up (va_up (va_up (va_up (fun _ => none) 0 (some (q 1))) 1 (some (q 5))) 2 (some (q 9))) 3 (some (q 13)))),
  (q 1, cMem (nI 0) (q 2) (q 3) (q 4)), (q 2, cI4 g (fun _ => 0)), (q 3, cAL g.2.2.2), (q 4, cAL g.2.2.2), (q 5, cMem (nI 1) (q 6) (q 7) (q 8)), (q 6, cI4 g (fun _ => 0)), (q 7, cAL g.2.2.2), (q 8, cAL g.2.2.2),
  (q 9, cMem (nI 2) (q 10) (q 11) (q 12)), (q 10, cI4 g (fun _ => 0)), (q 11, cAL g.2.2.2), (q 12, cAL g.2.2.2), (q 13, cMem (nI 3) (q 14) (q 15) (q 16)), (q 14, cI4 g (fun _ => 0)), (q 15, cAL g.2.2.2), (q 16, cAL g.2.2.2), (q 17, cAL g.2.2.2), (q 18, cAL g.2.2.2), (q 19, cAL g.2.2.2)]
theorem c_iCm {l : Launch} {g : Gx} {Pw : Heap → Prop} {b : Nat} (hl : l.stackTraces = false) : CtH (fun U => va_AO RX0 U) l g yX2_init cX2_init 2 none 5 101 20 89 [.ref b] (NX g Pw [(b, .inr (3, [.null, .null, .null, .null, .int 0, .int 0, .int 0]))]) (fun v H => v = none ∧ ∃ q : Nat → Nat, NX g Pw (cmW g b q) H) := by
  refine CtH.ofN (by decide) hl (by simp [Value.category]) (by simp) (fun κ h1 h2 hAO hx hr hkk hl9 hnm => ?_)
  subst h1
  subst hl9
  refine H_aload_n (i := 0) (t := b) hx dX2_init_0 rfl (H_objInit (v := .null) hx rfl um_X2_1 ui_java_lang_Object__init____V uc_java_lang_Object__init____V (by decide) (by decide) dX2_init_1 ?_)
  refine H_aload_n (i := 0) (t := b) hx dX2_init_4 rfl (H_iconst (v := nI 4) hx dX2_init_5 (by decide) (H_anewM hx hAO ul_X2_9 (by decide) (by rw [h2]; decide) (by rw [h2]; decide) dX2_init_6 (fun mb => ?_)))
  refine AcH.mono (Rq := NX (kg κ) Pw [(b, .inr (3, [.null, .null, .null, .null, .int 0, .int 0, .int 0])), (mb, cRow (kg κ) (fun _ => none))]) (fun H h => by obtain ⟨H0, q1, q2, q3, q4⟩ := h; exact q1.push q2 q3 q4) ?_
  refine N_putF hx hnm 0 rfl in_X2 (C := RX2) (T := TX2) (N := 7) tyX2 tyX2_ok nmX2 rfl (slot := 0) rfl (by decide) uf_X2_11 rfl (ty := .array (.object RX0)) rfl rfl rfl (by simp) dX2_init_9 ?_
  refine H_iconst (v := nI 0) hx dX2_init_12 (by decide) (H_istore_n (i := 1) hx dX2_init_13 (by show 1 < 2; decide) ?_)
  refine ini_step (i := 0) hx hl (by decide) rfl rfl (by rw [h2]; decide) (by rw [h2]; decide) (fun m0 c0 r0 h0 => ?_)
  refine ini_step (i := 1) hx hl (by decide) rfl rfl (by rw [h2]; decide) (by rw [h2]; decide) (fun m1 c1 r1 h1 => ?_)
  refine ini_step (i := 2) hx hl (by decide) rfl rfl (by rw [h2]; decide) (by rw [h2]; decide) (fun m2 c2 r2 h2' => ?_)
  refine ini_step (i := 3) hx hl (by decide) rfl rfl (by rw [h2]; decide) (by rw [h2]; decide) (fun m3 c3 r3 h3 => ?_)
  refine H_iload_n (i := 1) hx dX2_init_14 rfl (H_iconst (v := nI 4) hx dX2_init_15 (by decide) (H_icmp_ge (tgt := 39) hx dX2_init_16 (by decide) (fun _ => ?_) (fun q => absurd (by decide) q)))
  refine H_aload_n (i := 0) (t := b) hx dX2_init_39 rfl (N_list hx rfl ul_X2_18 um_X2_20 (by simp [wt, wtA, Value.category]) (by decide) (by decide) hl (by rw [h2]; decide) (by rw [h2]; decide) dX2_init_40 dX2_init_43 dX2_init_44 (fun s => ?_))
  refine N_putF hx hnm 0 rfl in_X2 (C := RX2) (T := TX2) (N := 7) tyX2 tyX2_ok nmX2 rfl (slot := 1) rfl (by decide) uf_X2_21 rfl (ty := .object "java/util/ArrayList") rfl rfl rfl (by simp) dX2_init_47 ?_
  refine H_aload_n (i := 0) (t := b) hx dX2_init_50 rfl (N_list hx rfl ul_X2_18 um_X2_20 (by simp [wt, wtA, Value.category]) (by decide) (by decide) hl (by rw [h2]; decide) (by rw [h2]; decide) dX2_init_51 dX2_init_54 dX2_init_55 (fun n => ?_))
  refine N_putF hx hnm 0 rfl in_X2 (C := RX2) (T := TX2) (N := 7) tyX2 tyX2_ok nmX2 rfl (slot := 2) rfl (by decide) uf_X2_25 rfl (ty := .object "java/util/ArrayList") rfl rfl rfl (by simp) dX2_init_58 ?_
  refine H_aload_n (i := 0) (t := b) hx dX2_init_61 rfl (N_list hx rfl ul_X2_18 um_X2_20 (by simp [wt, wtA, Value.category]) (by decide) (by decide) hl (by rw [h2]; decide) (by rw [h2]; decide) dX2_init_62 dX2_init_65 dX2_init_66 (fun a => ?_))
  refine N_putF hx hnm 0 rfl in_X2 (C := RX2) (T := TX2) (N := 7) tyX2 tyX2_ok nmX2 rfl (slot := 3) rfl (by decide) uf_X2_28 rfl (ty := .object "java/util/ArrayList") rfl rfl rfl (by simp) dX2_init_69 ?_
  exact H_vret hx hr dX2_init_72 hkk (by rw [h2]; decide) (by rw [h2]; decide) (fun H h9 => ⟨rfl, fun n' => [mb, m0, c0, r0, h0, m1, c1, r1, h1, m2, c2, r2, h2', m3, c3, r3, h3, s, n, a].getD n' 0, h9⟩)
