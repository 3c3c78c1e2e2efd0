/-! memory and calls over an arbitrary heap predicate -/
section HMEM
variable {κ : Kx} {cc : ByteArray} {nL fX lX : Nat} {own : String} {pc : Nat} {st : List AV} {lc : LcT} {Rp Rq : Heap → Prop} {nc ns : Nat}
theorem H_acmp_eq (hx : Hx κ cc nL own fX lX) {x y : Nat} {off : Int} {tgt : Nat} (d : decode cc pc = .ok (.if_acmp .eq off, 3)) (ht : (pc : Int) + off = (tgt : Int)) (kt : x = y → AcH κ Rp nc ns tgt st lc) (kf : ¬ x = y → AcH κ Rp nc ns (pc + 3) st lc) : AcH κ Rp nc ns pc (aq y :: aq x :: st) lc := by
  obtain ⟨p, l, e, R, s, m, args, below, meth, c, Q, g, L, c0, s0, fc, fs⟩ := κ
  obtain ⟨⟨hxe, hxb, hxl, hxo, hxw⟩, hxk, hxz, hxc, hxs, hxt, hxf, hxr⟩ := hx
  intro H locs ls h1 h2 h3 h4
  exact lv_acmp_eq hxe hxb (rx := some x) (ry := some y) d ht (fun q => kt (Option.some.inj q) H locs ls h1 h2 h3 h4) (fun q => kf (fun z => q (by rw [z])) H locs ls h1 h2 h3 h4)
theorem H_acmp_ne (hx : Hx κ cc nL own fX lX) {x y : Nat} {off : Int} {tgt : Nat} (d : decode cc pc = .ok (.if_acmp .ne off, 3)) (ht : (pc : Int) + off = (tgt : Int)) (kt : ¬ x = y → AcH κ Rp nc ns tgt st lc) (kf : x = y → AcH κ Rp nc ns (pc + 3) st lc) : AcH κ Rp nc ns pc (aq y :: aq x :: st) lc := by
  obtain ⟨p, l, e, R, s, m, args, below, meth, c, Q, g, L, c0, s0, fc, fs⟩ := κ
  obtain ⟨⟨hxe, hxb, hxl, hxo, hxw⟩, hxk, hxz, hxc, hxs, hxt, hxf, hxr⟩ := hx
  intro H locs ls h1 h2 h3 h4
  exact lv_acmp_ne hxe hxb (rx := some x) (ry := some y) d ht (fun q => kt (fun z => q (by rw [z])) H locs ls h1 h2 h3 h4) (fun q => kf (Option.some.inj q) H locs ls h1 h2 h3 h4)
theorem H_ishr (hx : Hx κ cc nL own fX lX) {x y : Int32} (d : decode cc pc = .ok (.ishr, 1)) (k : AcH κ Rp nc ns (pc + 1) (ai (x >>> (y &&& 31)) :: st) lc) : AcH κ Rp nc ns pc (ai y :: ai x :: st) lc := by
  obtain ⟨p, l, e, R, s, m, args, below, meth, c, Q, g, L, c0, s0, fc, fs⟩ := κ
  obtain ⟨⟨hxe, hxb, hxl, hxo, hxw⟩, hxk, hxz, hxc, hxs, hxt, hxf, hxr⟩ := hx
  intro H locs ls h1 h2 h3 h4
  exact lv_ishr hxe hxb d (k H locs ls h1 h2 h3 h4)
theorem wtA_cat {v : AV} (h : wtA v = 1) (L : Tg → Nat) : (cv L v).category = 1 := by
  cases v with
  | inl v => exact h
  | inr t => rfl
theorem H_dup_x1 (hx : Hx κ cc nL own fX lX) {v1 v2 : AV} (w1 : wtA v1 = 1) (w2 : wtA v2 = 1) (d : decode cc pc = .ok (.dup_x1, 1)) (k : AcH κ Rp nc ns (pc + 1) (v1 :: v2 :: v1 :: st) lc) : AcH κ Rp nc ns pc (v1 :: v2 :: st) lc := by
  obtain ⟨p, l, e, R, s, m, args, below, meth, c, Q, g, L, c0, s0, fc, fs⟩ := κ
  obtain ⟨⟨hxe, hxb, hxl, hxo, hxw⟩, hxk, hxz, hxc, hxs, hxt, hxf, hxr⟩ := hx
  intro H locs ls h1 h2 h3 h4
  exact lv_dup_x1 hxe hxb d (wtA_cat w1 L) (wtA_cat w2 L) (k H locs ls h1 h2 h3 h4)
theorem H_getf (hx : Hx κ cc nL own fX lX) {b ci slot idx : Nat} {C ref : String} {T : u_T} {N : Nat} {fs : List Value} {v : Value} (hat : ∀ H, Rp H → va_at (kg κ).1 vwCl (b, .inr (ci, fs)) H) (hin : ∀ w ∈ u_ws C T N, w ∈ UW) (hcl : vwCl[ci]? = some (C, T, N)) (hr : (T slot).1 = ref ∨ Cond.sameField ref (T slot).1 (T slot).2.1 (T slot).2.2.1 ∈ UW) (hk : slot < N) (hl : Cond.fieldLink own idx ref (T slot).2.1 (T slot).2.2.1 ∈ UW) (hv : fs[slot]? = some v) (d : decode cc pc = .ok (.getfield idx, 3)) (k : AcH κ Rp nc ns (pc + 3) (.inl v :: st) lc) : AcH κ Rp nc ns pc (aq b :: st) lc := by
  obtain ⟨p, l, e, R, s, m, args, below, meth, c, Q, g, L, c0, s0, fc, fs0⟩ := κ
  obtain ⟨⟨hxe, hxb, hxl, hxo, hxw⟩, hxk, hxz, hxc, hxs, hxt, hxf, hxr⟩ := hx
  intro H locs ls h1 h2 h3 h4
  have hsame : ∀ x, s.fieldFound? (T slot).1 (T slot).2.1 (T slot).2.2.1 = some x → s.fieldFound? ref (T slot).2.1 (T slot).2.2.1 = some x := fun x h => by
    rcases hr with hr | hr
    · rw [hr] at h
      exact h
    · exact u_same (hxw _ hr) x h
  exact va_get (a := b) (own := own) (ref := ref) hxe hxb hxw hin hxo h3.1 (vP1 (hat H h2)) 0 rfl hcl slot hk (hxw _ hl) hsame (v := v) hv d (k H locs ls h1 h2 h3 h4)
theorem H_putf (hx : Hx κ cc nL own fX lX) {b ci slot idx : Nat} {C ref : String} {T : u_T} {N : Nat} {fs : List Value} {x : Value} {ty : FieldType} (hat : ∀ H, Rp H → va_at (kg κ).1 vwCl (b, .inr (ci, fs)) H) (hin : ∀ w ∈ u_ws C T N, w ∈ UW) (ty0 : Nat → FieldType) (hty : ∀ k, k < N → parseFieldDescriptor (T k).2.2.1 = some (ty0 k)) (hnm : ∀ a, a < N → ∀ b, b < N → a ≠ b → (T a).2.1 ≠ (T b).2.1) (hcl : vwCl[ci]? = some (C, T, N)) (hr : (T slot).1 = ref ∨ Cond.sameField ref (T slot).1 (T slot).2.1 (T slot).2.2.1 ∈ UW) (hk : slot < N) (hl : Cond.fieldLink own idx ref (T slot).2.1 (T slot).2.2.1 ∈ UW) (hfin : (T slot).2.2.2 = false) (hd : parseFieldDescriptor (T slot).2.2.1 = some ty) (hn : narrow ty x = x) (hfit : fits ty x = true) (hsl : slot < fs.length) (hg : gA (kg κ) b)
    (hput : ∀ H H', Rp H → va_at (kg κ).1 vwCl (b, .inr (ci, fs.set slot x)) H' → (∀ q : Nat, q ≠ b → H'[q]? = H[q]?) → Rq H') (d : decode cc pc = .ok (.putfield idx, 3)) (k : AcH κ Rq nc ns (pc + 3) st lc) : AcH κ Rp nc ns pc (.inl x :: aq b :: st) lc := by
  obtain ⟨p, l, e, R, s, m, args, below, meth, c, Q, g, L, c0, s0, fc, fs0⟩ := κ
  obtain ⟨⟨hxe, hxb, hxl, hxo, hxw⟩, hxk, hxz, hxc, hxs, hxt, hxf, hxr⟩ := hx
  intro H locs ls h1 h2 h3 h4
  have hsame : ∀ x, s.fieldFound? (T slot).1 (T slot).2.1 (T slot).2.2.1 = some x → s.fieldFound? ref (T slot).2.1 (T slot).2.2.1 = some x := fun x h => by
    rcases hr with hr | hr
    · rw [hr] at h
      exact h
    · exact u_same (hxw _ hr) x h
  have hap := va_apart (own := own) hxw hin ty0 hty hnm h3.1 hcl
  obtain ⟨hS, hfc, kC, hkC, hkind⟩ := h3.1.1 _ _ hcl
  obtain ⟨r, e1, cell, q1, q2, q3, q4⟩ := hat H h2
  have hrr : r = (C, T, N) := Option.some.inj (e1.symm.trans hcl)
  subst hrr
  obtain ⟨cf, kf, fi, f, hi, hslo⟩ := hS slot hk
  have hlay := hxw _ (hin _ (u_in_lay hk))
  unfold u_lay at hlay
  rw [if_neg (by rw [hfin]; decide)] at hlay
  have hst := (u_facts hfc hkC (u_lays hxw hin hk) hi).1
  have h9 := u_store hfc hkC hkind hlay hi hd hn hfit
  refine W.putK hxe hxb (f := f) ⟨hxo, hxw _ hl, ⟨_, _, _, hsame _ hi⟩, hst⟩ (by rw [q2]; exact h9) q1 q3 (by rw [hslo]; exact k2_hasslot (q4 slot hk)) rfl rfl d fun H' z1 z2 z3 => ?_
  rw [hslo] at z1
  exact k H' _ ls h1 (hput H H' h2 ⟨_, hcl, t_OB.to (V := updV (vp_V fs) slot x) ⟨_, z1, q2, q3, t_set q4 hap hk x⟩ (fun j _ => vp_updV_set hsl x j)⟩ z3) (h3.kept (fun a _ ha => z3 a (fun q => ha (by rw [q]; exact hg)))) (h4.put z2 z3 hg)
theorem H_alen (hx : Hx κ cc nL own fX lX) {a t0 : Nat} {cA : ClassId} {x : vp_A} {ty : FieldType} (hat : ∀ H, Rp H → va_at (kg κ).1 vwCl (a, .inl (cA, x)) H) (ht : (tyl (kg κ).2.1)[t0]? = some (cA, ty)) (d : decode cc pc = .ok (.arraylength, 1)) (k : AcH κ Rp nc ns (pc + 1) (ai (nI x.1) :: st) lc) : AcH κ Rp nc ns pc (aq a :: st) lc := by
  obtain ⟨p, l, e, R, s, m, args, below, meth, c, Q, g, L, c0, s0, fc, fs0⟩ := κ
  obtain ⟨⟨hxe, hxb, hxl, hxo, hxw⟩, hxk, hxz, hxc, hxs, hxt, hxf, hxr⟩ := hx
  intro H locs ls h1 h2 h3 h4
  exact va_alen hxe hxb h3.1 (vP1 (hat H h2)) 0 t0 rfl ht rfl d (k H locs ls h1 h2 h3 h4)
theorem H_alen0 (hx : Hx κ cc nL own fX lX) {a : Nat} (ha : a = (kg κ).2.2.2) (d : decode cc pc = .ok (.arraylength, 1)) (k : AcH κ Rp nc ns (pc + 1) (ai (nI 0) :: st) lc) : AcH κ Rp nc ns pc (aq a :: st) lc := by
  obtain ⟨p, l, e, R, s, m, args, below, meth, c, Q, g, L, c0, s0, fc, fs0⟩ := κ
  obtain ⟨⟨hxe, hxb, hxl, hxo, hxw⟩, hxk, hxz, hxc, hxs, hxt, hxf, hxr⟩ := hx
  intro H locs ls h1 h2 h3 h4
  obtain ⟨cell, z1, z2, z3, z4⟩ := h3.2.1.2
  subst ha
  exact W.alen hxe hxb z1 z2 (n := nI 0) (z3.trans nI_0.symm) rfl rfl d (k H locs ls h1 h2 h3 h4)
theorem H_aald (hx : Hx κ cc nL own fX lX) {a n : Nat} {f : Nat → Option Nat} {i : Int32} (hat : ∀ H, Rp H → va_at (kg κ).1 vwCl (a, .inl ((kg κ).2.1 3, n, .inr (.inr (.inr (.inr f))))) H) (hin : vp_in i n) (d : decode cc pc = .ok (.aaload, 1)) (k : AcH κ Rp nc ns (pc + 1) (.inl (va_rf (f i.toNatClampNeg)) :: st) lc) : AcH κ Rp nc ns pc (ai i :: aq a :: st) lc := by
  obtain ⟨p, l, e, R, s, m, args, below, meth, c, Q, g, L, c0, s0, fc, fs0⟩ := κ
  obtain ⟨⟨hxe, hxb, hxl, hxo, hxw⟩, hxk, hxz, hxc, hxs, hxt, hxf, hxr⟩ := hx
  intro H locs ls h1 h2 h3 h4
  exact va_aldq (C := "java/lang/Object") hxe hxb h3.1 (vP1 (hat H h2)) 0 3 rfl rfl hin d (k H locs ls h1 h2 h3 h4)
theorem H_aast (hx : Hx κ cc nL own fX lX) {a n v : Nat} {f : Nat → Option Nat} {i : Int32} {ci : Nat} {vs : List Value} {r : vw_C} (hat : ∀ H, Rp H → va_at (kg κ).1 vwCl (a, .inl ((kg κ).2.1 3, n, .inr (.inr (.inr (.inr f))))) H) (hvat : ∀ H, Rp H → ∃ vs, va_at (kg κ).1 vwCl (v, .inr (ci, vs)) H) (hcl : vwCl[ci]? = some r) (hca : Cond.castable r.1 "java/lang/Object" ∈ FW) (hin : vp_in i n) (hg : gA (kg κ) a)
    (hput : ∀ H H', Rp H → va_at (kg κ).1 vwCl (a, .inl ((kg κ).2.1 3, n, .inr (.inr (.inr (.inr (va_up f i.toNatClampNeg (some v))))))) H' → (∀ q : Nat, q ≠ a → H'[q]? = H[q]?) → Rq H') (d : decode cc pc = .ok (.aastore, 1)) (k : AcH κ Rq nc ns (pc + 1) st lc) : AcH κ Rp nc ns pc (aq v :: ai i :: aq a :: st) lc := by
  obtain ⟨p, l, e, R, s, m, args, below, meth, c, Q, g, L, c0, s0, fc, fs0⟩ := κ
  obtain ⟨⟨hxe, hxb, hxl, hxo, hxw⟩, hxk, hxz, hxc, hxs, hxt, hxf, hxr⟩ := hx
  intro H locs ls h1 h2 h3 h4
  have hlt : i.toNatClampNeg < n := Nat.not_le.mp fun q => hin (Or.inr q)
  have h0 : ¬ i < 0 := fun q => hin (Or.inl q)
  obtain ⟨vs, r', hr', cellV, g1, g2, g3, -⟩ := hvat H h2
  have hcls := (h3.1.1 ci r hcl).2
  obtain ⟨kA, comp, k1, k2, k3, -⟩ := (h3.1.2 3 _ rfl).2
  obtain ⟨kE, hkE, -⟩ := Vm.findClass_spec k3
  obtain ⟨c1, t1, f1, f2, f3⟩ := Cond.castable_spec (va_Nw.use (A := args) rfl (h3.2.2.2.2.2.1 _ hca))
  cases hcls.1.symm.trans f1
  cases k3.symm.trans f2
  obtain ⟨kC, hkC, -⟩ := hcls.2
  refine W.aast hxe hxb (hat H h2) (fun q h => by cases h) (fun h => by cases h) k1 k2 rfl hkE ⟨h0, by show _ < (arrV _ _ _).slots.size; rw [arrV_size]; exact hlt⟩ g1 (fun q h => by rw [g3] at h; cases h) (by rw [g2]; exact hkC) (by rw [g2]; exact f3) rfl rfl d fun H1 z1 z oq => ?_
  refine k H1 _ ls h1 (hput H H1 h2 ?_ oq) (h3.kept (fun q _ ha => oq q (fun z => ha (by rw [z]; exact hg)))) (h4.put z oq hg)
  show H1[a]? = some (vp_cell _ _)
  rw [z1, vp_cell_q, vp_cell_q, arrV_store]
  congr 2
  funext q
  by_cases hq : q = i.toNatClampNeg
  · subst hq
    simp [updV, va_up, va_rf]
  · simp [updV, va_up, hq]
theorem H_aastN (hx : Hx κ cc nL own fX lX) {a n : Nat} {f : Nat → Option Nat} {i : Int32} (hat : ∀ H, Rp H → va_at (kg κ).1 vwCl (a, .inl ((kg κ).2.1 3, n, .inr (.inr (.inr (.inr f))))) H) (hin : vp_in i n) (hg : gA (kg κ) a)
    (hput : ∀ H H', Rp H → va_at (kg κ).1 vwCl (a, .inl ((kg κ).2.1 3, n, .inr (.inr (.inr (.inr (va_up f i.toNatClampNeg none)))))) H' → (∀ q : Nat, q ≠ a → H'[q]? = H[q]?) → Rq H') (d : decode cc pc = .ok (.aastore, 1)) (k : AcH κ Rq nc ns (pc + 1) st lc) : AcH κ Rp nc ns pc (an :: ai i :: aq a :: st) lc := by
  obtain ⟨p, l, e, R, s, m, args, below, meth, c, Q, g, L, c0, s0, fc, fs0⟩ := κ
  obtain ⟨⟨hxe, hxb, hxl, hxo, hxw⟩, hxk, hxz, hxc, hxs, hxt, hxf, hxr⟩ := hx
  intro H locs ls h1 h2 h3 h4
  refine va_WaastN hxe hxb (C := "java/lang/Object") (hat H h2) ((h3.1.2 3 _ rfl).1 n (fun j => va_rf (f j))) (fun h => by cases h) (by show ¬ (i < 0 ∨ (arrV _ _ _).slots.size ≤ _); rw [arrV_size]; exact hin) rfl rfl d fun H1 z1 z oq => ?_
  refine k H1 _ ls h1 (hput H H1 h2 ?_ oq) (h3.kept (fun q _ ha => oq q (fun z => ha (by rw [z]; exact hg)))) (h4.put z oq hg)
  show H1[a]? = some (vp_cell _ _)
  rw [z1, vp_cell_q, vp_cell_q, arrV_store]
  congr 2
  funext q
  by_cases hq : q = i.toNatClampNeg
  · subst hq
    simp [updV, va_up, va_rf]
  · simp [updV, va_up, hq]
theorem H_anew (hx : Hx κ cc nL own fX lX) {idx n : Nat} (hl : Cond.classLink own idx "java/lang/Object" ∈ UW) (hn : n < 65536) (hc : nc + 1 ≤ (kr κ).1) (hs : ns + n ≤ (kr κ).2)
    (d : decode cc pc = .ok (.anewarray idx, 3)) (k : ∀ a : Nat, AcH κ (fun H' => ∃ H : Heap, Rp H ∧ H.size = a ∧ gA (kg κ) a ∧ va_at (kg κ).1 vwCl (a, .inl ((kg κ).2.1 3, n, .inr (.inr (.inr (.inr (fun _ => none)))))) H' ∧ ∀ q : Nat, q < H.size → H'[q]? = H[q]?) (nc + 1) (ns + n) (pc + 3) (aq a :: st) lc) : AcH κ Rp nc ns pc (ai (nI n) :: st) lc := by
  obtain ⟨p, l, e, R, s, m, args, below, meth, c, Q, g, L, c0, s0, fc, fs0⟩ := κ
  obtain ⟨⟨hxe, hxb, hxl, hxo, hxw⟩, hxk, hxz, hxc, hxs, hxt, hxf, hxr⟩ := hx
  intro H locs ls h1 h2 h3 h4
  have hcl : (nI n).toNatClampNeg = n := nI_clamp (Nat.lt_trans hn (by decide))
  refine W.anew hxe hxb hxo (hxw _ hl) (va_AO.use h3.2.2.2.2.2.2.1) rfl d rfl (nI_pos (Nat.lt_trans hn (by decide))) (by rw [hcl]; omega) (by rw [hxc]; exact hc) (by rw [hcl, hxs]; exact hs) fun cA kA comp f1 f2 f3 f4 => ?_
  obtain ⟨kA3, comp3, k1, k2, k3, k4⟩ := (h3.1.2 3 _ rfl).2
  have hcA : cA = g.2.1 3 := Option.some.inj (f1.symm.trans k4)
  subst hcA
  rw [hcl]
  have hz : g.2.2.1 ≤ H.size := Nat.le_trans hxz h4.1
  have o1 : ∀ q : Nat, q < H.size → (H.push ({ cls := g.2.1 3, slots := Array.replicate n .null, vm := .none } : Cell))[q]? = H[q]? := fun q hq => by rw [Array.getElem?_push, if_neg (Nat.ne_of_lt hq)]
  refine k H.size _ locs ls h1 ⟨H, h2, rfl, hz, ?_, o1⟩ (h3.kept (fun q hq _ => o1 q hq)) ⟨by rw [Array.size_push]; exact Nat.le_trans h4.1 (Nat.le_succ _), fun q hq1 hq2 => (o1 q (Nat.lt_of_lt_of_le hq1 h4.1)).trans (h4.2.1 q hq1 hq2), h4.2.2⟩
  show (H.push _)[H.size]? = some (vp_cell _ _)
  rw [Array.getElem?_push_size, vp_cell_q, ← arrV_new]
  rfl
theorem H_ldcI (hx : Hx κ cc nL own fX lX) {idx : Nat} {v : Int32} (hl : Cond.constant own idx v ∈ UW) (d : decode cc pc = .ok (.ldc idx, 2)) (k : AcH κ Rp nc ns (pc + 2) (ai v :: st) lc) : AcH κ Rp nc ns pc st lc := by
  obtain ⟨p, l, e, R, s, m, args, below, meth, c, Q, g, L, c0, s0, fc, fs0⟩ := κ
  obtain ⟨⟨hxe, hxb, hxl, hxo, hxw⟩, hxk, hxz, hxc, hxs, hxt, hxf, hxr⟩ := hx
  intro H locs ls h1 h2 h3 h4
  exact lv_ldc hxe hxb hxo (hxw _ hl) d (k H locs ls h1 h2 h3 h4)
end HMEM
