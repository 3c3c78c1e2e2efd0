/-! rows that read and write the heap -/
def isOb (k : Nat) : Bool := k == 0 || k == 2 || k == 6
def fav (σ : Sg) (i : Nat) : Nat ⊕ Tg → AV
  | .inl k => ai (σ.1 k i 0)
  | .inr t => ar t
theorem cell_ob {L : Tg → Nat} {cy : Nat → ClassId} {σ : Sg} {t : Tg} (h : isOb t.1 = true) : cellOf L cy σ t = .inr (cix t.1, (shp t.1 t.2).map (fvl L σ t.2)) := by
  obtain ⟨tk, i⟩ := t
  simp [isOb] at h
  rcases h with (rfl | rfl) | rfl <;> rfl
theorem isOb_5 {t : Tg} (h : isOb t.1 = true) : t.1 ≠ 5 ∧ t.1 ≠ 13 := by
  simp [isOb] at h
  omega
theorem cell_ar {L : Tg → Nat} {cy : Nat → ClassId} {σ : Sg} {t : Tg} {a : Bool × Nat × Nat × Nat} (h : ash t = some a) : cellOf L cy σ t = .inl (cy (if a.1 then 1 else 0), a.2.1, .inl (fun j => σ.1 a.2.2.1 a.2.2.2 j)) := by
  unfold cellOf
  rw [h]
theorem ash_5 {t : Tg} {a : Bool × Nat × Nat × Nat} (h : ash t = some a) : t.1 ≠ 5 ∧ t.1 ≠ 13 := by
  have := ash_own h
  constructor
  · rw [← this]; exact ownr_5 _ _
  · obtain ⟨tk, i⟩ := t
    intro e
    simp at e
    subst e
    cases h
theorem shp_code (tk i : Nat) : (shp tk i).filterMap Sum.getLeft? = (shp tk 0).filterMap Sum.getLeft? := by
  unfold shp
  split <;> rfl
/-- no kind twice in one object -/
theorem shp_once {tk i a b k : Nat} (ha : (shp tk i)[a]? = some (.inl k)) (hb : (shp tk i)[b]? = some (.inl k)) : a = b := by
  have key : ∀ (l : List (Nat ⊕ Tg)), (l.filterMap Sum.getLeft?).Nodup → ∀ a b : Nat, l[a]? = some (.inl k) → l[b]? = some (.inl k) → a = b := by
    intro l
    induction l with
    | nil => intro _ a b h; simp at h
    | cons x r ih =>
      intro hn a b h1 h2
      cases x with
      | inr t =>
        have hn' : (r.filterMap Sum.getLeft?).Nodup := hn
        cases a with
        | zero => simp at h1
        | succ a =>
          cases b with
          | zero => simp at h2
          | succ b => rw [ih hn' a b (by simpa using h1) (by simpa using h2)]
      | inl q =>
        have hn' : (q :: r.filterMap Sum.getLeft?).Nodup := hn
        obtain ⟨hq, hr⟩ := List.nodup_cons.mp hn'
        have hin : ∀ c : Nat, r[c]? = some (.inl k) → k ∈ r.filterMap Sum.getLeft? := fun c hc => List.mem_filterMap.mpr ⟨_, List.mem_of_getElem? hc, rfl⟩
        cases a with
        | zero =>
          cases b with
          | zero => rfl
          | succ b =>
            simp at h1 h2
            subst h1
            exact absurd (hin b h2) hq
        | succ a =>
          cases b with
          | zero =>
            simp at h1 h2
            subst h2
            exact absurd (hin a h1) hq
          | succ b => rw [ih hr a b (by simpa using h1) (by simpa using h2)]
  refine key _ ?_ a b ha hb
  rw [shp_code]
  unfold shp
  split <;> decide
theorem shp_set {L : Tg → Nat} {σ : Sg} {tk i slot k : Nat} {x : Int32} (hs : (shp tk i)[slot]? = some (.inl k)) : (shp tk i).map (fvl L (upI σ k i 0 x) i) = ((shp tk i).map (fvl L σ i)).set slot (.int x) := by
  apply List.ext_getElem?
  intro j
  by_cases e : slot = j
  · subst e
    rw [List.getElem?_set_self (by rw [List.length_map]; exact (List.getElem?_eq_some_iff.mp hs).1), List.getElem?_map, hs]
    simp [fvl, upI]
  · rw [List.getElem?_set_ne e, List.getElem?_map, List.getElem?_map]
    cases hj : (shp tk i)[j]? with
    | none => rfl
    | some u =>
      cases u with
      | inr t => rfl
      | inl k' =>
        have hk : ¬ (k' = k ∧ i = i) := fun q => e (shp_once hs (by rw [hj, q.1]))
        show some (Value.int _) = some (Value.int _)
        rw [upI_ne hk]
theorem vP1 {D : va_G} {cl : List vw_C} {q : Nat × va_E} {H : Heap} (h : va_at D cl q H) : va_P D cl [q] H := by
  intro k r hk
  cases k with
  | zero => cases hk; exact h
  | succ k => simp at hk
section MEM
variable {κ : Kx} {cc : ByteArray} {nL fX lX : Nat} {own : String} {pc : Nat} {st : List AV} {lc : LcT} {σ : Sg}
theorem A_getf (hx : Hx κ cc nL own fX lX) {t : Tg} {slot idx : Nat} {v : Nat ⊕ Tg} {C : String} {T : u_T} {N : Nat} (hin : ∀ w ∈ u_ws C T N, w ∈ UW) (hcl : vwCl[cix t.1]? = some (C, T, N)) (ho : isOb t.1 = true) (hv : vld σ t = true) (hs : (shp t.1 t.2)[slot]? = some v) (hr : (T slot).1 = C) (hk : slot < N)
    (hl : Cond.fieldLink own idx C (T slot).2.1 (T slot).2.2.1 ∈ UW) (d : decode cc pc = .ok (.getfield idx, 3)) (k : Acf κ (pc + 3) (fav σ t.2 v :: st) lc σ) : Acf κ pc (ar t :: st) lc σ := by
  obtain ⟨p, l, e, R, s, m, args, below, meth, c, Q, g, L, c0, s0, fc, fs⟩ := κ
  obtain ⟨⟨hxe, hxb, hxl, hxo, hxw⟩, hxk, hxz, hxc, hxs, hxt, hxf, hxr⟩ := hx
  intro H locs ls h1 h2 h3 h4 h5 h6 h7 h8
  obtain ⟨L', hL, r1, r2, r3, r4, r5⟩ := id h2
  have hat := r1 t hv
  rw [cell_ob ho, hL t (isOb_5 ho).1] at hat
  refine va_get (a := L t) (own := own) (ref := C) hxe hxb hxw hin hxo h3.1 (vP1 hat) 0 rfl hcl slot hk (hxw _ hl) (fun x h => by rw [hr] at h; exact h) (v := cv L (fav σ t.2 v)) ?_ d (k H locs ls h1 h2 h3 h4 h5 h6 h7 h8)
  rw [List.getElem?_map, hs]
  cases v with
  | inl q => rfl
  | inr u =>
    show some (Value.ref (L' u)) = some (Value.ref (L u))
    rw [hL u (shp_5 (List.mem_of_getElem? hs))]
theorem A_putf (hx : Hx κ cc nL own fX lX) {t : Tg} {slot idx kc : Nat} {x : Int32} {C : String} {T : u_T} {N : Nat} {ty : FieldType} (hin : ∀ w ∈ u_ws C T N, w ∈ UW) (ty0 : Nat → FieldType) (hty : ∀ k, k < N → parseFieldDescriptor (T k).2.2.1 = some (ty0 k)) (hnm : ∀ a, a < N → ∀ b, b < N → a ≠ b → (T a).2.1 ≠ (T b).2.1) (hcl : vwCl[cix t.1]? = some (C, T, N)) (ho : isOb t.1 = true) (hv : vld σ t = true) (hs : (shp t.1 t.2)[slot]? = some (.inl kc)) (hr : (T slot).1 = C) (hk : slot < N)
    (hl : Cond.fieldLink own idx C (T slot).2.1 (T slot).2.2.1 ∈ UW) (hfin : (T slot).2.2.2 = false) (hd : parseFieldDescriptor (T slot).2.2.1 = some ty) (hn : narrow ty (.int x) = .int x) (hfit : fits ty (.int x) = true) (d : decode cc pc = .ok (.putfield idx, 3)) (k : Acf κ (pc + 3) st lc (upI σ kc t.2 0 x)) : Acf κ pc (ai x :: ar t :: st) lc σ := by
  obtain ⟨p, l, e, R, s, m, args, below, meth, c, Q, g, L, c0, s0, fc, fs⟩ := κ
  obtain ⟨⟨hxe, hxb, hxl, hxo, hxw⟩, hxk, hxz, hxc, hxs, hxt, hxf, hxr⟩ := hx
  intro H locs ls h1 h2 h3 h4 h5 h6 h7 h8
  have hap := va_apart (own := own) hxw hin ty0 hty hnm h3.1 hcl
  obtain ⟨hS, hfc, kC, hkC, hkind⟩ := h3.1.1 _ _ hcl
  obtain ⟨L', hL, r1, r2, r3, r4, r5⟩ := id h2
  have hat := r1 t hv
  have hgt : gA g (L t) := by rw [← hL t (isOb_5 ho).1]; exact r3 t hv (isOb_5 ho).2
  rw [cell_ob ho, hL t (isOb_5 ho).1] at hat
  obtain ⟨r, e1, cell, q1, q2, q3, q4⟩ := hat
  have hrr : r = (C, T, N) := Option.some.inj (e1.symm.trans hcl)
  subst hrr
  obtain ⟨cf, kf, fi, f, hi, hsl⟩ := hS slot hk
  have hlay := hxw _ (hin _ (u_in_lay hk))
  unfold u_lay at hlay
  rw [if_neg (by rw [hfin]; decide)] at hlay
  have hst := (u_facts hfc hkC (u_lays hxw hin hk) hi).1
  have h9 := u_store hfc hkC hkind hlay hi hd hn hfit
  have hown : ownr kc t.2 = t := shp_own (List.mem_of_getElem? hs)
  refine W.putK hxe hxb (f := f) ⟨hxo, hxw _ hl, ⟨_, _, _, (by rw [hr] at hi; exact hi)⟩, hst⟩ (by rw [q2]; exact h9) q1 q3 (by rw [hsl]; exact k2_hasslot (q4 slot hk)) rfl rfl d fun H' z1 z2 z3 => ?_
  refine k H' _ ls h1 (h2.put (by rw [hown]; exact hv) (fun L2 hL2 hat2 => ?_) (fun q hq => z3 q (by rw [hown] at hq; exact hq))) (h3.kept (fun a _ ha => z3 a (fun q => ha (by rw [q]; exact hgt)))) (h4.put z2 z3 hgt) h5 h6 h7 h8
  rw [hown, cell_ob ho] at hat2 ⊢
  rw [shp_set hs]
  rw [hL2 t (isOb_5 ho).1] at hat2 ⊢
  obtain ⟨r', e1', cell', q1', q2', q3', q4'⟩ := hat2
  have hrr' : r' = (C, T, N) := Option.some.inj (e1'.symm.trans hcl)
  subst hrr'
  have hce : cell' = cell := Option.some.inj (q1'.symm.trans q1)
  subst hce
  rw [hsl] at z1
  exact ⟨_, hcl, t_OB.to (V := updV (vp_V ((shp t.1 t.2).map (fvl L2 σ t.2))) slot (.int x)) ⟨_, z1, q2', q3', t_set q4' hap hk (.int x)⟩ (fun j _ => vp_updV_set (by rw [List.length_map]; exact (List.getElem?_eq_some_iff.mp hs).1) (.int x) j)⟩
theorem A_iald (hx : Hx κ cc nL own fX lX) {t : Tg} {n kc o : Nat} {i : Int32} (ha : ash t = some (false, n, kc, o)) (hv : vld σ t = true) (hin : vp_in i n) (d : decode cc pc = .ok (.iaload, 1)) (k : Acf κ (pc + 1) (ai (σ.1 kc o i.toNatClampNeg) :: st) lc σ) : Acf κ pc (ai i :: ar t :: st) lc σ := by
  obtain ⟨p, l, e, R, s, m, args, below, meth, c, Q, g, L, c0, s0, fc, fs⟩ := κ
  obtain ⟨⟨hxe, hxb, hxl, hxo, hxw⟩, hxk, hxz, hxc, hxs, hxt, hxf, hxr⟩ := hx
  intro H locs ls h1 h2 h3 h4 h5 h6 h7 h8
  obtain ⟨L', hL, r1, r2, r3, r4, r5⟩ := id h2
  have hat := r1 t hv
  rw [cell_ar ha, hL t (ash_5 ha).1] at hat
  exact va_iald hxe hxb h3.1 (vP1 hat) 0 0 rfl rfl hin d (k H locs ls h1 h2 h3 h4 h5 h6 h7 h8)
theorem A_aald (hx : Hx κ cc nL own fX lX) {i : Int32} (hin : vp_in i 4) (d : decode cc pc = .ok (.aaload, 1)) (k : Acf κ (pc + 1) (ar (2, i.toNatClampNeg) :: st) lc σ) : Acf κ pc (ai i :: ar (1, 0) :: st) lc σ := by
  obtain ⟨p, l, e, R, s, m, args, below, meth, c, Q, g, L, c0, s0, fc, fs⟩ := κ
  obtain ⟨⟨hxe, hxb, hxl, hxo, hxw⟩, hxk, hxz, hxc, hxs, hxt, hxf, hxr⟩ := hx
  intro H locs ls h1 h2 h3 h4 h5 h6 h7 h8
  obtain ⟨L', hL, r1, r2, r3, r4, r5⟩ := id h2
  have hat : va_at g.1 vwCl (L' (1, 0), .inl (g.2.1 2, 4, .inr (.inr (.inr (.inr (fun j => if j < 4 then some (L' (2, j)) else none)))))) H := r1 (1, 0) rfl
  rw [hL (1, 0) (by decide)] at hat
  have h4' : i.toNatClampNeg < 4 := Nat.not_le.mp fun q => hin (Or.inr q)
  have hr := k H locs ls h1 h2 h3 h4 h5 h6 h7 h8
  refine va_aldq (C := "Causewaymail$Member") hxe hxb h3.1 (vP1 hat) 0 2 rfl rfl hin d ?_
  rw [if_pos h4', hL (2, i.toNatClampNeg) (show (2 : Nat) ≠ 5 by decide)]
  exact hr
theorem A_iast (hx : Hx κ cc nL own fX lX) {t : Tg} {n kc o : Nat} {i x : Int32} (ha : ash t = some (false, n, kc, o)) (hv : vld σ t = true) (hin : vp_in i n) (d : decode cc pc = .ok (.iastore, 1)) (k : Acf κ (pc + 1) st lc (upI σ kc o i.toNatClampNeg x)) : Acf κ pc (ai x :: ai i :: ar t :: st) lc σ := by
  obtain ⟨p, l, e, R, s, m, args, below, meth, c, Q, g, L, c0, s0, fc, fs⟩ := κ
  obtain ⟨⟨hxe, hxb, hxl, hxo, hxw⟩, hxk, hxz, hxc, hxs, hxt, hxf, hxr⟩ := hx
  intro H locs ls h1 h2 h3 h4 h5 h6 h7 h8
  obtain ⟨L', hL, r1, r2, r3, r4, r5⟩ := id h2
  have hat := r1 t hv
  have hgt : gA g (L t) := by rw [← hL t (ash_5 ha).1]; exact r3 t hv (ash_5 ha).2
  rw [cell_ar ha, hL t (ash_5 ha).1] at hat
  have hown : ownr kc o = t := ash_own ha
  refine W.iast hxe hxb hat ((h3.1.2 0 _ rfl).1 n (fun j => .int (σ.1 kc o j))) (fun q => by cases q) (by show ¬ (i < 0 ∨ (arrV _ _ _).slots.size ≤ _); rw [arrV_size]; exact hin) rfl rfl d fun H' z1 z2 z3 => ?_
  refine k H' _ ls h1 (h2.put (by rw [hown]; exact hv) (fun L2 hL2 hat2 => ?_) (fun q hq => z3 q (by rw [hown] at hq; exact hq))) (h3.kept (fun a _ ha' => z3 a (fun q => ha' (by rw [q]; exact hgt)))) (h4.put z2 z3 hgt) h5 h6 h7 h8
  rw [hown, cell_ar ha] at hat2 ⊢
  rw [hL2 t (ash_5 ha).1] at hat2 ⊢
  show H'[L t]? = some (vp_cell _ _)
  rw [z1]
  rw [vp_cell_i, vp_cell_i, arrV_store]
  congr 2
  funext q
  by_cases hq : q = i.toNatClampNeg
  · subst hq
    simp [updV, upI]
  · simp [updV, upI, hq]
end MEM
