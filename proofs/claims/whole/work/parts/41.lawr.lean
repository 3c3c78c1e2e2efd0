/-! rows of the law's helpers: longs, handlers; their contracts -/
def kc (κ : Kx) : Code := κ.2.2.2.2.2.2.2.2.2.1
theorem arrV_ext {c : ClassId} {n : Nat} {f g : Nat → Value} (h : ∀ j, j < n → f j = g j) : arrV c n f = arrV c n g := by
  have e : (fun j : Fin n => f j.val) = (fun j : Fin n => g j.val) := funext fun j => h j.1 j.2
  unfold arrV
  rw [e]
section LAWR
variable {κ : Kx} {cc : ByteArray} {nL fX lX : Nat} {own : String} {pc : Nat} {st : List AV} {lc : LcT} {σ σF : Sg} {ret retY : Option FieldType}
abbrev al (x : Int64) : AV := .inl (.long x)
theorem A_i2l (hx : Hx κ cc nL own fX lX) {x : Int32} (d : decode cc pc = .ok (.i2l, 1)) (k : Acf κ (pc + 1) (al x.toInt64 :: st) lc σ) : Acf κ pc (ai x :: st) lc σ := by
  obtain ⟨p, l, e, R, s, m, args, below, meth, c, Q, g, L, c0, s0, fc, fs⟩ := κ
  obtain ⟨⟨hxe, hxb, hxl, hxo, hxw⟩, hxk, hxz, hxc, hxs, hxt, hxf, hxr⟩ := hx
  intro H locs ls h1 h2 h3 h4 h5 h6 h7 h8
  exact lv_i2l hxe hxb d rfl (k H locs ls h1 h2 h3 h4 h5 h6 h7 h8)
theorem A_lconst (hx : Hx κ cc nL own fX lX) {n : Fin 2} {v : Int64} (d : decode cc pc = .ok (.lconst n, 1)) (hv : Int64.ofNat (n : Nat) = v) (k : Acf κ (pc + 1) (al v :: st) lc σ) : Acf κ pc st lc σ := by
  obtain ⟨p, l, e, R, s, m, args, below, meth, c, Q, g, L, c0, s0, fc, fs⟩ := κ
  obtain ⟨⟨hxe, hxb, hxl, hxo, hxw⟩, hxk, hxz, hxc, hxs, hxt, hxf, hxr⟩ := hx
  intro H locs ls h1 h2 h3 h4 h5 h6 h7 h8
  exact lv_lconst hxe hxb d hv (k H locs ls h1 h2 h3 h4 h5 h6 h7 h8)
theorem A_astore_nQ (hx : Hx κ cc nL own fX lX) {i : Fin 4} {q : Nat} (d : decode cc pc = .ok (.astore_n i, 1)) (hi : (i : Nat) < lc.length) (k : Acf κ (pc + 1) st (lc.set (i : Nat) (some (aq q))) σ) : Acf κ pc (aq q :: st) lc σ := by
  obtain ⟨p, l, e, R, s, m, args, below, meth, c, Q, g, L, c0, s0, fc, fs⟩ := κ
  obtain ⟨⟨hxe, hxb, hxl, hxo, hxw⟩, hxk, hxz, hxc, hxs, hxt, hxf, hxr⟩ := hx
  intro H locs ls h1 h2 h3 h4 h5 h6 h7 h8
  exact lv_astore_n hxe hxb d rfl h1.has hi rfl (fun ls' h' => k H locs ls' (h1.set (v := aq q) hi rfl h') h2 h3 h4 h5 h6 h7 h8)
theorem A_astoreQ (hx : Hx κ cc nL own fX lX) {i q : Nat} (d : decode cc pc = .ok (.astore i, 2)) (hi : i < lc.length) (k : Acf κ (pc + 2) st (lc.set i (some (aq q))) σ) : Acf κ pc (aq q :: st) lc σ := by
  obtain ⟨p, l, e, R, s, m, args, below, meth, c, Q, g, L, c0, s0, fc, fs⟩ := κ
  obtain ⟨⟨hxe, hxb, hxl, hxo, hxw⟩, hxk, hxz, hxc, hxs, hxt, hxf, hxr⟩ := hx
  intro H locs ls h1 h2 h3 h4 h5 h6 h7 h8
  exact lv_astore hxe hxb d h1.has hi rfl (fun ls' h' => k H locs ls' (h1.set (v := aq q) hi rfl h') h2 h3 h4 h5 h6 h7 h8)
theorem cell_J {L : Tg → Nat} {cy : Nat → ClassId} {σ : Sg} {x : Int64} {t : Tg} (h : t.1 ≠ 14) : cellOf L cy (upJ σ x) t = cellOf L cy σ t := by
  obtain ⟨tk, i⟩ := t
  unfold cellOf
  cases ash (tk, i) with
  | some a => rfl
  | none =>
    dsimp only
    unfold cellN
    dsimp only
    split
    all_goals first | rfl | exact absurd rfl h
theorem A_lastJ (hx : Hx κ cc nL own fX lX) {x : Int64} (d : decode cc pc = .ok (.lastore, 1)) (k : Acf κ (pc + 1) st lc (upJ σ x)) : Acf κ pc (al x :: ai 0 :: ar (14, 0) :: st) lc σ := by
  obtain ⟨p, l, e, R, s, m, args, below, meth, c, Q, g, L, c0, s0, fc, fs⟩ := κ
  obtain ⟨⟨hxe, hxb, hxl, hxo, hxw⟩, hxk, hxz, hxc, hxs, hxt, hxf, hxr⟩ := hx
  intro H locs ls h1 h2 h3 h4 h5 h6 h7 h8
  obtain ⟨L', hL, r1, r2, r3, r4, r5⟩ := id h2
  have hat : va_at g.1 vwCl (L' (14, 0), .inl (g.2.1 4, 1, .inr (.inl (fun _ => σ.2.2.2)))) H := r1 (14, 0) rfl
  have e14 : L' (14, 0) = L (14, 0) := hL (14, 0) (show (14 : Nat) ≠ 5 by decide)
  rw [e14] at hat
  have hg : gA g (L (14, 0)) := by
    have := r3 (14, 0) rfl (show (14 : Nat) ≠ 13 by decide)
    rwa [e14] at this
  refine W.last hxe hxb hat ((h3.1.2 4 _ rfl).1 1 (fun j => .long σ.2.2.2)) (fun q => by cases q) (by show ¬ ((0 : Int32) < 0 ∨ (arrV _ _ _).slots.size ≤ _); rw [arrV_size]; show ¬ ((0 : Int32) < 0 ∨ 1 ≤ Int32.toNatClampNeg 0); decide) rfl rfl d fun H1 z1 z oq => ?_
  have hR : RepX g L (upJ σ x) H1 := by
    refine ⟨L', hL, fun t ht => ?_, r2, r3, r4, r5⟩
    by_cases e9 : t = (14, 0)
    · subst e9
      rw [e14]
      show H1[L (14, 0)]? = some (vp_cell (g.2.1 4) (1, .inr (.inl (fun _ => x))))
      rw [z1, vp_cell_l, vp_cell_l, arrV_store]
      refine congrArg some (arrV_ext fun j hj => ?_)
      have hj0 : j = 0 := by omega
      subst hj0
      show updV _ (0 : Int32).toNatClampNeg _ 0 = _
      rw [show (0 : Int32).toNatClampNeg = 0 by decide]
      simp [updV]
    · have h14 : t.1 ≠ 14 := fun z => e9 (by
        obtain ⟨tk, i⟩ := t
        dsimp only at z
        subst z
        have hi : (i == 0) = true := ht
        rw [beq_iff_eq.mp hi])
      rw [cell_J h14]
      refine (r1 t ht).kept (oq _ fun z => e9 (r2 t (14, 0) ht rfl ?_))
      rw [e14]
      exact z
  exact k H1 _ ls h1 hR (h3.kept (fun q _ ha => oq q (fun z => ha (by rw [z]; exact hg)))) (h4.put z oq hg) h5 h6 h7 h8
end LAWR
