/-! longs, further ops on ints: rows, meanings, how their code runs (laid by wip/p34/gen/longs.py) -/
abbrev aj (x : Int64) : AV := .inl (.long x)
section JROWS
variable {κ : Kx} {cc : ByteArray} {nL fX lX : Nat} {own : String} {pc : Nat} {st : List AV} {lc : LcT} {σ σF : Sg}
theorem A_ior (hx : Hx κ cc nL own fX lX) {x y : Int32} (d : decode cc pc = .ok (.ior, 1)) (k : Acf κ (pc + 1) (ai (x ||| y) :: st) lc σ) : Acf κ pc (ai y :: ai x :: st) lc σ := by
  obtain ⟨p, l, e, R, s, m, args, below, meth, c, Q, g, L, c0, s0, fc, fs⟩ := κ
  obtain ⟨⟨hxe, hxb, hxl, hxo, hxw⟩, hxk, hxz, hxc, hxs, hxt, hxf, hxr⟩ := hx
  intro H locs ls h1 h2 h3 h4 h5 h6 h7 h8
  exact lv_ior hxe hxb d (k H locs ls h1 h2 h3 h4 h5 h6 h7 h8)
theorem A_ixor (hx : Hx κ cc nL own fX lX) {x y : Int32} (d : decode cc pc = .ok (.ixor, 1)) (k : Acf κ (pc + 1) (ai (x ^^^ y) :: st) lc σ) : Acf κ pc (ai y :: ai x :: st) lc σ := by
  obtain ⟨p, l, e, R, s, m, args, below, meth, c, Q, g, L, c0, s0, fc, fs⟩ := κ
  obtain ⟨⟨hxe, hxb, hxl, hxo, hxw⟩, hxk, hxz, hxc, hxs, hxt, hxf, hxr⟩ := hx
  intro H locs ls h1 h2 h3 h4 h5 h6 h7 h8
  exact lv_ixor hxe hxb d (k H locs ls h1 h2 h3 h4 h5 h6 h7 h8)
theorem A_ishl (hx : Hx κ cc nL own fX lX) {x y : Int32} (d : decode cc pc = .ok (.ishl, 1)) (k : Acf κ (pc + 1) (ai (x <<< (y &&& 31)) :: st) lc σ) : Acf κ pc (ai y :: ai x :: st) lc σ := by
  obtain ⟨p, l, e, R, s, m, args, below, meth, c, Q, g, L, c0, s0, fc, fs⟩ := κ
  obtain ⟨⟨hxe, hxb, hxl, hxo, hxw⟩, hxk, hxz, hxc, hxs, hxt, hxf, hxr⟩ := hx
  intro H locs ls h1 h2 h3 h4 h5 h6 h7 h8
  exact lv_ishl hxe hxb d (k H locs ls h1 h2 h3 h4 h5 h6 h7 h8)
theorem A_ishr (hx : Hx κ cc nL own fX lX) {x y : Int32} (d : decode cc pc = .ok (.ishr, 1)) (k : Acf κ (pc + 1) (ai (x >>> (y &&& 31)) :: st) lc σ) : Acf κ pc (ai y :: ai x :: st) lc σ := by
  obtain ⟨p, l, e, R, s, m, args, below, meth, c, Q, g, L, c0, s0, fc, fs⟩ := κ
  obtain ⟨⟨hxe, hxb, hxl, hxo, hxw⟩, hxk, hxz, hxc, hxs, hxt, hxf, hxr⟩ := hx
  intro H locs ls h1 h2 h3 h4 h5 h6 h7 h8
  exact lv_ishr hxe hxb d (k H locs ls h1 h2 h3 h4 h5 h6 h7 h8)
theorem A_iushr (hx : Hx κ cc nL own fX lX) {x y : Int32} (d : decode cc pc = .ok (.iushr, 1)) (k : Acf κ (pc + 1) (ai (x.toUInt32 >>> (y.toUInt32 &&& Int32.toUInt32 31)).toInt32 :: st) lc σ) : Acf κ pc (ai y :: ai x :: st) lc σ := by
  obtain ⟨p, l, e, R, s, m, args, below, meth, c, Q, g, L, c0, s0, fc, fs⟩ := κ
  obtain ⟨⟨hxe, hxb, hxl, hxo, hxw⟩, hxk, hxz, hxc, hxs, hxt, hxf, hxr⟩ := hx
  intro H locs ls h1 h2 h3 h4 h5 h6 h7 h8
  exact lv_iushr hxe hxb d rfl (k H locs ls h1 h2 h3 h4 h5 h6 h7 h8)
theorem A_irem (hx : Hx κ cc nL own fX lX) {x y : Int32} (d : decode cc pc = .ok (.irem, 1)) (hne : ¬ y = 0) (k : Acf κ (pc + 1) (ai (x - x / y * y) :: st) lc σ) : Acf κ pc (ai y :: ai x :: st) lc σ := by
  obtain ⟨p, l, e, R, s, m, args, below, meth, c, Q, g, L, c0, s0, fc, fs⟩ := κ
  obtain ⟨⟨hxe, hxb, hxl, hxo, hxw⟩, hxk, hxz, hxc, hxs, hxt, hxf, hxr⟩ := hx
  intro H locs ls h1 h2 h3 h4 h5 h6 h7 h8
  exact lv_irem hxe hxb d hne (k H locs ls h1 h2 h3 h4 h5 h6 h7 h8)
theorem A_sipush (hx : Hx κ cc nL own fX lX) {n : Int} {v : Int32} (d : decode cc pc = .ok (.sipush n, 3)) (hv : (Int16.ofInt n).toInt32 = v) (k : Acf κ (pc + 3) (ai v :: st) lc σ) : Acf κ pc st lc σ := by
  obtain ⟨p, l, e, R, s, m, args, below, meth, c, Q, g, L, c0, s0, fc, fs⟩ := κ
  obtain ⟨⟨hxe, hxb, hxl, hxo, hxw⟩, hxk, hxz, hxc, hxs, hxt, hxf, hxr⟩ := hx
  intro H locs ls h1 h2 h3 h4 h5 h6 h7 h8
  exact lv_sipush hxe hxb d hv (k H locs ls h1 h2 h3 h4 h5 h6 h7 h8)
theorem A_ldcI (hx : Hx κ cc nL own fX lX) {idx : Nat} {v : Int32} (d : decode cc pc = .ok (.ldc idx, 2)) (hc : Cond.constant own idx v ∈ UW) (k : Acf κ (pc + 2) (ai v :: st) lc σ) : Acf κ pc st lc σ := by
  obtain ⟨p, l, e, R, s, m, args, below, meth, c, Q, g, L, c0, s0, fc, fs⟩ := κ
  obtain ⟨⟨hxe, hxb, hxl, hxo, hxw⟩, hxk, hxz, hxc, hxs, hxt, hxf, hxr⟩ := hx
  intro H locs ls h1 h2 h3 h4 h5 h6 h7 h8
  exact lv_ldc hxe hxb hxo (hxw _ hc) d (k H locs ls h1 h2 h3 h4 h5 h6 h7 h8)
theorem A_ldc2 (hx : Hx κ cc nL own fX lX) {idx : Nat} {v : Int64} (d : decode cc pc = .ok (.ldc2_w idx, 3)) (hc : Cond.constantLong own idx v ∈ UW) (k : Acf κ (pc + 3) (aj v :: st) lc σ) : Acf κ pc st lc σ := by
  obtain ⟨p, l, e, R, s, m, args, below, meth, c, Q, g, L, c0, s0, fc, fs⟩ := κ
  obtain ⟨⟨hxe, hxb, hxl, hxo, hxw⟩, hxk, hxz, hxc, hxs, hxt, hxf, hxr⟩ := hx
  intro H locs ls h1 h2 h3 h4 h5 h6 h7 h8
  exact lv_ldc2 hxe hxb hxo (hxw _ hc) d (k H locs ls h1 h2 h3 h4 h5 h6 h7 h8)
theorem A_lconst (hx : Hx κ cc nL own fX lX) {n : Fin 2} {v : Int64} (d : decode cc pc = .ok (.lconst n, 1)) (hv : Int64.ofNat (n : Nat) = v) (k : Acf κ (pc + 1) (aj v :: st) lc σ) : Acf κ pc st lc σ := by
  obtain ⟨p, l, e, R, s, m, args, below, meth, c, Q, g, L, c0, s0, fc, fs⟩ := κ
  obtain ⟨⟨hxe, hxb, hxl, hxo, hxw⟩, hxk, hxz, hxc, hxs, hxt, hxf, hxr⟩ := hx
  intro H locs ls h1 h2 h3 h4 h5 h6 h7 h8
  exact lv_lconst hxe hxb d hv (k H locs ls h1 h2 h3 h4 h5 h6 h7 h8)
theorem A_i2l (hx : Hx κ cc nL own fX lX) {x : Int32} (d : decode cc pc = .ok (.i2l, 1)) (k : Acf κ (pc + 1) (aj x.toInt64 :: st) lc σ) : Acf κ pc (ai x :: st) lc σ := by
  obtain ⟨p, l, e, R, s, m, args, below, meth, c, Q, g, L, c0, s0, fc, fs⟩ := κ
  obtain ⟨⟨hxe, hxb, hxl, hxo, hxw⟩, hxk, hxz, hxc, hxs, hxt, hxf, hxr⟩ := hx
  intro H locs ls h1 h2 h3 h4 h5 h6 h7 h8
  exact lv_i2l hxe hxb d rfl (k H locs ls h1 h2 h3 h4 h5 h6 h7 h8)
theorem A_l2i (hx : Hx κ cc nL own fX lX) {x : Int64} (d : decode cc pc = .ok (.l2i, 1)) (k : Acf κ (pc + 1) (ai x.toInt32 :: st) lc σ) : Acf κ pc (aj x :: st) lc σ := by
  obtain ⟨p, l, e, R, s, m, args, below, meth, c, Q, g, L, c0, s0, fc, fs⟩ := κ
  obtain ⟨⟨hxe, hxb, hxl, hxo, hxw⟩, hxk, hxz, hxc, hxs, hxt, hxf, hxr⟩ := hx
  intro H locs ls h1 h2 h3 h4 h5 h6 h7 h8
  exact lv_l2i hxe hxb d rfl (k H locs ls h1 h2 h3 h4 h5 h6 h7 h8)
theorem A_land (hx : Hx κ cc nL own fX lX) {x y : Int64} (d : decode cc pc = .ok (.land, 1)) (k : Acf κ (pc + 1) (aj (x &&& y) :: st) lc σ) : Acf κ pc (aj y :: aj x :: st) lc σ := by
  obtain ⟨p, l, e, R, s, m, args, below, meth, c, Q, g, L, c0, s0, fc, fs⟩ := κ
  obtain ⟨⟨hxe, hxb, hxl, hxo, hxw⟩, hxk, hxz, hxc, hxs, hxt, hxf, hxr⟩ := hx
  intro H locs ls h1 h2 h3 h4 h5 h6 h7 h8
  exact lv_land hxe hxb d (k H locs ls h1 h2 h3 h4 h5 h6 h7 h8)
theorem A_lor (hx : Hx κ cc nL own fX lX) {x y : Int64} (d : decode cc pc = .ok (.lor, 1)) (k : Acf κ (pc + 1) (aj (x ||| y) :: st) lc σ) : Acf κ pc (aj y :: aj x :: st) lc σ := by
  obtain ⟨p, l, e, R, s, m, args, below, meth, c, Q, g, L, c0, s0, fc, fs⟩ := κ
  obtain ⟨⟨hxe, hxb, hxl, hxo, hxw⟩, hxk, hxz, hxc, hxs, hxt, hxf, hxr⟩ := hx
  intro H locs ls h1 h2 h3 h4 h5 h6 h7 h8
  exact lv_lor hxe hxb d (k H locs ls h1 h2 h3 h4 h5 h6 h7 h8)
theorem A_lxor (hx : Hx κ cc nL own fX lX) {x y : Int64} (d : decode cc pc = .ok (.lxor, 1)) (k : Acf κ (pc + 1) (aj (x ^^^ y) :: st) lc σ) : Acf κ pc (aj y :: aj x :: st) lc σ := by
  obtain ⟨p, l, e, R, s, m, args, below, meth, c, Q, g, L, c0, s0, fc, fs⟩ := κ
  obtain ⟨⟨hxe, hxb, hxl, hxo, hxw⟩, hxk, hxz, hxc, hxs, hxt, hxf, hxr⟩ := hx
  intro H locs ls h1 h2 h3 h4 h5 h6 h7 h8
  exact lv_lxor hxe hxb d (k H locs ls h1 h2 h3 h4 h5 h6 h7 h8)
theorem A_lsub (hx : Hx κ cc nL own fX lX) {x y : Int64} (d : decode cc pc = .ok (.lsub, 1)) (k : Acf κ (pc + 1) (aj (x - y) :: st) lc σ) : Acf κ pc (aj y :: aj x :: st) lc σ := by
  obtain ⟨p, l, e, R, s, m, args, below, meth, c, Q, g, L, c0, s0, fc, fs⟩ := κ
  obtain ⟨⟨hxe, hxb, hxl, hxo, hxw⟩, hxk, hxz, hxc, hxs, hxt, hxf, hxr⟩ := hx
  intro H locs ls h1 h2 h3 h4 h5 h6 h7 h8
  exact lv_lsub hxe hxb d (k H locs ls h1 h2 h3 h4 h5 h6 h7 h8)
theorem A_lshl (hx : Hx κ cc nL own fX lX) {x : Int64} {y : Int32} (d : decode cc pc = .ok (.lshl, 1)) (k : Acf κ (pc + 1) (aj (x <<< (y.toInt64 &&& 63)) :: st) lc σ) : Acf κ pc (ai y :: aj x :: st) lc σ := by
  obtain ⟨p, l, e, R, s, m, args, below, meth, c, Q, g, L, c0, s0, fc, fs⟩ := κ
  obtain ⟨⟨hxe, hxb, hxl, hxo, hxw⟩, hxk, hxz, hxc, hxs, hxt, hxf, hxr⟩ := hx
  intro H locs ls h1 h2 h3 h4 h5 h6 h7 h8
  exact lv_lshl hxe hxb d rfl (k H locs ls h1 h2 h3 h4 h5 h6 h7 h8)
theorem A_lshr (hx : Hx κ cc nL own fX lX) {x : Int64} {y : Int32} (d : decode cc pc = .ok (.lshr, 1)) (k : Acf κ (pc + 1) (aj (x >>> (y.toInt64 &&& 63)) :: st) lc σ) : Acf κ pc (ai y :: aj x :: st) lc σ := by
  obtain ⟨p, l, e, R, s, m, args, below, meth, c, Q, g, L, c0, s0, fc, fs⟩ := κ
  obtain ⟨⟨hxe, hxb, hxl, hxo, hxw⟩, hxk, hxz, hxc, hxs, hxt, hxf, hxr⟩ := hx
  intro H locs ls h1 h2 h3 h4 h5 h6 h7 h8
  exact lv_lshr hxe hxb d rfl (k H locs ls h1 h2 h3 h4 h5 h6 h7 h8)
theorem A_lcmp (hx : Hx κ cc nL own fX lX) {x y : Int64} (d : decode cc pc = .ok (.lcmp, 1)) (k : Acf κ (pc + 1) (ai (lg_cmp x y) :: st) lc σ) : Acf κ pc (aj y :: aj x :: st) lc σ := by
  obtain ⟨p, l, e, R, s, m, args, below, meth, c, Q, g, L, c0, s0, fc, fs⟩ := κ
  obtain ⟨⟨hxe, hxb, hxl, hxo, hxw⟩, hxk, hxz, hxc, hxs, hxt, hxf, hxr⟩ := hx
  intro H locs ls h1 h2 h3 h4 h5 h6 h7 h8
  exact W.lcmp hxe hxb d (k H locs ls h1 h2 h3 h4 h5 h6 h7 h8)
theorem A_lload_n (hx : Hx κ cc nL own fX lX) {i : Fin 4} {x : Int64} (d : decode cc pc = .ok (.lload_n i, 1)) (hl : lc[(i : Nat)]? = some (some (aj x))) (hn : isNo lc[(i : Nat) + 1]? = true) (k : Acf κ (pc + 1) (aj x :: st) lc σ) : Acf κ pc st lc σ := by
  obtain ⟨p, l, e, R, s, m, args, below, meth, c, Q, g, L, c0, s0, fc, fs⟩ := κ
  obtain ⟨⟨hxe, hxb, hxl, hxo, hxw⟩, hxk, hxz, hxc, hxs, hxt, hxf, hxr⟩ := hx
  intro H locs ls h1 h2 h3 h4 h5 h6 h7 h8
  exact lv_lload_n hxe hxb d rfl (h1.2.2 _ _ hl (Or.inr hn)) (k H locs ls h1 h2 h3 h4 h5 h6 h7 h8)
theorem A_lload (hx : Hx κ cc nL own fX lX) {i : Nat} {x : Int64} (d : decode cc pc = .ok (.lload i, 2)) (hl : lc[i]? = some (some (aj x))) (hn : isNo lc[i + 1]? = true) (k : Acf κ (pc + 2) (aj x :: st) lc σ) : Acf κ pc st lc σ := by
  obtain ⟨p, l, e, R, s, m, args, below, meth, c, Q, g, L, c0, s0, fc, fs⟩ := κ
  obtain ⟨⟨hxe, hxb, hxl, hxo, hxw⟩, hxk, hxz, hxc, hxs, hxt, hxf, hxr⟩ := hx
  intro H locs ls h1 h2 h3 h4 h5 h6 h7 h8
  exact lv_lload hxe hxb d (h1.2.2 _ _ hl (Or.inr hn)) (k H locs ls h1 h2 h3 h4 h5 h6 h7 h8)
theorem A_lstore_n (hx : Hx κ cc nL own fX lX) {i : Fin 4} {x : Int64} (d : decode cc pc = .ok (.lstore_n i, 1)) (hi : (i : Nat) + 1 < lc.length) (k : Acf κ (pc + 1) st ((lc.set (i : Nat) (some (aj x))).set ((i : Nat) + 1) none) σ) : Acf κ pc (aj x :: st) lc σ := by
  obtain ⟨p, l, e, R, s, m, args, below, meth, c, Q, g, L, c0, s0, fc, fs⟩ := κ
  obtain ⟨⟨hxe, hxb, hxl, hxo, hxw⟩, hxk, hxz, hxc, hxs, hxt, hxf, hxr⟩ := hx
  intro H locs ls h1 h2 h3 h4 h5 h6 h7 h8
  exact lv_lstore_n hxe hxb d rfl h1.has hi rfl (fun ls' h' => k H locs ls' (h1.setJ hi h') h2 h3 h4 h5 h6 h7 h8)
theorem A_lstore (hx : Hx κ cc nL own fX lX) {i : Nat} {x : Int64} (d : decode cc pc = .ok (.lstore i, 2)) (hi : i + 1 < lc.length) (k : Acf κ (pc + 2) st ((lc.set i (some (aj x))).set (i + 1) none) σ) : Acf κ pc (aj x :: st) lc σ := by
  obtain ⟨p, l, e, R, s, m, args, below, meth, c, Q, g, L, c0, s0, fc, fs⟩ := κ
  obtain ⟨⟨hxe, hxb, hxl, hxo, hxw⟩, hxk, hxz, hxc, hxs, hxt, hxf, hxr⟩ := hx
  intro H locs ls h1 h2 h3 h4 h5 h6 h7 h8
  exact lv_lstore hxe hxb d h1.has hi rfl (fun ls' h' => k H locs ls' (h1.setJ hi h') h2 h3 h4 h5 h6 h7 h8)
theorem A_lald (hx : Hx κ cc nL own fX lX) {t : Nat} {i : Int32} (ht : t < 5) (hin : vp_in i (lsh t)) (d : decode cc pc = .ok (.laload, 1)) (k : Acf κ (pc + 1) (aj (σ.2.2.2 t i.toNatClampNeg) :: st) lc σ) : Acf κ pc (ai i :: ar (14, t) :: st) lc σ := by
  obtain ⟨p, l, e, R, s, m, args, below, meth, c, Q, g, L, c0, s0, fc, fs⟩ := κ
  obtain ⟨⟨hxe, hxb, hxl, hxo, hxw⟩, hxk, hxz, hxc, hxs, hxt, hxf, hxr⟩ := hx
  intro H locs ls h1 h2 h3 h4 h5 h6 h7 h8
  obtain ⟨L', hL, r1, r2, r3, r4, r5⟩ := id h2
  have hat : va_at g.1 vwCl (L' (14, t), .inl (g.2.1 4, lsh t, .inr (.inl (fun j => σ.2.2.2 t j)))) H := r1 (14, t) (by simp [vld]; exact ht)
  rw [hL (14, t) (show (14 : Nat) ≠ 5 by decide)] at hat
  exact va_lald hxe hxb h3.1 (vP1 hat) 0 4 rfl rfl hin d (k H locs ls h1 h2 h3 h4 h5 h6 h7 h8)
theorem cell_J {L : Tg → Nat} {cy : Nat → ClassId} {σ : Sg} {k j : Nat} {x : Int64} {t : Tg} (h : t ≠ (14, k)) : cellOf L cy (upJ σ k j x) t = cellOf L cy σ t := by
  obtain ⟨tk, i⟩ := t
  unfold cellOf
  cases ash (tk, i) with
  | some a => rfl
  | none =>
    dsimp only
    unfold cellN
    dsimp only
    split
    all_goals first | rfl | skip
    have hik : ¬ i = k := fun z => h (by rw [z])
    have e : (fun j' => (upJ σ k j x).2.2.2 i j') = (fun j' => σ.2.2.2 i j') := funext fun j' => if_neg (fun q => hik q.1)
    rw [e]
theorem arrV_ext {c : ClassId} {n : Nat} {f g : Nat → Value} (h : ∀ j, j < n → f j = g j) : arrV c n f = arrV c n g := by
  have e : (fun j : Fin n => f j.val) = (fun j : Fin n => g j.val) := funext fun j => h j.1 j.2
  unfold arrV
  rw [e]
theorem A_last (hx : Hx κ cc nL own fX lX) {t : Nat} {i : Int32} {x : Int64} (ht : t < 5) (hin : vp_in i (lsh t)) (d : decode cc pc = .ok (.lastore, 1)) (k : Acf κ (pc + 1) st lc (upJ σ t i.toNatClampNeg x)) : Acf κ pc (aj x :: ai i :: ar (14, t) :: st) lc σ := by
  obtain ⟨p, l, e, R, s, m, args, below, meth, c, Q, g, L, c0, s0, fc, fs⟩ := κ
  obtain ⟨⟨hxe, hxb, hxl, hxo, hxw⟩, hxk, hxz, hxc, hxs, hxt, hxf, hxr⟩ := hx
  intro H locs ls h1 h2 h3 h4 h5 h6 h7 h8
  obtain ⟨L', hL, r1, r2, r3, r4, r5⟩ := id h2
  have v14 : vld σ (14, t) = true := by simp [vld]; exact ht
  have hat : va_at g.1 vwCl (L' (14, t), .inl (g.2.1 4, lsh t, .inr (.inl (fun j => σ.2.2.2 t j)))) H := r1 (14, t) v14
  have e14 : L' (14, t) = L (14, t) := hL (14, t) (show (14 : Nat) ≠ 5 by decide)
  rw [e14] at hat
  have hg : gA g (L (14, t)) := by
    have := r3 (14, t) v14 (show (14 : Nat) ≠ 13 by decide)
    rwa [e14] at this
  refine W.last hxe hxb hat ((h3.1.2 4 _ rfl).1 (lsh t) (fun j => .long (σ.2.2.2 t j))) (fun q => by cases q) (by show ¬ (i < 0 ∨ (arrV _ _ _).slots.size ≤ _); rw [arrV_size]; exact hin) rfl rfl d fun H1 z1 z oq => ?_
  have hR : RepX g L (upJ σ t i.toNatClampNeg x) H1 := by
    refine ⟨L', hL, fun u hu => ?_, r2, r3, r4, r5⟩
    by_cases e9 : u = (14, t)
    · subst e9
      rw [e14]
      show H1[L (14, t)]? = some (vp_cell (g.2.1 4) (lsh t, .inr (.inl (fun j => (upJ σ t i.toNatClampNeg x).2.2.2 t j))))
      rw [z1, vp_cell_l, vp_cell_l, arrV_store]
      refine congrArg some (arrV_ext fun j hj => ?_)
      by_cases q : j = i.toNatClampNeg
      · subst q
        simp [updV, upJ]
      · simp [updV, upJ, q]
    · rw [cell_J e9]
      refine (r1 u hu).kept (oq _ fun z => e9 (r2 u (14, t) hu v14 ?_))
      rw [e14]
      exact z
  exact k H1 _ ls h1 hR (h3.kept (fun q _ ha => oq q (fun z => ha (by rw [z]; exact hg)))) (h4.put z oq hg) h5 h6 h7 h8
theorem A_dup2J (hx : Hx κ cc nL own fX lX) {x : Int64} (d : decode cc pc = .ok (.dup2, 1)) (k : Acf κ (pc + 1) (aj x :: aj x :: st) lc σ) : Acf κ pc (aj x :: st) lc σ := by
  obtain ⟨p, l, e, R, s, m, args, below, meth, c, Q, g, L, c0, s0, fc, fs⟩ := κ
  obtain ⟨⟨hxe, hxb, hxl, hxo, hxw⟩, hxk, hxz, hxc, hxs, hxt, hxf, hxr⟩ := hx
  intro H locs ls h1 h2 h3 h4 h5 h6 h7 h8
  exact lv_dup2_2 hxe hxb d rfl (k H locs ls h1 h2 h3 h4 h5 h6 h7 h8)
theorem A_tabIn (hx : Hx κ cc nL own fX lX) {dflt lo hi : Int} {offs : Array Int} {len : Nat} {x : Int32} {off : Int} {tgt : Nat} (d : decode cc pc = .ok (.tableswitch dflt lo hi offs, len)) (t1 : ¬ x.toInt < lo) (t2 : ¬ hi < x.toInt) (ho : offs[(x.toInt - lo).toNat]? = some off) (ht : (pc : Int) + off = (tgt : Int)) (k : Acf κ tgt st lc σ) : Acf κ pc (ai x :: st) lc σ := by
  obtain ⟨p, l, e, R, s, m, args, below, meth, c, Q, g, L, c0, s0, fc, fs⟩ := κ
  obtain ⟨⟨hxe, hxb, hxl, hxo, hxw⟩, hxk, hxz, hxc, hxs, hxt, hxf, hxr⟩ := hx
  intro H locs ls h1 h2 h3 h4 h5 h6 h7 h8
  exact lv_tableIn hxe hxb d t1 t2 ho ht (k H locs ls h1 h2 h3 h4 h5 h6 h7 h8)
theorem A_tabOut (hx : Hx κ cc nL own fX lX) {dflt lo hi : Int} {offs : Array Int} {len : Nat} {x : Int32} {tgt : Nat} (d : decode cc pc = .ok (.tableswitch dflt lo hi offs, len)) (t1 : x.toInt < lo ∨ hi < x.toInt) (ht : (pc : Int) + dflt = (tgt : Int)) (k : Acf κ tgt st lc σ) : Acf κ pc (ai x :: st) lc σ := by
  obtain ⟨p, l, e, R, s, m, args, below, meth, c, Q, g, L, c0, s0, fc, fs⟩ := κ
  obtain ⟨⟨hxe, hxb, hxl, hxo, hxw⟩, hxk, hxz, hxc, hxs, hxt, hxf, hxr⟩ := hx
  intro H locs ls h1 h2 h3 h4 h5 h6 h7 h8
  exact lv_tableOut hxe hxb d t1 ht (k H locs ls h1 h2 h3 h4 h5 h6 h7 h8)
theorem A_lret (hx : Hx κ cc nL own fX lX) {x : Int64} (hr : Hr κ (some .long)) (d : decode cc pc = .ok (.lreturn, 1)) (k : Rt κ (.inl (some (aj x))) σ) : Acf κ pc [aj x] lc σ := by
  obtain ⟨p, l, e, R, s, m, args, below, meth, c, Q, g, L, c0, s0, fc, fs⟩ := κ
  obtain ⟨⟨hxe, hxb, hxl, hxo, hxw⟩, hxk, hxz, hxc, hxs, hxt, hxf, hxr⟩ := hx
  obtain ⟨k1, k2, k3, k4, Qc, XC, rfl, kq, kx⟩ := k
  intro H locs ls h1 h2 h3 h4 h5 h6 h7 h8
  exact W.widen (Nat.sub_le_sub_right h7 _) (Nat.sub_le_sub_right h8 _) (vx_ret (W.lret hxe hxb hr.1 (fun t ht _ => kq _ _ _ ⟨⟨some (aj x), rfl, rfl, by rw [ht]; exact h2⟩, h4.F ht⟩) h4.2.2 d hxk))
end JROWS
-- meanings
def iShl (x y : Int32) : Int32 := x <<< (y &&& 31)
def iShr (x y : Int32) : Int32 := x >>> (y &&& 31)
def iUshr (x y : Int32) : Int32 := (x.toUInt32 >>> (y.toUInt32 &&& Int32.toUInt32 31)).toInt32
def iRem (x y : Int32) : Int32 := x - x / y * y
def jShl (x : Int64) (y : Int32) : Int64 := x <<< (y.toInt64 &&& 63)
def jShr (x : Int64) (y : Int32) : Int64 := x >>> (y.toInt64 &&& 63)
def xRem (a b : Ex Int32) : Ex Int32 := fun lc σ => (a lc σ).bind fun r => (b lc r.2).bind fun q => if q.1 = 0 then none else some (iRem r.1 q.1, q.2)
def xJ (v : Int64) : Ex Int64 := fun _ σ => some (v, σ)
def xLJ (i : Nat) : Ex Int64 := fun lc σ => match lc[i]?, lc[i + 1]? with
  | some (some (.inl (.long x))), some none => some (x, σ)
  | _, _ => none
def xBJ (op : Int64 → Int64 → Int64) (a b : Ex Int64) : Ex Int64 := fun lc σ => (a lc σ).bind fun r => (b lc r.2).bind fun q => some (op r.1 q.1, q.2)
def xSh (op : Int64 → Int32 → Int64) (a : Ex Int64) (b : Ex Int32) : Ex Int64 := fun lc σ => (a lc σ).bind fun r => (b lc r.2).bind fun q => some (op r.1 q.1, q.2)
def xBC (a b : Ex Int64) : Ex Int32 := fun lc σ => (a lc σ).bind fun r => (b lc r.2).bind fun q => some (lg_cmp r.1 q.1, q.2)
def xI2L (a : Ex Int32) : Ex Int64 := fun lc σ => (a lc σ).bind fun r => some (r.1.toInt64, r.2)
def xL2I (a : Ex Int64) : Ex Int32 := fun lc σ => (a lc σ).bind fun r => some (r.1.toInt32, r.2)
def rdJ (σ : Sg) (t : Tg) (i : Int32) : Option Int64 := if t.1 = 14 ∧ t.2 < 5 ∧ inB i (lsh t.2) = true then some (σ.2.2.2 t.2 i.toNatClampNeg) else none
def wrJ (σ : Sg) (t : Tg) (i : Int32) (x : Int64) : Option Sg := if t.1 = 14 ∧ t.2 < 5 ∧ inB i (lsh t.2) = true then some (upJ σ t.2 i.toNatClampNeg x) else none
def xAldJ (e : Ex Tg) (i : Ex Int32) : Ex Int64 := fun lc σ => (e lc σ).bind fun r => (i lc r.2).bind fun q => (rdJ q.2 r.1 q.1).bind fun v => some (v, q.2)
def sSetJ (i : Nat) (e : Ex Int64) : Sx := fun lc σ => (e lc σ).bind fun r => some (.inl ((lc.set i (some (aj r.1))).set (i + 1) none, r.2))
def sAstJ (e : Ex Tg) (i : Ex Int32) (v : Ex Int64) : Sx := fun lc σ => (e lc σ).bind fun r => (i lc r.2).bind fun q => (v lc q.2).bind fun u => (wrJ u.2 r.1 q.1 u.1).bind fun τ => some (.inl (lc, τ))
def sAopJ (op : Int64 → Int64 → Int64) (e : Ex Tg) (i : Ex Int32) (v : Ex Int64) : Sx := fun lc σ => (e lc σ).bind fun r => (i lc r.2).bind fun q => (rdJ q.2 r.1 q.1).bind fun z => (v lc q.2).bind fun u => (wrJ u.2 r.1 q.1 (op z u.1)).bind fun τ => some (.inl (lc, τ))
def sRetJ (e : Ex Int64) : Sx := fun lc σ => (e lc σ).bind fun r => some (.inr (.inl (some (aj r.1)), r.2))
def aJ (e : Ex Int64) (r : Ex (List AV)) : Ex (List AV) := fun lc σ => (e lc σ).bind fun x => (r lc x.2).bind fun q => some (aj x.1 :: q.1, q.2)
def rJ : Res × Sg → Option (Int64 × Sg)
  | (.inl (some (.inl (.long v))), σ) => some (v, σ)
  | _ => none
def xCJ (c : Ex Res) : Ex Int64 := fun lc σ => (c lc σ).bind rJ
/-- a switch over a few ints that follow each other -/
def sSw (e : Ex Int32) (lo : Nat) (bs : List Sx) (df : Sx) : Sx := fun lc σ => (e lc σ).bind fun r => if 0 ≤ r.1 ∧ lo ≤ r.1.toNatClampNeg ∧ r.1.toNatClampNeg - lo < bs.length then (bs.getD (r.1.toNatClampNeg - lo) sSkip) lc r.2 else df lc r.2
section JJUDG
variable {κ : Kx} {cc : ByteArray} {nL fX lX : Nat} {own : String} {w pc pc1 pc2 pc3 pc4 pT pF pE : Nat} {ret : Option FieldType}
theorem E_ior (hx : Hx κ cc nL own fX lX) {a b : Ex Int32} (ha : Ev κ nL ai w pc pc1 a) (hb : Ev κ nL ai (w + 1) pc1 pc2 b) (d : decode cc pc2 = .ok (.ior, 1)) : Ev κ nL ai w pc (pc2 + 1) (xBin (· ||| ·) a b) := by
  intro st lc σ v σ' hlc hw h
  obtain ⟨r, hr, h⟩ := obs h
  obtain ⟨q, hq, h⟩ := obs h
  cases h
  obtain ⟨l1, k1⟩ := ha st lc σ _ _ hlc hw hr
  obtain ⟨l2, k2⟩ := hb (ai r.1 :: st) lc r.2 _ _ hlc (by rw [wt_c]; show 1 + _ ≤ _; omega) hq
  exact ⟨l1.trans l2, fun hf k => k1 (hf.le l2) (k2 hf (A_ior hx d k))⟩
theorem E_ixor (hx : Hx κ cc nL own fX lX) {a b : Ex Int32} (ha : Ev κ nL ai w pc pc1 a) (hb : Ev κ nL ai (w + 1) pc1 pc2 b) (d : decode cc pc2 = .ok (.ixor, 1)) : Ev κ nL ai w pc (pc2 + 1) (xBin (· ^^^ ·) a b) := by
  intro st lc σ v σ' hlc hw h
  obtain ⟨r, hr, h⟩ := obs h
  obtain ⟨q, hq, h⟩ := obs h
  cases h
  obtain ⟨l1, k1⟩ := ha st lc σ _ _ hlc hw hr
  obtain ⟨l2, k2⟩ := hb (ai r.1 :: st) lc r.2 _ _ hlc (by rw [wt_c]; show 1 + _ ≤ _; omega) hq
  exact ⟨l1.trans l2, fun hf k => k1 (hf.le l2) (k2 hf (A_ixor hx d k))⟩
theorem E_ishl (hx : Hx κ cc nL own fX lX) {a b : Ex Int32} (ha : Ev κ nL ai w pc pc1 a) (hb : Ev κ nL ai (w + 1) pc1 pc2 b) (d : decode cc pc2 = .ok (.ishl, 1)) : Ev κ nL ai w pc (pc2 + 1) (xBin iShl a b) := by
  intro st lc σ v σ' hlc hw h
  obtain ⟨r, hr, h⟩ := obs h
  obtain ⟨q, hq, h⟩ := obs h
  cases h
  obtain ⟨l1, k1⟩ := ha st lc σ _ _ hlc hw hr
  obtain ⟨l2, k2⟩ := hb (ai r.1 :: st) lc r.2 _ _ hlc (by rw [wt_c]; show 1 + _ ≤ _; omega) hq
  exact ⟨l1.trans l2, fun hf k => k1 (hf.le l2) (k2 hf (A_ishl hx d k))⟩
theorem E_ishr (hx : Hx κ cc nL own fX lX) {a b : Ex Int32} (ha : Ev κ nL ai w pc pc1 a) (hb : Ev κ nL ai (w + 1) pc1 pc2 b) (d : decode cc pc2 = .ok (.ishr, 1)) : Ev κ nL ai w pc (pc2 + 1) (xBin iShr a b) := by
  intro st lc σ v σ' hlc hw h
  obtain ⟨r, hr, h⟩ := obs h
  obtain ⟨q, hq, h⟩ := obs h
  cases h
  obtain ⟨l1, k1⟩ := ha st lc σ _ _ hlc hw hr
  obtain ⟨l2, k2⟩ := hb (ai r.1 :: st) lc r.2 _ _ hlc (by rw [wt_c]; show 1 + _ ≤ _; omega) hq
  exact ⟨l1.trans l2, fun hf k => k1 (hf.le l2) (k2 hf (A_ishr hx d k))⟩
theorem E_iushr (hx : Hx κ cc nL own fX lX) {a b : Ex Int32} (ha : Ev κ nL ai w pc pc1 a) (hb : Ev κ nL ai (w + 1) pc1 pc2 b) (d : decode cc pc2 = .ok (.iushr, 1)) : Ev κ nL ai w pc (pc2 + 1) (xBin iUshr a b) := by
  intro st lc σ v σ' hlc hw h
  obtain ⟨r, hr, h⟩ := obs h
  obtain ⟨q, hq, h⟩ := obs h
  cases h
  obtain ⟨l1, k1⟩ := ha st lc σ _ _ hlc hw hr
  obtain ⟨l2, k2⟩ := hb (ai r.1 :: st) lc r.2 _ _ hlc (by rw [wt_c]; show 1 + _ ≤ _; omega) hq
  exact ⟨l1.trans l2, fun hf k => k1 (hf.le l2) (k2 hf (A_iushr hx d k))⟩
theorem E_irem (hx : Hx κ cc nL own fX lX) {a b : Ex Int32} (ha : Ev κ nL ai w pc pc1 a) (hb : Ev κ nL ai (w + 1) pc1 pc2 b) (d : decode cc pc2 = .ok (.irem, 1)) : Ev κ nL ai w pc (pc2 + 1) (xRem a b) := by
  intro st lc σ v σ' hlc hw h
  obtain ⟨r, hr, h⟩ := obs h
  obtain ⟨q, hq, h⟩ := obs h
  split at h
  · cases h
  · rename_i hne
    cases h
    obtain ⟨l1, k1⟩ := ha st lc σ _ _ hlc hw hr
    obtain ⟨l2, k2⟩ := hb (ai r.1 :: st) lc r.2 _ _ hlc (by rw [wt_c]; show 1 + _ ≤ _; omega) hq
    exact ⟨l1.trans l2, fun hf k => k1 (hf.le l2) (k2 hf (A_irem hx d hne k))⟩
theorem E_sipush (hx : Hx κ cc nL own fX lX) {n : Int} {v : Int32} (d : decode cc pc = .ok (.sipush n, 3)) (hv : (Int16.ofInt n).toInt32 = v) : Ev κ nL ai w pc (pc + 3) (xI v) := by
  intro st lc σ v σ' hlc hw h
  cases h
  exact ⟨sle.refl _, fun _ k => A_sipush hx d hv k⟩
theorem E_ldcI (hx : Hx κ cc nL own fX lX) {idx : Nat} {v : Int32} (d : decode cc pc = .ok (.ldc idx, 2)) (hc : Cond.constant own idx v ∈ UW) : Ev κ nL ai w pc (pc + 2) (xI v) := by
  intro st lc σ v σ' hlc hw h
  cases h
  exact ⟨sle.refl _, fun _ k => A_ldcI hx d hc k⟩
theorem E_ldc2 (hx : Hx κ cc nL own fX lX) {idx : Nat} {v : Int64} (d : decode cc pc = .ok (.ldc2_w idx, 3)) (hc : Cond.constantLong own idx v ∈ UW) : Ev κ nL aj w pc (pc + 3) (xJ v) := by
  intro st lc σ v σ' hlc hw h
  cases h
  exact ⟨sle.refl _, fun _ k => A_ldc2 hx d hc k⟩
theorem E_lconst (hx : Hx κ cc nL own fX lX) {n : Fin 2} {v : Int64} (d : decode cc pc = .ok (.lconst n, 1)) (hv : Int64.ofNat (n : Nat) = v) : Ev κ nL aj w pc (pc + 1) (xJ v) := by
  intro st lc σ v σ' hlc hw h
  cases h
  exact ⟨sle.refl _, fun _ k => A_lconst hx d hv k⟩
theorem E_lload_n (hx : Hx κ cc nL own fX lX) {i : Fin 4} (d : decode cc pc = .ok (.lload_n i, 1)) : Ev κ nL aj w pc (pc + 1) (xLJ (i : Nat)) := by
  intro st lc σ v σ' hlc hw h
  unfold xLJ at h
  split at h
  · rename_i hq hn
    cases h
    exact ⟨sle.refl _, fun _ k => A_lload_n hx d hq (by rw [hn]; rfl) k⟩
  · cases h
theorem E_lload (hx : Hx κ cc nL own fX lX) {i : Nat} (d : decode cc pc = .ok (.lload i, 2)) : Ev κ nL aj w pc (pc + 2) (xLJ i) := by
  intro st lc σ v σ' hlc hw h
  unfold xLJ at h
  split at h
  · rename_i hq hn
    cases h
    exact ⟨sle.refl _, fun _ k => A_lload hx d hq (by rw [hn]; rfl) k⟩
  · cases h
theorem E_land (hx : Hx κ cc nL own fX lX) {a b : Ex Int64} (ha : Ev κ nL aj w pc pc1 a) (hb : Ev κ nL aj (w + 2) pc1 pc2 b) (d : decode cc pc2 = .ok (.land, 1)) : Ev κ nL aj w pc (pc2 + 1) (xBJ (· &&& ·) a b) := by
  intro st lc σ v σ' hlc hw h
  obtain ⟨r, hr, h⟩ := obs h
  obtain ⟨q, hq, h⟩ := obs h
  cases h
  obtain ⟨l1, k1⟩ := ha st lc σ _ _ hlc hw hr
  obtain ⟨l2, k2⟩ := hb (aj r.1 :: st) lc r.2 _ _ hlc (by rw [wt_c]; show 2 + _ ≤ _; omega) hq
  exact ⟨l1.trans l2, fun hf k => k1 (hf.le l2) (k2 hf (A_land hx d k))⟩
theorem E_lor (hx : Hx κ cc nL own fX lX) {a b : Ex Int64} (ha : Ev κ nL aj w pc pc1 a) (hb : Ev κ nL aj (w + 2) pc1 pc2 b) (d : decode cc pc2 = .ok (.lor, 1)) : Ev κ nL aj w pc (pc2 + 1) (xBJ (· ||| ·) a b) := by
  intro st lc σ v σ' hlc hw h
  obtain ⟨r, hr, h⟩ := obs h
  obtain ⟨q, hq, h⟩ := obs h
  cases h
  obtain ⟨l1, k1⟩ := ha st lc σ _ _ hlc hw hr
  obtain ⟨l2, k2⟩ := hb (aj r.1 :: st) lc r.2 _ _ hlc (by rw [wt_c]; show 2 + _ ≤ _; omega) hq
  exact ⟨l1.trans l2, fun hf k => k1 (hf.le l2) (k2 hf (A_lor hx d k))⟩
theorem E_lxor (hx : Hx κ cc nL own fX lX) {a b : Ex Int64} (ha : Ev κ nL aj w pc pc1 a) (hb : Ev κ nL aj (w + 2) pc1 pc2 b) (d : decode cc pc2 = .ok (.lxor, 1)) : Ev κ nL aj w pc (pc2 + 1) (xBJ (· ^^^ ·) a b) := by
  intro st lc σ v σ' hlc hw h
  obtain ⟨r, hr, h⟩ := obs h
  obtain ⟨q, hq, h⟩ := obs h
  cases h
  obtain ⟨l1, k1⟩ := ha st lc σ _ _ hlc hw hr
  obtain ⟨l2, k2⟩ := hb (aj r.1 :: st) lc r.2 _ _ hlc (by rw [wt_c]; show 2 + _ ≤ _; omega) hq
  exact ⟨l1.trans l2, fun hf k => k1 (hf.le l2) (k2 hf (A_lxor hx d k))⟩
theorem E_lsub (hx : Hx κ cc nL own fX lX) {a b : Ex Int64} (ha : Ev κ nL aj w pc pc1 a) (hb : Ev κ nL aj (w + 2) pc1 pc2 b) (d : decode cc pc2 = .ok (.lsub, 1)) : Ev κ nL aj w pc (pc2 + 1) (xBJ (· - ·) a b) := by
  intro st lc σ v σ' hlc hw h
  obtain ⟨r, hr, h⟩ := obs h
  obtain ⟨q, hq, h⟩ := obs h
  cases h
  obtain ⟨l1, k1⟩ := ha st lc σ _ _ hlc hw hr
  obtain ⟨l2, k2⟩ := hb (aj r.1 :: st) lc r.2 _ _ hlc (by rw [wt_c]; show 2 + _ ≤ _; omega) hq
  exact ⟨l1.trans l2, fun hf k => k1 (hf.le l2) (k2 hf (A_lsub hx d k))⟩
theorem E_lshl (hx : Hx κ cc nL own fX lX) {a : Ex Int64} {b : Ex Int32} (ha : Ev κ nL aj w pc pc1 a) (hb : Ev κ nL ai (w + 2) pc1 pc2 b) (d : decode cc pc2 = .ok (.lshl, 1)) : Ev κ nL aj w pc (pc2 + 1) (xSh jShl a b) := by
  intro st lc σ v σ' hlc hw h
  obtain ⟨r, hr, h⟩ := obs h
  obtain ⟨q, hq, h⟩ := obs h
  cases h
  obtain ⟨l1, k1⟩ := ha st lc σ _ _ hlc hw hr
  obtain ⟨l2, k2⟩ := hb (aj r.1 :: st) lc r.2 _ _ hlc (by rw [wt_c]; show 2 + _ ≤ _; omega) hq
  exact ⟨l1.trans l2, fun hf k => k1 (hf.le l2) (k2 hf (A_lshl hx d k))⟩
theorem E_lshr (hx : Hx κ cc nL own fX lX) {a : Ex Int64} {b : Ex Int32} (ha : Ev κ nL aj w pc pc1 a) (hb : Ev κ nL ai (w + 2) pc1 pc2 b) (d : decode cc pc2 = .ok (.lshr, 1)) : Ev κ nL aj w pc (pc2 + 1) (xSh jShr a b) := by
  intro st lc σ v σ' hlc hw h
  obtain ⟨r, hr, h⟩ := obs h
  obtain ⟨q, hq, h⟩ := obs h
  cases h
  obtain ⟨l1, k1⟩ := ha st lc σ _ _ hlc hw hr
  obtain ⟨l2, k2⟩ := hb (aj r.1 :: st) lc r.2 _ _ hlc (by rw [wt_c]; show 2 + _ ≤ _; omega) hq
  exact ⟨l1.trans l2, fun hf k => k1 (hf.le l2) (k2 hf (A_lshr hx d k))⟩
theorem E_lcmp (hx : Hx κ cc nL own fX lX) {a b : Ex Int64} (ha : Ev κ nL aj w pc pc1 a) (hb : Ev κ nL aj (w + 2) pc1 pc2 b) (d : decode cc pc2 = .ok (.lcmp, 1)) : Ev κ nL ai w pc (pc2 + 1) (xBC a b) := by
  intro st lc σ v σ' hlc hw h
  obtain ⟨r, hr, h⟩ := obs h
  obtain ⟨q, hq, h⟩ := obs h
  cases h
  obtain ⟨l1, k1⟩ := ha st lc σ _ _ hlc hw hr
  obtain ⟨l2, k2⟩ := hb (aj r.1 :: st) lc r.2 _ _ hlc (by rw [wt_c]; show 2 + _ ≤ _; omega) hq
  exact ⟨l1.trans l2, fun hf k => k1 (hf.le l2) (k2 hf (A_lcmp hx d k))⟩
theorem E_i2l (hx : Hx κ cc nL own fX lX) {a : Ex Int32} (ha : Ev κ nL ai w pc pc1 a) (d : decode cc pc1 = .ok (.i2l, 1)) : Ev κ nL aj w pc (pc1 + 1) (xI2L a) := by
  intro st lc σ v σ' hlc hw h
  obtain ⟨r, hr, h⟩ := obs h
  cases h
  obtain ⟨l1, k1⟩ := ha st lc σ _ _ hlc hw hr
  exact ⟨l1, fun hf k => k1 hf (A_i2l hx d k)⟩
theorem E_l2i (hx : Hx κ cc nL own fX lX) {a : Ex Int64} (ha : Ev κ nL aj w pc pc1 a) (d : decode cc pc1 = .ok (.l2i, 1)) : Ev κ nL ai w pc (pc1 + 1) (xL2I a) := by
  intro st lc σ v σ' hlc hw h
  obtain ⟨r, hr, h⟩ := obs h
  cases h
  obtain ⟨l1, k1⟩ := ha st lc σ _ _ hlc hw hr
  exact ⟨l1, fun hf k => k1 hf (A_l2i hx d k)⟩
theorem rdJ_s {σ : Sg} {t : Tg} {i : Int32} {v : Int64} (h : rdJ σ t i = some v) : ∃ k, t = (14, k) ∧ k < 5 ∧ inB i (lsh k) = true ∧ v = σ.2.2.2 k i.toNatClampNeg := by
  obtain ⟨⟨c1, c2, c3⟩, rfl⟩ := ite_s h
  obtain ⟨tk, k⟩ := t
  dsimp only at c1
  subst c1
  exact ⟨k, rfl, c2, c3, rfl⟩
theorem wrJ_s {σ τ : Sg} {t : Tg} {i : Int32} {x : Int64} (h : wrJ σ t i x = some τ) : ∃ k, t = (14, k) ∧ k < 5 ∧ inB i (lsh k) = true ∧ τ = upJ σ k i.toNatClampNeg x := by
  obtain ⟨⟨c1, c2, c3⟩, rfl⟩ := ite_s h
  obtain ⟨tk, k⟩ := t
  dsimp only at c1
  subst c1
  exact ⟨k, rfl, c2, c3, rfl⟩
theorem E_lald (hx : Hx κ cc nL own fX lX) {e : Ex Tg} {i : Ex Int32} (he : Ev κ nL ar w pc pc1 e) (hi : Ev κ nL ai (w + 1) pc1 pc2 i) (d : decode cc pc2 = .ok (.laload, 1)) : Ev κ nL aj w pc (pc2 + 1) (xAldJ e i) := by
  intro st lc σ v σ' hlc hw h
  obtain ⟨⟨t, σ1⟩, hr, h⟩ := obs h
  obtain ⟨⟨i9, σ2⟩, hq, h⟩ := obs h
  obtain ⟨z, hz, h⟩ := obs h
  cases h
  obtain ⟨l1, k1⟩ := he st lc σ _ _ hlc hw hr
  obtain ⟨l2, k2⟩ := hi (ar t :: st) lc σ1 _ _ hlc (by rw [wt_c]; show 1 + _ ≤ _; omega) hq
  obtain ⟨k9, e1, c2, c3, rfl⟩ := rdJ_s hz
  dsimp only at e1 k1 k2
  subst e1
  exact ⟨l1.trans l2, fun hf k => k1 (hf.le l2) (k2 hf (A_lald hx c2 (inB_in c3) d k))⟩
theorem E_CJ {c : Ex Res} (hc : Er κ nL w pc pc1 c) : Ev κ nL aj w pc pc1 (xCJ c) := by
  intro st lc σ v σ' hlc hw h
  obtain ⟨⟨r, σ1⟩, hr9, h⟩ := obs h
  obtain ⟨l1, k1⟩ := hc st lc σ _ _ hlc hw hr9
  unfold rJ at h
  split at h
  · rename_i x τ e
    cases h
    cases e
    exact ⟨l1, fun hf k => k1 hf (fun u hu => by cases hu; exact k) (fun n hn => by cases hn)⟩
  · cases h
theorem S_J {n : Nat} {e : Ex Int64} {r : Ex (List AV)} (he : Ev κ nL aj w pc pc1 e) (hr : Es κ nL n (w + 2) pc1 pc2 r) : Es κ nL (n + 1) w pc pc2 (aJ e r) := by
  intro st lc σ vs σ' hlc hw h
  obtain ⟨x, hx9, h⟩ := obs h
  obtain ⟨q, hq, h⟩ := obs h
  cases h
  obtain ⟨l1, k1⟩ := he st lc σ _ _ hlc hw hx9
  obtain ⟨n2, g2, l2, k2⟩ := hr (aj x.1 :: st) lc x.2 _ _ hlc (by rw [wt_c]; show 2 + _ ≤ _; omega) hq
  refine ⟨by rw [List.length_cons, n2], fun v hv => ?_, l1.trans l2, fun hf k => k1 (hf.le l2) (k2 hf ?_)⟩
  · rcases List.mem_cons.mp hv with rfl | hv
    · exact Or.inr (Or.inr (Or.inr ⟨_, rfl⟩))
    · exact g2 v hv
  · rw [List.reverse_cons, List.append_assoc] at k
    exact k
/-- a value that is needed no more, behind a row that jumps always -/
theorem C_true : Cj κ nL w pc pc pF (fun _ σ => some (true, σ)) := by
  intro st lc σ v σ' hlc hw h
  cases h
  exact ⟨sle.refl _, fun _ kt _ => kt rfl⟩
theorem T_setJ_n (hx : Hx κ cc nL own fX lX) {i : Fin 4} {e : Ex Int64} (he : Ev κ nL aj 0 pc pc1 e) (d : decode cc pc1 = .ok (.lstore_n i, 1)) (hi : (i : Nat) + 1 < nL) : St κ nL pc (pc1 + 1) (sSetJ (i : Nat) e) := by
  refine T_end (fun lc σ hlc lc' σ' h => ?_) (fun lc σ r σ' h => ?_)
  · obtain ⟨r, hr, h⟩ := obs h
    cases h
    obtain ⟨l1, k1⟩ := he [] lc σ _ _ hlc (Nat.le_refl 0) hr
    exact ⟨by rw [List.length_set, List.length_set]; exact hlc, l1, fun hf k => k1 hf (A_lstore_n hx d (by rw [hlc]; exact hi) k)⟩
  · obtain ⟨r, hr, h⟩ := obs h
    cases h
theorem T_setJ (hx : Hx κ cc nL own fX lX) {i : Nat} {e : Ex Int64} (he : Ev κ nL aj 0 pc pc1 e) (d : decode cc pc1 = .ok (.lstore i, 2)) (hi : i + 1 < nL) : St κ nL pc (pc1 + 2) (sSetJ i e) := by
  refine T_end (fun lc σ hlc lc' σ' h => ?_) (fun lc σ r σ' h => ?_)
  · obtain ⟨r, hr, h⟩ := obs h
    cases h
    obtain ⟨l1, k1⟩ := he [] lc σ _ _ hlc (Nat.le_refl 0) hr
    exact ⟨by rw [List.length_set, List.length_set]; exact hlc, l1, fun hf k => k1 hf (A_lstore hx d (by rw [hlc]; exact hi) k)⟩
  · obtain ⟨r, hr, h⟩ := obs h
    cases h
theorem T_last (hx : Hx κ cc nL own fX lX) {e : Ex Tg} {i : Ex Int32} {v : Ex Int64} (he : Ev κ nL ar 0 pc pc1 e) (hi : Ev κ nL ai 1 pc1 pc2 i) (hv : Ev κ nL aj 2 pc2 pc3 v) (d : decode cc pc3 = .ok (.lastore, 1)) : St κ nL pc (pc3 + 1) (sAstJ e i v) := by
  refine T_end (fun lc σ hlc lc' σ' h => ?_) (fun lc σ r σ' h => ?_)
  · obtain ⟨⟨t, σ1⟩, hr, h⟩ := obs h
    obtain ⟨⟨i9, σ2⟩, hq, h⟩ := obs h
    obtain ⟨⟨x9, σ3⟩, hu, h⟩ := obs h
    obtain ⟨τ, hz, h⟩ := obs h
    cases h
    obtain ⟨l1, k1⟩ := he [] lc σ _ _ hlc (Nat.le_refl 0) hr
    obtain ⟨l2, k2⟩ := hi [ar t] lc σ1 _ _ hlc (Nat.le_refl 1) hq
    obtain ⟨l3, k3⟩ := hv [ai i9, ar t] lc σ2 _ _ hlc (Nat.le_refl 2) hu
    obtain ⟨k9, e1, c2, c3, rfl⟩ := wrJ_s hz
    dsimp only at e1 k1 k2 k3
    subst e1
    exact ⟨hlc, l1.trans (l2.trans l3), fun hf k => k1 (Fit.le (τ := σ3) hf (l2.trans l3)) (k2 (Fit.le (τ := σ3) hf l3) (k3 hf (A_last hx c2 (inB_in c3) d k)))⟩
  · obtain ⟨r9, hr, h⟩ := obs h
    obtain ⟨q, hq, h⟩ := obs h
    obtain ⟨u, hu, h⟩ := obs h
    obtain ⟨τ, hz, h⟩ := obs h
    cases h
def OpJ (κ : Kx) (op : Int64 → Int64 → Int64) (pc pc' : Nat) : Prop := ∀ (x y : Int64) (st : List AV) (lc : LcT) (σ : Sg), Acf κ pc' (aj (op x y) :: st) lc σ → Acf κ pc (aj y :: aj x :: st) lc σ
theorem OJ_lor (hx : Hx κ cc nL own fX lX) (d : decode cc pc = .ok (.lor, 1)) : OpJ κ (· ||| ·) pc (pc + 1) := fun _ _ _ _ _ k => A_lor hx d k
theorem T_aopJ (hx : Hx κ cc nL own fX lX) {op : Int64 → Int64 → Int64} {e : Ex Tg} {i : Ex Int32} {v : Ex Int64} (he : Ev κ nL ar 0 pc pc1 e) (hi : Ev κ nL ai 1 pc1 pc2 i) (d : decode cc pc2 = .ok (.dup2, 1)) (d1 : decode cc (pc2 + 1) = .ok (.laload, 1)) (hv : Ev κ nL aj 4 (pc2 + 2) pc3 v) (ho : OpJ κ op pc3 pc4) (d4 : decode cc pc4 = .ok (.lastore, 1)) : St κ nL pc (pc4 + 1) (sAopJ op e i v) := by
  refine T_end (fun lc σ hlc lc' σ' h => ?_) (fun lc σ r σ' h => ?_)
  · obtain ⟨⟨t, σ1⟩, hr, h⟩ := obs h
    obtain ⟨⟨i9, σ2⟩, hq, h⟩ := obs h
    obtain ⟨z, hz, h⟩ := obs h
    obtain ⟨⟨x9, σ3⟩, hu, h⟩ := obs h
    obtain ⟨τ, hz2, h⟩ := obs h
    cases h
    obtain ⟨l1, k1⟩ := he [] lc σ _ _ hlc (Nat.le_refl 0) hr
    obtain ⟨l2, k2⟩ := hi [ar t] lc σ1 _ _ hlc (Nat.le_refl 1) hq
    obtain ⟨k9, e1, c2, c3, rfl⟩ := rdJ_s hz
    dsimp only at e1 k1 k2
    subst e1
    obtain ⟨l3, k3⟩ := hv [aj (σ2.2.2.2 k9 i9.toNatClampNeg), ai i9, ar (14, k9)] lc σ2 _ _ hlc (Nat.le_refl 4) hu
    obtain ⟨k8, e1', c2', c3', rfl⟩ := wrJ_s hz2
    cases e1'
    exact ⟨hlc, l1.trans (l2.trans l3), fun hf k => k1 (Fit.le (τ := σ3) hf (l2.trans l3)) (k2 (Fit.le (τ := σ3) hf l3) (A_dup2 hx d (A_lald hx c2 (inB_in c3) d1 (k3 hf (ho _ _ _ _ _ (A_last hx c2 (inB_in c3) d4 k))))))⟩
  · obtain ⟨r9, hr, h⟩ := obs h
    obtain ⟨q, hq, h⟩ := obs h
    obtain ⟨z, hz, h⟩ := obs h
    obtain ⟨u, hu, h⟩ := obs h
    obtain ⟨τ, hz2, h⟩ := obs h
    cases h
theorem T_retJ (hx : Hx κ cc nL own fX lX) {e : Ex Int64} (hr : Hr κ (some .long)) (he : Ev κ nL aj 0 pc pc1 e) (d : decode cc pc1 = .ok (.lreturn, 1)) : St κ nL pc pE (sRetJ e) := by
  intro lc σ hlc
  constructor
  · intro lc' σ' h
    obtain ⟨r, hr9, h⟩ := obs h
    cases h
  · intro r σ' h
    obtain ⟨r9, hr9, h⟩ := obs h
    cases h
    obtain ⟨l1, k1⟩ := he [] lc σ _ _ hlc (Nat.le_refl 0) hr9
    exact ⟨l1, fun k => k1 k.fit (A_lret hx hr d k)⟩
theorem O_ior (hx : Hx κ cc nL own fX lX) (d : decode cc pc = .ok (.ior, 1)) : Op2 κ cc pc (· ||| ·) := fun _ _ _ _ _ k => A_ior hx d k
theorem toInt_cl {x : Int32} (h : 0 ≤ x) : x.toInt = (x.toNatClampNeg : Int) := by
  have h3 : 0 ≤ x.toInt := by have := Int32.le_iff_toInt_le.mp h; simpa using this
  have : x.toNatClampNeg = x.toInt.toNat := rfl
  rw [this]
  omega
theorem T_sw (hx : Hx κ cc nL own fX lX) {e : Ex Int32} {lo : Nat} {bs : List Sx} {df : Sx} {dflt : Int} {hi : Int} {offs : Array Int} {len : Nat} {pD : Nat} {ts : List Nat} (he : Ev κ nL ai 0 pc pc1 e) (d : decode cc pc1 = .ok (.tableswitch dflt (lo : Int) hi offs, len)) (hhi : hi + 1 = (lo : Int) + (bs.length : Int)) (hdf : (pc1 : Int) + dflt = (pD : Int)) (hts : ∀ i, i < bs.length → ∃ off tgt, offs[i]? = some off ∧ ts[i]? = some tgt ∧ (pc1 : Int) + off = (tgt : Int)) (hb : ∀ (i : Nat) (b : Sx) (t : Nat), bs[i]? = some b → ts[i]? = some t → St κ nL t pE b) (hd : St κ nL pD pE df) : St κ nL pc pE (sSw e lo bs df) := by
  intro lc σ hlc
  have key : ∀ o, sSw e lo bs df lc σ = some o → ∃ x σ1, e lc σ = some (x, σ1) ∧ ((∃ (i : Nat) (b : Sx) (t : Nat), bs[i]? = some b ∧ ts[i]? = some t ∧ b lc σ1 = some o ∧ (Acf κ t [] lc σ1 → Acf κ pc1 [ai x] lc σ1)) ∨ (df lc σ1 = some o ∧ (Acf κ pD [] lc σ1 → Acf κ pc1 [ai x] lc σ1))) := fun o h => by
    obtain ⟨⟨x, σ1⟩, hr, h⟩ := obs h
    dsimp only at h
    refine ⟨x, σ1, hr, ?_⟩
    split at h
    · rename_i hc
      obtain ⟨c1, c2, c3⟩ := hc
      obtain ⟨off, tgt, t1, t2, t3⟩ := hts _ c3
      have hx9 := toInt_cl c1
      have hbi : bs[x.toNatClampNeg - lo]? = some (bs.getD (x.toNatClampNeg - lo) sSkip) := by
        rw [List.getD_eq_getElem?_getD, List.getElem?_eq_getElem c3]
        rfl
      refine Or.inl ⟨_, _, _, hbi, t2, h, fun k => A_tabIn hx d (by omega) (by omega) ?_ t3 k⟩
      rw [hx9, show ((x.toNatClampNeg : Int) - (lo : Int)).toNat = x.toNatClampNeg - lo by omega]
      exact t1
    · rename_i hc
      refine Or.inr ⟨h, fun k => A_tabOut hx d ?_ hdf k⟩
      by_cases c1 : 0 ≤ x
      · have hx9 := toInt_cl c1
        rw [hx9]
        by_cases c2 : lo ≤ x.toNatClampNeg
        · exact Or.inr (by have : ¬ x.toNatClampNeg - lo < bs.length := fun q => hc ⟨c1, c2, q⟩; omega)
        · exact Or.inl (by omega)
      · have : x.toInt < 0 := by
          have := Int32.not_le.mp c1
          have := Int32.lt_iff_toInt_lt.mp this
          simpa using this
        exact Or.inl (by omega)
  constructor
  · intro lc' σ' h
    obtain ⟨x, σ1, hr, h9⟩ := key _ h
    obtain ⟨l1, k1⟩ := he [] lc σ _ _ hlc (Nat.le_refl 0) hr
    rcases h9 with ⟨i, b, t, q1, q2, q3, q4⟩ | ⟨q3, q4⟩
    · obtain ⟨n2, l2, k2⟩ := (hb i b t q1 q2 lc σ1 hlc).1 _ _ q3
      exact ⟨n2, l1.trans l2, fun hf k => k1 (hf.le l2) (q4 (k2 hf k))⟩
    · obtain ⟨n2, l2, k2⟩ := (hd lc σ1 hlc).1 _ _ q3
      exact ⟨n2, l1.trans l2, fun hf k => k1 (hf.le l2) (q4 (k2 hf k))⟩
  · intro r σ' h
    obtain ⟨x, σ1, hr, h9⟩ := key _ h
    obtain ⟨l1, k1⟩ := he [] lc σ _ _ hlc (Nat.le_refl 0) hr
    rcases h9 with ⟨i, b, t, q1, q2, q3, q4⟩ | ⟨q3, q4⟩
    · obtain ⟨l2, k2⟩ := (hb i b t q1 q2 lc σ1 hlc).2 _ _ q3
      exact ⟨l1.trans l2, fun k => k1 (k.fit.le l2) (q4 (k2 k))⟩
    · obtain ⟨l2, k2⟩ := (hd lc σ1 hlc).2 _ _ q3
      exact ⟨l1.trans l2, fun k => k1 (k.fit.le l2) (q4 (k2 k))⟩
end JJUDG
