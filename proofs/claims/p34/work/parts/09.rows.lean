/-! rows: an instruction from one abstract configuration to the next (laid by wip/p34/gen/rows.py) -/
theorem A_iadd {κ : Kx} {cc : ByteArray} {nL fX lX : Nat} {own : String} (hx : Hx κ cc nL own fX lX) {pc : Nat} {st : List AV} {lc : LcT} {σ : Sg} {x y : Int32} (d : decode cc pc = .ok (.iadd, 1)) (k : Acf κ (pc + 1) (ai (x + y) :: st) lc σ) : Acf κ pc (ai y :: ai x :: st) lc σ := by
  obtain ⟨p, l, e, R, s, m, args, below, meth, c, Q, g, L, c0, s0, fc, fs⟩ := κ
  obtain ⟨⟨hxe, hxb, hxl, hxo, hxw⟩, hxk, hxz, hxc, hxs, hxt, hxf, hxr⟩ := hx
  intro H locs ls h1 h2 h3 h4 h5 h6 h7 h8
  exact lv_iadd hxe hxb d (k H locs ls h1 h2 h3 h4 h5 h6 h7 h8)
theorem A_isub {κ : Kx} {cc : ByteArray} {nL fX lX : Nat} {own : String} (hx : Hx κ cc nL own fX lX) {pc : Nat} {st : List AV} {lc : LcT} {σ : Sg} {x y : Int32} (d : decode cc pc = .ok (.isub, 1)) (k : Acf κ (pc + 1) (ai (x - y) :: st) lc σ) : Acf κ pc (ai y :: ai x :: st) lc σ := by
  obtain ⟨p, l, e, R, s, m, args, below, meth, c, Q, g, L, c0, s0, fc, fs⟩ := κ
  obtain ⟨⟨hxe, hxb, hxl, hxo, hxw⟩, hxk, hxz, hxc, hxs, hxt, hxf, hxr⟩ := hx
  intro H locs ls h1 h2 h3 h4 h5 h6 h7 h8
  exact lv_isub hxe hxb d (k H locs ls h1 h2 h3 h4 h5 h6 h7 h8)
theorem A_imul {κ : Kx} {cc : ByteArray} {nL fX lX : Nat} {own : String} (hx : Hx κ cc nL own fX lX) {pc : Nat} {st : List AV} {lc : LcT} {σ : Sg} {x y : Int32} (d : decode cc pc = .ok (.imul, 1)) (k : Acf κ (pc + 1) (ai (x * y) :: st) lc σ) : Acf κ pc (ai y :: ai x :: st) lc σ := by
  obtain ⟨p, l, e, R, s, m, args, below, meth, c, Q, g, L, c0, s0, fc, fs⟩ := κ
  obtain ⟨⟨hxe, hxb, hxl, hxo, hxw⟩, hxk, hxz, hxc, hxs, hxt, hxf, hxr⟩ := hx
  intro H locs ls h1 h2 h3 h4 h5 h6 h7 h8
  exact lv_imul hxe hxb d (k H locs ls h1 h2 h3 h4 h5 h6 h7 h8)
theorem A_iand {κ : Kx} {cc : ByteArray} {nL fX lX : Nat} {own : String} (hx : Hx κ cc nL own fX lX) {pc : Nat} {st : List AV} {lc : LcT} {σ : Sg} {x y : Int32} (d : decode cc pc = .ok (.iand, 1)) (k : Acf κ (pc + 1) (ai (x &&& y) :: st) lc σ) : Acf κ pc (ai y :: ai x :: st) lc σ := by
  obtain ⟨p, l, e, R, s, m, args, below, meth, c, Q, g, L, c0, s0, fc, fs⟩ := κ
  obtain ⟨⟨hxe, hxb, hxl, hxo, hxw⟩, hxk, hxz, hxc, hxs, hxt, hxf, hxr⟩ := hx
  intro H locs ls h1 h2 h3 h4 h5 h6 h7 h8
  exact lv_iand hxe hxb d (k H locs ls h1 h2 h3 h4 h5 h6 h7 h8)
theorem A_iconst {κ : Kx} {cc : ByteArray} {nL fX lX : Nat} {own : String} (hx : Hx κ cc nL own fX lX) {pc : Nat} {st : List AV} {lc : LcT} {σ : Sg} {n : Int} {v : Int32} (d : decode cc pc = .ok (.iconst n, 1)) (hv : Int32.ofInt n = v) (k : Acf κ (pc + 1) (ai v :: st) lc σ) : Acf κ pc st lc σ := by
  obtain ⟨p, l, e, R, s, m, args, below, meth, c, Q, g, L, c0, s0, fc, fs⟩ := κ
  obtain ⟨⟨hxe, hxb, hxl, hxo, hxw⟩, hxk, hxz, hxc, hxs, hxt, hxf, hxr⟩ := hx
  intro H locs ls h1 h2 h3 h4 h5 h6 h7 h8
  exact lv_iconst hxe hxb d hv (k H locs ls h1 h2 h3 h4 h5 h6 h7 h8)
theorem A_bipush {κ : Kx} {cc : ByteArray} {nL fX lX : Nat} {own : String} (hx : Hx κ cc nL own fX lX) {pc : Nat} {st : List AV} {lc : LcT} {σ : Sg} {n : Int} {v : Int32} (d : decode cc pc = .ok (.bipush n, 2)) (hv : (Int8.ofInt n).toInt32 = v) (k : Acf κ (pc + 2) (ai v :: st) lc σ) : Acf κ pc st lc σ := by
  obtain ⟨p, l, e, R, s, m, args, below, meth, c, Q, g, L, c0, s0, fc, fs⟩ := κ
  obtain ⟨⟨hxe, hxb, hxl, hxo, hxw⟩, hxk, hxz, hxc, hxs, hxt, hxf, hxr⟩ := hx
  intro H locs ls h1 h2 h3 h4 h5 h6 h7 h8
  exact lv_bipush hxe hxb d hv (k H locs ls h1 h2 h3 h4 h5 h6 h7 h8)
theorem A_null {κ : Kx} {cc : ByteArray} {nL fX lX : Nat} {own : String} (hx : Hx κ cc nL own fX lX) {pc : Nat} {st : List AV} {lc : LcT} {σ : Sg} (d : decode cc pc = .ok (.aconst_null, 1)) (k : Acf κ (pc + 1) (an :: st) lc σ) : Acf κ pc st lc σ := by
  obtain ⟨p, l, e, R, s, m, args, below, meth, c, Q, g, L, c0, s0, fc, fs⟩ := κ
  obtain ⟨⟨hxe, hxb, hxl, hxo, hxw⟩, hxk, hxz, hxc, hxs, hxt, hxf, hxr⟩ := hx
  intro H locs ls h1 h2 h3 h4 h5 h6 h7 h8
  exact lv_null hxe hxb d (k H locs ls h1 h2 h3 h4 h5 h6 h7 h8)
theorem A_iload_n {κ : Kx} {cc : ByteArray} {nL fX lX : Nat} {own : String} (hx : Hx κ cc nL own fX lX) {pc : Nat} {st : List AV} {lc : LcT} {σ : Sg} {i : Fin 4} {x : Int32} (d : decode cc pc = .ok (.iload_n i, 1)) (hl : lc[(i : Nat)]? = some (some (ai x))) (k : Acf κ (pc + 1) (ai x :: st) lc σ) : Acf κ pc st lc σ := by
  obtain ⟨p, l, e, R, s, m, args, below, meth, c, Q, g, L, c0, s0, fc, fs⟩ := κ
  obtain ⟨⟨hxe, hxb, hxl, hxo, hxw⟩, hxk, hxz, hxc, hxs, hxt, hxf, hxr⟩ := hx
  intro H locs ls h1 h2 h3 h4 h5 h6 h7 h8
  exact lv_iload_n hxe hxb d rfl (h1.2.2 _ _ hl (Or.inl rfl)) (k H locs ls h1 h2 h3 h4 h5 h6 h7 h8)
theorem A_iload {κ : Kx} {cc : ByteArray} {nL fX lX : Nat} {own : String} (hx : Hx κ cc nL own fX lX) {pc : Nat} {st : List AV} {lc : LcT} {σ : Sg} {i : Nat} {x : Int32} (d : decode cc pc = .ok (.iload i, 2)) (hl : lc[i]? = some (some (ai x))) (k : Acf κ (pc + 2) (ai x :: st) lc σ) : Acf κ pc st lc σ := by
  obtain ⟨p, l, e, R, s, m, args, below, meth, c, Q, g, L, c0, s0, fc, fs⟩ := κ
  obtain ⟨⟨hxe, hxb, hxl, hxo, hxw⟩, hxk, hxz, hxc, hxs, hxt, hxf, hxr⟩ := hx
  intro H locs ls h1 h2 h3 h4 h5 h6 h7 h8
  exact lv_iload hxe hxb d (h1.2.2 _ _ hl (Or.inl rfl)) (k H locs ls h1 h2 h3 h4 h5 h6 h7 h8)
theorem A_aload_n {κ : Kx} {cc : ByteArray} {nL fX lX : Nat} {own : String} (hx : Hx κ cc nL own fX lX) {pc : Nat} {st : List AV} {lc : LcT} {σ : Sg} {i : Fin 4} {t : Tg} (d : decode cc pc = .ok (.aload_n i, 1)) (hl : lc[(i : Nat)]? = some (some (ar t))) (k : Acf κ (pc + 1) (ar t :: st) lc σ) : Acf κ pc st lc σ := by
  obtain ⟨p, l, e, R, s, m, args, below, meth, c, Q, g, L, c0, s0, fc, fs⟩ := κ
  obtain ⟨⟨hxe, hxb, hxl, hxo, hxw⟩, hxk, hxz, hxc, hxs, hxt, hxf, hxr⟩ := hx
  intro H locs ls h1 h2 h3 h4 h5 h6 h7 h8
  exact lv_aload_n hxe hxb d rfl (h1.2.2 _ _ hl (Or.inl rfl)) (k H locs ls h1 h2 h3 h4 h5 h6 h7 h8)
theorem A_aload {κ : Kx} {cc : ByteArray} {nL fX lX : Nat} {own : String} (hx : Hx κ cc nL own fX lX) {pc : Nat} {st : List AV} {lc : LcT} {σ : Sg} {i : Nat} {t : Tg} (d : decode cc pc = .ok (.aload i, 2)) (hl : lc[i]? = some (some (ar t))) (k : Acf κ (pc + 2) (ar t :: st) lc σ) : Acf κ pc st lc σ := by
  obtain ⟨p, l, e, R, s, m, args, below, meth, c, Q, g, L, c0, s0, fc, fs⟩ := κ
  obtain ⟨⟨hxe, hxb, hxl, hxo, hxw⟩, hxk, hxz, hxc, hxs, hxt, hxf, hxr⟩ := hx
  intro H locs ls h1 h2 h3 h4 h5 h6 h7 h8
  exact lv_aload hxe hxb d (h1.2.2 _ _ hl (Or.inl rfl)) (k H locs ls h1 h2 h3 h4 h5 h6 h7 h8)
theorem A_aload_nN {κ : Kx} {cc : ByteArray} {nL fX lX : Nat} {own : String} (hx : Hx κ cc nL own fX lX) {pc : Nat} {st : List AV} {lc : LcT} {σ : Sg} {i : Fin 4} (d : decode cc pc = .ok (.aload_n i, 1)) (hl : lc[(i : Nat)]? = some (some an)) (k : Acf κ (pc + 1) (an :: st) lc σ) : Acf κ pc st lc σ := by
  obtain ⟨p, l, e, R, s, m, args, below, meth, c, Q, g, L, c0, s0, fc, fs⟩ := κ
  obtain ⟨⟨hxe, hxb, hxl, hxo, hxw⟩, hxk, hxz, hxc, hxs, hxt, hxf, hxr⟩ := hx
  intro H locs ls h1 h2 h3 h4 h5 h6 h7 h8
  exact lv_aload_nN hxe hxb d rfl (h1.2.2 _ _ hl (Or.inl rfl)) (k H locs ls h1 h2 h3 h4 h5 h6 h7 h8)
theorem A_istore_n {κ : Kx} {cc : ByteArray} {nL fX lX : Nat} {own : String} (hx : Hx κ cc nL own fX lX) {pc : Nat} {st : List AV} {lc : LcT} {σ : Sg} {i : Fin 4} {x : Int32} (d : decode cc pc = .ok (.istore_n i, 1)) (hi : (i : Nat) < lc.length) (k : Acf κ (pc + 1) st (lc.set (i : Nat) (some (ai x))) σ) : Acf κ pc (ai x :: st) lc σ := by
  obtain ⟨p, l, e, R, s, m, args, below, meth, c, Q, g, L, c0, s0, fc, fs⟩ := κ
  obtain ⟨⟨hxe, hxb, hxl, hxo, hxw⟩, hxk, hxz, hxc, hxs, hxt, hxf, hxr⟩ := hx
  intro H locs ls h1 h2 h3 h4 h5 h6 h7 h8
  exact lv_istore_n hxe hxb d rfl h1.has hi rfl (fun ls' h' => k H locs ls' (h1.set hi rfl h') h2 h3 h4 h5 h6 h7 h8)
theorem A_istore {κ : Kx} {cc : ByteArray} {nL fX lX : Nat} {own : String} (hx : Hx κ cc nL own fX lX) {pc : Nat} {st : List AV} {lc : LcT} {σ : Sg} {i : Nat} {x : Int32} (d : decode cc pc = .ok (.istore i, 2)) (hi : i < lc.length) (k : Acf κ (pc + 2) st (lc.set i (some (ai x))) σ) : Acf κ pc (ai x :: st) lc σ := by
  obtain ⟨p, l, e, R, s, m, args, below, meth, c, Q, g, L, c0, s0, fc, fs⟩ := κ
  obtain ⟨⟨hxe, hxb, hxl, hxo, hxw⟩, hxk, hxz, hxc, hxs, hxt, hxf, hxr⟩ := hx
  intro H locs ls h1 h2 h3 h4 h5 h6 h7 h8
  exact lv_istore hxe hxb d h1.has hi rfl (fun ls' h' => k H locs ls' (h1.set hi rfl h') h2 h3 h4 h5 h6 h7 h8)
theorem A_astore_n {κ : Kx} {cc : ByteArray} {nL fX lX : Nat} {own : String} (hx : Hx κ cc nL own fX lX) {pc : Nat} {st : List AV} {lc : LcT} {σ : Sg} {i : Fin 4} {t : Tg} (d : decode cc pc = .ok (.astore_n i, 1)) (hi : (i : Nat) < lc.length) (k : Acf κ (pc + 1) st (lc.set (i : Nat) (some (ar t))) σ) : Acf κ pc (ar t :: st) lc σ := by
  obtain ⟨p, l, e, R, s, m, args, below, meth, c, Q, g, L, c0, s0, fc, fs⟩ := κ
  obtain ⟨⟨hxe, hxb, hxl, hxo, hxw⟩, hxk, hxz, hxc, hxs, hxt, hxf, hxr⟩ := hx
  intro H locs ls h1 h2 h3 h4 h5 h6 h7 h8
  exact lv_astore_n hxe hxb d rfl h1.has hi rfl (fun ls' h' => k H locs ls' (h1.set hi rfl h') h2 h3 h4 h5 h6 h7 h8)
theorem A_astore {κ : Kx} {cc : ByteArray} {nL fX lX : Nat} {own : String} (hx : Hx κ cc nL own fX lX) {pc : Nat} {st : List AV} {lc : LcT} {σ : Sg} {i : Nat} {t : Tg} (d : decode cc pc = .ok (.astore i, 2)) (hi : i < lc.length) (k : Acf κ (pc + 2) st (lc.set i (some (ar t))) σ) : Acf κ pc (ar t :: st) lc σ := by
  obtain ⟨p, l, e, R, s, m, args, below, meth, c, Q, g, L, c0, s0, fc, fs⟩ := κ
  obtain ⟨⟨hxe, hxb, hxl, hxo, hxw⟩, hxk, hxz, hxc, hxs, hxt, hxf, hxr⟩ := hx
  intro H locs ls h1 h2 h3 h4 h5 h6 h7 h8
  exact lv_astore hxe hxb d h1.has hi rfl (fun ls' h' => k H locs ls' (h1.set hi rfl h') h2 h3 h4 h5 h6 h7 h8)
theorem A_astore_nN {κ : Kx} {cc : ByteArray} {nL fX lX : Nat} {own : String} (hx : Hx κ cc nL own fX lX) {pc : Nat} {st : List AV} {lc : LcT} {σ : Sg} {i : Fin 4} (d : decode cc pc = .ok (.astore_n i, 1)) (hi : (i : Nat) < lc.length) (k : Acf κ (pc + 1) st (lc.set (i : Nat) (some an)) σ) : Acf κ pc (an :: st) lc σ := by
  obtain ⟨p, l, e, R, s, m, args, below, meth, c, Q, g, L, c0, s0, fc, fs⟩ := κ
  obtain ⟨⟨hxe, hxb, hxl, hxo, hxw⟩, hxk, hxz, hxc, hxs, hxt, hxf, hxr⟩ := hx
  intro H locs ls h1 h2 h3 h4 h5 h6 h7 h8
  exact lv_astore_nN hxe hxb d rfl h1.has hi rfl (fun ls' h' => k H locs ls' (h1.set hi rfl h') h2 h3 h4 h5 h6 h7 h8)
theorem A_iinc {κ : Kx} {cc : ByteArray} {nL fX lX : Nat} {own : String} (hx : Hx κ cc nL own fX lX) {pc : Nat} {st : List AV} {lc : LcT} {σ : Sg} {i : Nat} {n : Int} {x v : Int32} (d : decode cc pc = .ok (.iinc i n, 3)) (hl : lc[i]? = some (some (ai x))) (hv : x + Int32.ofInt n = v) (k : Acf κ (pc + 3) st (lc.set i (some (ai v))) σ) : Acf κ pc st lc σ := by
  obtain ⟨p, l, e, R, s, m, args, below, meth, c, Q, g, L, c0, s0, fc, fs⟩ := κ
  obtain ⟨⟨hxe, hxb, hxl, hxo, hxw⟩, hxk, hxz, hxc, hxs, hxt, hxf, hxr⟩ := hx
  intro H locs ls h1 h2 h3 h4 h5 h6 h7 h8
  obtain ⟨j, hj⟩ := List.getElem?_of_mem (lvl_in (L := L) hl (Or.inl rfl))
  have hi := (List.getElem?_eq_some_iff.mp hl).1
  exact lv_iinc hxe hxb d h1.has hj hv hi rfl (fun ls' h' => k H locs ls' (h1.set hi rfl h') h2 h3 h4 h5 h6 h7 h8)
theorem A_dup {κ : Kx} {cc : ByteArray} {nL fX lX : Nat} {own : String} (hx : Hx κ cc nL own fX lX) {pc : Nat} {st : List AV} {lc : LcT} {σ : Sg} {v : AV} (hc : (∃ x, v = ai x) ∨ ∃ t, v = ar t) (d : decode cc pc = .ok (.dup, 1)) (k : Acf κ (pc + 1) (v :: v :: st) lc σ) : Acf κ pc (v :: st) lc σ := by
  obtain ⟨p, l, e, R, s, m, args, below, meth, c, Q, g, L, c0, s0, fc, fs⟩ := κ
  obtain ⟨⟨hxe, hxb, hxl, hxo, hxw⟩, hxk, hxz, hxc, hxs, hxt, hxf, hxr⟩ := hx
  intro H locs ls h1 h2 h3 h4 h5 h6 h7 h8
  have hcat : (cv L v).category = 1 := by rcases hc with ⟨x, rfl⟩ | ⟨t, rfl⟩ <;> rfl
  exact lv_dup hxe hxb d hcat (k H locs ls h1 h2 h3 h4 h5 h6 h7 h8)
theorem A_pop {κ : Kx} {cc : ByteArray} {nL fX lX : Nat} {own : String} (hx : Hx κ cc nL own fX lX) {pc : Nat} {st : List AV} {lc : LcT} {σ : Sg} {v : AV} (hc : (∃ x, v = ai x) ∨ ∃ t, v = ar t) (d : decode cc pc = .ok (.pop, 1)) (k : Acf κ (pc + 1) st lc σ) : Acf κ pc (v :: st) lc σ := by
  obtain ⟨p, l, e, R, s, m, args, below, meth, c, Q, g, L, c0, s0, fc, fs⟩ := κ
  obtain ⟨⟨hxe, hxb, hxl, hxo, hxw⟩, hxk, hxz, hxc, hxs, hxt, hxf, hxr⟩ := hx
  intro H locs ls h1 h2 h3 h4 h5 h6 h7 h8
  have hcat : (cv L v).category = 1 := by rcases hc with ⟨x, rfl⟩ | ⟨t, rfl⟩ <;> rfl
  exact lv_pop hxe hxb d hcat (k H locs ls h1 h2 h3 h4 h5 h6 h7 h8)
theorem A_dup2 {κ : Kx} {cc : ByteArray} {nL fX lX : Nat} {own : String} (hx : Hx κ cc nL own fX lX) {pc : Nat} {st : List AV} {lc : LcT} {σ : Sg} {x : Int32} {t : Tg} (d : decode cc pc = .ok (.dup2, 1)) (k : Acf κ (pc + 1) (ai x :: ar t :: ai x :: ar t :: st) lc σ) : Acf κ pc (ai x :: ar t :: st) lc σ := by
  obtain ⟨p, l, e, R, s, m, args, below, meth, c, Q, g, L, c0, s0, fc, fs⟩ := κ
  obtain ⟨⟨hxe, hxb, hxl, hxo, hxw⟩, hxk, hxz, hxc, hxs, hxt, hxf, hxr⟩ := hx
  intro H locs ls h1 h2 h3 h4 h5 h6 h7 h8
  exact lv_dup2_11 hxe hxb d rfl rfl (k H locs ls h1 h2 h3 h4 h5 h6 h7 h8)
theorem A_if_eq {κ : Kx} {cc : ByteArray} {nL fX lX : Nat} {own : String} (hx : Hx κ cc nL own fX lX) {pc : Nat} {st : List AV} {lc : LcT} {σ : Sg} {x : Int32} {off : Int} {tgt : Nat} (d : decode cc pc = .ok (.ifCond .eq off, 3)) (ht : (pc : Int) + off = (tgt : Int)) (kt : x = 0 → Acf κ tgt st lc σ) (kf : ¬ x = 0 → Acf κ (pc + 3) st lc σ) : Acf κ pc (ai x :: st) lc σ := by
  obtain ⟨p, l, e, R, s, m, args, below, meth, c, Q, g, L, c0, s0, fc, fs⟩ := κ
  obtain ⟨⟨hxe, hxb, hxl, hxo, hxw⟩, hxk, hxz, hxc, hxs, hxt, hxf, hxr⟩ := hx
  intro H locs ls h1 h2 h3 h4 h5 h6 h7 h8
  exact lv_if_eq hxe hxb d ht (fun q => kt q H locs ls h1 h2 h3 h4 h5 h6 h7 h8) (fun q => kf q H locs ls h1 h2 h3 h4 h5 h6 h7 h8)
theorem A_icmp_eq {κ : Kx} {cc : ByteArray} {nL fX lX : Nat} {own : String} (hx : Hx κ cc nL own fX lX) {pc : Nat} {st : List AV} {lc : LcT} {σ : Sg} {x y : Int32} {off : Int} {tgt : Nat} (d : decode cc pc = .ok (.if_icmp .eq off, 3)) (ht : (pc : Int) + off = (tgt : Int)) (kt : x = y → Acf κ tgt st lc σ) (kf : ¬ x = y → Acf κ (pc + 3) st lc σ) : Acf κ pc (ai y :: ai x :: st) lc σ := by
  obtain ⟨p, l, e, R, s, m, args, below, meth, c, Q, g, L, c0, s0, fc, fs⟩ := κ
  obtain ⟨⟨hxe, hxb, hxl, hxo, hxw⟩, hxk, hxz, hxc, hxs, hxt, hxf, hxr⟩ := hx
  intro H locs ls h1 h2 h3 h4 h5 h6 h7 h8
  exact lv_icmp_eq hxe hxb d ht (fun q => kt q H locs ls h1 h2 h3 h4 h5 h6 h7 h8) (fun q => kf q H locs ls h1 h2 h3 h4 h5 h6 h7 h8)
theorem A_if_ne {κ : Kx} {cc : ByteArray} {nL fX lX : Nat} {own : String} (hx : Hx κ cc nL own fX lX) {pc : Nat} {st : List AV} {lc : LcT} {σ : Sg} {x : Int32} {off : Int} {tgt : Nat} (d : decode cc pc = .ok (.ifCond .ne off, 3)) (ht : (pc : Int) + off = (tgt : Int)) (kt : ¬ x = 0 → Acf κ tgt st lc σ) (kf : x = 0 → Acf κ (pc + 3) st lc σ) : Acf κ pc (ai x :: st) lc σ := by
  obtain ⟨p, l, e, R, s, m, args, below, meth, c, Q, g, L, c0, s0, fc, fs⟩ := κ
  obtain ⟨⟨hxe, hxb, hxl, hxo, hxw⟩, hxk, hxz, hxc, hxs, hxt, hxf, hxr⟩ := hx
  intro H locs ls h1 h2 h3 h4 h5 h6 h7 h8
  exact lv_if_ne hxe hxb d ht (fun q => kt q H locs ls h1 h2 h3 h4 h5 h6 h7 h8) (fun q => kf q H locs ls h1 h2 h3 h4 h5 h6 h7 h8)
theorem A_icmp_ne {κ : Kx} {cc : ByteArray} {nL fX lX : Nat} {own : String} (hx : Hx κ cc nL own fX lX) {pc : Nat} {st : List AV} {lc : LcT} {σ : Sg} {x y : Int32} {off : Int} {tgt : Nat} (d : decode cc pc = .ok (.if_icmp .ne off, 3)) (ht : (pc : Int) + off = (tgt : Int)) (kt : ¬ x = y → Acf κ tgt st lc σ) (kf : x = y → Acf κ (pc + 3) st lc σ) : Acf κ pc (ai y :: ai x :: st) lc σ := by
  obtain ⟨p, l, e, R, s, m, args, below, meth, c, Q, g, L, c0, s0, fc, fs⟩ := κ
  obtain ⟨⟨hxe, hxb, hxl, hxo, hxw⟩, hxk, hxz, hxc, hxs, hxt, hxf, hxr⟩ := hx
  intro H locs ls h1 h2 h3 h4 h5 h6 h7 h8
  exact lv_icmp_ne hxe hxb d ht (fun q => kt q H locs ls h1 h2 h3 h4 h5 h6 h7 h8) (fun q => kf q H locs ls h1 h2 h3 h4 h5 h6 h7 h8)
theorem A_if_lt {κ : Kx} {cc : ByteArray} {nL fX lX : Nat} {own : String} (hx : Hx κ cc nL own fX lX) {pc : Nat} {st : List AV} {lc : LcT} {σ : Sg} {x : Int32} {off : Int} {tgt : Nat} (d : decode cc pc = .ok (.ifCond .lt off, 3)) (ht : (pc : Int) + off = (tgt : Int)) (kt : x < 0 → Acf κ tgt st lc σ) (kf : ¬ x < 0 → Acf κ (pc + 3) st lc σ) : Acf κ pc (ai x :: st) lc σ := by
  obtain ⟨p, l, e, R, s, m, args, below, meth, c, Q, g, L, c0, s0, fc, fs⟩ := κ
  obtain ⟨⟨hxe, hxb, hxl, hxo, hxw⟩, hxk, hxz, hxc, hxs, hxt, hxf, hxr⟩ := hx
  intro H locs ls h1 h2 h3 h4 h5 h6 h7 h8
  exact lv_if_lt hxe hxb d ht (fun q => kt q H locs ls h1 h2 h3 h4 h5 h6 h7 h8) (fun q => kf q H locs ls h1 h2 h3 h4 h5 h6 h7 h8)
theorem A_icmp_lt {κ : Kx} {cc : ByteArray} {nL fX lX : Nat} {own : String} (hx : Hx κ cc nL own fX lX) {pc : Nat} {st : List AV} {lc : LcT} {σ : Sg} {x y : Int32} {off : Int} {tgt : Nat} (d : decode cc pc = .ok (.if_icmp .lt off, 3)) (ht : (pc : Int) + off = (tgt : Int)) (kt : x < y → Acf κ tgt st lc σ) (kf : ¬ x < y → Acf κ (pc + 3) st lc σ) : Acf κ pc (ai y :: ai x :: st) lc σ := by
  obtain ⟨p, l, e, R, s, m, args, below, meth, c, Q, g, L, c0, s0, fc, fs⟩ := κ
  obtain ⟨⟨hxe, hxb, hxl, hxo, hxw⟩, hxk, hxz, hxc, hxs, hxt, hxf, hxr⟩ := hx
  intro H locs ls h1 h2 h3 h4 h5 h6 h7 h8
  exact lv_icmp_lt hxe hxb d ht (fun q => kt q H locs ls h1 h2 h3 h4 h5 h6 h7 h8) (fun q => kf q H locs ls h1 h2 h3 h4 h5 h6 h7 h8)
theorem A_if_ge {κ : Kx} {cc : ByteArray} {nL fX lX : Nat} {own : String} (hx : Hx κ cc nL own fX lX) {pc : Nat} {st : List AV} {lc : LcT} {σ : Sg} {x : Int32} {off : Int} {tgt : Nat} (d : decode cc pc = .ok (.ifCond .ge off, 3)) (ht : (pc : Int) + off = (tgt : Int)) (kt : 0 ≤ x → Acf κ tgt st lc σ) (kf : ¬ 0 ≤ x → Acf κ (pc + 3) st lc σ) : Acf κ pc (ai x :: st) lc σ := by
  obtain ⟨p, l, e, R, s, m, args, below, meth, c, Q, g, L, c0, s0, fc, fs⟩ := κ
  obtain ⟨⟨hxe, hxb, hxl, hxo, hxw⟩, hxk, hxz, hxc, hxs, hxt, hxf, hxr⟩ := hx
  intro H locs ls h1 h2 h3 h4 h5 h6 h7 h8
  exact lv_if_ge hxe hxb d ht (fun q => kt q H locs ls h1 h2 h3 h4 h5 h6 h7 h8) (fun q => kf q H locs ls h1 h2 h3 h4 h5 h6 h7 h8)
theorem A_icmp_ge {κ : Kx} {cc : ByteArray} {nL fX lX : Nat} {own : String} (hx : Hx κ cc nL own fX lX) {pc : Nat} {st : List AV} {lc : LcT} {σ : Sg} {x y : Int32} {off : Int} {tgt : Nat} (d : decode cc pc = .ok (.if_icmp .ge off, 3)) (ht : (pc : Int) + off = (tgt : Int)) (kt : y ≤ x → Acf κ tgt st lc σ) (kf : ¬ y ≤ x → Acf κ (pc + 3) st lc σ) : Acf κ pc (ai y :: ai x :: st) lc σ := by
  obtain ⟨p, l, e, R, s, m, args, below, meth, c, Q, g, L, c0, s0, fc, fs⟩ := κ
  obtain ⟨⟨hxe, hxb, hxl, hxo, hxw⟩, hxk, hxz, hxc, hxs, hxt, hxf, hxr⟩ := hx
  intro H locs ls h1 h2 h3 h4 h5 h6 h7 h8
  exact lv_icmp_ge hxe hxb d ht (fun q => kt q H locs ls h1 h2 h3 h4 h5 h6 h7 h8) (fun q => kf q H locs ls h1 h2 h3 h4 h5 h6 h7 h8)
theorem A_if_gt {κ : Kx} {cc : ByteArray} {nL fX lX : Nat} {own : String} (hx : Hx κ cc nL own fX lX) {pc : Nat} {st : List AV} {lc : LcT} {σ : Sg} {x : Int32} {off : Int} {tgt : Nat} (d : decode cc pc = .ok (.ifCond .gt off, 3)) (ht : (pc : Int) + off = (tgt : Int)) (kt : 0 < x → Acf κ tgt st lc σ) (kf : ¬ 0 < x → Acf κ (pc + 3) st lc σ) : Acf κ pc (ai x :: st) lc σ := by
  obtain ⟨p, l, e, R, s, m, args, below, meth, c, Q, g, L, c0, s0, fc, fs⟩ := κ
  obtain ⟨⟨hxe, hxb, hxl, hxo, hxw⟩, hxk, hxz, hxc, hxs, hxt, hxf, hxr⟩ := hx
  intro H locs ls h1 h2 h3 h4 h5 h6 h7 h8
  exact lv_if_gt hxe hxb d ht (fun q => kt q H locs ls h1 h2 h3 h4 h5 h6 h7 h8) (fun q => kf q H locs ls h1 h2 h3 h4 h5 h6 h7 h8)
theorem A_icmp_gt {κ : Kx} {cc : ByteArray} {nL fX lX : Nat} {own : String} (hx : Hx κ cc nL own fX lX) {pc : Nat} {st : List AV} {lc : LcT} {σ : Sg} {x y : Int32} {off : Int} {tgt : Nat} (d : decode cc pc = .ok (.if_icmp .gt off, 3)) (ht : (pc : Int) + off = (tgt : Int)) (kt : y < x → Acf κ tgt st lc σ) (kf : ¬ y < x → Acf κ (pc + 3) st lc σ) : Acf κ pc (ai y :: ai x :: st) lc σ := by
  obtain ⟨p, l, e, R, s, m, args, below, meth, c, Q, g, L, c0, s0, fc, fs⟩ := κ
  obtain ⟨⟨hxe, hxb, hxl, hxo, hxw⟩, hxk, hxz, hxc, hxs, hxt, hxf, hxr⟩ := hx
  intro H locs ls h1 h2 h3 h4 h5 h6 h7 h8
  exact lv_icmp_gt hxe hxb d ht (fun q => kt q H locs ls h1 h2 h3 h4 h5 h6 h7 h8) (fun q => kf q H locs ls h1 h2 h3 h4 h5 h6 h7 h8)
theorem A_if_le {κ : Kx} {cc : ByteArray} {nL fX lX : Nat} {own : String} (hx : Hx κ cc nL own fX lX) {pc : Nat} {st : List AV} {lc : LcT} {σ : Sg} {x : Int32} {off : Int} {tgt : Nat} (d : decode cc pc = .ok (.ifCond .le off, 3)) (ht : (pc : Int) + off = (tgt : Int)) (kt : x ≤ 0 → Acf κ tgt st lc σ) (kf : ¬ x ≤ 0 → Acf κ (pc + 3) st lc σ) : Acf κ pc (ai x :: st) lc σ := by
  obtain ⟨p, l, e, R, s, m, args, below, meth, c, Q, g, L, c0, s0, fc, fs⟩ := κ
  obtain ⟨⟨hxe, hxb, hxl, hxo, hxw⟩, hxk, hxz, hxc, hxs, hxt, hxf, hxr⟩ := hx
  intro H locs ls h1 h2 h3 h4 h5 h6 h7 h8
  exact lv_if_le hxe hxb d ht (fun q => kt q H locs ls h1 h2 h3 h4 h5 h6 h7 h8) (fun q => kf q H locs ls h1 h2 h3 h4 h5 h6 h7 h8)
theorem A_icmp_le {κ : Kx} {cc : ByteArray} {nL fX lX : Nat} {own : String} (hx : Hx κ cc nL own fX lX) {pc : Nat} {st : List AV} {lc : LcT} {σ : Sg} {x y : Int32} {off : Int} {tgt : Nat} (d : decode cc pc = .ok (.if_icmp .le off, 3)) (ht : (pc : Int) + off = (tgt : Int)) (kt : x ≤ y → Acf κ tgt st lc σ) (kf : ¬ x ≤ y → Acf κ (pc + 3) st lc σ) : Acf κ pc (ai y :: ai x :: st) lc σ := by
  obtain ⟨p, l, e, R, s, m, args, below, meth, c, Q, g, L, c0, s0, fc, fs⟩ := κ
  obtain ⟨⟨hxe, hxb, hxl, hxo, hxw⟩, hxk, hxz, hxc, hxs, hxt, hxf, hxr⟩ := hx
  intro H locs ls h1 h2 h3 h4 h5 h6 h7 h8
  exact lv_icmp_le hxe hxb d ht (fun q => kt q H locs ls h1 h2 h3 h4 h5 h6 h7 h8) (fun q => kf q H locs ls h1 h2 h3 h4 h5 h6 h7 h8)
theorem A_goto {κ : Kx} {cc : ByteArray} {nL fX lX : Nat} {own : String} (hx : Hx κ cc nL own fX lX) {pc : Nat} {st : List AV} {lc : LcT} {σ : Sg} {off : Int} {tgt : Nat} (d : decode cc pc = .ok (.goto off, 3)) (ht : (pc : Int) + off = (tgt : Int)) (k : Acf κ tgt st lc σ) : Acf κ pc st lc σ := by
  obtain ⟨p, l, e, R, s, m, args, below, meth, c, Q, g, L, c0, s0, fc, fs⟩ := κ
  obtain ⟨⟨hxe, hxb, hxl, hxo, hxw⟩, hxk, hxz, hxc, hxs, hxt, hxf, hxr⟩ := hx
  intro H locs ls h1 h2 h3 h4 h5 h6 h7 h8
  exact lv_goto hxe hxb d ht (k H locs ls h1 h2 h3 h4 h5 h6 h7 h8)
theorem A_ifnull {κ : Kx} {cc : ByteArray} {nL fX lX : Nat} {own : String} (hx : Hx κ cc nL own fX lX) {pc : Nat} {st : List AV} {lc : LcT} {σ : Sg} {t : Tg} {off : Int} (d : decode cc pc = .ok (.ifnull off, 3)) (k : Acf κ (pc + 3) st lc σ) : Acf κ pc (ar t :: st) lc σ := by
  obtain ⟨p, l, e, R, s, m, args, below, meth, c, Q, g, L, c0, s0, fc, fs⟩ := κ
  obtain ⟨⟨hxe, hxb, hxl, hxo, hxw⟩, hxk, hxz, hxc, hxs, hxt, hxf, hxr⟩ := hx
  intro H locs ls h1 h2 h3 h4 h5 h6 h7 h8
  exact lv_ifnull hxe hxb d (k H locs ls h1 h2 h3 h4 h5 h6 h7 h8)
theorem A_ifnullN {κ : Kx} {cc : ByteArray} {nL fX lX : Nat} {own : String} (hx : Hx κ cc nL own fX lX) {pc : Nat} {st : List AV} {lc : LcT} {σ : Sg} {off : Int} {tgt : Nat} (d : decode cc pc = .ok (.ifnull off, 3)) (ht : (pc : Int) + off = (tgt : Int)) (k : Acf κ tgt st lc σ) : Acf κ pc (an :: st) lc σ := by
  obtain ⟨p, l, e, R, s, m, args, below, meth, c, Q, g, L, c0, s0, fc, fs⟩ := κ
  obtain ⟨⟨hxe, hxb, hxl, hxo, hxw⟩, hxk, hxz, hxc, hxs, hxt, hxf, hxr⟩ := hx
  intro H locs ls h1 h2 h3 h4 h5 h6 h7 h8
  exact lv_ifnullN hxe hxb d ht (k H locs ls h1 h2 h3 h4 h5 h6 h7 h8)
theorem A_ifnonnull {κ : Kx} {cc : ByteArray} {nL fX lX : Nat} {own : String} (hx : Hx κ cc nL own fX lX) {pc : Nat} {st : List AV} {lc : LcT} {σ : Sg} {t : Tg} {off : Int} {tgt : Nat} (d : decode cc pc = .ok (.ifnonnull off, 3)) (ht : (pc : Int) + off = (tgt : Int)) (k : Acf κ tgt st lc σ) : Acf κ pc (ar t :: st) lc σ := by
  obtain ⟨p, l, e, R, s, m, args, below, meth, c, Q, g, L, c0, s0, fc, fs⟩ := κ
  obtain ⟨⟨hxe, hxb, hxl, hxo, hxw⟩, hxk, hxz, hxc, hxs, hxt, hxf, hxr⟩ := hx
  intro H locs ls h1 h2 h3 h4 h5 h6 h7 h8
  exact lv_ifnonnull hxe hxb d ht (k H locs ls h1 h2 h3 h4 h5 h6 h7 h8)
theorem A_ifnonnullN {κ : Kx} {cc : ByteArray} {nL fX lX : Nat} {own : String} (hx : Hx κ cc nL own fX lX) {pc : Nat} {st : List AV} {lc : LcT} {σ : Sg} {off : Int} (d : decode cc pc = .ok (.ifnonnull off, 3)) (k : Acf κ (pc + 3) st lc σ) : Acf κ pc (an :: st) lc σ := by
  obtain ⟨p, l, e, R, s, m, args, below, meth, c, Q, g, L, c0, s0, fc, fs⟩ := κ
  obtain ⟨⟨hxe, hxb, hxl, hxo, hxw⟩, hxk, hxz, hxc, hxs, hxt, hxf, hxr⟩ := hx
  intro H locs ls h1 h2 h3 h4 h5 h6 h7 h8
  exact lv_ifnonnullN hxe hxb d (k H locs ls h1 h2 h3 h4 h5 h6 h7 h8)
theorem A_acmp_eq {κ : Kx} {cc : ByteArray} {nL fX lX : Nat} {own : String} (hx : Hx κ cc nL own fX lX) {pc : Nat} {st : List AV} {lc : LcT} {σ : Sg} {t u : Tg} {off : Int} {tgt : Nat} (d : decode cc pc = .ok (.if_acmp .eq off, 3)) (ht : (pc : Int) + off = (tgt : Int)) (v1 : vld σ t = true) (v2 : vld σ u = true) (n1 : t.1 ≠ 5) (n2 : u.1 ≠ 5) (kt :  t = u → Acf κ tgt st lc σ) (kf : ¬ t = u → Acf κ (pc + 3) st lc σ) : Acf κ pc (ar u :: ar t :: st) lc σ := by
  obtain ⟨p, l, e, R, s, m, args, below, meth, c, Q, g, L, c0, s0, fc, fs⟩ := κ
  obtain ⟨⟨hxe, hxb, hxl, hxo, hxw⟩, hxk, hxz, hxc, hxs, hxt, hxf, hxr⟩ := hx
  intro H locs ls h1 h2 h3 h4 h5 h6 h7 h8
  have hi : some (L t) = some (L u) ↔ t = u := by
    obtain ⟨L', hL, -, r2, -⟩ := h2
    constructor
    · intro q
      exact r2 t u v1 v2 (by rw [hL t n1, hL u n2]; exact Option.some.inj q)
    · intro q; rw [q]
  exact lv_acmp_eq hxe hxb (rx := some (L t)) (ry := some (L u)) d ht (fun q => kt (hi.mp q) H locs ls h1 h2 h3 h4 h5 h6 h7 h8) (fun q => kf (fun z => q (hi.mpr z)) H locs ls h1 h2 h3 h4 h5 h6 h7 h8)
theorem A_acmp_ne {κ : Kx} {cc : ByteArray} {nL fX lX : Nat} {own : String} (hx : Hx κ cc nL own fX lX) {pc : Nat} {st : List AV} {lc : LcT} {σ : Sg} {t u : Tg} {off : Int} {tgt : Nat} (d : decode cc pc = .ok (.if_acmp .ne off, 3)) (ht : (pc : Int) + off = (tgt : Int)) (v1 : vld σ t = true) (v2 : vld σ u = true) (n1 : t.1 ≠ 5) (n2 : u.1 ≠ 5) (kt : ¬ t = u → Acf κ tgt st lc σ) (kf :  t = u → Acf κ (pc + 3) st lc σ) : Acf κ pc (ar u :: ar t :: st) lc σ := by
  obtain ⟨p, l, e, R, s, m, args, below, meth, c, Q, g, L, c0, s0, fc, fs⟩ := κ
  obtain ⟨⟨hxe, hxb, hxl, hxo, hxw⟩, hxk, hxz, hxc, hxs, hxt, hxf, hxr⟩ := hx
  intro H locs ls h1 h2 h3 h4 h5 h6 h7 h8
  have hi : some (L t) = some (L u) ↔ t = u := by
    obtain ⟨L', hL, -, r2, -⟩ := h2
    constructor
    · intro q
      exact r2 t u v1 v2 (by rw [hL t n1, hL u n2]; exact Option.some.inj q)
    · intro q; rw [q]
  exact lv_acmp_ne hxe hxb (rx := some (L t)) (ry := some (L u)) d ht (fun q => kt (fun z => q (hi.mpr z)) H locs ls h1 h2 h3 h4 h5 h6 h7 h8) (fun q => kf (hi.mp q) H locs ls h1 h2 h3 h4 h5 h6 h7 h8)
