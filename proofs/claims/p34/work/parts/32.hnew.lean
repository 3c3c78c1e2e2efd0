/-! new objects: beside an old heap, a list of new cells -/
def NX (g : Gx) (Pw : Heap → Prop) (ws : va_W) (H : Heap) : Prop := ∃ H0 : Heap, Pw H0 ∧ g.2.2.1 ≤ H0.size ∧ H0.size ≤ H.size ∧ (∀ q : Nat, q < H0.size → H[q]? = H0[q]?) ∧ (∀ x ∈ ws, va_at g.1 vwCl x H ∧ H0.size ≤ x.1) ∧ (ws.map (·.1)).Nodup
section NXS
variable {g : Gx} {Pw : Heap → Prop} {ws : va_W} {H H' : Heap}
theorem NX.at {i : Nat} {x : Nat × va_E} (hi : ws[i]? = some x) (h : NX g Pw ws H) : va_at g.1 vwCl x H := by
  obtain ⟨H0, h1, h2, h3, h4, h5, h6⟩ := h
  exact (h5 x (List.mem_of_getElem? hi)).1
theorem NX.gA {i : Nat} {x : Nat × va_E} (hi : ws[i]? = some x) (h : NX g Pw ws H) : gA g x.1 := by
  obtain ⟨H0, h1, h2, h3, h4, h5, h6⟩ := h
  exact Nat.le_trans h2 (h5 x (List.mem_of_getElem? hi)).2
theorem NX.put {i a : Nat} {e e' : va_E} (hi : ws[i]? = some (a, e)) (h : NX g Pw ws H) (hat : va_at g.1 vwCl (a, e') H') (hq : ∀ q : Nat, q ≠ a → H'[q]? = H[q]?) : NX g Pw (ws.set i (a, e')) H' := by
  obtain ⟨H0, h1, h2, h3, h4, h5, h6⟩ := h
  have hil := (List.getElem?_eq_some_iff.mp hi).1
  have ha := (h5 _ (List.mem_of_getElem? hi)).2
  have hlt : a < H'.size := hat.lt
  refine ⟨H0, h1, h2, by dsimp only at ha; omega, fun q hq0 => by rw [hq q (by dsimp only at ha; omega), h4 q hq0], fun x hx => ?_, ?_⟩
  · obtain ⟨j, hj⟩ := List.getElem?_of_mem hx
    by_cases e1 : j = i
    · subst e1
      rw [List.getElem?_set_self hil] at hj
      cases hj
      exact ⟨hat, ha⟩
    · rw [List.getElem?_set_ne (Ne.symm e1)] at hj
      obtain ⟨r1, r2⟩ := h5 x (List.mem_of_getElem? hj)
      refine ⟨r1.kept (hq _ fun z => e1 ?_), r2⟩
      have hj' : (ws.map (·.1))[j]? = some x.1 := by rw [List.getElem?_map, hj]; rfl
      have hi' : (ws.map (·.1))[i]? = some x.1 := by rw [List.getElem?_map, hi, z]; rfl
      exact (List.getElem?_inj (List.getElem?_eq_some_iff.mp hj').1 h6).mp (hj'.trans hi'.symm)
  · rw [List.map_set]
    have : (ws.map (·.1)).set i a = ws.map (·.1) := by
      apply List.ext_getElem?
      intro j
      by_cases e1 : i = j
      · subst e1
        rw [List.getElem?_set_self (by rw [List.length_map]; exact hil), List.getElem?_map, hi]
        rfl
      · rw [List.getElem?_set_ne e1]
    rw [this]
    exact h6
theorem NX.push {a : Nat} {e : va_E} (h : NX g Pw ws H) (hs : H.size = a) (hat : va_at g.1 vwCl (a, e) H') (hq : ∀ q : Nat, q < H.size → H'[q]? = H[q]?) : NX g Pw (ws ++ [(a, e)]) H' := by
  obtain ⟨H0, h1, h2, h3, h4, h5, h6⟩ := h
  have hlt : a < H'.size := hat.lt
  refine ⟨H0, h1, h2, by omega, fun q hq0 => by rw [hq q (by omega), h4 q hq0], fun x hx => ?_, ?_⟩
  · rcases List.mem_append.mp hx with z | z
    · obtain ⟨r1, r2⟩ := h5 x z
      exact ⟨r1.kept (hq _ r1.lt), r2⟩
    · rw [List.mem_singleton.mp z]
      exact ⟨hat, by show H0.size ≤ a; omega⟩
  · rw [List.map_append]
    refine List.nodup_append.mpr ⟨h6, by simp, fun x hx y hy z => ?_⟩
    subst z
    obtain ⟨w, hw, rfl⟩ := List.mem_map.mp hx
    have := (h5 w hw).1.lt
    simp at hy
    omega
theorem NX.nil (h : Pw H) (hg : g.2.2.1 ≤ H.size) : NX g Pw [] H := ⟨H, h, hg, Nat.le_refl _, fun _ _ => rfl, fun x hx => (by cases hx), List.nodup_nil⟩
/-- what holds of old cells -/
theorem NX.old {x : Nat × va_E} (h : NX g Pw ws H) (hp : ∀ H0, Pw H0 → va_at g.1 vwCl x H0) : va_at g.1 vwCl x H := by
  obtain ⟨H0, h1, h2, h3, h4, h5, h6⟩ := h
  exact (hp H0 h1).kept (h4 _ (hp H0 h1).lt)
end NXS
def km (κ : Kx) : Method := κ.2.2.2.2.2.2.2.2.1
theorem CtH.ofN {X : State → Prop} {l : Launch} {g : Gx} {y : MethodName} {cc : ByteArray} {maxL : Nat} {ret : Option FieldType} {fr lo mc ms : Nat} {as : List Value} {P : Heap → Prop} {R' : Option Value → Heap → Prop} (hy : plainName y.cls = true) (hl : l.stackTraces = false) (hcat : ∀ v ∈ as, v.category = 1) (hlen : as.length ≤ maxL)
    (body : ∀ κ : Kx, kg κ = g → kr κ = (mc, ms) → X (ks κ) → Hx κ cc maxL y.cls fr lo → Hr κ ret → RtH κ R' → kl κ = l → (km κ).name = y.name → AcH κ P 0 0 0 [] (as.map (fun v => some (.inl v)) ++ List.replicate (maxL - as.length) none)) : CtH X l g y cc maxL ret fr lo mc ms as P R' := by
  refine vx_ofW hy rfl ?_
  intro p e s m args below meth c s₁ B hml hex hv
  obtain ⟨rfl, hXs, hP, hG, hz⟩ := hv
  have hts := atoms_spec (ws := Cond.code y cc maxL ret :: UW) B.pre
  have hA := body (p, l, e, { frames := fr, cells := mc, slots := ms, locals := lo }, s, m, as.toArray, below, meth, c, vx_MQ below (QcH g R') (fun _ _ _ => False) as.toArray s mc ms (gA g), g, fun _ => 0, 0, 0, mc, ms) rfl rfl hXs
    ⟨⟨B.exec, B.bytes, hml, findClass_of_methodNamed B.named, fun w hw => hts w (List.mem_cons_of_mem _ hw)⟩, B.notSynchronized, hz, rfl, rfl, hl, rfl, rfl⟩ ⟨B.returns, hex⟩ ⟨_, _, rfl, fun _ _ _ h => h⟩ rfl (name_of_methodNamed B.named B.method).1
  have hlen2 : (lg_sl as).length ≤ maxL := by rw [argsW_len as hcat]; exact hlen
  have hls := lv_entry as (n := maxL) hlen2
  rw [lg_entry_eq]
  generalize (lg_sl as ++ List.replicate (maxL - (lg_sl as).length) Slot.unset).toArray = ls at hls ⊢
  refine hA s.heap [] ls ⟨by rw [hls.1, List.length_append, List.length_map, List.length_replicate]; omega, hls.2.1, fun i v hi _ => ?_⟩ hP hG va_S.rf
  rcases Nat.lt_or_ge i as.length with q | q
  · rw [List.getElem?_append_left (by rw [List.length_map]; exact q), List.getElem?_map] at hi
    obtain ⟨w, hw, e9⟩ := Option.map_eq_some_iff.mp hi
    cases e9
    refine hls.2.2 (i, w) ?_
    have := argsW_cat (fun _ => 0) as 0 hcat i w hw
    rwa [Nat.zero_add] at this
  · rw [List.getElem?_append_right (by rw [List.length_map]; exact q)] at hi
    rw [List.getElem?_replicate] at hi
    split at hi <;> cases hi
theorem CtH.met {X : State → Prop} {l : Launch} {g : Gx} {y : MethodName} {cc : ByteArray} {maxL : Nat} {ret : Option FieldType} {fr lo mc ms : Nat} {as : List Value} {P : Heap → Prop} {R' : Option Value → Heap → Prop} (h : CtH X l g y cc maxL ret fr lo mc ms as P R') : Met l y (Cond.code y cc maxL ret :: UW) { frames := fr, cells := mc, slots := ms, locals := lo } (va_Pc as (fun U => X U ∧ P U.heap ∧ GF g U U.heap ∧ g.2.2.1 ≤ U.heap.size)) (QcH g R') mc ms (gA g) := by
  intro p e h1 h2 h3 s m args below hf ha hp hk
  obtain ⟨n, o, w, r, en, q⟩ := h p e h1 h2 h3 s m args below hf ha hp hk
  refine ⟨n, o, w, r, en, ?_⟩
  rcases q with q | ⟨q, -, E, ce, L, hfalse, -⟩
  · exact q
  · exact hfalse.elim
section GOI
variable {p : Program} {l : Launch} {e : Env} {R : Room} {s : State} {m : MethodId} {args : Array Value} {below : List Frame} {meth : Method} {c : Code} {H : Heap} {locs : List Loc} {cells slots : Nat} {Q : State → Prop}
theorem va_goH {pc mc ms : Nat} {ls : Array Slot} {st0 rest : List Value} {a : Array Value} {g : Gx} {R' : Option Value → Heap → Prop} (hr : va_Run p l e R s m args below meth c H locs cells slots mc ms (F0 m pc ls st0) rest (QcH g R' a) (gA g)) (hS : va_S (gA g) s.heap H locs)
    (kr : ∀ (v : Option Value) (H1 : Heap) (locs1 : List Loc), R' v H1 → (∀ q : Nat, q < H.size → ¬ gA g q → H1[q]? = H[q]?) → va_S (gA g) s.heap H1 locs1 → W p l e R s m args below meth c H1 locs1 (cells + mc) (slots + ms) Q (F0 m (pc + 3) ls (v.toList ++ rest))) : W p l e R s m args below meth c H locs cells slots Q (F0 m pc ls st0) := by
  intro T hT X
  obtain ⟨v, st₀, t, T', L9, h0, X', hL, e1, e2, ⟨⟨u, hp, hb⟩, hF⟩, st⟩ := hr T hT X
  cases hp
  obtain ⟨k1, k2, k3⟩ := vx_keep h0 e1 hS (fun _ _ h => h) (fun _ h => h) hL hF
  obtain ⟨t2, a1, b1⟩ := kr v T'.heap (locs ++ L9) (by rw [e1]; exact hb) k2 k3 T' rfl X'
  exact ⟨t2, st t2 a1, b1⟩
end GOI
section HNEW
variable {κ : Kx} {cc : ByteArray} {nL fX lX : Nat} {own : String} {pc : Nat} {st : List AV} {lc : LcT} {Rp Rq : Heap → Prop} {nc ns : Nat}
theorem H_objInit (hx : Hx κ cc nL own fX lX) {idx : Nat} {v : Value} {a : Nat} (hlc : lc.length = nL) (hl : Cond.methodLink own idx Lib.objectInit ∈ UW) (hi : Cond.instanceMethod Lib.objectInit ∈ UW) (hc : Cond.code Lib.objectInit ⟨#[0xb1]⟩ 1 (none : Option FieldType) ∈ UW) (hf : 1 ≤ fX) (hw : wt st + 12 ≤ lX) (d : decode cc pc = .ok (.invokespecial idx, 3)) (k : AcH κ Rp nc ns (pc + 3) st lc) : AcH κ Rp nc ns pc (aq a :: st) lc := by
  obtain ⟨p, l, e, R, s, m, args, below, meth, c, Q, g, L, c0, s0, fc, fs0⟩ := κ
  obtain ⟨⟨hxe, hxb, hxl, hxo, hxw⟩, hxk, hxz, hxc, hxs, hxt, hxf, hxr⟩ := hx
  intro H locs ls h1 h2 h3 h4
  exact W.objInit hxe hxb hxo (hxw _ hl) (hxw _ hi) (hxw _ hc) rfl (by rw [hxl]; show ls.size = nL; rw [h1.1, hlc]) rfl d (by rw [hxf]; exact hf) (by show 2 * 0 + _ + 12 ≤ _; rw [wt_cv, hxr, Nat.mul_zero, Nat.zero_add]; exact hw) (k H locs ls h1 h2 h3 h4)
theorem H_putF (hx : Hx κ cc nL own fX lX) (hname : (km κ).name = "<init>") {b ci slot idx : Nat} {C : String} {T : u_T} {N : Nat} {fs : List Value} {x : Value} {ty : FieldType} (hat : ∀ H, Rp H → va_at (kg κ).1 vwCl (b, .inr (ci, fs)) H) (hin : ∀ w ∈ u_ws C T N, w ∈ UW) (ty0 : Nat → FieldType) (hty : ∀ k, k < N → parseFieldDescriptor (T k).2.2.1 = some (ty0 k)) (hnm : ∀ a, a < N → ∀ b, b < N → a ≠ b → (T a).2.1 ≠ (T b).2.1) (hcl : vwCl[ci]? = some (C, T, N)) (hr : (T slot).1 = own) (hk : slot < N) (hl : Cond.fieldLink own idx own (T slot).2.1 (T slot).2.2.1 ∈ UW) (hfin : (T slot).2.2.2 = true) (hd : parseFieldDescriptor (T slot).2.2.1 = some ty) (hn : narrow ty x = x) (hfit : fits ty x = true) (hsl : slot < fs.length) (hg : gA (kg κ) b)
    (hput : ∀ H H', Rp H → va_at (kg κ).1 vwCl (b, .inr (ci, fs.set slot x)) H' → (∀ q : Nat, q ≠ b → H'[q]? = H[q]?) → Rq H') (d : decode cc pc = .ok (.putfield idx, 3)) (k : AcH κ Rq nc ns (pc + 3) st lc) : AcH κ Rp nc ns pc (.inl x :: aq b :: st) lc := by
  obtain ⟨p, l, e, R, s, m, args, below, meth, c, Q, g, L, c0, s0, fc, fs0⟩ := κ
  obtain ⟨⟨hxe, hxb, hxl, hxo, hxw⟩, hxk, hxz, hxc, hxs, hxt, hxf, hxr⟩ := hx
  intro H locs ls h1 h2 h3 h4
  have hap := va_apart (own := own) hxw hin ty0 hty hnm h3.1 hcl
  obtain ⟨hS, hfc, kC, hkC, hkind⟩ := h3.1.1 _ _ hcl
  obtain ⟨r, e1, cell, q1, q2, q3, q4⟩ := hat H h2
  have hrr : r = (C, T, N) := Option.some.inj (e1.symm.trans hcl)
  subst hrr
  obtain ⟨cf, kf, fi, f, hi, hslo⟩ := hS slot hk
  have hlay := hxw _ (hin _ (u_in_lay hk))
  unfold u_lay at hlay
  rw [if_pos hfin] at hlay
  have hst := (u_facts hfc hkC (u_lays hxw hin hk) hi).1
  have hcf : m.cls = cf := by
    obtain ⟨_, _, c', _, _, _, -, -, hf', -, -, -, hown2, -⟩ := Cond.laysFinal_spec hlay
    have e9 : c' = cf := by have := hi.symm.trans hf'; simp at this; exact this.1.symm
    rw [hr] at hown2
    rw [← e9]; exact Option.some.inj (hxo.symm.trans hown2)
  have h6 := u_fits hfc hkC hkind (Or.inr hlay) hi hd hn hfit
  refine W.putFinK hxe hxb hxo (hxw _ hl) (by rw [hr] at hi; exact hi) hst hcf hname (by rw [q2]; exact h6) q1 q3 (by rw [hslo]; exact k2_hasslot (q4 slot hk)) rfl rfl d fun H' z1 z2 z3 => ?_
  rw [hslo] at z1
  exact k H' _ ls h1 (hput H H' h2 ⟨_, hcl, t_OB.to (V := updV (vp_V fs) slot x) ⟨_, z1, q2, q3, t_set q4 hap hk x⟩ (fun j _ => vp_updV_set hsl x j)⟩ z3) (h3.kept (fun a _ ha => z3 a (fun q => ha (by rw [q]; exact hg)))) (h4.put z2 z3 hg)
theorem H_newc (hx : Hx κ cc nL own fX lX) {idx ci : Nat} {C : String} {T : u_T} {N : Nat} {fs : List Value} (hin : ∀ w ∈ u_ws C T N, w ∈ UW) (ty0 : Nat → FieldType) (hty : ∀ k, k < N → parseFieldDescriptor (T k).2.2.1 = some (ty0 k)) (hcl : vwCl[ci]? = some (C, T, N)) (hl : Cond.classLink own idx C ∈ UW) (hins : Cond.instantiable C N ∈ UW) (hini : Cond.initialized C ∈ UW) (hfs : ∀ j, j < N → defaultValue (ty0 j) = vp_V fs j) (hc : nc + 1 ≤ (kr κ).1) (hs : ns + N ≤ (kr κ).2)
    (d : decode cc pc = .ok (.new idx, 3)) (k : ∀ a : Nat, AcH κ (fun H' => ∃ H : Heap, Rp H ∧ H.size = a ∧ va_at (kg κ).1 vwCl (a, .inr (ci, fs)) H' ∧ ∀ q : Nat, q < H.size → H'[q]? = H[q]?) (nc + 1) (ns + N) (pc + 3) (aq a :: st) lc) : AcH κ Rp nc ns pc st lc := by
  obtain ⟨p, l, e, R, s, m, args, below, meth, c, Q, g, L, c0, s0, fc, fs0⟩ := κ
  obtain ⟨⟨hxe, hxb, hxl, hxo, hxw⟩, hxk, hxz, hxc, hxs, hxt, hxf, hxr⟩ := hx
  intro H locs ls h1 h2 h3 h4
  have hKn := h3.1.1 ci _ hcl
  refine W.newcK hxe hxb hxo (hxw _ hl) (hxw _ hins) (hxw _ hini) rfl d (by rw [hxc]; exact hc) (by rw [hxs]; exact hs) hKn.2.1 rfl fun H1 kC hkC e1 z1 o1 => ?_
  refine k H.size H1 locs ls h1 ⟨H, h2, rfl, ⟨_, hcl, (u_born ty0 hxw hin hKn hkC e1 hty).to hfs⟩, o1⟩ (h3.kept (fun q hq _ => o1 q hq)) ⟨by rw [z1]; exact Nat.le_trans h4.1 (Nat.le_succ _), fun q hq1 hq2 => (o1 q (Nat.lt_of_lt_of_le hq1 h4.1)).trans (h4.2.1 q hq1 hq2), h4.2.2⟩
theorem H_newi (hx : Hx κ cc nL own fX lX) {n : Nat} (hn : n < 65536) (hc : nc + 1 ≤ (kr κ).1) (hs : ns + n ≤ (kr κ).2)
    (d : decode cc pc = .ok (.newarray .int, 2)) (k : ∀ a : Nat, AcH κ (fun H' => ∃ H : Heap, Rp H ∧ H.size = a ∧ va_at (kg κ).1 vwCl (a, .inl ((kg κ).2.1 0, n, .inl (fun _ => 0))) H' ∧ ∀ q : Nat, q < H.size → H'[q]? = H[q]?) (nc + 1) (ns + n) (pc + 2) (aq a :: st) lc) : AcH κ Rp nc ns pc (ai (nI n) :: st) lc := by
  obtain ⟨p, l, e, R, s, m, args, below, meth, c, Q, g, L, c0, s0, fc, fs0⟩ := κ
  obtain ⟨⟨hxe, hxb, hxl, hxo, hxw⟩, hxk, hxz, hxc, hxs, hxt, hxf, hxr⟩ := hx
  intro H locs ls h1 h2 h3 h4
  have h31 : n < 2 ^ 31 := Nat.lt_trans hn (by decide)
  refine va_newaK hxe hxb (atype := .int) (hxw _ uz_arrayClass_1_59) rfl d rfl (nI_pos h31) (nI_clamp h31) (by show n * 4 ≤ _; omega) (by rw [hxc]; exact hc) (by rw [hxs]; exact hs) rfl fun H1 cA e1 z1 o1 hAr hNm => ?_
  have k4 : s.vm.findClass ("[" ++ FieldType.int.toString) = some (g.2.1 0) := (h3.1.2 0 _ rfl).2
  have hcA : cA = g.2.1 0 := Option.some.inj (hNm.symm.trans k4)
  subst hcA
  refine k H.size H1 locs ls h1 ⟨H, h2, rfl, ?_, o1⟩ (h3.kept (fun q hq _ => o1 q hq)) ⟨by rw [z1]; exact Nat.le_trans h4.1 (Nat.le_succ _), fun q hq1 hq2 => (o1 q (Nat.lt_of_lt_of_le hq1 h4.1)).trans (h4.2.1 q hq1 hq2), h4.2.2⟩
  show H1[H.size]? = some (vp_cell _ _)
  rw [e1, vp_cell_i]
  rfl
theorem H_callI (hx : Hx κ cc nL own fX lX) {X : State → Prop} (hX : XT X) {y : MethodName} {bytes : ByteArray} {maxL fr lo idx mc ms : Nat} {b : Nat} {as : List Value} {rest : List AV} {P : Heap → Prop} {R' : Option Value → Heap → Prop} (hlc : lc.length = nL)
    (hM : CtH X (kl κ) (kg κ) y bytes maxL none fr lo mc ms (.ref b :: as) P R') (hXs : X (ks κ)) (hP : ∀ H, Rp H → P H)
    (uc : Cond.code y bytes maxL (none : Option FieldType) ∈ UW) (um : Cond.methodLink own idx y ∈ UW) (ui : Cond.instanceMethod y ∈ UW) (un : Cond.initialized y.cls ∈ UW)
    (hd : y.name = "<init>" ∧ y.cls ≠ "java/lang/invoke/MethodHandle" ∧ y.cls ≠ "java/lang/invoke/VarHandle" ∧ (parseMethodDescriptor y.desc).map (fun d => d.parameters.length) = some as.length)
    (hw : wt rest ≤ 8) (hf : fr + 1 ≤ fX) (hl : 8 + (maxL + 11) + lo ≤ lX) (hc : nc + mc ≤ (kr κ).1) (hs : ns + ms ≤ (kr κ).2) (d : decode cc pc = .ok (.invokespecial idx, 3))
    (k : ∀ v : Option Value, AcH κ (R' v) (nc + mc) (ns + ms) (pc + 3) (v.toList.map (fun v => (Sum.inl v : AV)) ++ rest) lc) : AcH κ Rp nc ns pc ((as.map (fun v => (Sum.inl v : AV))).reverse ++ aq b :: rest) lc := by
  obtain ⟨p, l, e, R, s, m, args, below, meth, c, Q, g, L, c0, s0, fc, fs⟩ := κ
  obtain ⟨⟨hxe, hxb, hxl, hxo, hxw⟩, hxk, hxz, hxc, hxs, hxt, hxf, hxr⟩ := hx
  have hc9 : nc + mc ≤ fc - c0 := hc
  have hs9 : ns + ms ≤ fs - s0 := hs
  intro H locs ls h1 h2 h3 h4
  have hst : ((as.map (fun v => (Sum.inl v : AV))).reverse ++ aq b :: rest).map (cv L) = as.reverse ++ Value.ref b :: rest.map (cv L) := by
    rw [List.map_append, List.map_reverse, map_inl]
    rfl
  rw [hst]
  refine va_goH (g := g) (R' := R') (a := (Value.ref b :: as).toArray) (mc := mc) (ms := ms) (rest := rest.map (cv L))
    (va_runI (b := b) (As := as) (rest := rest.map (cv L)) ⟨hxe, hxb, hxl, hxo, hxw⟩ hM.met ⟨callB_of as.length hxw (UW_in uc) rfl rfl rfl (hxw _ un) (hxw _ um) hd.2 ⟨by rw [hxf]; exact hf, by rw [hxr]; exact hl⟩, hd.1, hxw _ ui⟩ ⟨blindH hX, fun U hU hW => ⟨rfl, hX s U hXs hW, by rw [hU]; exact hP H h2, by rw [hU]; exact h3.warm hW, by rw [hU]; exact Nat.le_trans hxz h4.1⟩⟩ rfl rfl (by show ls.size = nL; rw [h1.1, hlc]) rfl (by show 2 * 0 + _ ≤ 8; rw [Nat.mul_zero, Nat.zero_add, wt_cv]; exact hw) d ⟨by rw [hxc]; omega, by rw [hxs]; omega⟩) h4 ?_
  intro v H1 locs1 hR hk hS1
  have hk9 := k v H1 locs1 ls h1 hR (h3.kept hk) hS1
  rw [List.map_append, map_inl] at hk9
  exact hk9
end HNEW
