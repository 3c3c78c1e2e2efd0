/-! contracts of the hoare layer: out of a body, used at a call; System.arraycopy -/
theorem argsW_cat (L : Tg → Nat) : ∀ (as : List Value) (k : Nat), (∀ v ∈ as, v.category = 1) → ∀ (i : Nat) (v : Value), as[i]? = some v → (k + i, v) ∈ lv_args k as
  | [], k, _, i, v, h => by simp at h
  | a :: r, k, hs, i, v, h => by
    have hc := hs a List.mem_cons_self
    have e : lv_args k (a :: r) = (k, a) :: lv_args (k + 1) r := by
      show (k, a) :: lv_args (if a.category = 2 then k + 2 else k + 1) r = _
      rw [if_neg (by omega)]
    rw [e]
    cases i with
    | zero =>
      cases h
      exact List.mem_cons_self
    | succ i =>
      have ih := argsW_cat L r (k + 1) (fun v hv => hs v (List.mem_cons_of_mem _ hv)) i v h
      rw [show k + (i + 1) = k + 1 + i by omega]
      exact List.mem_cons_of_mem _ ih
theorem argsW_len : ∀ as : List Value, (∀ v ∈ as, v.category = 1) → (lg_sl as).length = as.length
  | [], _ => rfl
  | a :: r, hs => by
    have hc := hs a List.mem_cons_self
    have ih := argsW_len r (fun v hv => hs v (List.mem_cons_of_mem _ hv))
    cases a <;> simp_all [lg_sl, Value.category]
theorem blindH {X : State → Prop} (hX : XT X) {g : Gx} {P : Heap → Prop} {av : List Value} : FrameBlind (va_Pc av (fun U => X U ∧ P U.heap ∧ GF g U U.heap ∧ g.2.2.1 ≤ U.heap.size)) := by
  intro a U fr mk h
  exact ⟨h.1, hX U (U.calling fr mk a) h.2.1 (State.WarmedH.refl U), h.2.2.1, GF.same (U := U.calling fr mk a) h.2.2.2.1 rfl, h.2.2.2.2⟩
theorem CtH.of {X : State → Prop} {l : Launch} {g : Gx} {y : MethodName} {cc : ByteArray} {maxL : Nat} {ret : Option FieldType} {fr lo mc ms : Nat} {as : List Value} {P : Heap → Prop} {R' : Option Value → Heap → Prop} (hy : plainName y.cls = true) (hl : l.stackTraces = false) (hcat : ∀ v ∈ as, v.category = 1) (hlen : as.length ≤ maxL)
    (body : ∀ κ : Kx, kg κ = g → kr κ = (mc, ms) → X (ks κ) → Hx κ cc maxL y.cls fr lo → Hr κ ret → RtH κ R' → kl κ = l → AcH κ P 0 0 0 [] (as.map (fun v => some (.inl v)) ++ List.replicate (maxL - as.length) none)) : CtH X l g y cc maxL ret fr lo mc ms as P R' := by
  refine vx_ofW hy rfl ?_
  intro p e s m args below meth c s₁ B hml hex hv
  obtain ⟨rfl, hXs, hP, hG, hz⟩ := hv
  have hts := atoms_spec (ws := Cond.code y cc maxL ret :: UW) B.pre
  have hA := body (p, l, e, { frames := fr, cells := mc, slots := ms, locals := lo }, s, m, as.toArray, below, meth, c, vx_MQ below (QcH g R') (fun _ _ _ => False) as.toArray s mc ms (gA g), g, fun _ => 0, 0, 0, mc, ms) rfl rfl hXs
    ⟨⟨B.exec, B.bytes, hml, findClass_of_methodNamed B.named, fun w hw => hts w (List.mem_cons_of_mem _ hw)⟩, B.notSynchronized, hz, rfl, rfl, hl, rfl, rfl⟩ ⟨B.returns, hex⟩ ⟨_, _, rfl, fun _ _ _ h => h⟩ rfl
  have hlen2 : (lg_sl as).length ≤ maxL := by rw [argsW_len as hcat]; exact hlen
  have hls := lv_entry as (n := maxL) hlen2
  rw [lg_entry_eq]
  generalize (lg_sl as ++ List.replicate (maxL - (lg_sl as).length) Slot.unset).toArray = ls at hls ⊢
  refine hA s.heap [] ls ⟨by rw [hls.1, List.length_append, List.length_map, List.length_replicate]; omega, hls.2.1, fun i v hi _ => ?_⟩ hP hG va_S.rf
  rcases Nat.lt_or_ge i as.length with q | q
  · rw [List.getElem?_append_left (by rw [List.length_map]; exact q), List.getElem?_map] at hi
    obtain ⟨w, hw, e9⟩ := Option.map_eq_some_iff.mp hi
    cases e9
    refine hls.2.2 (i, w) ?_
    have := argsW_cat (fun _ => 0) as 0 hcat i w hw
    rwa [Nat.zero_add] at this
  · rw [List.getElem?_append_right (by rw [List.length_map]; exact q)] at hi
    rw [List.getElem?_replicate] at hi
    split at hi <;> cases hi
section GOH
variable {p : Program} {l : Launch} {e : Env} {R : Room} {s : State} {m : MethodId} {args : Array Value} {below : List Frame} {meth : Method} {c : Code} {H : Heap} {locs : List Loc} {cells slots : Nat} {Q : State → Prop}
theorem vx_goH {pc mc ms : Nat} {ls : Array Slot} {st0 rest : List Value} {a : Array Value} {g : Gx} {R' : Option Value → Heap → Prop} (hr : vx_Run p l e R s m args below meth c H locs cells slots mc ms (F0 m pc ls st0) rest (QcH g R' a) (fun _ _ _ => False) (gA g)) (hS : va_S (gA g) s.heap H locs)
    (kr : ∀ (v : Option Value) (H1 : Heap) (locs1 : List Loc), R' v H1 → (∀ q : Nat, q < H.size → ¬ gA g q → H1[q]? = H[q]?) → va_S (gA g) s.heap H1 locs1 → W p l e R s m args below meth c H1 locs1 (cells + mc) (slots + ms) Q (F0 m (pc + 3) ls (v.toList ++ rest))) : W p l e R s m args below meth c H locs cells slots Q (F0 m pc ls st0) := by
  intro T hT X
  rcases hr T hT X with ⟨v, st₀, t, T', L9, h0, X', hL, e1, e2, ⟨⟨u, hp, hb⟩, hF⟩, st⟩ | ⟨q, st₀, t, T', L9, E, ce, h0, X', hL, e1, e2, hfalse, hce, hcv, hcl, st⟩
  · cases hp
    obtain ⟨k1, k2, k3⟩ := vx_keep h0 e1 hS (fun _ _ h => h) (fun _ h => h) hL hF
    obtain ⟨t2, a1, b1⟩ := kr v T'.heap (locs ++ L9) (by rw [e1]; exact hb) k2 k3 T' rfl X'
    exact ⟨t2, st t2 a1, b1⟩
  · exact hfalse.elim
end GOH
section HC2
variable {κ : Kx} {cc : ByteArray} {nL fX lX : Nat} {own : String} {pc : Nat} {st : List AV} {lc : LcT} {Rp Rq : Heap → Prop} {nc ns : Nat} {ret retY : Option FieldType}
theorem map_inl (L : Tg → Nat) (as : List Value) : (as.map (fun v => (Sum.inl v : AV))).map (cv L) = as := by
  rw [List.map_map]
  exact List.map_id _
theorem H_callS (hx : Hx κ cc nL own fX lX) {X : State → Prop} (hX : XT X) {y : MethodName} {bytes : ByteArray} {maxL fr lo idx mc ms : Nat} {as : List Value} {rest : List AV} {P : Heap → Prop} {R' : Option Value → Heap → Prop} (hlc : lc.length = nL)
    (hM : CtH X (kl κ) (kg κ) y bytes maxL retY fr lo mc ms as P R') (hXs : X (ks κ)) (hP : ∀ H, Rp H → P H)
    (uc : Cond.code y bytes maxL retY ∈ UW) (um : Cond.methodLink own idx y ∈ UW) (ut : Cond.static y ∈ UW) (un : Cond.initialized y.cls ∈ UW)
    (hd : y.cls ≠ "java/lang/invoke/MethodHandle" ∧ y.cls ≠ "java/lang/invoke/VarHandle" ∧ (parseMethodDescriptor y.desc).map (fun d => d.parameters.length) = some as.length)
    (hw : wt rest ≤ 8) (hf : fr + 1 ≤ fX) (hl : 8 + (maxL + 11) + lo ≤ lX) (hc : nc + mc ≤ (kr κ).1) (hs : ns + ms ≤ (kr κ).2) (d : decode cc pc = .ok (.invokestatic idx, 3))
    (k : ∀ v : Option Value, AcH κ (R' v) (nc + mc) (ns + ms) (pc + 3) (v.toList.map (fun v => (Sum.inl v : AV)) ++ rest) lc) : AcH κ Rp nc ns pc ((as.map (fun v => (Sum.inl v : AV))).reverse ++ rest) lc := by
  obtain ⟨p, l, e, R, s, m, args, below, meth, c, Q, g, L, c0, s0, fc, fs⟩ := κ
  obtain ⟨⟨hxe, hxb, hxl, hxo, hxw⟩, hxk, hxz, hxc, hxs, hxt, hxf, hxr⟩ := hx
  have hc9 : nc + mc ≤ fc - c0 := hc
  have hs9 : ns + ms ≤ fs - s0 := hs
  intro H locs ls h1 h2 h3 h4
  have hst : ((as.map (fun v => (Sum.inl v : AV))).reverse ++ rest).map (cv L) = as.reverse ++ rest.map (cv L) := by rw [List.map_append, List.map_reverse, map_inl]
  rw [hst]
  refine vx_goH (g := g) (R' := R') (a := as.toArray) (mc := mc) (ms := ms) (rest := rest.map (cv L))
    (vx_runS (As := as) (rest := rest.map (cv L)) ⟨hxe, hxb, hxl, hxo, hxw⟩ hM ⟨callB_of as.length hxw (UW_in uc) rfl rfl rfl (hxw _ un) (hxw _ um) hd ⟨by rw [hxf]; exact hf, by rw [hxr]; exact hl⟩, hxw _ ut⟩ ⟨blindH hX, fun U hU hW => ⟨rfl, hX s U hXs hW, by rw [hU]; exact hP H h2, by rw [hU]; exact h3.warm hW, by rw [hU]; exact Nat.le_trans hxz h4.1⟩⟩ rfl rfl (by show ls.size = nL; rw [h1.1, hlc]) rfl (by show 2 * 0 + _ ≤ 8; rw [Nat.mul_zero, Nat.zero_add, wt_cv]; exact hw) d ⟨by rw [hxc]; omega, by rw [hxs]; omega⟩) h4 ?_
  intro v H1 locs1 hR hk hS1
  have hk9 := k v H1 locs1 ls h1 hR (h3.kept hk) hS1
  rw [List.map_append, map_inl] at hk9
  exact hk9
theorem H_callV (hx : Hx κ cc nL own fX lX) {X : State → Prop} (hX : XT X) {y : MethodName} {bytes : ByteArray} {maxL fr lo idx mc ms : Nat} {b ci : Nat} {C : String} {T : u_T} {N : Nat} {as : List Value} {rest : List AV} {P : Heap → Prop} {R' : Option Value → Heap → Prop} (hlc : lc.length = nL)
    (hM : CtH X (kl κ) (kg κ) y bytes maxL retY fr lo mc ms (.ref b :: as) P R') (hXs : X (ks κ)) (hP : ∀ H, Rp H → P H) (hat : ∀ H, Rp H → ∃ fs, va_at (kg κ).1 vwCl (b, .inr (ci, fs)) H)
    (uc : Cond.code y bytes maxL retY ∈ UW) (um : Cond.methodLink own idx y ∈ UW) (ui : Cond.instanceMethod y ∈ UW) (us : Cond.selects C y y ∈ UW) (un : Cond.initialized C ∈ UW)
    (hd : y.cls = C ∧ y.cls ≠ "java/lang/invoke/MethodHandle" ∧ y.cls ≠ "java/lang/invoke/VarHandle" ∧ (parseMethodDescriptor y.desc).map (fun d => d.parameters.length) = some as.length)
    (hcl : vwCl[ci]? = some (C, T, N)) (hw : wt rest ≤ 8) (hf : fr + 1 ≤ fX) (hl : 8 + (maxL + 11) + lo ≤ lX) (hc : nc + mc ≤ (kr κ).1) (hs : ns + ms ≤ (kr κ).2) (d : decode cc pc = .ok (.invokevirtual idx, 3))
    (k : ∀ v : Option Value, AcH κ (R' v) (nc + mc) (ns + ms) (pc + 3) (v.toList.map (fun v => (Sum.inl v : AV)) ++ rest) lc) : AcH κ Rp nc ns pc ((as.map (fun v => (Sum.inl v : AV))).reverse ++ aq b :: rest) lc := by
  obtain ⟨p, l, e, R, s, m, args, below, meth, c, Q, g, L, c0, s0, fc, fs⟩ := κ
  obtain ⟨⟨hxe, hxb, hxl, hxo, hxw⟩, hxk, hxz, hxc, hxs, hxt, hxf, hxr⟩ := hx
  have hc9 : nc + mc ≤ fc - c0 := hc
  have hs9 : ns + ms ≤ fs - s0 := hs
  intro H locs ls h1 h2 h3 h4
  obtain ⟨fs9, hat9⟩ := hat H h2
  have hst : ((as.map (fun v => (Sum.inl v : AV))).reverse ++ aq b :: rest).map (cv L) = as.reverse ++ Value.ref b :: rest.map (cv L) := by
    rw [List.map_append, List.map_reverse, map_inl]
    rfl
  rw [hst]
  refine vx_goH (g := g) (R' := R') (a := (Value.ref b :: as).toArray) (mc := mc) (ms := ms) (rest := rest.map (cv L))
    (vx_runV (C := C) (b := b) (As := as) (rest := rest.map (cv L)) ⟨hxe, hxb, hxl, hxo, hxw⟩ hM (cwV as.length hxw (UW_V uc um ui us un) rfl rfl rfl hd ⟨by rw [hxf]; exact hf, by rw [hxr]; exact hl⟩) ⟨blindH hX, va_recv h3.1 (vP1 hat9) hcl (q0 := 0) rfl, fun U hU hW => ⟨rfl, hX s U hXs hW, by rw [hU]; exact hP H h2, by rw [hU]; exact h3.warm hW, by rw [hU]; exact Nat.le_trans hxz h4.1⟩⟩ rfl rfl (by show ls.size = nL; rw [h1.1, hlc]) rfl (by show 2 * 0 + _ ≤ 8; rw [Nat.mul_zero, Nat.zero_add, wt_cv]; exact hw) d ⟨by rw [hxc]; omega, by rw [hxs]; omega⟩) h4 ?_
  intro v H1 locs1 hR hk hS1
  have hk9 := k v H1 locs1 ls h1 hR (h3.kept hk) hS1
  rw [List.map_append, map_inl] at hk9
  exact hk9
end HC2
