/-! send, by contract: the addresses of what was there stay -/
def wL (κ : Kx) (L2 : Tg → Nat) : Kx := match κ with
  | (p, l, e, R, s, m, args, below, meth, c, Q, g, L, c0, s0, fc, fs) => (p, l, e, R, s, m, args, below, meth, c, Q, g, L2, c0, s0, fc, fs)
theorem wL_self (κ : Kx) : wL κ (kL κ) = κ := by
  obtain ⟨p, l, e, R, s, m, args, below, meth, c, Q, g, L, c0, s0, fc, fs⟩ := κ
  rfl
theorem Hx.wL {κ : Kx} {L2 : Tg → Nat} {cc : ByteArray} {nL fX lX : Nat} {own : String} (h : Hx κ cc nL own fX lX) : Hx (wL κ L2) cc nL own fX lX := by
  obtain ⟨p, l, e, R, s, m, args, below, meth, c, Q, g, L, c0, s0, fc, fs⟩ := κ
  exact h
theorem Hr.wL {κ : Kx} {L2 : Tg → Nat} {ret : Option FieldType} (h : Hr κ ret) : Hr (wL κ L2) ret := by
  obtain ⟨p, l, e, R, s, m, args, below, meth, c, Q, g, L, c0, s0, fc, fs⟩ := κ
  exact h
theorem Fit.wL {κ : Kx} {L2 : Tg → Nat} {σ : Sg} (h : Fit (wL κ L2) σ) : Fit κ σ := by
  obtain ⟨p, l, e, R, s, m, args, below, meth, c, Q, g, L, c0, s0, fc, fs⟩ := κ
  exact h
def QcS (g : Gx) (L : Tg → Nat) (σ : Sg) (r : Res) (σF : Sg) : Array Value → State → Outcome → State → Prop := fun _ st o t => (∃ L2 : Tg → Nat, (∀ u, vld σ u = true → L2 u = L u) ∧ ∃ v, r = .inl v ∧ o = .returned (v.map (cv L2)) ∧ RepX g L2 σF t.heap) ∧ va_F (gA g) st t
def XcS (g : Gx) (L : Tg → Nat) (σ : Sg) (r : Res) (σF : Sg) : String → State → State → Prop := fun E st t => (∃ L2 : Tg → Nat, (∀ u, vld σ u = true → L2 u = L u) ∧ ∃ n, r = .inr n ∧ E = exn n ∧ RepX g L2 σF t.heap) ∧ va_F (gA g) st t
def CtS (l : Launch) (g : Gx) (y : MethodName) (cc : ByteArray) (maxL : Nat) (ret : Option FieldType) (fr lo : Nat) (sem : Sem) : Prop :=
  ∀ (L : Tg → Nat) (as : List AV) (σ σF : Sg) (r : Res), (∀ v ∈ as, sg v) → sem as σ = some (r, σF) → vx_Met l y (Cond.code y cc maxL ret :: UW) { frames := fr, cells := sC σF - sC σ, slots := sS σF - sS σ, locals := lo } (va_Pc (as.map (cv L)) (PcF g L σ)) (QcS g L σ r σF) (XcS g L σ r σF) (sC σF - sC σ) (sS σF - sS σ) (gA g)
theorem CtS.of {l : Launch} {g : Gx} {y : MethodName} {cc : ByteArray} {maxL : Nat} {ret : Option FieldType} {fr lo : Nat} {sem : Sem} (hy : plainName y.cls = true) (hl : l.stackTraces = false)
    (body : ∀ κ : Kx, kl κ = l → kg κ = g → Hx κ cc maxL y.cls fr lo → Hr κ ret → ∀ (as : List AV) (σ σF : Sg) (r : Res), (∀ v ∈ as, sg v) → sem as σ = some (r, σF) → (lcOf as).length ≤ maxL ∧ sle σ σF ∧ ((∀ L2 : Tg → Nat, (∀ u, vld σ u = true → L2 u = kL κ u) → Rt (wL κ L2) r σF) → Acf κ 0 [] (lcOf as ++ List.replicate (maxL - (lcOf as).length) none) σ)) : CtS l g y cc maxL ret fr lo sem := by
  intro L as σ σF r hs hsem
  refine vx_ofW hy rfl ?_
  intro p e s m args below meth c s₁ B hml hex hv
  obtain ⟨rfl, hP, hG, hz⟩ := hv
  have hts := atoms_spec (ws := Cond.code y cc maxL ret :: UW) B.pre
  obtain ⟨b1, b2, b3⟩ := body (p, l, e, { frames := fr, cells := sC σF - sC σ, slots := sS σF - sS σ, locals := lo }, s, m, (as.map (cv L)).toArray, below, meth, c, vx_MQ below (QcS g L σ r σF) (XcS g L σ r σF) (as.map (cv L)).toArray s (sC σF - sC σ) (sS σF - sS σ) (gA g), g, L, sC σ, sS σ, sC σF, sS σF) rfl rfl
    ⟨⟨B.exec, B.bytes, hml, findClass_of_methodNamed B.named, fun w hw => hts w (List.mem_cons_of_mem _ hw)⟩, B.notSynchronized, hz, rfl, rfl, hl, rfl, rfl⟩ ⟨B.returns, hex⟩ as σ σF r hs hsem
  have hA := b3 (fun L2 hL2 => ⟨Nat.le_refl _, Nat.le_refl _, b2.1, b2.2, _, _, rfl, fun _ _ _ h => ⟨⟨L2, hL2, h.1⟩, h.2⟩, fun _ _ _ h => ⟨⟨L2, hL2, h.1⟩, h.2⟩⟩)
  have hlen : (lg_sl (as.map (cv L))).length ≤ maxL := by rw [args_len L as hs]; exact b1
  have hls := lv_entry (as.map (cv L)) (n := maxL) hlen
  rw [lg_entry_eq]
  generalize (lg_sl (as.map (cv L)) ++ List.replicate (maxL - (lg_sl (as.map (cv L))).length) Slot.unset).toArray = ls at hls ⊢
  have hlv : lvA L (lcOf as ++ List.replicate (maxL - (lcOf as).length) none) ls := lvA.entry hs b1 hls
  have hW := hA s.heap [] ls hlv hP hG va_S.rf (Nat.le_refl _) (Nat.le_refl _) b2.1 b2.2
  rw [Nat.sub_self, Nat.sub_self] at hW
  exact hW
theorem AcH.ofA2 {κ : Kx} {Rp : Heap → Prop} {nc ns pc : Nat} {st st' : List AV} {lc lc' : LcT} {L2 : Tg → Nat} {σ : Sg} (h : ∀ H, Rp H → RepX (kg κ) L2 σ H) (e1 : st.map (cv (kL κ)) = st'.map (cv L2)) (e2 : lc.map (Option.map (cv (kL κ))) = lc'.map (Option.map (cv L2))) (hc : (k0 κ).1 + nc ≤ sC σ) (hs : (k0 κ).2 + ns ≤ sS σ) (hf : Fit κ σ) (k : Acf (wL κ L2) pc st' lc' σ) : AcH κ Rp nc ns pc st lc := by
  obtain ⟨p, l, e, R, s, m, args, below, meth, c, Q, g, L, c0, s0, fc, fs⟩ := κ
  intro H locs ls q1 q2 q3 q4
  have e1' : st.map (cv L) = st'.map (cv L2) := e1
  have h9 : lc.map (Option.map (cv L)) = lc'.map (Option.map (cv L2)) := e2
  have e2' : lc.map (Option.map (cv L)) = lc'.map (Option.map (cv L2)) := e2
  have hc' : c0 + nc ≤ sC σ := hc
  have hs' : s0 + ns ≤ sS σ := hs
  rw [e1']
  refine W.widen (show nc ≤ sC σ - c0 by omega) (show ns ≤ sS σ - s0 by omega) (k H locs ls ⟨?_, q1.2.1, fun i v hv ho => ?_⟩ (h H q2) q3 q4 (by omega) (by omega) hf.1 hf.2)
  · have := congrArg List.length e2'
    rw [List.length_map, List.length_map] at this
    rw [q1.1, this]
  · have e : (lc.map (Option.map (cv L)))[i]? = some (some (cv L2 v)) := by
      rw [e2', List.getElem?_map, hv]
      rfl
    rw [List.getElem?_map] at e
    obtain ⟨w, hw, hw2⟩ := Option.map_eq_some_iff.mp e
    cases w with
    | none => cases hw2
    | some w =>
      have hw3 : cv L w = cv L2 v := Option.some.inj hw2
      have := q1.2.2 i w hw (by rw [hw3, isNo_map h9 (i + 1)]; exact ho)
      rw [hw3] at this
      exact this
theorem c_lsizeH {l : Launch} {g : Gx} (hl : l.stackTraces = false) {P : Heap → Prop} {b : Nat} {sz : Int32} (hP : ∀ H, P H → ∃ mc a, va_at g.1 vwCl (b, .inr (0, [.int mc, .ref a, .int sz])) H) : CtH (fun _ => True) l g yJx4a65c_size_8abf5 cJx4a65c_size_8abf5 1 (some .int) 1 20 0 0 [.ref b] P (fun v H => v = some (.int sz) ∧ P H) := by
  refine CtH.of (by decide) hl (by simp [Value.category]) (by simp) (fun κ h1 h2 _ hx hr hkk hl9 => ?_)
  subst h1
  refine AcH.mono (Rq := fun H => ∃ mc a, P H ∧ va_at (kg κ).1 vwCl (b, .inr (0, [.int mc, .ref a, .int sz])) H) (fun H h => by obtain ⟨mc, a, q⟩ := hP H h; exact ⟨mc, a, h, q⟩) (AcH.ex fun mc => AcH.ex fun a => ?_)
  exact H_aload_n (i := 0) (t := b) hx dJx4a65c_size_8abf5_0 rfl (H_getf hx (fun H h => h.2) in_JA (C := RJx4a65c) (ref := RJx4a65c) (T := TJx4a65c) (N := 3) rfl (slot := 2) (Or.inl rfl) (by decide) uf_Jx4a65c_48 (v := .int sz) rfl dJx4a65c_size_8abf5_1 (H_iret hx hr rfl dJx4a65c_size_8abf5_4 hkk (Nat.zero_le _) (Nat.zero_le _) (fun H h => ⟨rfl, h.1⟩)))
theorem RepX.atO {g : Gx} {L : Tg → Nat} {σ : Sg} {H : Heap} {t : Tg} (ho : isOb t.1 = true) (hv : vld σ t = true) (h : RepX g L σ H) : va_at g.1 vwCl (L t, .inr (cix t.1, (shp t.1 t.2).map (fvl L σ t.2))) H := by
  obtain ⟨L', hL, r1, -⟩ := h
  have hat := r1 t hv
  rw [cell_ob ho, hL t (isOb_5 ho).1] at hat
  have e : (shp t.1 t.2).map (fvl L' σ t.2) = (shp t.1 t.2).map (fvl L σ t.2) := by
    refine List.map_congr_left fun u hu => ?_
    cases u with
    | inl k => rfl
    | inr u =>
      show Value.ref _ = Value.ref _
      rw [hL u (shp_5 hu)]
  rw [e] at hat
  exact hat
theorem RepX.atL {g : Gx} {L : Tg → Nat} {σ : Sg} {H : Heap} {k : Nat} (hk : k < 11) (h : RepX g L σ H) : ∃ mc a, va_at g.1 vwCl (L (4, k), .inr (0, [.int mc, .ref a, .int (nI (σ.2.1 k).length)])) H := by
  obtain ⟨L', hL, r1, -⟩ := h
  have hat := r1 (4, k) (vld4 hk)
  rw [hL (4, k) (show (4 : Nat) ≠ 5 by decide)] at hat
  exact ⟨_, _, hat⟩
