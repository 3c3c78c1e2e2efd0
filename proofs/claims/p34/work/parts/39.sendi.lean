/-! send, by contract -/
def sCp : Sx := fun lc σ => match lc with
  | [a, b, some (.inr (2, i)), some (.inr (6, m))] => if i < 4 ∧ m < σ.2.2.1 0 then some (.inl ([a, b, some (.inr (2, i)), some (.inr (6, m))], cpyS σ i m)) else none
  | _ => none
theorem T_cp {κ : Kx} (hx : Hx κ cX2_send 4 RX2 9 219) : St κ 4 96 110 sCp := by
  refine T_end (fun lc σ hlc lc' σ' h => ?_) (fun lc σ r σ' h => ?_)
  · unfold sCp at h
    split at h
    · rename_i a b i m
      obtain ⟨⟨hi, hm⟩, h⟩ := ite_s h
      cases h
      refine ⟨rfl, ⟨Nat.le_refl _, Nat.le_refl _⟩, fun _ k => ?_⟩
      refine A_aload_n (i := 2) hx dX2_send_96 rfl (A_getf (slot := 1) (T := TX0) hx in_X0 rfl rfl (by simp [vld]; exact hi) rfl rfl (by decide) uf_X2_73 dX2_send_97 ?_)
      refine A_iconst (v := 0) hx dX2_send_100 (by decide) (A_aload_n (i := 3) hx dX2_send_101 rfl (A_getf (slot := 3) (T := TX1) hx in_X1 rfl rfl (by simp [vld]; exact hm) rfl rfl (by decide) uf_X2_77 dX2_send_102 ?_))
      exact A_iconst (v := 0) hx dX2_send_105 (by decide) (A_iconst (v := 4) hx dX2_send_106 (by decide) (A_copyS hx hi hm rfl um_X2_80 (by decide) (by decide) dX2_send_107 k))
    · cases h
  · unfold sCp at h
    split at h
    · obtain ⟨-, h⟩ := ite_s h
      cases h
    · cases h
def b_sendD : Sx := sSeq b_sendB (sSeq sCp b_sendC)
def f_X2_send : Sem := fun as σ => if as.length = 2 ∧ (lcOf as).length ≤ 4 then (b_sendA (lcOf as ++ List.replicate (4 - (lcOf as).length) none) σ).bind fun o => match o with
  | .inr q => some q
  | .inl (lc, τ) => match lc with
    | [some (.inr (0, 0)), some (.inl (.int x)), some (.inr (2, i)), y] => if i < 4 ∧ τ.2.2.1 0 = σ.2.2.1 0 then
        (b_sendD [some (ar (0, 0)), some (ai x), some (ar (2, i)), some (ar (6, τ.2.2.1 0))] (newMsg τ (nI (τ.2.1 0).length) x (nI (τ.2.1 (3 + i)).length))).bind fun o => match o with
          | .inr q => some q
          | .inl _ => none
      else none
    | _ => none
  else none
theorem nw_N {σ : Sg} {i s h : Int32} : sC (newMsg σ i s h) = sC σ + 5 ∧ sS (newMsg σ i s h) = sS σ + 26 := by
  unfold newMsg
  rw [grw_C.1, grw_C.2]
  exact ⟨by simp [sC, upN], by simp [sS, upN]⟩
theorem send_new {κ : Kx} (hx : Hx κ cX2_send 4 RX2 9 219) {τ : Sg} {x : Int32} {i : Nat} {y : Option AV} (hi : i < 4) (fit : Fit κ (newMsg τ (nI (τ.2.1 0).length) x (nI (τ.2.1 (3 + i)).length)))
    (k : ∀ b a1 a2 a3 a4, Acf (wL κ (nwL (kL κ) (τ.2.2.1 0) b a1 a2 a3 a4)) 76 [] [some (ar (0, 0)), some (ai x), some (ar (2, i)), some (ar (6, τ.2.2.1 0))] (newMsg τ (nI (τ.2.1 0).length) x (nI (τ.2.1 (3 + i)).length))) : Acf κ 53 [] [some (ar (0, 0)), some (ai x), some (ar (2, i)), y] τ := by
  have hst := hx.st
  obtain ⟨n1, n2⟩ := nw_N (σ := τ) (i := nI (τ.2.1 0).length) (s := x) (h := nI (τ.2.1 (3 + i)).length)
  refine Acf.ofH (fun q1 q2 q3 => ?_)
  obtain ⟨rm1, rm2⟩ := fit.room
  have v2 : vld τ (2, i) = true := by simp [vld]; exact hi
  refine AcH.raw (st' := []) (lc' := [some (aq (kL κ (0, 0))), some (ai x), some (aq (kL κ (2, i))), y]) rfl rfl ?_
  refine N_newc hx in_X1 tyX1 tyX1_ok (ci := 2) rfl ul_X2_53 ux_X1 un_X1 (fs := [.int 0, .int 0, .int 0, .null, .null, .null, .null, .int 0, .int 0, .int 0]) (by decide) (by omega) (by omega) dX2_send_53 (fun b => ?_)
  refine H_dup hx (Or.inr ⟨_, rfl⟩) dX2_send_56 (H_aload_n (i := 0) (t := kL κ (0, 0)) hx dX2_send_57 rfl ?_)
  refine H_getf hx (fun H h => h.old (fun H0 h0 => RepX.atO (t := (0, 0)) rfl rfl h0)) in_X2 (C := RX2) (ref := RX2) (T := TX2) (N := 7) rfl (slot := 1) (Or.inl rfl) (by decide) uf_X2_21 (v := .ref (kL κ (4, 0))) rfl dX2_send_58 ?_
  have hsz : ∀ k, k < 11 → ∀ H, NX (kg κ) (RepX (kg κ) (kL κ) τ) [(b, .inr (2, [.int 0, .int 0, .int 0, .null, .null, .null, .null, .int 0, .int 0, .int 0]))] H → ∃ mc a, va_at (kg κ).1 vwCl (kL κ (4, k), .inr (0, [.int mc, .ref a, .int (nI (τ.2.1 k).length)])) H := fun k hk H h => by
    obtain ⟨H0, h1, h2, h3, h4, h5, h6⟩ := h
    obtain ⟨mc, a, q⟩ := RepX.atL hk h1
    exact ⟨mc, a, q.kept (h4 _ q.lt)⟩
  refine H_callV (as := []) (rest := [aq b, aq b]) (b := kL κ (4, 0)) (ci := 0) hx XT_T rfl (c_lsizeH hst (hsz 0 (by decide))) trivial (fun H h => h) (fun H h => by obtain ⟨mc, a, q⟩ := hsz 0 (by decide) H h; exact ⟨_, q⟩) uc_Jx4a65c_size_8abf5 um_X2_42 ui_Jx4a65c_size_8abf5 us_Jx4a65c_size_8abf5 un_Jx4a65c ⟨rfl, by decide, by decide, rfl⟩ rfl (by simp [wt, wtA, Value.category]) (by decide) (by decide) (by omega) (by omega) dX2_send_61 (fun v => ?_)
  refine AcH.pure (P := v = some (.int (nI (τ.2.1 0).length))) (fun hv => ?_) (fun H h => h.1)
  subst hv
  refine AcH.mono (fun H h => h.2) ?_
  refine H_iload_n (i := 1) hx dX2_send_64 rfl (H_aload_n (i := 2) (t := kL κ (2, i)) hx dX2_send_65 rfl ?_)
  refine H_getf hx (fun H h => h.old (fun H0 h0 => RepX.atO (t := (2, i)) rfl v2 h0)) in_X0 (C := RX0) (ref := RX0) (T := TX0) (N := 9) rfl (slot := 2) (Or.inl rfl) (by decide) uf_X2_55 (v := .ref (kL κ (4, 3 + i))) rfl dX2_send_66 ?_
  refine H_callV (as := []) (rest := [ai x, ai (nI (τ.2.1 0).length), aq b, aq b]) (b := kL κ (4, 3 + i)) (ci := 0) hx XT_T rfl (c_lsizeH hst (hsz (3 + i) (by omega))) trivial (fun H h => h) (fun H h => by obtain ⟨mc, a, q⟩ := hsz (3 + i) (by omega) H h; exact ⟨_, q⟩) uc_Jx4a65c_size_8abf5 um_X2_42 ui_Jx4a65c_size_8abf5 us_Jx4a65c_size_8abf5 un_Jx4a65c ⟨rfl, by decide, by decide, rfl⟩ rfl (by simp [wt, wtA, Value.category]) (by decide) (by decide) (by omega) (by omega) dX2_send_69 (fun v => ?_)
  refine AcH.pure (P := v = some (.int (nI (τ.2.1 (3 + i)).length))) (fun hv => ?_) (fun H h => h.1)
  subst hv
  refine AcH.mono (fun H h => h.2) ?_
  refine H_callI (as := [.int (nI (τ.2.1 0).length), .int x, .int (nI (τ.2.1 (3 + i)).length)]) (rest := [aq b]) (b := b) hx XT_T rfl (c_iMsg hst) trivial (fun H h => h) uc_X1_init um_X2_58 ui_X1_init un_X1 ⟨rfl, by decide, by decide, rfl⟩ (by simp [wt, wtA, Value.category]) (by decide) (by decide) (by omega) (by omega) dX2_send_72 (fun v => ?_)
  refine AcH.pure (P := v = none) (fun hv => ?_) (fun H h => h.1)
  subst hv
  refine AcH.mono (fun H h => h.2) (AcH.ex fun a1 => AcH.ex fun a2 => AcH.ex fun a3 => AcH.ex fun a4 => ?_)
  refine H_astore_n (i := 3) (t := b) hx dX2_send_75 (by show 3 < 4; decide) ?_
  refine AcH.ofA2 (L2 := nwL (kL κ) (τ.2.2.1 0) b a1 a2 a3 a4) (st' := []) (lc' := [some (ar (0, 0)), some (ai x), some (ar (2, i)), some (ar (6, τ.2.2.1 0))]) (fun H h => RepX.newMsg h) rfl ?_ (by omega) (by omega) fit (k b a1 a2 a3 a4)
  have e0 : nwL (kL κ) (τ.2.2.1 0) b a1 a2 a3 a4 (0, 0) = kL κ (0, 0) := nwL_ne (Or.inl (show (0 : Nat) < 6 by decide))
  have e2 : nwL (kL κ) (τ.2.2.1 0) b a1 a2 a3 a4 (2, i) = kL κ (2, i) := nwL_ne (Or.inl (show (2 : Nat) < 6 by decide))
  have e6 : nwL (kL κ) (τ.2.2.1 0) b a1 a2 a3 a4 (6, τ.2.2.1 0) = b := by simp [nwL]
  show [some (Value.ref (kL κ (0, 0))), some (Value.int x), some (Value.ref (kL κ (2, i))), some (Value.ref b)] = [some (Value.ref (nwL (kL κ) (τ.2.2.1 0) b a1 a2 a3 a4 (0, 0))), some (Value.int x), some (Value.ref (nwL (kL κ) (τ.2.2.1 0) b a1 a2 a3 a4 (2, i))), some (Value.ref (nwL (kL κ) (τ.2.2.1 0) b a1 a2 a3 a4 (6, τ.2.2.1 0)))]
  rw [e0, e2, e6]
theorem c_X2_send {l : Launch} {g : Gx} (hl : l.stackTraces = false) : CtS l g yX2_send cX2_send 4 (some .int) 9 219 f_X2_send := by
  refine CtS.of (by decide) hl (fun κ h1 h2 hx hr as σ σF r hs hsem => ?_)
  unfold f_X2_send at hsem
  split at hsem
  · rename_i hlen
    obtain ⟨o, ho, hsem⟩ := obs hsem
    have hll : (lcOf as ++ List.replicate (4 - (lcOf as).length) (none : Option AV)).length = 4 := by rw [List.length_append, List.length_replicate]; omega
    cases o with
    | inr q =>
      cases hsem
      obtain ⟨s1, k1⟩ := (t_sendA hx hr _ σ hll).2 r σF ho
      refine ⟨by omega, s1, fun k9 => k1 ?_⟩
      have := k9 (kL κ) (fun _ _ => rfl)
      rwa [wL_self] at this
    | inl q =>
      obtain ⟨lc, τ⟩ := q
      obtain ⟨l1, s1, k1⟩ := (t_sendA hx hr _ σ hll).1 lc τ ho
      dsimp only at hsem
      split at hsem
      · rename_i x i y
        split at hsem
        · rename_i hc
          obtain ⟨hi, hN⟩ := hc
          obtain ⟨o2, ho2, hsem⟩ := obs hsem
          cases o2 with
          | inl q => cases hsem
          | inr q =>
            cases hsem
            have hD : ∀ L2, sle (newMsg τ (nI (τ.2.1 0).length) x (nI (τ.2.1 (3 + i)).length)) σF ∧ (Rt (wL κ L2) r σF → Acf (wL κ L2) 76 [] [some (ar (0, 0)), some (ai x), some (ar (2, i)), some (ar (6, τ.2.2.1 0))] (newMsg τ (nI (τ.2.1 0).length) x (nI (τ.2.1 (3 + i)).length))) := fun L2 => (T_seq (t_sendB hx.wL hr.wL) (T_seq (T_cp hx.wL) (t_sendC hx.wL hr.wL)) _ _ rfl).2 r σF ho2
            obtain ⟨n1, n2⟩ := nw_N (σ := τ) (i := nI (τ.2.1 0).length) (s := x) (h := nI (τ.2.1 (3 + i)).length)
            have s2 := (hD (kL κ)).1
            refine ⟨by omega, ⟨by have := s1.1; have := s2.1; omega, by have := s1.2; have := s2.2; omega⟩, fun k9 => ?_⟩
            have hself := k9 (kL κ) (fun _ _ => rfl)
            rw [wL_self] at hself
            have fitF := hself.fit
            have fit2 := fitF.le s2
            refine k1 (fit2.le ⟨by omega, by omega⟩) (send_new hx hi fit2 (fun b a1 a2 a3 a4 => (hD _).2 (k9 _ (fun u hu => nwL_ne ?_))))
            by_cases q : u.1 < 6
            · exact Or.inl q
            · by_cases q2 : 10 < u.1
              · exact Or.inr (Or.inl q2)
              · have := vld_6 hu (by omega) (by omega)
                exact Or.inr (Or.inr (by omega))
        · cases hsem
      · cases hsem
  · cases hsem
