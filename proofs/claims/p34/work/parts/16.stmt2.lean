/-! statements that store, return, throw; a method's contract out of its body -/
section STMT2
variable {κ : Kx} {cc : ByteArray} {nL fX lX : Nat} {own : String} {w pc pc1 pc2 pc3 pc4 pE : Nat} {ret : Option FieldType}
theorem T_end {b : Sx} (h : ∀ lc σ, lc.length = nL → ∀ lc' σ', b lc σ = some (.inl (lc', σ')) → lc'.length = nL ∧ sle σ σ' ∧ (Fit κ σ' → Acf κ pc1 [] lc' σ' → Acf κ pc [] lc σ)) (h2 : ∀ lc σ r σ', b lc σ = some (.inr (r, σ')) → False) : St κ nL pc pc1 b := fun lc σ hlc => ⟨h lc σ hlc, fun r σ' hb => (h2 _ _ _ _ hb).elim⟩
theorem T_set_n (hx : Hx κ cc nL own fX lX) {i : Fin 4} {e : Ex Int32} (he : Ev κ nL ai 0 pc pc1 e) (d : decode cc pc1 = .ok (.istore_n i, 1)) (hi : (i : Nat) < nL) : St κ nL pc (pc1 + 1) (sSet (i : Nat) e) := by
  refine T_end (fun lc σ hlc lc' σ' h => ?_) (fun lc σ r σ' h => ?_)
  · obtain ⟨r, hr, h⟩ := obs h
    cases h
    obtain ⟨l1, k1⟩ := he [] lc σ _ _ hlc (Nat.le_refl 0) hr
    exact ⟨by rw [List.length_set]; exact hlc, l1, fun hf k => k1 hf (A_istore_n hx d (by rw [hlc]; exact hi) k)⟩
  · obtain ⟨r, hr, h⟩ := obs h
    cases h
theorem T_set (hx : Hx κ cc nL own fX lX) {i : Nat} {e : Ex Int32} (he : Ev κ nL ai 0 pc pc1 e) (d : decode cc pc1 = .ok (.istore i, 2)) (hi : i < nL) : St κ nL pc (pc1 + 2) (sSet i e) := by
  refine T_end (fun lc σ hlc lc' σ' h => ?_) (fun lc σ r σ' h => ?_)
  · obtain ⟨r, hr, h⟩ := obs h
    cases h
    obtain ⟨l1, k1⟩ := he [] lc σ _ _ hlc (Nat.le_refl 0) hr
    exact ⟨by rw [List.length_set]; exact hlc, l1, fun hf k => k1 hf (A_istore hx d (by rw [hlc]; exact hi) k)⟩
  · obtain ⟨r, hr, h⟩ := obs h
    cases h
theorem T_setR_n (hx : Hx κ cc nL own fX lX) {i : Fin 4} {e : Ex Tg} (he : Ev κ nL ar 0 pc pc1 e) (d : decode cc pc1 = .ok (.astore_n i, 1)) (hi : (i : Nat) < nL) : St κ nL pc (pc1 + 1) (sSetR (i : Nat) e) := by
  refine T_end (fun lc σ hlc lc' σ' h => ?_) (fun lc σ r σ' h => ?_)
  · obtain ⟨r, hr, h⟩ := obs h
    cases h
    obtain ⟨l1, k1⟩ := he [] lc σ _ _ hlc (Nat.le_refl 0) hr
    exact ⟨by rw [List.length_set]; exact hlc, l1, fun hf k => k1 hf (A_astore_n hx d (by rw [hlc]; exact hi) k)⟩
  · obtain ⟨r, hr, h⟩ := obs h
    cases h
theorem T_setR (hx : Hx κ cc nL own fX lX) {i : Nat} {e : Ex Tg} (he : Ev κ nL ar 0 pc pc1 e) (d : decode cc pc1 = .ok (.astore i, 2)) (hi : i < nL) : St κ nL pc (pc1 + 2) (sSetR i e) := by
  refine T_end (fun lc σ hlc lc' σ' h => ?_) (fun lc σ r σ' h => ?_)
  · obtain ⟨r, hr, h⟩ := obs h
    cases h
    obtain ⟨l1, k1⟩ := he [] lc σ _ _ hlc (Nat.le_refl 0) hr
    exact ⟨by rw [List.length_set]; exact hlc, l1, fun hf k => k1 hf (A_astore hx d (by rw [hlc]; exact hi) k)⟩
  · obtain ⟨r, hr, h⟩ := obs h
    cases h
theorem isNl_s {v : AV} {b : Bool} (h : isNl v = some b) : (∃ t, v = ar t) ∨ v = an := by
  unfold isNl at h
  split at h
  · exact Or.inr rfl
  · exact Or.inl ⟨_, rfl⟩
  · cases h
theorem T_setN_n (hx : Hx κ cc nL own fX lX) {i : Fin 4} {e : Ex AV} (he : Ev κ nL id 0 pc pc1 e) (d : decode cc pc1 = .ok (.astore_n i, 1)) (hi : (i : Nat) < nL) : St κ nL pc (pc1 + 1) (sSetN (i : Nat) e) := by
  refine T_end (fun lc σ hlc lc' σ' h => ?_) (fun lc σ r σ' h => ?_)
  · obtain ⟨⟨v, σ1⟩, hr, h⟩ := obs h
    obtain ⟨b, hb, h⟩ := obs h
    cases h
    obtain ⟨l1, k1⟩ := he [] lc σ _ _ hlc (Nat.le_refl 0) hr
    refine ⟨by rw [List.length_set]; exact hlc, l1, fun hf k => k1 hf ?_⟩
    rcases isNl_s hb with ⟨t, e9⟩ | e9
    · dsimp only at e9 k
      subst e9
      exact A_astore_n hx d (by rw [hlc]; exact hi) k
    · dsimp only at e9 k
      subst e9
      exact A_astore_nN hx d (by rw [hlc]; exact hi) k
  · obtain ⟨r, hr, h⟩ := obs h
    obtain ⟨b, hb, h⟩ := obs h
    cases h
theorem T_inc (hx : Hx κ cc nL own fX lX) {i : Nat} {n : Int} {v : Int32} (d : decode cc pc = .ok (.iinc i n, 3)) (hv : Int32.ofInt n = v) : St κ nL pc (pc + 3) (sInc i v) := by
  refine T_end (fun lc σ hlc lc' σ' h => ?_) (fun lc σ r σ' h => ?_)
  · unfold sInc at h
    split at h
    · rename_i x hq
      cases h
      exact ⟨by rw [List.length_set]; exact hlc, sle.refl _, fun hf k => A_iinc hx d hq (by rw [hv]) k⟩
    · cases h
  · unfold sInc at h
    split at h <;> cases h
theorem nar01 {x : Int32} (h : x = 0 ∨ x = 1) : narrow .boolean (.int x) = .int x ∧ fits .boolean (.int x) = true := by
  rcases h with rfl | rfl
  · exact ⟨rfl, rfl⟩
  · exact ⟨rfl, rfl⟩
theorem sle_upI (σ : Sg) (k o j : Nat) (x : Int32) : sle σ (upI σ k o j x) := sle.refl _
theorem T_put (hx : Hx κ cc nL own fX lX) {b : Bool} {tk slot idx kc : Nat} {C : String} {T : u_T} {N : Nat} {e : Ex Tg} {v : Ex Int32} (he : Ev κ nL ar 0 pc pc1 e) (hv : Ev κ nL ai 1 pc1 pc2 v) (hin : ∀ w ∈ u_ws C T N, w ∈ UW) (ty0 : Nat → FieldType) (hty : ∀ k, k < N → parseFieldDescriptor (T k).2.2.1 = some (ty0 k)) (hnm : ∀ a, a < N → ∀ b, b < N → a ≠ b → (T a).2.1 ≠ (T b).2.1) (hcl : vwCl[cix tk]? = some (C, T, N)) (ho : isOb tk = true) (hs : ∀ i, (shp tk i)[slot]? = some (.inl kc)) (hr : (T slot).1 = C) (hk : slot < N)
    (hl : Cond.fieldLink own idx C (T slot).2.1 (T slot).2.2.1 ∈ UW) (hfin : (T slot).2.2.2 = false) (hd : parseFieldDescriptor (T slot).2.2.1 = some (if b then .boolean else .int)) (d : decode cc pc2 = .ok (.putfield idx, 3)) : St κ nL pc (pc2 + 3) (sPut b tk kc e v) := by
  refine T_end (fun lc σ hlc lc' σ' h => ?_) (fun lc σ r σ' h => ?_)
  · obtain ⟨⟨⟨tk', i⟩, σ1⟩, hr9, h⟩ := obs h
    obtain ⟨⟨x, σ2⟩, hq, h⟩ := obs h
    obtain ⟨τ, hτ, h⟩ := obs h
    cases h
    obtain ⟨l1, k1⟩ := he [] lc σ _ _ hlc (Nat.le_refl 0) hr9
    obtain ⟨l2, k2⟩ := hv [ar (tk', i)] lc σ1 _ _ hlc (Nat.le_refl 1) hq
    obtain ⟨⟨c1, c2, c3⟩, hτ9⟩ := ite_s hτ
    dsimp only at c1 c2 c3 hτ9
    subst c1
    subst hτ9
    refine ⟨hlc, l1.trans l2, fun hf k => k1 (Fit.le (τ := σ2) hf l2) (k2 hf ?_)⟩
    cases b with
    | true => exact A_putf hx hin ty0 hty hnm hcl ho c2 (hs i) hr hk hl hfin hd (nar01 (c3 rfl)).1 (nar01 (c3 rfl)).2 d k
    | false => exact A_putf hx hin ty0 hty hnm hcl ho c2 (hs i) hr hk hl hfin hd rfl rfl d k
  · obtain ⟨q, hq, h⟩ := obs h
    obtain ⟨q, hq, h⟩ := obs h
    obtain ⟨q, hq, h⟩ := obs h
    cases h
/-- how an operator's one instruction runs -/
def Op2 (κ : Kx) (cc : ByteArray) (pc : Nat) (op : Int32 → Int32 → Int32) : Prop := ∀ (st : List AV) (lc : LcT) (σ : Sg) (x y : Int32), Acf κ (pc + 1) (ai (op x y) :: st) lc σ → Acf κ pc (ai y :: ai x :: st) lc σ
theorem O_iadd (hx : Hx κ cc nL own fX lX) (d : decode cc pc = .ok (.iadd, 1)) : Op2 κ cc pc (· + ·) := fun _ _ _ _ _ k => A_iadd hx d k
theorem O_isub (hx : Hx κ cc nL own fX lX) (d : decode cc pc = .ok (.isub, 1)) : Op2 κ cc pc (· - ·) := fun _ _ _ _ _ k => A_isub hx d k
theorem T_putOp (hx : Hx κ cc nL own fX lX) {op : Int32 → Int32 → Int32} {tk slot idx kc : Nat} {C : String} {T : u_T} {N : Nat} {e : Ex Tg} {v : Ex Int32} (he : Ev κ nL ar 0 pc pc1 e) (d1 : decode cc pc1 = .ok (.dup, 1)) (d2 : decode cc (pc1 + 1) = .ok (.getfield idx, 3)) (hv : Ev κ nL ai 2 (pc1 + 1 + 3) pc2 v) (h9 : Op2 κ cc pc2 op) (hin : ∀ w ∈ u_ws C T N, w ∈ UW) (ty0 : Nat → FieldType) (hty : ∀ k, k < N → parseFieldDescriptor (T k).2.2.1 = some (ty0 k)) (hnm : ∀ a, a < N → ∀ b, b < N → a ≠ b → (T a).2.1 ≠ (T b).2.1) (hcl : vwCl[cix tk]? = some (C, T, N)) (ho : isOb tk = true) (hs : ∀ i, (shp tk i)[slot]? = some (.inl kc)) (hr : (T slot).1 = C) (hk : slot < N)
    (hl : Cond.fieldLink own idx C (T slot).2.1 (T slot).2.2.1 ∈ UW) (hfin : (T slot).2.2.2 = false) (hd : parseFieldDescriptor (T slot).2.2.1 = some .int) (d : decode cc (pc2 + 1) = .ok (.putfield idx, 3)) : St κ nL pc (pc2 + 1 + 3) (sPutOp op tk kc e v) := by
  refine T_end (fun lc σ hlc lc' σ' h => ?_) (fun lc σ r σ' h => ?_)
  · obtain ⟨⟨⟨tk', i⟩, σ1⟩, hr9, h⟩ := obs h
    split at h
    · rename_i hc
      obtain ⟨c1, c2⟩ := hc
      dsimp only at c1 c2 h
      subst c1
      obtain ⟨⟨x, σ2⟩, hq, h⟩ := obs h
      obtain ⟨τ, hτ, h⟩ := obs h
      cases h
      obtain ⟨l1, k1⟩ := he [] lc σ _ _ hlc (Nat.le_refl 0) hr9
      obtain ⟨l2, k2⟩ := hv [ai (σ1.1 kc i 0), ar (tk', i)] lc σ1 _ _ hlc (Nat.le_refl 2) hq
      obtain ⟨⟨-, c2', -⟩, hτ9⟩ := ite_s hτ
      dsimp only at c2' hτ9
      subst hτ9
      exact ⟨hlc, l1.trans l2, fun hf k => k1 (Fit.le (τ := σ2) hf l2) (A_dup hx (Or.inr ⟨_, rfl⟩) d1 (A_getf hx hin hcl ho c2 (hs i) hr hk hl d2 (k2 hf (h9 _ _ _ _ _ (A_putf hx hin ty0 hty hnm hcl ho c2' (hs i) hr hk hl hfin hd rfl rfl d k)))))⟩
    · cases h
  · obtain ⟨q, hq, h⟩ := obs h
    split at h
    · obtain ⟨q, hq, h⟩ := obs h
      obtain ⟨q, hq, h⟩ := obs h
      cases h
    · cases h
theorem T_iast (hx : Hx κ cc nL own fX lX) {e : Ex Tg} {i v : Ex Int32} (he : Ev κ nL ar 0 pc pc1 e) (hi : Ev κ nL ai 1 pc1 pc2 i) (hv : Ev κ nL ai 2 pc2 pc3 v) (d : decode cc pc3 = .ok (.iastore, 1)) : St κ nL pc (pc3 + 1) (sAst false e i v) := by
  refine T_end (fun lc σ hlc lc' σ' h => ?_) (fun lc σ r σ' h => ?_)
  · obtain ⟨⟨t, σ1⟩, hr9, h⟩ := obs h
    obtain ⟨⟨j, σ2⟩, hq, h⟩ := obs h
    obtain ⟨⟨x, σ3⟩, hu, h⟩ := obs h
    obtain ⟨τ, hτ, h⟩ := obs h
    cases h
    obtain ⟨l1, k1⟩ := he [] lc σ _ _ hlc (Nat.le_refl 0) hr9
    obtain ⟨l2, k2⟩ := hi [ar t] lc σ1 _ _ hlc (Nat.le_refl 1) hq
    obtain ⟨l3, k3⟩ := hv [ai j, ar t] lc σ2 _ _ hlc (Nat.le_refl 2) hu
    unfold wrA at hτ
    split at hτ
    · rename_i a ha
      obtain ⟨b9, n9, kc9, o9⟩ := a
      obtain ⟨⟨c1, c2, c3, c4⟩, hτ9⟩ := ite_s hτ
      dsimp only at c1 c2 c3 hτ9 ha
      subst c1
      subst hτ9
      exact ⟨hlc, l1.trans (l2.trans l3), fun hf k => k1 (Fit.le (τ := σ3) hf (l2.trans l3)) (k2 (Fit.le (τ := σ3) hf l3) (k3 hf (A_iast hx ha c2 (inB_in c3) d k)))⟩
    · cases hτ
  · obtain ⟨q, hq, h⟩ := obs h
    obtain ⟨q, hq, h⟩ := obs h
    obtain ⟨q, hq, h⟩ := obs h
    obtain ⟨q, hq, h⟩ := obs h
    cases h
theorem T_aop (hx : Hx κ cc nL own fX lX) {op : Int32 → Int32 → Int32} {e : Ex Tg} {i v : Ex Int32} (he : Ev κ nL ar 0 pc pc1 e) (hi : Ev κ nL ai 1 pc1 pc2 i) (d1 : decode cc pc2 = .ok (.dup2, 1)) (d2 : decode cc (pc2 + 1) = .ok (.iaload, 1)) (hv : Ev κ nL ai 3 (pc2 + 1 + 1) pc3 v) (h9 : Op2 κ cc pc3 op) (d : decode cc (pc3 + 1) = .ok (.iastore, 1)) : St κ nL pc (pc3 + 1 + 1) (sAop op e i v) := by
  refine T_end (fun lc σ hlc lc' σ' h => ?_) (fun lc σ r σ' h => ?_)
  · obtain ⟨⟨t, σ1⟩, hr9, h⟩ := obs h
    obtain ⟨⟨j, σ2⟩, hq, h⟩ := obs h
    obtain ⟨z, hz, h⟩ := obs h
    obtain ⟨⟨x, σ3⟩, hu, h⟩ := obs h
    obtain ⟨τ, hτ, h⟩ := obs h
    cases h
    obtain ⟨l1, k1⟩ := he [] lc σ _ _ hlc (Nat.le_refl 0) hr9
    obtain ⟨l2, k2⟩ := hi [ar t] lc σ1 _ _ hlc (Nat.le_refl 1) hq
    obtain ⟨l3, k3⟩ := hv [ai z, ai j, ar t] lc σ2 _ _ hlc (Nat.le_refl 3) hu
    unfold rdA at hz
    split at hz
    · rename_i a ha
      obtain ⟨b9, n9, kc9, o9⟩ := a
      obtain ⟨⟨c1, c2, c3⟩, hz9⟩ := ite_s hz
      dsimp only at c1 c2 c3 hz9 ha
      unfold wrA at hτ
      rw [ha] at hτ
      obtain ⟨⟨-, c2', c3', -⟩, hτ9⟩ := ite_s hτ
      dsimp only at c2' c3' hτ9
      subst c1
      subst hτ9
      subst hz9
      exact ⟨hlc, l1.trans (l2.trans l3), fun hf k => k1 (Fit.le (τ := σ3) hf (l2.trans l3)) (k2 (Fit.le (τ := σ3) hf l3) (A_dup2 hx d1 (A_iald hx ha c2 (inB_in c3) d2 (k3 hf (h9 _ _ _ _ _ (A_iast hx ha c2' (inB_in c3') d k))))))⟩
    · cases hz
  · obtain ⟨q, hq, h⟩ := obs h
    obtain ⟨q, hq, h⟩ := obs h
    obtain ⟨q, hq, h⟩ := obs h
    obtain ⟨q, hq, h⟩ := obs h
    obtain ⟨q, hq, h⟩ := obs h
    cases h
theorem T_pop (hx : Hx κ cc nL own fX lX) {e : Ex Int32} (he : Ev κ nL ai 0 pc pc1 e) (d : decode cc pc1 = .ok (.pop, 1)) : St κ nL pc (pc1 + 1) (sPop e) := by
  refine T_end (fun lc σ hlc lc' σ' h => ?_) (fun lc σ r σ' h => ?_)
  · obtain ⟨r, hr, h⟩ := obs h
    cases h
    obtain ⟨l1, k1⟩ := he [] lc σ _ _ hlc (Nat.le_refl 0) hr
    exact ⟨hlc, l1, fun hf k => k1 hf (A_pop hx (Or.inl ⟨_, rfl⟩) d k)⟩
  · obtain ⟨r, hr, h⟩ := obs h
    cases h
theorem T_popR (hx : Hx κ cc nL own fX lX) {e : Ex Tg} (he : Ev κ nL ar 0 pc pc1 e) (d : decode cc pc1 = .ok (.pop, 1)) : St κ nL pc (pc1 + 1) (sPopR e) := by
  refine T_end (fun lc σ hlc lc' σ' h => ?_) (fun lc σ r σ' h => ?_)
  · obtain ⟨r, hr, h⟩ := obs h
    cases h
    obtain ⟨l1, k1⟩ := he [] lc σ _ _ hlc (Nat.le_refl 0) hr
    exact ⟨hlc, l1, fun hf k => k1 hf (A_pop hx (Or.inr ⟨_, rfl⟩) d k)⟩
  · obtain ⟨r, hr, h⟩ := obs h
    cases h
theorem T_fin {b : Sx} (h : ∀ lc σ, lc.length = nL → ∀ r σ', b lc σ = some (.inr (r, σ')) → sle σ σ' ∧ (Rt κ r σ' → Acf κ pc [] lc σ)) (h2 : ∀ lc σ q, b lc σ = some (.inl q) → False) : St κ nL pc pE b := fun lc σ hlc => ⟨fun lc' σ' hb => (h2 _ _ _ hb).elim, h lc σ hlc⟩
theorem T_ret (hx : Hx κ cc nL own fX lX) {b : Bool} {e : Ex Int32} (hr : Hr κ (some (if b then .boolean else .int))) (he : Ev κ nL ai 0 pc pc1 e) (d : decode cc pc1 = .ok (.ireturn, 1)) : St κ nL pc pE (sRet b e) := by
  refine T_fin (fun lc σ hlc r σ' h => ?_) (fun lc σ q h => ?_)
  · obtain ⟨⟨x, σ1⟩, hr9, h⟩ := obs h
    obtain ⟨l1, k1⟩ := he [] lc σ _ _ hlc (Nat.le_refl 0) hr9
    obtain ⟨c1, h⟩ := ite_s h
    cases h
    refine ⟨l1, fun k => k1 k.fit ?_⟩
    cases b with
    | true => exact A_iret hx hr (nar01 (c1 rfl)).1 d k
    | false => exact A_iret hx hr rfl d k
  · obtain ⟨q, hq, h⟩ := obs h
    obtain ⟨-, h⟩ := ite_s h
    cases h
theorem T_retN (hx : Hx κ cc nL own fX lX) {C : String} {e : Ex AV} (hr : Hr κ (some (.object C))) (he : Ev κ nL id 0 pc pc1 e) (d : decode cc pc1 = .ok (.areturn, 1)) : St κ nL pc pE (sRetN e) := by
  refine T_fin (fun lc σ hlc r σ' h => ?_) (fun lc σ q h => ?_)
  · obtain ⟨⟨x, σ1⟩, hr9, h⟩ := obs h
    obtain ⟨b, hb, h⟩ := obs h
    obtain ⟨l1, k1⟩ := he [] lc σ _ _ hlc (Nat.le_refl 0) hr9
    cases h
    exact ⟨l1, fun k => k1 k.fit (A_aret hx hr (isNl_s hb) d k)⟩
  · obtain ⟨q, hq, h⟩ := obs h
    obtain ⟨q, hq, h⟩ := obs h
    cases h
theorem T_retV (hx : Hx κ cc nL own fX lX) (hr : Hr κ none) (d : decode cc pc = .ok (.return_, 1)) : St κ nL pc pE sRetV := by
  refine T_fin (fun lc σ hlc r σ' h => ?_) (fun lc σ q h => ?_)
  · cases h
    exact ⟨sle.refl _, fun k => A_vret hx hr d k⟩
  · cases h
theorem T_throw (hx : Hx κ cc nL own fX lX) {n ik is ic : Nat} {text : String} (hr : Hr κ ret) (hs : (own, is, text) ∈ strs) (hk : Cond.classLink own ik (exn n) ∈ UW) (hini : Cond.initialized (exn n) ∈ UW) (hfit : Bundle.fit (exn n) = true)
    (hat : ∀ w ∈ vx_atS own ic (exn n) exNames, w ∈ UW ∨ w ∈ FW) (hgood : ∀ w ∈ Cond.classLink own ik (exn n) :: Cond.initialized (exn n) :: vx_atS own ic (exn n) exNames, vx_ot w = true)
    (d0 : decode cc pc = .ok (.new ik, 3)) (d3 : decode cc (pc + 3) = .ok (.dup, 1)) (d4 : decode cc (pc + 4) = .ok (.ldc is, 2)) (d6 : decode cc (pc + 6) = .ok (.invokespecial ic, 3)) (d9 : decode cc (pc + 9) = .ok (.athrow, 1))
    (hf : 6 ≤ fX) (hlX : 82 ≤ lX) : St κ nL pc pE (sThrow n) := by
  refine T_fin (fun lc σ hlc r σ' h => ?_) (fun lc σ q h => ?_)
  · cases h
    exact ⟨⟨by rw [grw_C.1]; omega, by rw [grw_C.2]; omega⟩, fun k => A_throw hx hr hs hk hini hfit hat hgood d0 d3 d4 d6 d9 hf (by show 0 + 82 ≤ lX; omega) hlc k⟩
  · cases h
end STMT2
/-- a method's contract out of its body's run -/
theorem CtX.body {l : Launch} {g : Gx} {y : MethodName} {cc : ByteArray} {maxL n pcE : Nat} {ret : Option FieldType} {fr lo : Nat} {b : Sx} (hy : plainName y.cls = true) (hl : l.stackTraces = false)
    (h : ∀ κ : Kx, kl κ = l → kg κ = g → Hx κ cc maxL y.cls fr lo → Hr κ ret → St κ maxL 0 pcE b) : CtX l g y cc maxL ret fr lo (run maxL n b) := by
  refine CtX.of hy hl (fun κ h1 h2 hx hr as σ σF r hs hsem => ?_)
  unfold run at hsem
  split at hsem
  · rename_i hlen
    obtain ⟨o, ho, hsem⟩ := obs hsem
    cases o with
    | inl q => cases hsem
    | inr q =>
      cases hsem
      obtain ⟨l1, k1⟩ := (h κ h1 h2 hx hr (lcOf as ++ List.replicate (maxL - (lcOf as).length) none) σ (by rw [List.length_append, List.length_replicate]; omega)).2 _ _ ho
      exact ⟨hlen.2, l1, k1⟩
  · cases hsem
