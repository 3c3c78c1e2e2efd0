/-! the JDK's members that write lists -/
theorem XT_T : XT (fun _ => True) := fun _ _ _ _ => trivial
theorem XT_M {mi : Nat} : XT (fun U => va_Mi "[Ljava/lang/Object;" mi U) := fun s U h hW => h.moved hW.alike
theorem fw_msg : Cond.castable RX1 "java/lang/Object" ∈ FW := List.mem_filter.mpr ⟨(by decide +kernel : Cond.castable RX1 "java/lang/Object" ∈ lw_tbl), (by decide +kernel)⟩
section LROWS
variable {κ : Kx} {cc : ByteArray} {nL fX lX : Nat} {pc : Nat} {st : List AV} {lc : LcT} {nc ns : Nat} {L : Tg → Nat} {σ : Sg} {k : Nat} {mc : Int32} {a cap : Nat} {f : Nat → Option Nat} {sz : Int32} {sp : Sp}
theorem L_gsz (hx : Hx κ cc nL RJx4a65c fX lX) (d : decode cc pc = .ok (.getfield 48, 3)) (kk : AcH κ (LX (kg κ) L σ k mc a cap f sz sp) nc ns (pc + 3) (ai sz :: st) lc) : AcH κ (LX (kg κ) L σ k mc a cap f sz sp) nc ns pc (aq (L (4, k)) :: st) lc :=
  H_getf hx (fun H h => h.at4) in_JA (C := RJx4a65c) (ref := RJx4a65c) (T := TJx4a65c) (N := 3) rfl (slot := 2) (Or.inl rfl) (by decide) uf_Jx4a65c_48 (v := .int sz) rfl d kk
theorem L_gel (hx : Hx κ cc nL RJx4a65c fX lX) (d : decode cc pc = .ok (.getfield 9, 3)) (kk : AcH κ (LX (kg κ) L σ k mc a cap f sz sp) nc ns (pc + 3) (aq a :: st) lc) : AcH κ (LX (kg κ) L σ k mc a cap f sz sp) nc ns pc (aq (L (4, k)) :: st) lc :=
  H_getf hx (fun H h => h.at4) in_JA (C := RJx4a65c) (ref := RJx4a65c) (T := TJx4a65c) (N := 3) rfl (slot := 1) (Or.inl rfl) (by decide) uf_Jx4a65c_9 (v := .ref a) rfl d kk
theorem L_gmc (hx : Hx κ cc nL RJx4a65c fX lX) (d : decode cc pc = .ok (.getfield 63, 3)) (kk : AcH κ (LX (kg κ) L σ k mc a cap f sz sp) nc ns (pc + 3) (ai mc :: st) lc) : AcH κ (LX (kg κ) L σ k mc a cap f sz sp) nc ns pc (aq (L (4, k)) :: st) lc :=
  H_getf hx (fun H h => h.at4) in_JA (C := RJx4a65c) (ref := RJx4a65c) (T := TJx4a65c) (N := 3) rfl (slot := 0) (Or.inr uz_sameField_1_51) (by decide) uf_Jx4a65c_63 (v := .int mc) rfl d kk
theorem L_psz (hk : k < 11) (hx : Hx κ cc nL RJx4a65c fX lX) {sz' : Int32} (hg : gA (kg κ) (L (4, k))) (d : decode cc pc = .ok (.putfield 48, 3)) (kk : AcH κ (LX (kg κ) L σ k mc a cap f sz' sp) nc ns (pc + 3) st lc) : AcH κ (LX (kg κ) L σ k mc a cap f sz sp) nc ns pc (ai sz' :: aq (L (4, k)) :: st) lc :=
  H_putf hx (fun H h => h.at4) in_JA (C := RJx4a65c) (ref := RJx4a65c) (T := TJx4a65c) (N := 3) tyJx4a65c tyJx4a65c_ok nmJx4a65c rfl (slot := 2) (Or.inl rfl) (by decide) uf_Jx4a65c_48 rfl (ty := .int) rfl rfl rfl (by simp) hg (fun H H' h h4 hq => h.put4 hk h4 hq) d kk
theorem L_pmc (hk : k < 11) (hx : Hx κ cc nL RJx4a65c fX lX) {mc' : Int32} (hg : gA (kg κ) (L (4, k))) (d : decode cc pc = .ok (.putfield 63, 3)) (kk : AcH κ (LX (kg κ) L σ k mc' a cap f sz sp) nc ns (pc + 3) st lc) : AcH κ (LX (kg κ) L σ k mc a cap f sz sp) nc ns pc (ai mc' :: aq (L (4, k)) :: st) lc :=
  H_putf hx (fun H h => h.at4) in_JA (C := RJx4a65c) (ref := RJx4a65c) (T := TJx4a65c) (N := 3) tyJx4a65c tyJx4a65c_ok nmJx4a65c rfl (slot := 0) (Or.inr uz_sameField_1_51) (by decide) uf_Jx4a65c_63 rfl (ty := .int) rfl rfl rfl (by simp) hg (fun H H' h h4 hq => h.put4 hk h4 hq) d kk
theorem L_pel (hk : k < 11) (hx : Hx κ cc nL RJx4a65c fX lX) {b n : Nat} {fb : Nat → Option Nat} (hn : n ≠ 0) (hg : gA (kg κ) (L (4, k))) (d : decode cc pc = .ok (.putfield 9, 3)) (kk : AcH κ (LX (kg κ) L σ k mc b n fb sz none) nc ns (pc + 3) st lc) : AcH κ (LX (kg κ) L σ k mc a cap f sz (some (b, n, fb))) nc ns pc (aq b :: aq (L (4, k)) :: st) lc :=
  H_putf hx (fun H h => h.at4) in_JA (C := RJx4a65c) (ref := RJx4a65c) (T := TJx4a65c) (N := 3) tyJx4a65c tyJx4a65c_ok nmJx4a65c rfl (slot := 1) (Or.inl rfl) (by decide) uf_Jx4a65c_9 rfl (ty := .array (.object "java/lang/Object")) rfl rfl rfl (by simp) hg (fun H H' h h4 hq => h.take hn hk h4 hq) d kk
end LROWS
