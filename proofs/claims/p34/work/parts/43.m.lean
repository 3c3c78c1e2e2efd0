/-! values behind a jump -/
section GT2
variable {κ : Kx} {cc : ByteArray} {nL fX lX : Nat} {own : String} {w pc pc1 pT pF pE : Nat}
theorem E_goto {α : Type} {inj : α → AV} (hx : Hx κ cc nL own fX lX) {a : Ex α} {off : Int} (ha : Ev κ nL inj w pc pc1 a) (d : decode cc pc1 = .ok (.goto off, 3)) (ht : (pc1 : Int) + off = (pE : Int)) : Ev κ nL inj w pc pE a := by
  intro st lc σ v σ' hlc hw h
  obtain ⟨l1, k1⟩ := ha st lc σ _ _ hlc hw h
  exact ⟨l1, fun hf k => k1 hf (A_goto hx d ht k)⟩
theorem E_tern2 {c : Ex Bool} {a b : Ex Int32} (hc : Cj κ nL w pc pT pF c) (ha : Ev κ nL ai w pT pE a) (hb : Ev κ nL ai w pF pE b) : Ev κ nL ai w pc pE (xTern c a b) := by
  intro st lc σ v σ' hlc hw h
  obtain ⟨r, hr, h⟩ := obs h
  obtain ⟨l1, k1⟩ := hc st lc σ _ _ hlc hw hr
  obtain ⟨b9, σ1⟩ := r
  cases b9 with
  | true =>
    obtain ⟨l2, k2⟩ := ha st lc _ _ _ hlc hw h
    exact ⟨l1.trans l2, fun hf k => k1 (hf.le l2) (fun _ => k2 hf k) (fun z => by cases z)⟩
  | false =>
    obtain ⟨l2, k2⟩ := hb st lc _ _ _ hlc hw h
    exact ⟨l1.trans l2, fun hf k => k1 (hf.le l2) (fun z => by cases z) (fun _ => k2 hf k)⟩
end GT2
