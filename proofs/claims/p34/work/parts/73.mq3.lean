/-! pure: what the reference looks up: the next to agree on; places of the agreed -/
def ag (σ : Sg) (a : Nat) : Nat := if σ.1 24 a 0 = -1 then 0 else (σ.1 24 a 0).toNatClampNeg
def AS (σ : Sg) (B : Nat) : Prop := (∀ a, a < σ.2.2.1 0 → σ.1 24 a 0 = enc (ag σ a) ∧ ag σ a ≤ B ∧ (a ∈ σ.2.1 2 ↔ ag σ a ≠ 0)) ∧ (σ.2.1 2).Pairwise (fun a b => ag σ a < ag σ b)
section MQ3
variable {σ τ υ : Sg} {m i j k n a b o k2 o2 j2 t B q lo hi' : Nat} {x y : Int32} {l : List Nat}
end MQ3
