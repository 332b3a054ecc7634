/-- a join: the rest of the way as a function -/
def jK {κ ρ : Type} (K : κ) (body : κ → Option ρ) : Option ρ := body K
theorem S_jK {l : Launch} {G : Gx} {lev : Nat} {M : Mt} {ρ : Type} {fin : ρ → Oc × Hp} {pc : Nat} {lv : List (Nat × Value)} {st : List Value} {h : Hp} {κ : Type} {K : κ} {body : κ → Option ρ} (P : κ → Prop) (hK : P K) (k : ∀ k9, P k9 → Sim l G lev M fin pc lv st h (body k9)) : Sim l G lev M fin pc lv st h (jK K body) := k K hK
