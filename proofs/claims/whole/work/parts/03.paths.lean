/-! PATHS: the least relation that holds E and is closed under going on at places of S (pure). -/
def pq_T (S : Nat → Prop) (E : Nat → Nat → Prop) (x y : Nat) : Prop := ∀ R : Nat → Nat → Prop, (∀ a b, E a b → R a b) → (∀ a v b, S v → R a v → R v b → R a b) → R x y
theorem pq_base {S : Nat → Prop} {E : Nat → Nat → Prop} {x y : Nat} (h : E x y) : pq_T S E x y := fun _ h1 _ => h1 x y h
theorem pq_comp {S : Nat → Prop} {E : Nat → Nat → Prop} {x v y : Nat} (hv : S v) (h1 : pq_T S E x v) (h2 : pq_T S E v y) : pq_T S E x y := fun R e c => c x v y hv (h1 R e c) (h2 R e c)
theorem pq_least {S : Nat → Prop} {E R : Nat → Nat → Prop} (h1 : ∀ a b, E a b → R a b) (h2 : ∀ a v b, S v → R a v → R v b → R a b) {x y : Nat} (h : pq_T S E x y) : R x y := h R h1 h2
theorem pq_mono {S S' : Nat → Prop} {E E' : Nat → Nat → Prop} (hS : ∀ v, S v → S' v) (hE : ∀ a b, E a b → E' a b) {x y : Nat} (h : pq_T S E x y) : pq_T S' E' x y :=
  pq_least (R := pq_T S' E') (fun _ _ h => pq_base (hE _ _ h)) (fun _ v _ hv h1 h2 => pq_comp (hS v hv) h1 h2) h
theorem pq_congr {S S' : Nat → Prop} {E E' : Nat → Nat → Prop} (hS : ∀ v, S v ↔ S' v) (hE : ∀ a b, E a b ↔ E' a b) (x y : Nat) : pq_T S E x y ↔ pq_T S' E' x y :=
  ⟨pq_mono (fun v => (hS v).mp) (fun a b => (hE a b).mp), pq_mono (fun v => (hS v).mpr) (fun a b => (hE a b).mpr)⟩
theorem pq_none {E : Nat → Nat → Prop} (x y : Nat) : pq_T (fun _ => False) E x y ↔ E x y :=
  ⟨fun h => pq_least (fun _ _ h => h) (fun _ _ _ hv _ _ => hv.elim) h, pq_base⟩
/-- one place more -/
theorem pq_elim {S : Nat → Prop} {E : Nat → Nat → Prop} (v x y : Nat) : pq_T (fun u => S u ∨ u = v) E x y ↔ (pq_T S E x y ∨ (pq_T S E x v ∧ pq_T S E v y)) := by
  constructor
  · intro h
    refine pq_least (R := fun x y => pq_T S E x y ∨ (pq_T S E x v ∧ pq_T S E v y)) (fun a b h => Or.inl (pq_base h)) ?_ h
    intro a u b hu h1 h2
    rcases hu with hu | rfl
    · rcases h1 with h1 | ⟨h1, h1'⟩
      · rcases h2 with h2 | ⟨h2, h2'⟩
        · exact Or.inl (pq_comp hu h1 h2)
        · exact Or.inr ⟨pq_comp hu h1 h2, h2'⟩
      · rcases h2 with h2 | ⟨h2, h2'⟩
        · exact Or.inr ⟨h1, pq_comp hu h1' h2⟩
        · exact Or.inr ⟨h1, h2'⟩
    · have a1 : pq_T S E a u := by rcases h1 with h1 | h1; exact h1; exact h1.1
      have a2 : pq_T S E u b := by rcases h2 with h2 | h2; exact h2; exact h2.2
      exact Or.inr ⟨a1, a2⟩
  · rintro (h | ⟨h1, h2⟩)
    · exact pq_mono (fun _ h => Or.inl h) (fun _ _ h => h) h
    · exact pq_comp (Or.inr rfl) (pq_mono (fun _ h => Or.inl h) (fun _ _ h => h) h1) (pq_mono (fun _ h => Or.inl h) (fun _ _ h => h) h2)
/-- what is laid neither begins nor ends in S -/
theorem pq_lay {S : Nat → Prop} {E F : Nat → Nat → Prop} (hF : ∀ a b, F a b → ¬ S a ∧ ¬ S b) (x y : Nat) : pq_T S (fun a b => E a b ∨ F a b) x y ↔ (pq_T S E x y ∨ F x y) := by
  constructor
  · intro h
    refine pq_least (R := fun x y => pq_T S E x y ∨ F x y) (fun a b h => ?_) ?_ h
    · rcases h with h | h
      · exact Or.inl (pq_base h)
      · exact Or.inr h
    · intro a u b hu h1 h2
      rcases h1 with h1 | h1
      · rcases h2 with h2 | h2
        · exact Or.inl (pq_comp hu h1 h2)
        · exact ((hF _ _ h2).1 hu).elim
      · exact ((hF _ _ h1).2 hu).elim
  · rintro (h | h)
    · exact pq_mono (fun _ h => h) (fun _ _ h => Or.inl h) h
    · exact pq_base (Or.inr h)
theorem pq_from {S : Nat → Prop} {E : Nat → Nat → Prop} {x y : Nat} (h : pq_T S E x y) : ∃ z, E x z :=
  pq_least (R := fun x _ => ∃ z, E x z) (fun _ b h => ⟨b, h⟩) (fun _ _ _ _ h1 _ => h1) h
theorem pq_to {S : Nat → Prop} {E : Nat → Nat → Prop} {x y : Nat} (h : pq_T S E x y) : ∃ z, E z y :=
  pq_least (R := fun _ y => ∃ z, E z y) (fun a _ h => ⟨a, h⟩) (fun _ _ _ _ _ h2 => h2) h
/-- places at which nothing goes on needn't be in S -/
theorem pq_all {S : Nat → Prop} {E : Nat → Nat → Prop} (h : ∀ v a b, E a v → E v b → S v) (x y : Nat) : pq_T (fun _ => True) E x y ↔ pq_T S E x y := by
  constructor
  · intro h1
    refine pq_least (R := pq_T S E) (fun _ _ h => pq_base h) ?_ h1
    intro a v b _ h2 h3
    obtain ⟨z, hz⟩ := pq_to h2
    obtain ⟨w, hw⟩ := pq_from h3
    exact pq_comp (h v z w hz hw) h2 h3
  · exact pq_mono (fun _ _ => trivial) (fun _ _ h => h)
/-- no circle before, none at the new place: none behind it -/
theorem pq_acyc {S : Nat → Prop} {E : Nat → Nat → Prop} {v : Nat} (h : ∀ u, S u → ¬ pq_T S E u u) (hv : ¬ pq_T S E v v) : ∀ u, (S u ∨ u = v) → ¬ pq_T (fun u => S u ∨ u = v) E u u := by
  intro u hu hc
  rcases (pq_elim v u u).mp hc with h1 | ⟨h1, h2⟩
  · rcases hu with hu | rfl
    · exact h u hu h1
    · exact hv h1
  · rcases hu with hu | rfl
    · exact hv (pq_comp hu h2 h1)
    · exact hv h1
/-- a circle goes through a place at which something goes on -/
theorem pq_circle {S : Nat → Prop} {E : Nat → Nat → Prop} (h : ∀ v a b, E a v → E v b → S v) : (∃ u, pq_T (fun _ => True) E u u) ↔ ∃ u, S u ∧ pq_T S E u u := by
  constructor
  · rintro ⟨u, hu⟩
    obtain ⟨z, hz⟩ := pq_to hu
    obtain ⟨w, hw⟩ := pq_from hu
    exact ⟨u, h u z w hz hw, (pq_all h u u).mp hu⟩
  · rintro ⟨u, -, hu⟩
    exact ⟨u, (pq_all h u u).mpr hu⟩
