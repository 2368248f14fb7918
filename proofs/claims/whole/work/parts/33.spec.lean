/-! UNIONS, said of the grammar: the least ones -/
/-- the steps of a production: its dependences, what the parts' relations say (but one), what the head's says from above -/
def un_E (g : gq_G) (p but : Nat) (U : Nat → Nat → Nat → Prop) (V : Nat → Nat → Prop) (x y : Nat) : Prop := x < 32 ∧ y < 32 ∧ (bt (gq_nd g p x) y = true ∨ (1 ≤ x / 8 ∧ x / 8 ≤ gq_m g p ∧ x / 8 ≠ but ∧ y / 8 = x / 8 ∧ U (gq_sy g p (x / 8)) (x % 8) (y % 8)) ∨ (x < 8 ∧ y < 8 ∧ V x y))
theorem un_E_mono {g : gq_G} {p but : Nat} {U U' : Nat → Nat → Nat → Prop} {V V' : Nat → Nat → Prop} (hU : ∀ s a b, U s a b → U' s a b) (hV : ∀ a b, V a b → V' a b) {x y : Nat} (h : un_E g p but U V x y) : un_E g p but U' V' x y := by
  obtain ⟨h1, h2, h3⟩ := h
  refine ⟨h1, h2, ?_⟩
  rcases h3 with h | ⟨a, b, c, d, e⟩ | ⟨a, b, c⟩
  · exact Or.inl h
  · exact Or.inr (Or.inl ⟨a, b, c, d, hU _ _ _ e⟩)
  · exact Or.inr (Or.inr ⟨a, b, hV _ _ c⟩)
def un_no (_ _ : Nat) : Prop := False
def un_parts (g : gq_G) (ex : Nat → Prop) (p : Nat) : Prop := ∀ o, 1 ≤ o → o ≤ gq_m g p → ex (gq_sy g p o)
def un_cl (g : gq_G) (ex : Nat → Prop) (U : Nat → Nat → Nat → Prop) : Prop := ∀ p, p < gq_np g → un_parts g ex p → ex (gq_sy g p 0) ∧ ∀ a b, a < 8 → b < 8 → pq_T (fun _ => True) (un_E g p 0 U un_no) a b → U (gq_sy g p 0) a b
def un_ex (g : gq_G) (s : Nat) : Prop := ∀ ex U, un_cl g ex U → ex s
def un_U (g : gq_G) (s a b : Nat) : Prop := ∀ ex U, un_cl g ex U → U s a b
theorem un_least (g : gq_G) : un_cl g (un_ex g) (un_U g) := by
  intro p hp hparts
  refine ⟨fun ex U hc => (hc p hp (fun o h1 h2 => hparts o h1 h2 ex U hc)).1, fun a b ha hb h ex U hc => ?_⟩
  refine (hc p hp (fun o h1 h2 => hparts o h1 h2 ex U hc)).2 a b ha hb ?_
  exact pq_mono (fun _ h => h) (fun x y q => un_E_mono (fun s a b z => z ex U hc) (fun _ _ z => z) q) h
/-- from above -/
def un_vc (g : gq_G) (V : Nat → Nat → Nat → Prop) : Prop := ∀ p, p < gq_np g → un_parts g (un_ex g) p → ∀ o, 1 ≤ o → o ≤ gq_m g p → ∀ a b, a < 8 → b < 8 → pq_T (fun _ => True) (un_E g p o (un_U g) (V (gq_sy g p 0))) (8 * o + a) (8 * o + b) → V (gq_sy g p o) a b
def un_V (g : gq_G) (s a b : Nat) : Prop := ∀ V, un_vc g V → V s a b
theorem un_vleast (g : gq_G) : un_vc g (un_V g) := by
  intro p hp hparts o h1 h2 a b ha hb h V hc
  refine hc p hp hparts o h1 h2 a b ha hb ?_
  exact pq_mono (fun _ h => h) (fun x y q => un_E_mono (fun _ _ _ z => z) (fun _ _ z => z V hc) q) h
/-- strongly free, doubly free -/
def un_circ (g : gq_G) (V : Nat → Nat → Nat → Prop) : Prop := ∃ p, p < gq_np g ∧ un_parts g (un_ex g) p ∧ ∃ u, pq_T (fun _ => True) (un_E g p 0 (un_U g) (V (gq_sy g p 0))) u u
/-- how many of the first N are not -/
def ct_n (P : Nat → Bool) : Nat → Nat
  | 0 => 0
  | n + 1 => ct_n P n + (if P n = true then 0 else 1)
theorem ct_n_le {P Q : Nat → Bool} : ∀ {N : Nat}, (∀ i, i < N → P i = true → Q i = true) → ct_n Q N ≤ ct_n P N
  | 0, _ => Nat.le_refl _
  | n + 1, h => by
    have ih := ct_n_le (P := P) (Q := Q) (N := n) (fun i hi => h i (by omega))
    simp only [ct_n]
    by_cases hp : P n = true
    · rw [if_pos hp, if_pos (h n (by omega) hp)]
      omega
    · rw [if_neg hp]
      split <;> omega
theorem ct_n_lt {P Q : Nat → Bool} : ∀ {N : Nat}, (∀ i, i < N → P i = true → Q i = true) → (∃ i, i < N ∧ P i = false ∧ Q i = true) → ct_n Q N < ct_n P N
  | 0, _, ⟨i, hi, _⟩ => by omega
  | n + 1, h, ⟨i, hi, h1, h2⟩ => by
    simp only [ct_n]
    by_cases e : i = n
    · subst e
      have := ct_n_le (P := P) (Q := Q) (N := i) (fun j hj => h j (by omega))
      rw [h2, h1]
      simp
      omega
    · have ih := ct_n_lt (P := P) (Q := Q) (N := n) (fun j hj => h j (by omega)) ⟨i, by omega, h1, h2⟩
      by_cases hp : P n = true
      · rw [if_pos hp, if_pos (h n (by omega) hp)]
        omega
      · rw [if_neg hp]
        split <;> omega
theorem ct_n_max (P : Nat → Bool) : ∀ N, ct_n P N ≤ N
  | 0 => Nat.le_refl _
  | n + 1 => by
    have := ct_n_max P n
    simp only [ct_n]
    split <;> omega
/-- edges of a production begin at places that it defines or at parts' (or, from above, the head's); they end .. -/
theorem un_from {g : gq_G} (hg : gq_ok g) {p but : Nat} (hp : p < gq_np g) {U : Nat → Nat → Nat → Prop} {x y : Nat} (hx : x < 8) (h : pq_T (fun _ => True) (un_E g p but U un_no) x y) : gq_df g p x := by
  obtain ⟨z, h1, h2, h3⟩ := pq_from h
  rcases h3 with h | ⟨a, _⟩ | ⟨_, _, c⟩
  · exact (hg.2.2.2.2.2 p x z hp h1 h).1
  · omega
  · exact c.elim
theorem un_to {g : gq_G} (hg : gq_ok g) {p but : Nat} (hp : p < gq_np g) {U : Nat → Nat → Nat → Prop} {x y : Nat} (hy : y < 8) (h : pq_T (fun _ => True) (un_E g p but U un_no) x y) : gq_gv g p y := by
  obtain ⟨z, h1, h2, h3⟩ := pq_to h
  rcases h3 with h | ⟨a, _, _, d, _⟩ | ⟨_, _, c⟩
  · exact (hg.2.2.2.2.2 p z y hp h1 h).2
  · omega
  · exact c.elim
