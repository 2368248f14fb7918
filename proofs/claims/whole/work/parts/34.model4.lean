/-! the reference: rows with unions laid are the production's steps -/
theorem bt_shl8 (u : Int32) {o y : Nat} (ho : o < 4) (hy : y < 32) : bt (u <<< (nI (8 * o) &&& 31)) y = (decide (8 * o ≤ y) && bt u (y - 8 * o)) := b_shl (8 * o) (by omega) u hy
/-- unions in memory -/
def mo_U (μ : za_M) (s a b : Nat) : Prop := a < 6 ∧ b < 8 ∧ bt (μ.1 40 0 (8 * s + a)) b = true
/-- unions of attributes have bits of attributes alone -/
def mo_ub (μ : za_M) : Prop := ∀ i y, i < 64 → bt (μ.1 40 0 i) y = true → y < 6 ∧ i % 8 < 6
theorem mo_lu_is {g : gq_G} (hg : gq_ok g) {p but : Nat} (hp : p < gq_np g) {μ : za_M} (hub : mo_ub μ) {r : Nat → Int32} (hr : ∀ i, i < 32 → r i = gq_nd g p i) : ∀ x y, x < 32 → (bt (mo_lu g p but (μ.1 40 0) r 4 x) y = true ↔ un_E g p but (mo_U μ) un_no x y) := by
  intro x y hx
  have hm := (hg.2.2.2.2.1 p hp).1
  by_cases hy : y < 32
  · unfold mo_lu un_E
    rw [hr x hx]
    by_cases c : 1 ≤ x / 8 ∧ x / 8 < 4 ∧ x % 8 < 6 ∧ x / 8 ≤ gq_m g p ∧ x / 8 ≠ but
    · have hs8 := gq_sy8 hg hp c.2.2.2.1
      rw [if_pos c, b_or, bt_shl8 _ c.2.1 hy, Bool.or_eq_true, Bool.and_eq_true, decide_eq_true_eq]
      constructor
      · rintro (h | ⟨h1, h2⟩)
        · exact ⟨hx, hy, Or.inl h⟩
        · have h6 := (hub _ _ (by omega) h2).1
          refine ⟨hx, hy, Or.inr (Or.inl ⟨c.1, c.2.2.2.1, c.2.2.2.2, by omega, c.2.2.1, by omega, ?_⟩)⟩
          rw [show y % 8 = y - 8 * (x / 8) by omega]
          exact h2
      · rintro ⟨_, _, h | ⟨a, b, d, e, f1, f2, f3⟩ | ⟨_, _, h⟩⟩
        · exact Or.inl h
        · refine Or.inr ⟨by omega, ?_⟩
          rw [show y - 8 * (x / 8) = y % 8 by omega]
          exact f3
        · exact h.elim
    · rw [if_neg c]
      constructor
      · intro h
        exact ⟨hx, hy, Or.inl h⟩
      · rintro ⟨_, _, h | ⟨a, b, d, e, f1, f2, f3⟩ | ⟨_, _, h⟩⟩
        · exact h
        · exact absurd ⟨a, by omega, f1, b, d⟩ c
        · exact h.elim
  · constructor
    · intro h
      rw [b_big (by omega)] at h
      cases h
    · intro h
      exact absurd h.2.1 hy
theorem un_E_lt {g : gq_G} {p but : Nat} {U : Nat → Nat → Nat → Prop} {V : Nat → Nat → Prop} : ∀ a b, un_E g p but U V a b → a < 32 ∧ b < 32 := fun _ _ h => ⟨h.1, h.2.1⟩
/-- closed over all 32 places: closed -/
theorem un_closed {r : Nat → Int32} {g : gq_G} {p but : Nat} {U : Nat → Nat → Nat → Prop} {V : Nat → Nat → Prop} (h : ∀ x y, x < 32 → (bt (r x) y = true ↔ un_E g p but U V x y)) {x y : Nat} (hx : x < 32) : bt (mo_f r 32 x) y = true ↔ pq_T (fun _ => True) (un_E g p but U V) x y :=
  (mo_f_is h 32 (Nat.le_refl _) x y hx).trans (pq_all (fun v a b h1 _ => h1.2.1) x y).symm
