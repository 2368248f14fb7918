/-! rows as relations, closed place by place -/
theorem mo_st_bt (r : Nat → Int32) {v : Nat} (hv : v < 32) (x y : Nat) : bt (mo_st r v x) y = (bt (r x) y || (bt (r x) v && bt (r v) y)) := by
  unfold mo_st
  by_cases h : bt (r x) v = true
  · rw [if_pos ((zb_t2 _ hv).mpr h), b_or, h, Bool.true_and]
  · rw [if_neg (fun q => h ((zb_t2 _ hv).mp q)), Bool.eq_false_iff.mpr h, Bool.false_and, Bool.or_false]
theorem bd_jn_bt (r : Nat → Int32) {v : Nat} (hv : v < 32) (x y : Nat) : bt (bd_jn r v x) y = (bt (r x) y || (bt (r x) v && bt (r v) y)) := by
  unfold bd_jn
  by_cases h : bt (r x) v = true
  · rw [if_neg (fun q => by rw [(zb_t1 _ hv).mp q] at h; cases h), b_or, h, Bool.true_and]
  · have h := Bool.eq_false_iff.mpr h
    rw [if_pos ((zb_t1 _ hv).mpr h), h, Bool.false_and, Bool.or_false]
/-- rows hold what goes on at S -/
def rl_is (r : Nat → Int32) (S : Nat → Prop) (E : Nat → Nat → Prop) : Prop := ∀ x y, x < 32 → (bt (r x) y = true ↔ pq_T S E x y)
theorem rl_step {r r' : Nat → Int32} {S : Nat → Prop} {E : Nat → Nat → Prop} {v : Nat} (hv : v < 32) (h : rl_is r S E) (hr : ∀ x y, x < 32 → bt (r' x) y = (bt (r x) y || (bt (r x) v && bt (r v) y))) : rl_is r' (fun u => S u ∨ u = v) E := by
  intro x y hx
  rw [hr x y hx, pq_elim, ← h x y hx, ← h x v hx, ← h v y hv, Bool.or_eq_true, Bool.and_eq_true]
theorem rl_congr {r : Nat → Int32} {S S' : Nat → Prop} {E E' : Nat → Nat → Prop} (h : rl_is r S E) (hS : ∀ v, S v ↔ S' v) (hE : ∀ a b, E a b ↔ E' a b) : rl_is r S' E' := fun x y hx => (h x y hx).trans (pq_congr hS hE x y)
/-- the rows themselves -/
theorem rl_base {r : Nat → Int32} {E : Nat → Nat → Prop} (h : ∀ x y, x < 32 → (bt (r x) y = true ↔ E x y)) : rl_is r (fun _ => False) E := fun x y hx => (h x y hx).trans (pq_none x y).symm
theorem mo_f_is {r : Nat → Int32} {E : Nat → Nat → Prop} (h : ∀ x y, x < 32 → (bt (r x) y = true ↔ E x y)) : ∀ n, n ≤ 32 → rl_is (mo_f r n) (fun v => v < n) E
  | 0, _ => rl_congr (rl_base h) (fun v => ⟨fun q => q.elim, fun q => absurd q (Nat.not_lt_zero v)⟩) (fun _ _ => Iff.rfl)
  | n + 1, hn => rl_congr (rl_step (v := n) (by omega) (mo_f_is h n (by omega)) (fun x y _ => mo_st_bt _ (by omega) x y)) (fun v => by omega) (fun _ _ => Iff.rfl)
/-- laid: F begins and ends outside S -/
theorem rl_lay {r r' : Nat → Int32} {S : Nat → Prop} {E F : Nat → Nat → Prop} (h : rl_is r S E) (hF : ∀ a b, F a b → ¬ S a ∧ ¬ S b) (hr : ∀ x y, x < 32 → (bt (r' x) y = true ↔ (bt (r x) y = true ∨ F x y))) : rl_is r' S (fun a b => E a b ∨ F a b) := by
  intro x y hx
  rw [hr x y hx, pq_lay hF, h x y hx]
theorem bd_jk_is {r : Nat → Int32} {S : Nat → Prop} {E : Nat → Nat → Prop} {o : Nat} (ho : o < 4) (h : rl_is r S E) : ∀ k, k ≤ 6 → rl_is (bd_jk r o k) (fun u => S u ∨ (8 * o ≤ u ∧ u < 8 * o + k)) E
  | 0, _ => rl_congr h (fun v => ⟨Or.inl, fun q => q.elim id (fun q => by omega)⟩) (fun _ _ => Iff.rfl)
  | k + 1, hk => by
    have ih := bd_jk_is ho h k (by omega)
    have hlt : 8 * o + k < 32 := by omega
    refine rl_congr (rl_step (r' := bd_jk r o (k + 1)) (v := 8 * o + k) hlt ih (fun x y _ => ?_)) (fun v => ?_) (fun _ _ => Iff.rfl)
    · rw [bd_jk]
      split
      · rename_i h0
        rw [h0, b_0, Bool.and_false, Bool.or_false]
      · exact bd_jn_bt _ hlt x y
    · constructor
      · rintro ((h | h) | h)
        · exact Or.inl h
        · exact Or.inr (by omega)
        · exact Or.inr (by omega)
      · rintro (h | h)
        · exact Or.inl (Or.inl h)
        · by_cases e : v = 8 * o + k
          · exact Or.inr e
          · exact Or.inl (Or.inr (by omega))
/-- circles among the places of S -/
def rl_ci (S : Nat → Prop) (E : Nat → Nat → Prop) : Prop := ∃ u, S u ∧ pq_T S E u u
theorem rl_ci_step {S : Nat → Prop} {E : Nat → Nat → Prop} (v : Nat) : rl_ci (fun u => S u ∨ u = v) E ↔ (rl_ci S E ∨ pq_T S E v v) := by
  constructor
  · intro ⟨u, hu, hc⟩
    refine Classical.byContradiction fun hn => ?_
    exact pq_acyc (S := S) (E := E) (v := v) (fun u hu hc => hn (Or.inl ⟨u, hu, hc⟩)) (fun hc => hn (Or.inr hc)) u hu hc
  · rintro (⟨u, hu, hc⟩ | hc)
    · exact ⟨u, Or.inl hu, pq_mono (fun _ h => Or.inl h) (fun _ _ h => h) hc⟩
    · exact ⟨v, Or.inr rfl, pq_mono (fun _ h => Or.inl h) (fun _ _ h => h) hc⟩
theorem rl_ci_congr {S S' : Nat → Prop} {E E' : Nat → Nat → Prop} (hS : ∀ v, S v ↔ S' v) (hE : ∀ a b, E a b ↔ E' a b) : rl_ci S E ↔ rl_ci S' E' :=
  ⟨fun ⟨u, h1, h2⟩ => ⟨u, (hS u).mp h1, (pq_congr hS hE u u).mp h2⟩, fun ⟨u, h1, h2⟩ => ⟨u, (hS u).mpr h1, (pq_congr hS hE u u).mpr h2⟩⟩
theorem rl_ci_lay {S : Nat → Prop} {E F : Nat → Nat → Prop} (hF : ∀ a b, F a b → ¬ S a ∧ ¬ S b) : rl_ci S (fun a b => E a b ∨ F a b) ↔ rl_ci S E :=
  ⟨fun ⟨u, h1, h2⟩ => ⟨u, h1, ((pq_lay hF u u).mp h2).resolve_right (fun q => (hF u u q).1 h1)⟩, fun ⟨u, h1, h2⟩ => ⟨u, h1, (pq_lay hF u u).mpr (Or.inl h2)⟩⟩
theorem bd_ck_is {r : Nat → Int32} {S : Nat → Prop} {E : Nat → Nat → Prop} {o : Nat} {c : Int32} (ho : o < 4) (h : rl_is r S E) (h01 : c = 0 ∨ c = 1) (hc : c = 1 ↔ rl_ci S E) : ∀ k, k ≤ 6 → (bd_ck r o c k = 0 ∨ bd_ck r o c k = 1) ∧ (bd_ck r o c k = 1 ↔ rl_ci (fun u => S u ∨ (8 * o ≤ u ∧ u < 8 * o + k)) E)
  | 0, _ => ⟨h01, hc.trans (rl_ci_congr (fun v => ⟨Or.inl, fun q => q.elim id (fun q => by omega)⟩) (fun _ _ => Iff.rfl))⟩
  | k + 1, hk => by
    obtain ⟨i1, i2⟩ := bd_ck_is ho h h01 hc k (by omega)
    have hlt : 8 * o + k < 32 := by omega
    have hj := bd_jk_is ho h k (by omega) (8 * o + k) (8 * o + k) hlt
    have hset : rl_ci (fun u => S u ∨ (8 * o ≤ u ∧ u < 8 * o + (k + 1))) E ↔ (rl_ci (fun u => S u ∨ (8 * o ≤ u ∧ u < 8 * o + k)) E ∨ bt (bd_jk r o k (8 * o + k)) (8 * o + k) = true) := by
      rw [hj, ← rl_ci_step]
      refine rl_ci_congr (fun v => ?_) (fun _ _ => Iff.rfl)
      constructor
      · rintro (h | h)
        · exact Or.inl (Or.inl h)
        · by_cases e : v = 8 * o + k
          · exact Or.inr e
          · exact Or.inl (Or.inr (by omega))
      · rintro ((h | h) | h)
        · exact Or.inl h
        · exact Or.inr (by omega)
        · exact Or.inr (by omega)
    rw [hset, bd_ck]
    split
    · rename_i h0
      refine ⟨i1, i2.trans ⟨Or.inl, fun q => q.resolve_right (fun z => by rw [h0, b_0] at z; cases z)⟩⟩
    · split
      · rename_i h0
        have h1 := (zb_t1 _ hlt).mp h0
        exact ⟨i1, i2.trans ⟨Or.inl, fun q => q.resolve_right (fun z => by rw [h1] at z; cases z)⟩⟩
      · rename_i h0
        refine ⟨Or.inr rfl, fun _ => Or.inr ?_, fun _ => rfl⟩
        cases hb : bt (bd_jk r o k (8 * o + k)) (8 * o + k) with
        | true => rfl
        | false => exact absurd ((zb_t1 _ hlt).mpr hb) h0
theorem mo_c_is {r : Nat → Int32} {E : Nat → Nat → Prop} (hE : ∀ a b, E a b → a < 32 ∧ b < 32) (h : ∀ x y, x < 32 → (bt (r x) y = true ↔ E x y)) : mo_c (mo_f r 32) 32 ↔ ∃ u, pq_T (fun _ => True) E u u := by
  have hall : ∀ x y, pq_T (fun _ => True) E x y ↔ pq_T (fun v => v < 32) E x y := pq_all (fun v a b h1 _ => (hE a v h1).2)
  constructor
  · intro ⟨i, hi, hc⟩
    exact ⟨i, (hall i i).mpr ((mo_f_is h 32 (Nat.le_refl _) i i hi).mp ((zb_t2 _ hi).mp hc))⟩
  · intro ⟨u, hu⟩
    obtain ⟨z, hz⟩ := pq_from hu
    have hlt := (hE u z hz).1
    exact ⟨u, hlt, (zb_t2 _ hlt).mpr ((mo_f_is h 32 (Nat.le_refl _) u u hlt).mpr ((hall u u).mp hu))⟩
