/-! PASSES, said of the grammar -/
def ps_left (tb : Bool) (n : Nat) : Bool := !tb || n % 2 == 1
def ps_sd (left : Bool) (x y : Nat) : Prop := x / 8 = 0 ∨ y < 8 ∨ (if left = true then y / 8 < x / 8 else x / 8 < y / 8)
def ps_ix (g : gq_G) (p x : Nat) : Nat := 8 * gq_sy g p (x / 8) + x % 8
/-- what must be left out: by the place q % 32 of the production q / 32, when D is left out -/
def ps_F (g : gq_G) (nb : Nat → Nat) (left : Bool) (q : Nat) (D : Nat → Prop) (i : Nat) : Prop := i = ps_ix g (q / 32) (q % 32) ∧ nb i = 0 ∧ ∃ y, bt (gq_nd g (q / 32) (q % 32)) y = true ∧ nb (ps_ix g (q / 32) y) = 0 ∧ (¬ ps_sd left (q % 32) y ∨ D (ps_ix g (q / 32) y))
theorem ps_Fm (g : gq_G) (nb : Nat → Nat) (left : Bool) : lf_m (ps_F g nb left) := fun _ _ _ h _ ⟨h1, h2, y, h3, h4, h5⟩ => ⟨h1, h2, y, h3, h4, h5.elim Or.inl (fun q => Or.inr (h _ q))⟩
def ps_at (g : gq_G) (i : Nat) : Prop := i / 8 < gq_ns g ∧ i % 8 < gq_at g (i / 8)
theorem ps_th {g : gq_G} (hg : gq_ok g) {p x : Nat} (hp : p < gq_np g) (h : gq_th g p x) : ps_at g (ps_ix g p x) ∧ ps_ix g p x < 64 := by
  have hs := (hg.2.2.2.2.1 p hp).2 _ h.1
  have h8 := gq_sy8 hg hp h.1
  unfold ps_at ps_ix
  rw [show (8 * gq_sy g p (x / 8) + x % 8) / 8 = gq_sy g p (x / 8) by omega, show (8 * gq_sy g p (x / 8) + x % 8) % 8 = x % 8 by omega]
  exact ⟨⟨hs, h.2⟩, by omega⟩
theorem ps_FN {g : gq_G} (hg : gq_ok g) (nb : Nat → Nat) (left : Bool) : ∀ q X i, q < 32 * gq_np g → ps_F g nb left q X i → i < 64 := by
  rintro q X i hq ⟨rfl, _, y, h, _⟩
  exact (ps_th hg (by omega) (hg.2.2.2.2.2 _ _ y (by omega) (by omega) h).1.1).2
/-- by productions -/
def ps_G (g : gq_G) (nb : Nat → Nat) (left : Bool) (p : Nat) (D : Nat → Prop) (i : Nat) : Prop := ∃ x, x < 32 ∧ ps_F g nb left (32 * p + x) D i
theorem ps_Gm (g : gq_G) (nb : Nat → Nat) (left : Bool) : lf_m (ps_G g nb left) := fun _ _ _ h _ ⟨x, h1, h2⟩ => ⟨x, h1, ps_Fm g nb left _ _ _ h _ h2⟩
theorem ps_GN {g : gq_G} (hg : gq_ok g) (nb : Nat → Nat) (left : Bool) : ∀ p X i, p < gq_np g → ps_G g nb left p X i → i < 64 := by
  rintro p X i hp ⟨x, h1, h2⟩
  exact ps_FN hg nb left _ X i (by omega) h2
theorem ps_GL (g : gq_G) (nb : Nat → Nat) (left : Bool) (i : Nat) : lf_L (ps_G g nb left) (gq_np g) i ↔ lf_L (ps_F g nb left) (32 * gq_np g) i := by
  have h : ∀ X, lf_C (ps_G g nb left) (gq_np g) X ↔ lf_C (ps_F g nb left) (32 * gq_np g) X := fun X =>
    ⟨fun h q hq i hi => h (q / 32) (by omega) i ⟨q % 32, by omega, by rw [show 32 * (q / 32) + q % 32 = q by omega]; exact hi⟩, fun h p hp i ⟨x, h1, h2⟩ => h _ (by omega) i h2⟩
  exact ⟨fun q X hX => q X ((h X).mpr hX), fun q X hX => q X ((h X).mp hX)⟩
/-- in the pass's set -/
def ps_in (g : gq_G) (nb : Nat → Nat) (left : Bool) (i : Nat) : Prop := ps_at g i ∧ nb i = 0 ∧ ¬ lf_L (ps_F g nb left) (32 * gq_np g) i
noncomputable def ps_if (P : Prop) (a b : Nat) : Nat := @ite Nat P (Classical.propDecidable P) a b
theorem ps_ip {P : Prop} (h : P) (a b : Nat) : ps_if P a b = a := by unfold ps_if; exact if_pos h
theorem ps_in' {P : Prop} (h : ¬ P) (a b : Nat) : ps_if P a b = b := by unfold ps_if; exact if_neg h
noncomputable def ps_nx (g : gq_G) (left : Bool) (n : Nat) (nb : Nat → Nat) (i : Nat) : Nat := ps_if (ps_in g nb left i) n (nb i)
noncomputable def ps_nb (g : gq_G) (tb : Bool) : Nat → Nat → Nat
  | 0 => fun _ => 0
  | n + 1 => ps_nx g (ps_left tb (n + 1)) (n + 1) (ps_nb g tb n)
/-- some attribute is given the number n + 1 -/
def ps_any (g : gq_G) (tb : Bool) (n : Nat) : Prop := ∃ i, i < 64 ∧ ps_in g (ps_nb g tb n) (ps_left tb (n + 1)) i
noncomputable def ps_id (g : gq_G) (tb : Bool) : Nat → Nat
  | 0 => 0
  | n + 1 => ps_if (ps_any g tb n) 0 (ps_id g tb n + 1)
noncomputable def ps_la (g : gq_G) (tb : Bool) : Nat → Nat
  | 0 => 0
  | n + 1 => ps_if (ps_any g tb n) (n + 1) (ps_la g tb n)
def ps_mo (tb : Bool) : Nat := if tb = true then 2 else 1
/-- the passes are over -/
def ps_end (g : gq_G) (tb : Bool) (n : Nat) : Prop := ps_mo tb ≤ ps_id g tb n ∧ ∀ j, j < n → ps_id g tb j < ps_mo tb
theorem ps_uq {g : gq_G} {tb : Bool} {n n' : Nat} (h : ps_end g tb n) (h' : ps_end g tb n') : n = n' := by
  rcases Nat.lt_trichotomy n n' with q | q | q
  · have := h'.2 n q; have := h.1; omega
  · exact q
  · have := h.2 n' q; have := h'.1; omega
theorem ps_nb_le (g : gq_G) (tb : Bool) : ∀ n i, ps_nb g tb n i ≤ n
  | 0, _ => Nat.le_refl _
  | n + 1, i => by
    unfold ps_nb ps_nx
    by_cases h : ps_in g (ps_nb g tb n) (ps_left tb (n + 1)) i
    · rw [ps_ip h]; exact Nat.le_refl _
    · rw [ps_in' h]; exact Nat.le_succ_of_le (ps_nb_le g tb n i)
/-- how far it can go -/
noncomputable def ps_me (g : gq_G) (tb : Bool) (n : Nat) : Nat := 3 * ct_n (fun i => decide (ps_nb g tb n i ≠ 0)) 64 + (2 - ps_id g tb n)
theorem ps_me_lt {g : gq_G} {tb : Bool} {n : Nat} (h : ps_id g tb n < 2) : ps_me g tb (n + 1) < ps_me g tb n := by
  unfold ps_me
  have hmono : ∀ i, i < 64 → decide (ps_nb g tb n i ≠ 0) = true → decide (ps_nb g tb (n + 1) i ≠ 0) = true := by
    intro i _ q
    rw [decide_eq_true_eq] at q ⊢
    unfold ps_nb ps_nx
    by_cases h : ps_in g (ps_nb g tb n) (ps_left tb (n + 1)) i
    · rw [ps_ip h]; omega
    · rw [ps_in' h]; exact q
  by_cases q : ps_any g tb n
  · obtain ⟨i, hi, hin⟩ := q
    have hlt := ct_n_lt hmono ⟨i, hi, by rw [decide_eq_false_iff_not]; exact fun z => z hin.2.1, by
      rw [decide_eq_true_eq]
      unfold ps_nb ps_nx
      rw [ps_ip hin]
      omega⟩
    omega
  · have hle := ct_n_le (N := 64) hmono
    have : ps_id g tb (n + 1) = ps_id g tb n + 1 := by
      rw [ps_id, ps_in' q]
    omega
theorem ps_me0 (g : gq_G) (tb : Bool) : ps_me g tb 0 ≤ 194 := by
  unfold ps_me
  have := ct_n_max (fun i => decide (ps_nb g tb 0 i ≠ 0)) 64
  omega
/-- what is left out so far -/
def ps_d (g : gq_G) (nb : Nat → Nat) (set : Nat → Bool) (i : Nat) : Bool := decide (i / 8 < gq_ns g ∧ i % 8 < gq_at g (i / 8) ∧ nb i = 0) && !set i
theorem ps_d_iff {g : gq_G} {nb : Nat → Nat} {set : Nat → Bool} {i : Nat} : ps_d g nb set i = true ↔ (ps_at g i ∧ nb i = 0 ∧ set i = false) := by
  unfold ps_d ps_at
  rw [Bool.and_eq_true, decide_eq_true_eq, Bool.not_eq_true']
  exact ⟨fun q => ⟨⟨q.1.1, q.1.2.1⟩, q.1.2.2, q.2⟩, fun q => ⟨⟨q.1.1, q.1.2, q.2.1⟩, q.2.2⟩⟩
/-- when all is left out that must be -/
theorem ps_done {g : gq_G} {nb : Nat → Nat} {left : Bool} {set : Nat → Bool} (hs : ∀ i, i < 64 → set i = true → ps_at g i ∧ nb i = 0) (h : ∀ i, lf_V 64 (ps_d g nb set) i ↔ lf_L (ps_F g nb left) (32 * gq_np g) i) {i : Nat} (hi : i < 64) : set i = true ↔ ps_in g nb left i := by
  constructor
  · intro q
    refine ⟨(hs i hi q).1, (hs i hi q).2, fun z => ?_⟩
    have := (ps_d_iff.mp ((h i).mpr z).2).2.2
    rw [q] at this
    cases this
  · rintro ⟨q1, q2, q3⟩
    cases hq : set i with
    | true => rfl
    | false => exact absurd ((h i).mp ⟨hi, ps_d_iff.mpr ⟨q1, q2, hq⟩⟩) q3
