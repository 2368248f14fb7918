/-! LEAST SETS, reached round by round -/
def lf_C (F : Nat → (Nat → Prop) → Nat → Prop) (n : Nat) (X : Nat → Prop) : Prop := ∀ p, p < n → ∀ i, F p X i → X i
def lf_L (F : Nat → (Nat → Prop) → Nat → Prop) (n : Nat) (i : Nat) : Prop := ∀ X, lf_C F n X → X i
def lf_m (F : Nat → (Nat → Prop) → Nat → Prop) : Prop := ∀ p X Y, (∀ i, X i → Y i) → ∀ i, F p X i → F p Y i
theorem lf_cl {F : Nat → (Nat → Prop) → Nat → Prop} {n : Nat} (hm : lf_m F) : lf_C F n (lf_L F n) := fun p hp i h X hX => hX p hp i (hm p _ X (fun _ q => q X hX) i h)
theorem lf_so {F : Nat → (Nat → Prop) → Nat → Prop} {n : Nat} (hm : lf_m F) {X : Nat → Prop} (hX : ∀ i, X i → lf_L F n i) {p : Nat} (hp : p < n) {i : Nat} (h : F p X i) : lf_L F n i := lf_cl hm p hp i (hm p X _ hX i h)
/-- the first N bits -/
def lf_V (N : Nat) (x : Nat → Bool) (i : Nat) : Prop := i < N ∧ x i = true
/-- within a round: x0 was there at its beginning, k steps are done, v tells of news -/
def lf_I (F : Nat → (Nat → Prop) → Nat → Prop) (n N : Nat) (x0 : Nat → Bool) (k : Nat) (x : Nat → Bool) (v : Int32) : Prop :=
  (v = 0 ∨ v = 1) ∧ (∀ i, lf_V N x i → lf_L F n i) ∧ (∀ i, lf_V N x0 i → lf_V N x i) ∧ (v = 1 → ct_n x N < ct_n x0 N) ∧ (v = 0 → (∀ i, lf_V N x i → lf_V N x0 i) ∧ ∀ q, q < k → ∀ i, F q (lf_V N x0) i → lf_V N x0 i)
theorem lf_I0 {F : Nat → (Nat → Prop) → Nat → Prop} {n N : Nat} {x0 : Nat → Bool} (h : ∀ i, lf_V N x0 i → lf_L F n i) : lf_I F n N x0 0 x0 0 :=
  ⟨Or.inl rfl, h, fun _ q => q, fun q => absurd q (by decide), fun _ => ⟨fun _ q => q, fun q hq => absurd hq (Nat.not_lt_zero q)⟩⟩
theorem lf_Is {F : Nat → (Nat → Prop) → Nat → Prop} {n N : Nat} {x0 x x' : Nat → Bool} {k : Nat} {v v' : Int32} (hm : lf_m F) (hN : ∀ p X i, p < n → F p X i → i < N) (h : lf_I F n N x0 k x v) (hk : k < n) (hx : ∀ i, i < N → (x' i = true ↔ (x i = true ∨ F k (lf_V N x) i))) (hv' : v' = 0 ∨ v' = 1) (hv : v' = 1 ↔ (v = 1 ∨ ∃ i, F k (lf_V N x) i ∧ ¬ lf_V N x i)) : lf_I F n N x0 (k + 1) x' v' := by
  obtain ⟨h1, h2, h3, h4, h5⟩ := h
  have up : ∀ i, lf_V N x i → lf_V N x' i := fun i q => ⟨q.1, (hx i q.1).mpr (Or.inl q.2)⟩
  refine ⟨hv', fun i q => ?_, fun i q => up i (h3 i q), fun q => ?_, fun q => ?_⟩
  · rcases (hx i q.1).mp q.2 with z | z
    · exact h2 i ⟨q.1, z⟩
    · exact lf_so hm h2 hk z
  · by_cases e : v = 1
    · exact Nat.lt_of_le_of_lt (ct_n_le (fun i hi z => (hx i hi).mpr (Or.inl z))) (h4 e)
    · obtain ⟨i, z1, z2⟩ := (hv.mp q).resolve_left e
      have hi := hN k _ i hk z1
      have h0 := h5 (h1.resolve_right e)
      refine Nat.lt_of_lt_of_le (ct_n_lt (P := x) (fun j hj z => (hx j hj).mpr (Or.inl z)) ⟨i, hi, ?_, (hx i hi).mpr (Or.inr z1)⟩) (ct_n_le (fun j hj z => (h3 j ⟨hj, z⟩).2))
      cases hxi : x i with
      | false => rfl
      | true => exact absurd ⟨hi, hxi⟩ z2
  · have e : ¬ v = 1 := fun z => by rw [hv.mpr (Or.inl z)] at q; exact absurd q (by decide)
    have h0 := h5 (h1.resolve_right e)
    have no : ∀ i, F k (lf_V N x) i → lf_V N x i := fun i z => Classical.byContradiction fun z2 => by
      rw [hv.mpr (Or.inr ⟨i, z, z2⟩)] at q
      exact absurd q (by decide)
    refine ⟨fun i z => h0.1 i ?_, fun r hr i z => ?_⟩
    · rcases (hx i z.1).mp z.2 with y | y
      · exact ⟨z.1, y⟩
      · exact no i y
    · by_cases e2 : r = k
      · subst e2
        exact h0.1 i (no i (hm r _ _ h3 i z))
      · exact h0.2 r (by omega) i z
/-- a step that says nothing -/
theorem lf_Ik {F : Nat → (Nat → Prop) → Nat → Prop} {n N : Nat} {x0 x : Nat → Bool} {k : Nat} {v : Int32} (hm : lf_m F) (hN : ∀ p X i, p < n → F p X i → i < N) (h : lf_I F n N x0 k x v) (hk : k < n) (hF : ∀ i, ¬ F k (lf_V N x) i) : lf_I F n N x0 (k + 1) x v :=
  lf_Is hm hN h hk (fun i _ => ⟨Or.inl, fun q => q.elim id (fun q => absurd q (hF i))⟩) h.1 ⟨Or.inl, fun q => q.elim id (fun ⟨i, q, _⟩ => absurd q (hF i))⟩
/-- at the head of a round -/
def lf_H (F : Nat → (Nat → Prop) → Nat → Prop) (n N : Nat) (x : Nat → Bool) (v : Int32) : Prop := (v = 0 ∨ v = 1) ∧ (∀ i, lf_V N x i → lf_L F n i) ∧ (v = 0 → ∀ i, lf_V N x i ↔ lf_L F n i)
theorem lf_IH {F : Nat → (Nat → Prop) → Nat → Prop} {n N : Nat} {x0 x : Nat → Bool} {v : Int32} (h : lf_I F n N x0 n x v) : lf_H F n N x v := by
  obtain ⟨h1, h2, h3, h4, h5⟩ := h
  refine ⟨h1, h2, fun q i => ⟨h2 i, fun z => h3 i (z _ (h5 q).2)⟩⟩
theorem lf_Im {F : Nat → (Nat → Prop) → Nat → Prop} {n N : Nat} {x0 x : Nat → Bool} {v v0 : Int32} (h : lf_I F n N x0 n x v) (h0 : v0 = 1) : 2 * ct_n x N + v.toNatClampNeg < 2 * ct_n x0 N + v0.toNatClampNeg := by
  obtain ⟨h1, h2, h3, h4, h5⟩ := h
  have hle : ct_n x N ≤ ct_n x0 N := ct_n_le (fun i hi z => (h3 i ⟨hi, z⟩).2)
  rcases h1 with e | e
  · rw [e, h0, show (0 : Int32).toNatClampNeg = 0 by decide, show (1 : Int32).toNatClampNeg = 1 by decide]
    omega
  · have := h4 e
    rw [e, h0, show (1 : Int32).toNatClampNeg = 1 by decide]
    omega
/-! UNIONS AND WHAT COMES FROM ABOVE as such sets: 0 .. 7 whether a symbol has one, then 64 bits a symbol -/
def un_P (X : Nat → Prop) (s a b : Nat) : Prop := X (8 + 64 * s + 8 * a + b)
def un_F (g : gq_G) (p : Nat) (X : Nat → Prop) (i : Nat) : Prop := (∀ o, 1 ≤ o → o ≤ gq_m g p → X (gq_sy g p o)) ∧ (i = gq_sy g p 0 ∨ ∃ a b, a < 8 ∧ b < 8 ∧ i = 8 + 64 * gq_sy g p 0 + 8 * a + b ∧ pq_T (fun _ => True) (un_E g p 0 (un_P X) un_no) a b)
theorem un_Fm (g : gq_G) : lf_m (un_F g) := by
  intro p X Y h i ⟨h1, h2⟩
  refine ⟨fun o a b => h _ (h1 o a b), h2.elim Or.inl (fun ⟨a, b, q1, q2, q3, q4⟩ => Or.inr ⟨a, b, q1, q2, q3, ?_⟩)⟩
  exact pq_mono (fun _ q => q) (fun x y q => un_E_mono (fun s a b z => h _ z) (fun _ _ z => z) q) q4
theorem un_FN {g : gq_G} (hg : gq_ok g) : ∀ p X i, p < gq_np g → un_F g p X i → i < 520 := by
  intro p X i hp ⟨_, h2⟩
  have := gq_sy8 hg hp (Nat.zero_le _)
  rcases h2 with h | ⟨a, b, h1, h2, h3, _⟩
  · omega
  · omega
/-- the unions -/
def un_X (g : gq_G) (i : Nat) : Prop := lf_L (un_F g) (gq_np g) i
def un_pa (g : gq_G) (p : Nat) : Prop := ∀ o, 1 ≤ o → o ≤ gq_m g p → un_X g (gq_sy g p o)
/-- from above: step 3 p + o - 1 for the part o of p -/
def un_Q (Y : Nat → Prop) (s a b : Nat) : Prop := Y (64 * s + 8 * a + b)
def un_W (g : gq_G) (q : Nat) (Y : Nat → Prop) (i : Nat) : Prop := (q % 3 + 1 ≤ gq_m g (q / 3) ∧ un_pa g (q / 3)) ∧ ∃ a b, a < 8 ∧ b < 8 ∧ i = 64 * gq_sy g (q / 3) (q % 3 + 1) + 8 * a + b ∧ pq_T (fun _ => True) (un_E g (q / 3) (q % 3 + 1) (un_P (un_X g)) (un_Q Y (gq_sy g (q / 3) 0))) (8 * (q % 3 + 1) + a) (8 * (q % 3 + 1) + b)
theorem un_Wm (g : gq_G) : lf_m (un_W g) := by
  intro q X Y h i ⟨h1, a, b, q1, q2, q3, q4⟩
  refine ⟨h1, a, b, q1, q2, q3, ?_⟩
  exact pq_mono (fun _ q => q) (fun x y z => un_E_mono (fun _ _ _ z => z) (fun a b z => h _ z) z) q4
theorem un_WN {g : gq_G} (hg : gq_ok g) : ∀ q X i, q < 3 * gq_np g → un_W g q X i → i < 512 := by
  intro q X i hq ⟨⟨h1, _⟩, a, b, q1, q2, q3, _⟩
  have := gq_sy8 hg (show q / 3 < gq_np g by omega) h1
  omega
def un_Y (g : gq_G) (i : Nat) : Prop := lf_L (un_W g) (3 * gq_np g) i
/-- a circle: of the unions alone, with those from above -/
def un_c (g : gq_G) (p : Nat) (V : Nat → Nat → Nat → Prop) : Prop := un_pa g p ∧ ∃ u, pq_T (fun _ => True) (un_E g p 0 (un_P (un_X g)) (V (gq_sy g p 0))) u u
/-- which attributes may stand in them -/
theorem un_good {g : gq_G} (hg : gq_ok g) {i : Nat} (h : un_X g i) : i < gq_ns g ∨ ∃ s a b, s < gq_ns g ∧ a < gq_at g s ∧ b < gq_at g s ∧ bt (gq_dn g s) a = false ∧ bt (gq_dn g s) b = true ∧ i = 8 + 64 * s + 8 * a + b := by
  refine h (fun i => i < gq_ns g ∨ ∃ s a b, s < gq_ns g ∧ a < gq_at g s ∧ b < gq_at g s ∧ bt (gq_dn g s) a = false ∧ bt (gq_dn g s) b = true ∧ i = 8 + 64 * s + 8 * a + b) ?_
  rintro p hp i ⟨_, h | ⟨a, b, h1, h2, h3, h4⟩⟩
  · rw [h]
    exact Or.inl ((hg.2.2.2.2.1 p hp).2 0 (Nat.zero_le _))
  · have d1 := gq_up h1 (un_from hg hp h1 h4)
    have d2 := gq_dw h2 (un_to hg hp h2 h4)
    exact Or.inr ⟨gq_sy g p 0, a, b, (hg.2.2.2.2.1 p hp).2 0 (Nat.zero_le _), d1.1, d2.1, d1.2, d2.2, h3⟩
/-- places of a part whose relation is left out -/
theorem un_from2 {g : gq_G} (hg : gq_ok g) {p o : Nat} (hp : p < gq_np g) {U : Nat → Nat → Nat → Prop} {V : Nat → Nat → Prop} {a y : Nat} (ho : 1 ≤ o) (ha : a < 8) (h : pq_T (fun _ => True) (un_E g p o U V) (8 * o + a) y) : a < gq_at g (gq_sy g p o) ∧ bt (gq_dn g (gq_sy g p o)) a = true := by
  obtain ⟨z, h1, h2, h3⟩ := pq_from h
  rcases h3 with h | ⟨_, _, q, _⟩ | ⟨q, _⟩
  · obtain ⟨⟨⟨_, h5⟩, h6⟩, _⟩ := hg.2.2.2.2.2 p _ z hp h1 h
    rw [show (8 * o + a) / 8 = o by omega, show (8 * o + a) % 8 = a by omega] at h5 h6
    exact ⟨h5, h6.mpr (by omega)⟩
  · omega
  · omega
theorem un_to2 {g : gq_G} (hg : gq_ok g) {p o : Nat} (hp : p < gq_np g) {U : Nat → Nat → Nat → Prop} {V : Nat → Nat → Prop} {b x : Nat} (ho : 1 ≤ o) (hb : b < 8) (h : pq_T (fun _ => True) (un_E g p o U V) x (8 * o + b)) : b < gq_at g (gq_sy g p o) ∧ bt (gq_dn g (gq_sy g p o)) b = false := by
  obtain ⟨z, h1, h2, h3⟩ := pq_to h
  rcases h3 with h | ⟨_, _, q, q2, _⟩ | ⟨_, q, _⟩
  · obtain ⟨_, ⟨_, h5⟩, h6⟩ := hg.2.2.2.2.2 p z _ hp h1 h
    rw [show (8 * o + b) / 8 = o by omega, show (8 * o + b) % 8 = b by omega] at h5 h6
    refine ⟨h5, ?_⟩
    cases hb : bt (gq_dn g (gq_sy g p o)) b with
    | false => rfl
    | true => exact absurd ⟨fun _ => by omega, fun _ => hb⟩ h6
  · omega
  · omega
theorem un_goodY {g : gq_G} (hg : gq_ok g) {i : Nat} (h : un_Y g i) : ∃ s a b, s < gq_ns g ∧ a < gq_at g s ∧ b < gq_at g s ∧ bt (gq_dn g s) a = true ∧ bt (gq_dn g s) b = false ∧ i = 64 * s + 8 * a + b := by
  refine h (fun i => ∃ s a b, s < gq_ns g ∧ a < gq_at g s ∧ b < gq_at g s ∧ bt (gq_dn g s) a = true ∧ bt (gq_dn g s) b = false ∧ i = 64 * s + 8 * a + b) ?_
  rintro q hq i ⟨⟨h0, _⟩, a, b, h1, h2, h3, h4⟩
  have hp : q / 3 < gq_np g := by omega
  have d1 := un_from2 hg hp (by omega) h1 h4
  have d2 := un_to2 hg hp (by omega) h2 h4
  exact ⟨_, a, b, (hg.2.2.2.2.1 _ hp).2 _ h0, d1.1, d2.1, d1.2, d2.2, h3⟩
