/-! GRAPHS OF TREES, said of the grammar: the least sets -/
abbrev gr_T : Type := Nat → Nat → Bool
/-- a production's steps, with a graph for each part -/
def gr_E (g : gq_G) (p : Nat) (c : Nat → gr_T) (x y : Nat) : Prop := x < 32 ∧ y < 32 ∧ (bt (gq_nd g p x) y = true ∨ (1 ≤ x / 8 ∧ x / 8 ≤ gq_m g p ∧ y / 8 = x / 8 ∧ c (x / 8) (x % 8) (y % 8) = true))
def gr_P (g : gq_G) (p : Nat) (c : Nat → gr_T) (x y : Nat) : Prop := pq_T (fun _ => True) (gr_E g p c) x y
def gr_is (g : gq_G) (p : Nat) (c : Nat → gr_T) (G : gr_T) : Prop := ∀ a b, G a b = true ↔ (a < 8 ∧ b < 8 ∧ gr_P g p c a b)
def gr_ci (g : gq_G) (p : Nat) (c : Nat → gr_T) : Prop := ∃ u, gr_P g p c u u
def gr_Lc (g : gq_G) (X : Nat → gr_T → Prop) : Prop := ∀ p, p < gq_np g → ∀ c G, (∀ o, 1 ≤ o → o ≤ gq_m g p → X (gq_sy g p o) (c o)) → gr_is g p c G → X (gq_sy g p 0) G
def gr_L (g : gq_G) (s : Nat) (G : gr_T) : Prop := ∀ X, gr_Lc g X → X s G
def gr_C (g : gq_G) : Prop := ∃ p, p < gq_np g ∧ ∃ c, (∀ o, 1 ≤ o → o ≤ gq_m g p → gr_L g (gq_sy g p o) (c o)) ∧ gr_ci g p c
/-- some symbol has more than ten -/
def gr_G (g : gq_G) : Prop := ∃ s, s < 8 ∧ ∃ f : Nat → gr_T, (∀ i j, i < 11 → j < 11 → f i = f j → i = j) ∧ ∀ i, i < 11 → gr_L g s (f i)
theorem gr_Lcl (g : gq_G) : gr_Lc g (gr_L g) := fun p hp c G h hG X hX => hX p hp c G (fun o a b => h o a b X hX) hG
theorem gr_uq {g : gq_G} {p : Nat} {c : Nat → gr_T} {G G' : gr_T} (h : gr_is g p c G) (h' : gr_is g p c G') : G = G' := by
  funext a b
  exact Bool.eq_iff_iff.mpr ((h a b).trans (h' a b).symm)
theorem gr_Ec {g : gq_G} {p : Nat} {c c' : Nat → gr_T} (h : ∀ o, 1 ≤ o → o ≤ gq_m g p → c o = c' o) (x y : Nat) : gr_E g p c x y ↔ gr_E g p c' x y := by
  unfold gr_E
  constructor
  · rintro ⟨h1, h2, h3 | ⟨a, b, d, e⟩⟩
    · exact ⟨h1, h2, Or.inl h3⟩
    · exact ⟨h1, h2, Or.inr ⟨a, b, d, by rw [← h _ a b]; exact e⟩⟩
  · rintro ⟨h1, h2, h3 | ⟨a, b, d, e⟩⟩
    · exact ⟨h1, h2, Or.inl h3⟩
    · exact ⟨h1, h2, Or.inr ⟨a, b, d, by rw [h _ a b]; exact e⟩⟩
theorem gr_Pc {g : gq_G} {p : Nat} {c c' : Nat → gr_T} (h : ∀ o, 1 ≤ o → o ≤ gq_m g p → c o = c' o) (x y : Nat) : gr_P g p c x y ↔ gr_P g p c' x y := pq_congr (fun _ => Iff.rfl) (gr_Ec h) x y
theorem gr_isc {g : gq_G} {p : Nat} {c c' : Nat → gr_T} {G : gr_T} (h : ∀ o, 1 ≤ o → o ≤ gq_m g p → c o = c' o) (hG : gr_is g p c G) : gr_is g p c' G := fun a b => (hG a b).trans ⟨fun q => ⟨q.1, q.2.1, (gr_Pc h a b).mp q.2.2⟩, fun q => ⟨q.1, q.2.1, (gr_Pc h a b).mpr q.2.2⟩⟩
theorem gr_cic {g : gq_G} {p : Nat} {c c' : Nat → gr_T} (h : ∀ o, 1 ≤ o → o ≤ gq_m g p → c o = c' o) : gr_ci g p c ↔ gr_ci g p c' := ⟨fun ⟨u, q⟩ => ⟨u, (gr_Pc h u u).mp q⟩, fun ⟨u, q⟩ => ⟨u, (gr_Pc h u u).mpr q⟩⟩
/-- the head's places -/
theorem gr_from {g : gq_G} (hg : gq_ok g) {p : Nat} (hp : p < gq_np g) {c : Nat → gr_T} {x y : Nat} (hx : x < 8) (h : gr_P g p c x y) : gq_df g p x := by
  obtain ⟨z, h1, h2, h3⟩ := pq_from h
  rcases h3 with h | ⟨a, _⟩
  · exact (hg.2.2.2.2.2 p x z hp h1 h).1
  · omega
theorem gr_to {g : gq_G} (hg : gq_ok g) {p : Nat} (hp : p < gq_np g) {c : Nat → gr_T} {x y : Nat} (hy : y < 8) (h : gr_P g p c x y) : gq_gv g p y := by
  obtain ⟨z, h1, h2, h3⟩ := pq_to h
  rcases h3 with h | ⟨a, _, d, _⟩
  · exact (hg.2.2.2.2.2 p z y hp h1 h).2
  · omega
theorem gr_b6 {g : gq_G} (hg : gq_ok g) {p : Nat} (hp : p < gq_np g) {c : Nat → gr_T} {a b : Nat} (ha : a < 8) (hb : b < 8) (h : gr_P g p c a b) : a < 6 ∧ b < 6 ∧ a < gq_at g (gq_sy g p 0) ∧ bt (gq_dn g (gq_sy g p 0)) a = false ∧ bt (gq_dn g (gq_sy g p 0)) b = true := by
  have d0 := (hg.2.2.1 _ ((hg.2.2.2.2.1 p hp).2 0 (Nat.zero_le _))).1
  have d1 := gq_up ha (gr_from hg hp ha h)
  have d2 := gq_dw hb (gr_to hg hp hb h)
  exact ⟨by omega, by omega, d1.1, d1.2, d2.2⟩
theorem gr_L6 {g : gq_G} (hg : gq_ok g) {s : Nat} {G : gr_T} (h : gr_L g s G) : s < gq_ns g ∧ ∀ a b, G a b = true → a < 6 ∧ b < 6 := by
  refine h (fun s G => s < gq_ns g ∧ ∀ a b, G a b = true → a < 6 ∧ b < 6) ?_
  intro p hp c G _ hG
  refine ⟨(hg.2.2.2.2.1 p hp).2 0 (Nat.zero_le _), fun a b q => ?_⟩
  obtain ⟨q1, q2, q3⟩ := (hG a b).mp q
  exact ⟨(gr_b6 hg hp q1 q2 q3).1, (gr_b6 hg hp q1 q2 q3).2.1⟩
/-- eleven pigeons, ten holes -/
theorem ph_le {α : Type} : ∀ (m n : Nat) (f h : Nat → α), (∀ i j, i < n → j < n → f i = f j → i = j) → (∀ i, i < n → ∃ j, j < m ∧ h j = f i) → n ≤ m
  | 0, n, f, h, _, hs => by
    cases n with
    | zero => exact Nat.le_refl _
    | succ n => obtain ⟨j, q, _⟩ := hs 0 (by omega); omega
  | m + 1, n, f, h, hi, hs => by
    cases n with
    | zero => omega
    | succ n =>
      obtain ⟨j0, q0, e0⟩ := hs n (by omega)
      have := ph_le m n f (fun j => if j = j0 then h m else h j) (fun i j a b => hi i j (by omega) (by omega)) (fun i a => by
        obtain ⟨j, q1, e1⟩ := hs i (by omega)
        have hne : j ≠ j0 := fun e => by
          subst e
          have := hi i n (by omega) (by omega) (e1.symm.trans e0)
          omega
        by_cases e : j = m
        · subst e
          exact ⟨j0, by omega, by rw [if_pos rfl]; exact e1⟩
        · exact ⟨j, by omega, by rw [if_neg hne]; exact e1⟩)
      omega
/-! TABLES: how many graphs a symbol has so far, which, whether a circle was seen -/
def tb_so (g : gq_G) (K : Nat → Nat) (T : Nat → Nat → gr_T) (C : Prop) : Prop := (∀ s i, s < 8 → i < K s → gr_L g s (T s i)) ∧ (∀ s i j, s < 8 → i < K s → j < K s → T s i = T s j → i = j) ∧ (C → gr_C g)
def tb_le (K : Nat → Nat) (T : Nat → Nat → gr_T) (C : Prop) (K' : Nat → Nat) (T' : Nat → Nat → gr_T) (C' : Prop) : Prop := (∀ s, s < 8 → K s ≤ K' s ∧ ∀ i, i < K s → T' s i = T s i) ∧ (C → C')
def tb_in (g : gq_G) (p : Nat) (idx : Nat → Nat) (K : Nat → Nat) : Prop := ∀ o, 1 ≤ o → o ≤ gq_m g p → idx o < K (gq_sy g p o)
/-- the choice that indices make -/
def tb_c (g : gq_G) (p : Nat) (idx : Nat → Nat) (T : Nat → Nat → gr_T) (o : Nat) : gr_T := T (gq_sy g p o) (idx o)
def tb_tr (g : gq_G) (p : Nat) (idx : Nat → Nat) (K : Nat → Nat) (T : Nat → Nat → gr_T) (C : Prop) : Prop := (∃ j, j < K (gq_sy g p 0) ∧ gr_is g p (tb_c g p idx T) (T (gq_sy g p 0) j)) ∧ (gr_ci g p (tb_c g p idx T) → C)
theorem tb_rf {K : Nat → Nat} {T : Nat → Nat → gr_T} {C : Prop} : tb_le K T C K T C := ⟨fun _ _ => ⟨Nat.le_refl _, fun _ _ => rfl⟩, id⟩
theorem tb_tt {K K' K'' : Nat → Nat} {T T' T'' : Nat → Nat → gr_T} {C C' C'' : Prop} (h : tb_le K T C K' T' C') (h' : tb_le K' T' C' K'' T'' C'') : tb_le K T C K'' T'' C'' :=
  ⟨fun s hs => ⟨Nat.le_trans (h.1 s hs).1 (h'.1 s hs).1, fun i hi => ((h'.1 s hs).2 i (Nat.lt_of_lt_of_le hi (h.1 s hs).1)).trans ((h.1 s hs).2 i hi)⟩, fun q => h'.2 (h.2 q)⟩
theorem tb_cc {g : gq_G} (hg : gq_ok g) {p : Nat} (hp : p < gq_np g) {idx : Nat → Nat} {K K' : Nat → Nat} {T T' : Nat → Nat → gr_T} {C C' : Prop} (hi : tb_in g p idx K) (h : tb_le K T C K' T' C') : ∀ o, 1 ≤ o → o ≤ gq_m g p → tb_c g p idx T o = tb_c g p idx T' o := fun o a b => ((h.1 _ (gq_sy8 hg hp b)).2 _ (hi o a b)).symm
theorem tb_trm {g : gq_G} (hg : gq_ok g) {p : Nat} (hp : p < gq_np g) {idx : Nat → Nat} {K K' : Nat → Nat} {T T' : Nat → Nat → gr_T} {C C' : Prop} (hi : tb_in g p idx K) (h : tb_le K T C K' T' C') (ht : tb_tr g p idx K T C) : tb_tr g p idx K' T' C' := by
  obtain ⟨⟨j, h1, h2⟩, h3⟩ := ht
  have hs := h.1 _ (gq_sy8 hg hp (Nat.zero_le _))
  have hc := tb_cc hg hp hi h
  refine ⟨⟨j, Nat.lt_of_lt_of_le h1 hs.1, ?_⟩, fun q => h.2 (h3 ((gr_cic hc).mpr q))⟩
  rw [hs.2 j h1]
  exact gr_isc hc h2
theorem tb_inm {g : gq_G} (hg : gq_ok g) {p : Nat} (hp : p < gq_np g) {idx : Nat → Nat} {K K' : Nat → Nat} {T T' : Nat → Nat → gr_T} {C C' : Prop} (hi : tb_in g p idx K) (h : tb_le K T C K' T' C') : tb_in g p idx K' := fun o a b => Nat.lt_of_lt_of_le (hi o a b) (h.1 _ (gq_sy8 hg hp b)).1
/-- all tried: all there -/
theorem tb_cl {g : gq_G} (hg : gq_ok g) {K : Nat → Nat} {T : Nat → Nat → gr_T} {C : Prop} (hs : tb_so g K T C) (hc : ∀ p, p < gq_np g → ∀ idx, tb_in g p idx K → tb_tr g p idx K T C) : (∀ s G, s < 8 → (gr_L g s G ↔ ∃ i, i < K s ∧ T s i = G)) ∧ (C ↔ gr_C g) := by
  have key : ∀ s G, gr_L g s G → ∃ i, i < K s ∧ T s i = G := by
    intro s G h
    refine h (fun s G => ∃ i, i < K s ∧ T s i = G) ?_
    intro p hp c G hX hG
    have hch : ∃ idx : Nat → Nat, ∀ o, 1 ≤ o → o ≤ gq_m g p → idx o < K (gq_sy g p o) ∧ T (gq_sy g p o) (idx o) = c o := by
      refine ⟨fun o => if h : 1 ≤ o ∧ o ≤ gq_m g p then Classical.choose (hX o h.1 h.2) else 0, fun o a b => ?_⟩
      dsimp only
      rw [dif_pos (And.intro a b)]
      exact Classical.choose_spec (hX o a b)
    obtain ⟨idx, hidx⟩ := hch
    obtain ⟨⟨j, h1, h2⟩, _⟩ := hc p hp idx (fun o a b => (hidx o a b).1)
    exact ⟨j, h1, gr_uq (gr_isc (fun o a b => (hidx o a b).2) h2) hG⟩
  refine ⟨fun s G h8 => ⟨key s G, fun ⟨i, h1, h2⟩ => h2 ▸ hs.1 s i h8 h1⟩, hs.2.2, fun ⟨p, hp, c, h1, h2⟩ => ?_⟩
  have hch : ∃ idx : Nat → Nat, ∀ o, 1 ≤ o → o ≤ gq_m g p → idx o < K (gq_sy g p o) ∧ T (gq_sy g p o) (idx o) = c o := by
    refine ⟨fun o => if h : 1 ≤ o ∧ o ≤ gq_m g p then Classical.choose (key _ _ (h1 o h.1 h.2)) else 0, fun o a b => ?_⟩
    dsimp only
    rw [dif_pos (And.intro a b)]
    exact Classical.choose_spec (key _ _ (h1 o a b))
  obtain ⟨idx, hidx⟩ := hch
  exact (hc p hp idx (fun o a b => (hidx o a b).1)).2 ((gr_cic (fun o a b => (hidx o a b).2)).mpr h2)
/-- a graph taken -/
theorem tb_tk {g : gq_G} (hg : gq_ok g) {p : Nat} (hp : p < gq_np g) {idx : Nat → Nat} {K K' : Nat → Nat} {T T' : Nat → Nat → gr_T} {C C' : Prop} {G : gr_T} (hs : tb_so g K T C) (hi : tb_in g p idx K) (hG : gr_is g p (tb_c g p idx T) G) (hC : C' ↔ (C ∨ gr_ci g p (tb_c g p idx T)))
    (hK : (∀ s, s < 8 → s ≠ gq_sy g p 0 → K' s = K s) ∧ (∀ s i, s < 8 → i < K s → T' s i = T s i) ∧ ((K' (gq_sy g p 0) = K (gq_sy g p 0) ∧ ∃ j, j < K (gq_sy g p 0) ∧ T (gq_sy g p 0) j = G) ∨ (K' (gq_sy g p 0) = K (gq_sy g p 0) + 1 ∧ T' (gq_sy g p 0) (K (gq_sy g p 0)) = G ∧ ∀ j, j < K (gq_sy g p 0) → T (gq_sy g p 0) j ≠ G))) :
    tb_so g K' T' C' ∧ tb_le K T C K' T' C' ∧ tb_tr g p idx K' T' C' := by
  have h8 := gq_sy8 hg hp (Nat.zero_le _)
  obtain ⟨k1, k2, k3⟩ := hK
  have hle : tb_le K T C K' T' C' := ⟨fun s hs8 => ⟨by
    by_cases e : s = gq_sy g p 0
    · subst e
      rcases k3 with k3 | k3 <;> omega
    · rw [k1 s hs8 e]; exact Nat.le_refl _, fun i h => k2 s i hs8 h⟩, fun q => hC.mpr (Or.inl q)⟩
  have hL : gr_L g (gq_sy g p 0) G := gr_Lcl g p hp _ G (fun o a b => hs.1 _ _ (gq_sy8 hg hp b) (hi o a b)) hG
  have hcc := tb_cc hg hp hi hle
  refine ⟨⟨fun s i h1 h2 => ?_, fun s i j h1 h2 h3 h4 => ?_, fun q => ?_⟩, hle, ?_, fun q => hC.mpr (Or.inr ((gr_cic hcc).mpr q))⟩
  · by_cases e : i < K s
    · rw [k2 s i h1 e]; exact hs.1 s i h1 e
    · by_cases e2 : s = gq_sy g p 0
      · subst e2
        rcases k3 with k3 | k3
        · omega
        · rw [show i = K (gq_sy g p 0) by omega, k3.2.1]; exact hL
      · rw [k1 s h1 e2] at h2; exact absurd h2 e
  · by_cases e2 : s = gq_sy g p 0
    · subst e2
      rcases k3 with k3 | ⟨k3, k4, k5⟩
      · rw [k3.1] at h2 h3
        rw [k2 _ i h1 h2, k2 _ j h1 h3] at h4
        exact hs.2.1 _ i j h1 h2 h3 h4
      · by_cases ei : i < K (gq_sy g p 0)
        · by_cases ej : j < K (gq_sy g p 0)
          · rw [k2 _ i h1 ei, k2 _ j h1 ej] at h4
            exact hs.2.1 _ i j h1 ei ej h4
          · rw [k2 _ i h1 ei, show j = K (gq_sy g p 0) by omega, k4] at h4
            exact absurd h4 (k5 i ei)
        · by_cases ej : j < K (gq_sy g p 0)
          · rw [k2 _ j h1 ej, show i = K (gq_sy g p 0) by omega, k4] at h4
            exact absurd h4.symm (k5 j ej)
          · omega
    · rw [k1 s h1 e2] at h2 h3
      rw [k2 _ i h1 h2, k2 _ j h1 h3] at h4
      exact hs.2.1 _ i j h1 h2 h3 h4
  · rcases hC.mp q with q | q
    · exact hs.2.2 q
    · exact ⟨p, hp, _, fun o a b => hs.1 _ _ (gq_sy8 hg hp b) (hi o a b), q⟩
  · rcases k3 with ⟨k3, j, k4, k5⟩ | ⟨k3, k4, k5⟩
    · refine ⟨j, by omega, ?_⟩
      rw [k2 _ j h8 k4, k5]
      exact gr_isc hcc hG
    · refine ⟨K (gq_sy g p 0), by omega, ?_⟩
      rw [k4]
      exact gr_isc hcc hG
/-- eleven -/
theorem tb_11 {g : gq_G} {K : Nat → Nat} {T : Nat → Nat → gr_T} {C : Prop} (hs : tb_so g K T C) {s : Nat} (h8 : s < 8) (h : 11 ≤ K s) : gr_G g := ⟨s, h8, T s, fun i j a b => hs.2.1 s i j h8 (by omega) (by omega), fun i a => hs.1 s i h8 (by omega)⟩
/-- two tables that are full have the same counts -/
theorem tb_eq {g : gq_G} {K K' : Nat → Nat} {T T' : Nat → Nat → gr_T} {C C' : Prop} (hs : tb_so g K T C) (hs' : tb_so g K' T' C') (h : ∀ s G, s < 8 → (gr_L g s G ↔ ∃ i, i < K s ∧ T s i = G)) (h' : ∀ s G, s < 8 → (gr_L g s G ↔ ∃ i, i < K' s ∧ T' s i = G)) {s : Nat} (h8 : s < 8) : K s = K' s :=
  Nat.le_antisymm (ph_le _ _ (T s) (T' s) (fun i j a b => hs.2.1 s i j h8 a b) (fun i a => (h' s _ h8).mp (hs.1 s i h8 a))) (ph_le _ _ (T' s) (T s) (fun i j a b => hs'.2.1 s i j h8 a b) (fun i a => (h s _ h8).mp (hs'.1 s i h8 a)))
theorem tb_no {g : gq_G} {K : Nat → Nat} {T : Nat → Nat → gr_T} (h : ∀ s G, s < 8 → (gr_L g s G ↔ ∃ i, i < K s ∧ T s i = G)) (h10 : ∀ s, s < 8 → K s ≤ 10) : ¬ gr_G g := by
  rintro ⟨s, h8, f, h1, h2⟩
  have := ph_le _ 11 f (T s) h1 (fun i a => (h s _ h8).mp (h2 i a))
  have := h10 s h8
  omega
