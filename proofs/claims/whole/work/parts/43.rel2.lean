/-! the class's relations as sets of bits -/
def cl_x (μ : za_M) (i : Nat) : Bool := if i < 8 then decide (μ.1 21 0 i = 1) else bl (μ.2 22 0 ((i - 8) / 64)) ((i - 8) % 64)
def cl_y (μ : za_M) (i : Nat) : Bool := bl (μ.2 23 0 (i / 64)) (i % 64)
def cl_01 (μ : za_M) : Prop := ∀ s, s < 8 → μ.1 21 0 s = 0 ∨ μ.1 21 0 s = 1
theorem cl_xs (μ : za_M) {s : Nat} (h : s < 8) : lf_V 520 (cl_x μ) s ↔ μ.1 21 0 s = 1 := by
  unfold lf_V cl_x
  rw [if_pos h, decide_eq_true_eq]
  exact ⟨fun q => q.2, fun q => ⟨by omega, q⟩⟩
theorem cl_xu (μ : za_M) {s a b : Nat} (hs : s < 8) (ha : a < 8) (hb : b < 8) : lf_V 520 (cl_x μ) (8 + 64 * s + 8 * a + b) ↔ bl (μ.2 22 0 s) (8 * a + b) = true := by
  unfold lf_V cl_x
  rw [if_neg (by omega), show (8 + 64 * s + 8 * a + b - 8) / 64 = s by omega, show (8 + 64 * s + 8 * a + b - 8) % 64 = 8 * a + b by omega]
  exact ⟨fun q => q.2, fun q => ⟨by omega, q⟩⟩
theorem cl_yu (μ : za_M) {s a b : Nat} (hs : s < 8) (ha : a < 8) (hb : b < 8) : lf_V 512 (cl_y μ) (64 * s + 8 * a + b) ↔ bl (μ.2 23 0 s) (8 * a + b) = true := by
  unfold lf_V cl_y
  rw [show (64 * s + 8 * a + b) / 64 = s by omega, show (64 * s + 8 * a + b) % 64 = 8 * a + b by omega]
  exact ⟨fun q => q.2, fun q => ⟨by omega, q⟩⟩
theorem cl_xc {μ μ' : za_M} (h21 : μ'.1 21 0 = μ.1 21 0) (h22 : μ'.2 22 0 = μ.2 22 0) : cl_x μ' = cl_x μ := by
  funext i
  unfold cl_x
  rw [h21, h22]
theorem cl_yc {μ μ' : za_M} (h23 : μ'.2 23 0 = μ.2 23 0) : cl_y μ' = cl_y μ := by
  funext i
  unfold cl_y
  rw [h23]
/-- sets of bits of attributes alone -/
def un_b (U : Nat → Nat → Nat → Prop) : Prop := ∀ s a b, s < 8 → a < 8 → b < 8 → U s a b → a < 6 ∧ b < 6
theorem un_bX {g : gq_G} (hg : gq_ok g) {X : Nat → Prop} (h : ∀ i, X i → un_X g i) : un_b (un_P X) := by
  intro s a b hs ha hb q
  rcases un_good hg (h _ q) with z | ⟨s', a', b', z1, z2, z3, _, _, z4⟩
  · have := hg.1; omega
  · have := hg.1
    have := (hg.2.2.1 s' z1).1
    omega
theorem un_bY {g : gq_G} (hg : gq_ok g) {Y : Nat → Prop} (h : ∀ i, Y i → un_Y g i) : un_b (un_Q Y) := by
  intro s a b hs ha hb q
  obtain ⟨s', a', b', z1, z2, z3, _, _, z4⟩ := un_goodY hg (h _ q)
  have := hg.1
  have := (hg.2.2.1 s' z1).1
  omega
theorem cl_eU {g : gq_G} (hg : gq_ok g) {p but : Nat} (hp : p < gq_np g) {μ : za_M} (hso : ∀ i, lf_V 520 (cl_x μ) i → un_X g i) (x y : Nat) : bp_E (bd_N g p) g p but 4 (cl_U μ) x y ↔ un_E g p but (un_P (lf_V 520 (cl_x μ))) un_no x y := by
  have hm := (hg.2.2.2.2.1 p hp).1
  have hb := un_bX hg hso
  unfold bp_E un_E bd_N cl_U
  constructor
  · rintro (⟨h1, h2, h3⟩ | ⟨h1, h2, h3, h4, h5, h6, h7⟩)
    · exact ⟨h1, h2, Or.inl h3⟩
    · exact ⟨by omega, by omega, Or.inr (Or.inl ⟨h1, h3, h4, h5, (cl_xu μ (gq_sy8 hg hp h3) (by omega) (by omega)).mpr h7⟩)⟩
  · rintro ⟨h1, h2, h3 | ⟨h3, h4, h5, h6, h7⟩ | ⟨_, _, h⟩⟩
    · exact Or.inl ⟨h1, h2, h3⟩
    · exact Or.inr ⟨h3, by omega, h4, h5, h6, (hb _ _ _ (gq_sy8 hg hp h4) (by omega) (by omega) h7).1, (cl_xu μ (gq_sy8 hg hp h4) (by omega) (by omega)).mp h7⟩
    · exact h.elim
theorem cl_eV {g : gq_G} (hg : gq_ok g) {p but : Nat} (hp : p < gq_np g) {μ : za_M} (hso : ∀ i, lf_V 520 (cl_x μ) i → un_X g i) (hsy : ∀ i, lf_V 512 (cl_y μ) i → un_Y g i) (x y : Nat) : bp_E (fun x y => bd_N g p x y ∨ (x < 8 ∧ y < 8 ∧ cl_V μ (gq_sy g p 0) x y)) g p but 4 (cl_U μ) x y ↔ un_E g p but (un_P (lf_V 520 (cl_x μ))) (un_Q (lf_V 512 (cl_y μ)) (gq_sy g p 0)) x y := by
  have hm := (hg.2.2.2.2.1 p hp).1
  have hb := un_bX hg hso
  have hb2 := un_bY hg hsy
  have hs0 := gq_sy8 hg hp (Nat.zero_le _)
  unfold bp_E un_E bd_N cl_U cl_V
  constructor
  · rintro ((⟨h1, h2, h3⟩ | ⟨h1, h2, h3, h4⟩) | ⟨h1, h2, h3, h4, h5, h6, h7⟩)
    · exact ⟨h1, h2, Or.inl h3⟩
    · exact ⟨by omega, by omega, Or.inr (Or.inr ⟨h1, h2, (cl_yu μ hs0 h1 h2).mpr h4⟩)⟩
    · exact ⟨by omega, by omega, Or.inr (Or.inl ⟨h1, h3, h4, h5, (cl_xu μ (gq_sy8 hg hp h3) (by omega) (by omega)).mpr h7⟩)⟩
  · rintro ⟨h1, h2, h3 | ⟨h3, h4, h5, h6, h7⟩ | ⟨h3, h4, h5⟩⟩
    · exact Or.inl (Or.inl ⟨h1, h2, h3⟩)
    · exact Or.inr ⟨h3, by omega, h4, h5, h6, (hb _ _ _ (gq_sy8 hg hp h4) (by omega) (by omega) h7).1, (cl_xu μ (gq_sy8 hg hp h4) (by omega) (by omega)).mp h7⟩
    · exact Or.inl (Or.inr ⟨h3, h4, (hb2 _ _ _ hs0 h3 h4 h5).1, (cl_yu μ hs0 h3 h4).mp h5⟩)
/-- places with a step to them and a step from them are joined -/
theorem un_allU {g : gq_G} (hg : gq_ok g) {p : Nat} (hp : p < gq_np g) {U : Nat → Nat → Nat → Prop} (hU : un_b U) (v a b : Nat) (h1 : un_E g p 0 U un_no a v) (h2 : un_E g p 0 U un_no v b) : bp_S (fun _ => False) g p 0 4 v := by
  obtain ⟨_, l1, k1⟩ := h1
  obtain ⟨_, l2, k2⟩ := h2
  have hm := (hg.2.2.2.2.1 p hp).1
  have hv : 8 ≤ v := Classical.byContradiction fun hlt => by
    rcases k1 with k1 | k1 | k1
    · rcases k2 with k2 | k2 | k2
      · exact (hg.2.2.2.2.2 p a v hp (by omega) k1).2.2 (hg.2.2.2.2.2 p v b hp l1 k2).1.2
      · omega
      · exact k2.2.2
    · omega
    · exact k1.2.2
  refine Or.inr ⟨by omega, by omega, ?_⟩
  rcases k1 with k1 | ⟨q1, q2, q3, q4, q5⟩ | k1
  · obtain ⟨⟨z1, z2⟩, _⟩ := (hg.2.2.2.2.2 p a v hp (by omega) k1).2
    have := (hg.2.2.1 _ ((hg.2.2.2.2.1 p hp).2 _ z1)).1
    exact ⟨z1, by omega, by omega⟩
  · have := (hU _ _ _ (gq_sy8 hg hp q2) (by omega) (by omega) q5).2
    exact ⟨by omega, by omega, by omega⟩
  · exact k1.2.2.elim
theorem un_allV {g : gq_G} (hg : gq_ok g) {p but : Nat} (hp : p < gq_np g) {U : Nat → Nat → Nat → Prop} {V : Nat → Nat → Nat → Prop} (hU : un_b U) (hV : un_b V) (v a b : Nat) (h1 : un_E g p but U (V (gq_sy g p 0)) a v) (h2 : un_E g p but U (V (gq_sy g p 0)) v b) : bp_S (fun v => v < 6) g p but 4 v := by
  obtain ⟨_, l1, k1⟩ := h1
  obtain ⟨_, l2, k2⟩ := h2
  have hm := (hg.2.2.2.2.1 p hp).1
  by_cases hv : v < 8
  · refine Or.inl ?_
    rcases k1 with k1 | ⟨q1, q2, q3, q4, q5⟩ | ⟨q1, q2, q3⟩
    · obtain ⟨⟨z1, z2⟩, _⟩ := (hg.2.2.2.2.2 p a v hp (by omega) k1).2
      have := (hg.2.2.1 _ ((hg.2.2.2.2.1 p hp).2 _ z1)).1
      show v < 6
      omega
    · omega
    · exact (hV _ _ _ (gq_sy8 hg hp (Nat.zero_le _)) q1 q2 q3).2
  · refine Or.inr ⟨by omega, by omega, ?_⟩
    rcases k1 with k1 | ⟨q1, q2, q3, q4, q5⟩ | ⟨q1, q2, q3⟩
    · have hgv := (hg.2.2.2.2.2 p a v hp (by omega) k1).2
      have hne : v / 8 ≠ but := by
        rcases k2 with k2 | ⟨_, _, z, _⟩ | ⟨z, _⟩
        · exact absurd (hg.2.2.2.2.2 p v b hp l1 k2).1.2 hgv.2
        · exact z
        · omega
      obtain ⟨⟨z1, z2⟩, _⟩ := hgv
      have := (hg.2.2.1 _ ((hg.2.2.2.2.1 p hp).2 _ z1)).1
      exact ⟨z1, hne, by omega⟩
    · have := (hU _ _ _ (gq_sy8 hg hp q2) (by omega) (by omega) q5).2
      exact ⟨by omega, by omega, by omega⟩
    · omega
/-- a board with all parts joined -/
theorem cl_BU {g : gq_G} (hg : gq_ok g) {p : Nat} (hp : p < gq_np g) {μ μ' : za_M} (hso : ∀ i, lf_V 520 (cl_x μ) i → un_X g i) (h : bd_S μ' 4 (bp_S (fun _ => False) g p 0 4) (bp_E (bd_N g p) g p 0 4 (cl_U μ))) :
    (∀ x y, x < 32 → (bt (μ'.1 19 4 x) y = true ↔ pq_T (fun _ => True) (un_E g p 0 (un_P (lf_V 520 (cl_x μ))) un_no) x y)) ∧ (μ'.1 18 4 1 = 0 ∨ μ'.1 18 4 1 = 1) ∧ (μ'.1 18 4 1 = 1 ↔ ∃ u, pq_T (fun _ => True) (un_E g p 0 (un_P (lf_V 520 (cl_x μ))) un_no) u u) := by
  have h := bd_Sc h (fun _ => Iff.rfl) (cl_eU hg hp hso)
  have ha := un_allU hg hp (un_bX hg hso)
  exact ⟨fun x y hx => (h.1 x y hx).trans (pq_all ha x y).symm, h.2.1, h.2.2.trans (pq_circle ha).symm⟩
theorem cl_BV {g : gq_G} (hg : gq_ok g) {p but : Nat} (hp : p < gq_np g) {μ μ' : za_M} (hso : ∀ i, lf_V 520 (cl_x μ) i → un_X g i) (hsy : ∀ i, lf_V 512 (cl_y μ) i → un_Y g i) (h : bd_S μ' 4 (bp_S (fun v => v < 6) g p but 4) (bp_E (fun x y => bd_N g p x y ∨ (x < 8 ∧ y < 8 ∧ cl_V μ (gq_sy g p 0) x y)) g p but 4 (cl_U μ))) :
    (∀ x y, x < 32 → (bt (μ'.1 19 4 x) y = true ↔ pq_T (fun _ => True) (un_E g p but (un_P (lf_V 520 (cl_x μ))) (un_Q (lf_V 512 (cl_y μ)) (gq_sy g p 0))) x y)) ∧ (μ'.1 18 4 1 = 0 ∨ μ'.1 18 4 1 = 1) ∧ (μ'.1 18 4 1 = 1 ↔ ∃ u, pq_T (fun _ => True) (un_E g p but (un_P (lf_V 520 (cl_x μ))) (un_Q (lf_V 512 (cl_y μ)) (gq_sy g p 0))) u u) := by
  have h := bd_Sc h (fun _ => Iff.rfl) (cl_eV hg hp hso hsy)
  have ha := un_allV (V := un_Q (lf_V 512 (cl_y μ))) (but := but) hg hp (un_bX hg hso) (un_bY hg hsy)
  exact ⟨fun x y hx => (h.1 x y hx).trans (pq_all ha x y).symm, h.2.1, h.2.2.trans (pq_circle ha).symm⟩
/-- or is more -/
theorem bl_more (u r : Int64) : (u ||| r) = u ↔ ∀ a b, a < 8 → b < 8 → bl r (8 * a + b) = true → bl u (8 * a + b) = true := by
  constructor
  · intro h a b _ _ hr
    have := congrArg (fun z => bl z (8 * a + b)) h
    simp only [bl_or, hr, Bool.or_true] at this
    exact this.symm
  · intro h
    refine bl_ext fun j hj => ?_
    rw [bl_or]
    cases hr : bl r j with
    | false => rw [Bool.or_false]
    | true =>
      have := h (j / 8) (j % 8) (by omega) (by omega) (by rw [show 8 * (j / 8) + j % 8 = j by omega]; exact hr)
      rw [show 8 * (j / 8) + j % 8 = j by omega] at this
      rw [this]; rfl
/-- growUpwards at one production, said of the bits -/
theorem cl_gu {g : gq_G} (hg : gq_ok g) {p : Nat} (hp : p < gq_np g) {μ μ' : za_M} (h01 : cl_01 μ) (hall : ∀ o, 1 ≤ o → o ≤ gq_m g p → lf_V 520 (cl_x μ) (gq_sy g p o)) {rel : Int64}
    (hrel : ∀ a b, a < 8 → b < 8 → (bl rel (8 * a + b) = true ↔ pq_T (fun _ => True) (un_E g p 0 (un_P (lf_V 520 (cl_x μ))) un_no) a b))
    (h21 : ∀ i, μ'.1 21 0 i = if i = gq_sy g p 0 then 1 else μ.1 21 0 i) (h22 : ∀ i, μ'.2 22 0 i = if i = gq_sy g p 0 then μ.2 22 0 (gq_sy g p 0) ||| rel else μ.2 22 0 i) :
    (∀ i, i < 520 → (cl_x μ' i = true ↔ (cl_x μ i = true ∨ un_F g p (lf_V 520 (cl_x μ)) i))) ∧ ((μ.1 21 0 (gq_sy g p 0) = 0 ∨ ¬ (μ.2 22 0 (gq_sy g p 0) ||| rel) = μ.2 22 0 (gq_sy g p 0)) ↔ ∃ i, un_F g p (lf_V 520 (cl_x μ)) i ∧ ¬ lf_V 520 (cl_x μ) i) ∧ cl_01 μ' := by
  have hs8 := gq_sy8 hg hp (Nat.zero_le _)
  refine ⟨fun i hi => ?_, ?_, fun s hs => ?_⟩
  · by_cases c : i < 8
    · have e1 : ∀ ν : za_M, cl_x ν i = true ↔ ν.1 21 0 i = 1 := fun ν => by rw [cl_x, if_pos c, decide_eq_true_eq]
      rw [e1, e1, h21 i]
      by_cases e : i = gq_sy g p 0
      · rw [if_pos e]
        exact ⟨fun _ => Or.inr ⟨hall, Or.inl e⟩, fun _ => rfl⟩
      · rw [if_neg e]
        refine ⟨Or.inl, fun q => q.elim id (fun q => ?_)⟩
        rcases q.2 with q | ⟨a, b, q1, q2, q3, _⟩
        · exact absurd q e
        · omega
    · obtain ⟨j, hj⟩ : ∃ j, i = 8 + j := ⟨i - 8, by omega⟩
      have e1 : ∀ ν : za_M, cl_x ν i = bl (ν.2 22 0 (j / 64)) (j % 64) := fun ν => by rw [cl_x, if_neg c, hj, show 8 + j - 8 = j by omega]
      rw [e1, e1, h22]
      by_cases e : j / 64 = gq_sy g p 0
      · rw [if_pos e, bl_or, Bool.or_eq_true, e, show j % 64 = 8 * (j % 64 / 8) + j % 8 by omega, hrel _ _ (by omega) (by omega)]
        constructor
        · rintro (q | q)
          · exact Or.inl q
          · exact Or.inr ⟨hall, Or.inr ⟨_, _, by omega, by omega, by omega, q⟩⟩
        · rintro (q | ⟨_, q | ⟨a, b, q1, q2, q3, q4⟩⟩)
          · exact Or.inl q
          · omega
          · refine Or.inr ?_
            rw [show j % 64 / 8 = a by omega, show j % 8 = b by omega]
            exact q4
      · rw [if_neg e]
        refine ⟨Or.inl, fun q => q.elim id (fun q => ?_)⟩
        rcases q.2 with q | ⟨a, b, q1, q2, q3, _⟩
        · omega
        · omega
  · rw [bl_more]
    constructor
    · rintro (q | q)
      · refine ⟨gq_sy g p 0, ⟨hall, Or.inl rfl⟩, fun z => ?_⟩
        rw [cl_xs μ hs8, q] at z
        exact absurd z (by decide)
      · refine Classical.byContradiction fun hn => q fun a b ha hb hr => ?_
        rw [← cl_xu μ hs8 ha hb]
        exact Classical.byContradiction fun hz => hn ⟨_, ⟨hall, Or.inr ⟨a, b, ha, hb, rfl, (hrel a b ha hb).mp hr⟩⟩, hz⟩
    · rintro ⟨i, ⟨_, q | ⟨a, b, q1, q2, q3, q4⟩⟩, z⟩
      · subst q
        rw [cl_xs μ hs8] at z
        exact Or.inl ((h01 _ hs8).resolve_right z)
      · subst q3
        rw [cl_xu μ hs8 q1 q2] at z
        exact Or.inr fun hn => z (hn a b q1 q2 ((hrel a b q1 q2).mpr q4))
  · rw [h21]
    split
    · exact Or.inr rfl
    · exact h01 s hs
theorem cl_ga {g : gq_G} (hg : gq_ok g) {p t : Nat} (ht : t < 3) (hp : p < gq_np g) (hle : t + 1 ≤ gq_m g p) {μ μ' : za_M} (hX : ∀ i, lf_V 520 (cl_x μ) i ↔ un_X g i) (hpa : un_pa g p) {rel : Int64}
    (hrel : ∀ a b, a < 8 → b < 8 → (bl rel (8 * a + b) = true ↔ pq_T (fun _ => True) (un_E g p (t + 1) (un_P (lf_V 520 (cl_x μ))) (un_Q (lf_V 512 (cl_y μ)) (gq_sy g p 0))) (8 * (t + 1) + a) (8 * (t + 1) + b)))
    (h23 : ∀ i, μ'.2 23 0 i = if i = gq_sy g p (t + 1) then μ.2 23 0 (gq_sy g p (t + 1)) ||| rel else μ.2 23 0 i) :
    (∀ i, i < 512 → (cl_y μ' i = true ↔ (cl_y μ i = true ∨ un_W g (3 * p + t) (lf_V 512 (cl_y μ)) i))) ∧ (¬ (μ.2 23 0 (gq_sy g p (t + 1)) ||| rel) = μ.2 23 0 (gq_sy g p (t + 1)) ↔ ∃ i, un_W g (3 * p + t) (lf_V 512 (cl_y μ)) i ∧ ¬ lf_V 512 (cl_y μ) i) := by
  have q1 : (3 * p + t) / 3 = p := by omega
  have q2 : (3 * p + t) % 3 = t := by omega
  have hs8 := gq_sy8 hg hp hle
  rw [show lf_V 520 (cl_x μ) = un_X g from funext fun i => propext (hX i)] at hrel
  have hW : ∀ i, un_W g (3 * p + t) (lf_V 512 (cl_y μ)) i ↔ (∃ a b, a < 8 ∧ b < 8 ∧ i = 64 * gq_sy g p (t + 1) + 8 * a + b ∧ bl rel (8 * a + b) = true) := by
    intro i
    unfold un_W
    rw [q1, q2]
    constructor
    · rintro ⟨⟨h1, _⟩, a, b, h2, h3, h4, h5⟩
      exact ⟨a, b, h2, h3, h4, (hrel a b h2 h3).mpr h5⟩
    · rintro ⟨a, b, h2, h3, h4, h5⟩
      exact ⟨⟨hle, hpa⟩, a, b, h2, h3, h4, (hrel a b h2 h3).mp h5⟩
  refine ⟨fun i hi => ?_, ?_⟩
  · have e1 : ∀ ν : za_M, cl_y ν i = bl (ν.2 23 0 (i / 64)) (i % 64) := fun ν => rfl
    rw [e1, e1, h23, hW]
    by_cases e : i / 64 = gq_sy g p (t + 1)
    · rw [if_pos e, bl_or, Bool.or_eq_true, e]
      constructor
      · rintro (q | q)
        · exact Or.inl q
        · exact Or.inr ⟨i % 64 / 8, i % 8, by omega, by omega, by omega, by rw [show 8 * (i % 64 / 8) + i % 8 = i % 64 by omega]; exact q⟩
      · rintro (q | ⟨a, b, z1, z2, z3, z4⟩)
        · exact Or.inl q
        · refine Or.inr ?_
          rw [show i % 64 = 8 * a + b by omega]
          exact z4
    · rw [if_neg e]
      refine ⟨Or.inl, fun q => q.elim id (fun ⟨a, b, z1, z2, z3, _⟩ => ?_)⟩
      omega
  · rw [bl_more]
    constructor
    · intro q
      refine Classical.byContradiction fun hn => q fun a b ha hb hr => ?_
      rw [← cl_yu μ hs8 ha hb]
      exact Classical.byContradiction fun hz => hn ⟨_, (hW _).mpr ⟨a, b, ha, hb, rfl, hr⟩, hz⟩
    · rintro ⟨i, q, z⟩ hn
      obtain ⟨a, b, z1, z2, z3, z4⟩ := (hW i).mp q
      subst z3
      rw [cl_yu μ hs8 z1 z2] at z
      exact z (hn a b z1 z2 z4)
