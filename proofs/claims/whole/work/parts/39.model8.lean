/-! the reference: relate -/
theorem mo_ga {g : gq_G} (hg : gq_ok g) {p t : Nat} (ht : t < 3) (hp : p < gq_np g) {μ μ' : za_M} (hub : mo_ub μ) (hvb : mo_vb μ) (hX : ∀ i, lf_V 520 (mo_x μ) i ↔ un_X g i) (hpa : un_pa g p) {v : Int32}
    (hv : v = 1 ↔ (t + 1 ≤ gq_m g p ∧ ∃ a b, a < 8 ∧ mo_R g μ p (t + 1) a b ∧ bt (μ.1 41 0 (8 * gq_sy g p (t + 1) + a)) b = false))
    (h41 : ∀ i b, i < 64 → (bt (μ'.1 41 0 i) b = true ↔ (bt (μ.1 41 0 i) b = true ∨ (t + 1 ≤ gq_m g p ∧ i / 8 = gq_sy g p (t + 1) ∧ mo_R g μ p (t + 1) (i % 8) b)))) :
    (∀ i, i < 512 → (mo_y μ' i = true ↔ (mo_y μ i = true ∨ un_W g (3 * p + t) (lf_V 512 (mo_y μ)) i))) ∧ (v = 1 ↔ ∃ i, un_W g (3 * p + t) (lf_V 512 (mo_y μ)) i ∧ ¬ lf_V 512 (mo_y μ) i) ∧ mo_vb μ' := by
  have q1 : (3 * p + t) / 3 = p := by omega
  have q2 : (3 * p + t) % 3 = t := by omega
  have hs0 := gq_sy8 hg hp (Nat.zero_le _)
  have hR : ∀ a b, mo_R g μ p (t + 1) a b ↔ (b < 8 ∧ pq_T (fun _ => True) (un_E g p (t + 1) (un_P (un_X g)) (un_Q (lf_V 512 (mo_y μ)) (gq_sy g p 0))) (8 * (t + 1) + a) (8 * (t + 1) + b)) := by
    intro a b
    unfold mo_R
    rw [pq_congr (fun _ => Iff.rfl) (fun x y => (mo_eU hg hp hub x y).trans (mo_eV hs0 hvb x y))]
    rw [show lf_V 520 (mo_x μ) = un_X g from funext fun i => propext (hX i)]
  have hW : ∀ i, un_W g (3 * p + t) (lf_V 512 (mo_y μ)) i ↔ (t + 1 ≤ gq_m g p ∧ ∃ a b, a < 8 ∧ i = 64 * gq_sy g p (t + 1) + 8 * a + b ∧ mo_R g μ p (t + 1) a b) := by
    intro i
    unfold un_W
    rw [q1, q2]
    constructor
    · rintro ⟨⟨h1, _⟩, a, b, h2, h3, h4, h5⟩
      exact ⟨h1, a, b, h2, h4, (hR a b).mpr ⟨h3, h5⟩⟩
    · rintro ⟨h1, a, b, h2, h4, h5⟩
      have h6 := (hR a b).mp h5
      exact ⟨⟨h1, hpa⟩, a, b, h2, h6.1, h4, h6.2⟩
  refine ⟨fun i hi => ?_, ?_, fun i y hi h => ?_⟩
  · have e1 : ∀ ν : za_M, mo_y ν i = bt (ν.1 41 0 (i / 8)) (i % 8) := fun ν => rfl
    rw [e1, e1, h41 (i / 8) (i % 8) (by omega), hW]
    constructor
    · rintro (q | ⟨z1, z2, z3⟩)
      · exact Or.inl q
      · exact Or.inr ⟨z1, i / 8 % 8, i % 8, by omega, by omega, z3⟩
    · rintro (q | ⟨z1, a, b, z2, z3, z4⟩)
      · exact Or.inl q
      · have hb := z4.1
        refine Or.inr ⟨z1, by omega, ?_⟩
        rw [show i / 8 % 8 = a by omega, show i % 8 = b by omega]
        exact z4
  · rw [hv]
    constructor
    · rintro ⟨z1, a, b, z2, z3, z4⟩
      refine ⟨64 * gq_sy g p (t + 1) + 8 * a + b, (hW _).mpr ⟨z1, a, b, z2, rfl, z3⟩, fun z => ?_⟩
      rw [mo_yu μ (gq_sy8 hg hp z1) z2 z3.1, z4] at z
      cases z
    · rintro ⟨i, z, zn⟩
      obtain ⟨z1, a, b, z2, z3, z4⟩ := (hW i).mp z
      subst z3
      rw [mo_yu μ (gq_sy8 hg hp z1) z2 z4.1] at zn
      exact ⟨z1, a, b, z2, z4, Bool.eq_false_iff.mpr zn⟩
  · rcases (h41 i y hi).mp h with q | ⟨z1, z2, z3⟩
    · exact hvb i y hi q
    · have d0 := (hg.2.2.1 _ ((hg.2.2.2.2.1 p hp).2 (t + 1) z1)).1
      have d1 := (un_from2 hg hp (by omega) (show i % 8 < 8 by omega) z3.2).1
      have d2 := (un_to2 hg hp (by omega) z3.1 z3.2).1
      omega
/-- what relate leaves -/
def mo_fin (g : gq_G) (μ : za_M) : Prop := (∀ i, lf_V 520 (mo_x μ) i ↔ un_X g i) ∧ (∀ i, lf_V 512 (mo_y μ) i ↔ un_Y g i) ∧ mo_01 μ ∧ (mo_ub μ ∧ mo_vb μ) ∧
  ((μ.1 30 0 18 = 0 ∨ μ.1 30 0 18 = 1) ∧ (μ.1 30 0 18 = 1 ↔ ¬ ∃ p, p < gq_np g ∧ un_c g p (fun _ => un_no))) ∧ ((μ.1 30 0 19 = 0 ∨ μ.1 30 0 19 = 1) ∧ (μ.1 30 0 19 = 1 ↔ ¬ ∃ p, p < gq_np g ∧ un_c g p (un_Q (un_Y g))))
/-- what it may change -/
def mo_rS (b j : Nat) : Prop := (b = 30 ∨ b = 38 ∨ b = 39 ∨ b = 40 ∨ b = 41) ∧ j = 0
def mo_rb (μ μ1 : za_M) : Prop := zq_fr mo_rS μ μ1 ∧ (∀ f, f ≠ 14 → f ≠ 18 → f ≠ 19 → μ1.1 30 0 f = μ.1 30 0 f) ∧ μ1.1 30 0 14 = 1
theorem mo_rS30 : ¬ mo_rS 31 0 ∧ ¬ mo_rS 32 0 ∧ ¬ mo_rS 33 0 ∧ ¬ mo_rS 34 0 := by unfold mo_rS; decide
theorem mo_rbM {g : gq_G} {μ μ1 : za_M} (hM : gq_M g μ) (h : mo_rb μ μ1) : gq_M g μ1 := gq_M_fr hM h.1 mo_rS30.1 mo_rS30.2.1 mo_rS30.2.2.1 mo_rS30.2.2.2 (h.2.1 1 (by decide) (by decide) (by decide)) (h.2.1 4 (by decide) (by decide) (by decide))
theorem mo_rbt {S : Nat → Nat → Prop} {μ μ1 μ2 : za_M} (h : mo_rb μ μ1) (hf : zq_fr S μ1 μ2) (hS : ∀ b j, S b j → (b = 38 ∨ b = 39 ∨ b = 40 ∨ b = 41) ∧ j = 0) : mo_rb μ μ2 := by
  have e30 : μ2.1 30 0 = μ1.1 30 0 := hf.1 30 0 (fun q => by have := (hS 30 0 q).1; omega)
  refine ⟨zq_tr h.1 (zq_up hf (fun b j q => ⟨Or.inr (hS b j q).1, (hS b j q).2⟩)), fun f a b c => ?_, ?_⟩
  · rw [e30]; exact h.2.1 f a b c
  · rw [e30]; exact h.2.2
theorem mo_rbu {μ μ1 : za_M} (h : mo_rb μ μ1) {f : Nat} (hf : f = 18 ∨ f = 19) (x : Int32) : mo_rb μ (za_u μ1.1 30 0 f x, μ1.2) := by
  refine ⟨zq_u h.1 ⟨Or.inl rfl, rfl⟩, fun f' a b c => ?_, ?_⟩
  · dsimp only
    rw [za_u_i (by omega)]
    exact h.2.1 f' a b c
  · dsimp only
    rw [za_u_i (by omega)]
    exact h.2.2
theorem zn_div8 : ∀ k, k < 64 → nI k / 8 = nI (k / 8) := by decide +kernel
theorem mo_xc {μ μ' : za_M} (h39 : μ'.1 39 0 = μ.1 39 0) (h40 : μ'.1 40 0 = μ.1 40 0) : mo_x μ' = mo_x μ := by
  funext i
  unfold mo_x
  rw [h39, h40]
theorem mo_yc {μ μ' : za_M} (h41 : μ'.1 41 0 = μ.1 41 0) : mo_y μ' = mo_y μ := by
  funext i
  unfold mo_y
  rw [h41]
/-- all parts have one -/
theorem mo_pa {g : gq_G} (hg : gq_ok g) {p : Nat} (hp : p < gq_np g) {μ : za_M} : mo_all g μ p 4 ↔ ∀ o, 1 ≤ o → o ≤ gq_m g p → lf_V 520 (mo_x μ) (gq_sy g p o) := by
  have hm3 := (hg.2.2.2.2.1 p hp).1
  exact ⟨fun h o h1 h2 => (mo_xs μ (gq_sy8 hg hp h2)).mpr (h o h1 (by omega) h2), fun h o h1 _ h2 => (mo_xs μ (gq_sy8 hg hp h2)).mp (h o h1 h2)⟩
