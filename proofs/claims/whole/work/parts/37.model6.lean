/-! the reference: its unions and aboves as sets of bits -/
def mo_x (μ : za_M) (i : Nat) : Bool := if i < 8 then decide (μ.1 39 0 i = 1) else bt (μ.1 40 0 ((i - 8) / 8)) ((i - 8) % 8)
def mo_y (μ : za_M) (i : Nat) : Bool := bt (μ.1 41 0 (i / 8)) (i % 8)
def mo_vb (μ : za_M) : Prop := ∀ i y, i < 64 → bt (μ.1 41 0 i) y = true → y < 6 ∧ i % 8 < 6
def mo_V (μ : za_M) (s a b : Nat) : Prop := a < 6 ∧ b < 8 ∧ bt (μ.1 41 0 (8 * s + a)) b = true
def mo_01 (μ : za_M) : Prop := ∀ s, s < 8 → μ.1 39 0 s = 0 ∨ μ.1 39 0 s = 1
theorem mo_xs (μ : za_M) {s : Nat} (h : s < 8) : lf_V 520 (mo_x μ) s ↔ μ.1 39 0 s = 1 := by
  unfold lf_V mo_x
  rw [if_pos h, decide_eq_true_eq]
  exact ⟨fun q => q.2, fun q => ⟨by omega, q⟩⟩
theorem mo_xu (μ : za_M) {s a b : Nat} (hs : s < 8) (ha : a < 8) (hb : b < 8) : lf_V 520 (mo_x μ) (8 + 64 * s + 8 * a + b) ↔ bt (μ.1 40 0 (8 * s + a)) b = true := by
  unfold lf_V mo_x
  rw [if_neg (by omega), show (8 + 64 * s + 8 * a + b - 8) / 8 = 8 * s + a by omega, show (8 + 64 * s + 8 * a + b - 8) % 8 = b by omega]
  exact ⟨fun q => q.2, fun q => ⟨by omega, q⟩⟩
theorem mo_yu (μ : za_M) {s a b : Nat} (hs : s < 8) (ha : a < 8) (hb : b < 8) : lf_V 512 (mo_y μ) (64 * s + 8 * a + b) ↔ bt (μ.1 41 0 (8 * s + a)) b = true := by
  unfold lf_V mo_y
  rw [show (64 * s + 8 * a + b) / 8 = 8 * s + a by omega, show (64 * s + 8 * a + b) % 8 = b by omega]
  exact ⟨fun q => q.2, fun q => ⟨by omega, q⟩⟩
theorem mo_eU {g : gq_G} (hg : gq_ok g) {p but : Nat} (hp : p < gq_np g) {μ : za_M} (hub : mo_ub μ) {V : Nat → Nat → Prop} (x y : Nat) : un_E g p but (mo_U μ) V x y ↔ un_E g p but (un_P (lf_V 520 (mo_x μ))) V x y := by
  have key : x / 8 ≤ gq_m g p → (mo_U μ (gq_sy g p (x / 8)) (x % 8) (y % 8) ↔ un_P (lf_V 520 (mo_x μ)) (gq_sy g p (x / 8)) (x % 8) (y % 8)) := by
    intro h
    have hs := gq_sy8 hg hp h
    unfold un_P mo_U
    rw [mo_xu μ hs (by omega) (by omega)]
    refine ⟨fun q => q.2.2, fun q => ⟨?_, by omega, q⟩⟩
    have := (hub _ _ (by omega) q).2
    omega
  unfold un_E
  constructor
  · rintro ⟨h1, h2, h | ⟨a, b, c, d, e⟩ | h⟩
    · exact ⟨h1, h2, Or.inl h⟩
    · exact ⟨h1, h2, Or.inr (Or.inl ⟨a, b, c, d, (key b).mp e⟩)⟩
    · exact ⟨h1, h2, Or.inr (Or.inr h)⟩
  · rintro ⟨h1, h2, h | ⟨a, b, c, d, e⟩ | h⟩
    · exact ⟨h1, h2, Or.inl h⟩
    · exact ⟨h1, h2, Or.inr (Or.inl ⟨a, b, c, d, (key b).mpr e⟩)⟩
    · exact ⟨h1, h2, Or.inr (Or.inr h)⟩
theorem mo_eV {g : gq_G} {p but s : Nat} (hs : s < 8) {μ : za_M} (hvb : mo_vb μ) {U : Nat → Nat → Nat → Prop} (x y : Nat) : un_E g p but U (mo_V μ s) x y ↔ un_E g p but U (un_Q (lf_V 512 (mo_y μ)) s) x y := by
  have key : x < 8 → y < 8 → (mo_V μ s x y ↔ un_Q (lf_V 512 (mo_y μ)) s x y) := by
    intro h1 h2
    unfold un_Q mo_V
    rw [mo_yu μ hs h1 h2]
    refine ⟨fun q => q.2.2, fun q => ⟨?_, h2, q⟩⟩
    have := (hvb _ _ (by omega) q).2
    omega
  unfold un_E
  constructor
  · rintro ⟨h1, h2, h | h | ⟨a, b, h⟩⟩
    · exact ⟨h1, h2, Or.inl h⟩
    · exact ⟨h1, h2, Or.inr (Or.inl h)⟩
    · exact ⟨h1, h2, Or.inr (Or.inr ⟨a, b, (key a b).mp h⟩)⟩
  · rintro ⟨h1, h2, h | h | ⟨a, b, h⟩⟩
    · exact ⟨h1, h2, Or.inl h⟩
    · exact ⟨h1, h2, Or.inr (Or.inl h)⟩
    · exact ⟨h1, h2, Or.inr (Or.inr ⟨a, b, (key a b).mpr h⟩)⟩
/-- growUnion, said of the bits -/
theorem mo_gu {g : gq_G} (hg : gq_ok g) {p : Nat} (hp : p < gq_np g) {μ μ' : za_M} (hub : mo_ub μ) (h01 : mo_01 μ) (hall : mo_all g μ p 4) {v : Int32}
    (hv : v = 1 ↔ (μ.1 39 0 (gq_sy g p 0) = 0 ∨ ∃ a b, a < 8 ∧ mo_P g μ p a b ∧ bt (μ.1 40 0 (8 * gq_sy g p 0 + a)) b = false))
    (h39 : ∀ i, i < 8 → μ'.1 39 0 i = if i = gq_sy g p 0 then 1 else μ.1 39 0 i) (h40 : ∀ i b, i < 64 → (bt (μ'.1 40 0 i) b = true ↔ (bt (μ.1 40 0 i) b = true ∨ (i / 8 = gq_sy g p 0 ∧ mo_P g μ p (i % 8) b)))) :
    (∀ i, i < 520 → (mo_x μ' i = true ↔ (mo_x μ i = true ∨ un_F g p (lf_V 520 (mo_x μ)) i))) ∧ (v = 1 ↔ ∃ i, un_F g p (lf_V 520 (mo_x μ)) i ∧ ¬ lf_V 520 (mo_x μ) i) ∧ mo_01 μ' ∧ mo_ub μ' := by
  have hs8 := gq_sy8 hg hp (Nat.zero_le _)
  have hm3 := (hg.2.2.2.2.1 p hp).1
  have hpar : ∀ o, 1 ≤ o → o ≤ gq_m g p → lf_V 520 (mo_x μ) (gq_sy g p o) := fun o h1 h2 => (mo_xs μ (gq_sy8 hg hp h2)).mpr (hall o h1 (by omega) h2)
  have hT : ∀ a b, pq_T (fun _ => True) (un_E g p 0 (mo_U μ) un_no) a b ↔ pq_T (fun _ => True) (un_E g p 0 (un_P (lf_V 520 (mo_x μ))) un_no) a b := pq_congr (fun _ => Iff.rfl) (mo_eU hg hp hub)
  refine ⟨fun i hi => ?_, ?_, fun s hs => ?_, fun i y hi h => ?_⟩
  · by_cases c : i < 8
    · have e1 : mo_x μ' i = true ↔ μ'.1 39 0 i = 1 := by rw [mo_x, if_pos c, decide_eq_true_eq]
      have e2 : mo_x μ i = true ↔ μ.1 39 0 i = 1 := by rw [mo_x, if_pos c, decide_eq_true_eq]
      rw [e1, e2, h39 i c]
      by_cases e : i = gq_sy g p 0
      · rw [if_pos e]
        exact ⟨fun _ => Or.inr ⟨hpar, Or.inl e⟩, fun _ => rfl⟩
      · rw [if_neg e]
        refine ⟨Or.inl, fun q => q.elim id (fun q => ?_)⟩
        rcases q.2 with q | ⟨a, b, q1, q2, q3, _⟩
        · exact absurd q e
        · omega
    · obtain ⟨j, hj⟩ : ∃ j, i = 8 + j := ⟨i - 8, by omega⟩
      have e1 : ∀ ν : za_M, mo_x ν i = bt (ν.1 40 0 (j / 8)) (j % 8) := fun ν => by rw [mo_x, if_neg c, hj, show 8 + j - 8 = j by omega]
      rw [e1, e1, h40 (j / 8) (j % 8) (by omega)]
      constructor
      · rintro (q | ⟨q1, q2⟩)
        · exact Or.inl q
        · exact Or.inr ⟨hpar, Or.inr ⟨j / 8 % 8, j % 8, by omega, by omega, by omega, (hT _ _).mp q2.2⟩⟩
      · rintro (q | ⟨_, q | ⟨a, b, q1, q2, q3, q4⟩⟩)
        · exact Or.inl q
        · omega
        · refine Or.inr ⟨by omega, by omega, ?_⟩
          rw [show j / 8 % 8 = a by omega, show j % 8 = b by omega]
          exact (hT _ _).mpr q4
  · rw [hv]
    constructor
    · rintro (q | ⟨a, b, q1, q2, q3⟩)
      · refine ⟨gq_sy g p 0, ⟨hpar, Or.inl rfl⟩, fun z => ?_⟩
        rw [mo_xs μ hs8, q] at z
        exact absurd z (by decide)
      · refine ⟨8 + 64 * gq_sy g p 0 + 8 * a + b, ⟨hpar, Or.inr ⟨a, b, q1, q2.1, rfl, (hT _ _).mp q2.2⟩⟩, fun z => ?_⟩
        rw [mo_xu μ hs8 q1 q2.1, q3] at z
        cases z
    · rintro ⟨i, ⟨_, q | ⟨a, b, q1, q2, q3, q4⟩⟩, z⟩
      · subst q
        rw [mo_xs μ hs8] at z
        exact Or.inl ((h01 _ hs8).resolve_right z)
      · subst q3
        rw [mo_xu μ hs8 q1 q2] at z
        exact Or.inr ⟨a, b, q1, ⟨q2, (hT _ _).mpr q4⟩, Bool.eq_false_iff.mpr z⟩
  · rw [h39 s hs]
    split
    · exact Or.inr rfl
    · exact h01 s hs
  · rcases (h40 i y hi).mp h with q | ⟨q1, q2, q3⟩
    · exact hub i y hi q
    · have d0 := (hg.2.2.1 _ ((hg.2.2.2.2.1 p hp).2 0 (Nat.zero_le _))).1
      have d1 := (gq_up (show i % 8 < 8 by omega) (un_from hg hp (by omega) q3)).1
      have d2 := (gq_dw q2 (un_to hg hp q2 q3)).1
      omega
/-- aboves laid at the head -/
def mo_la (s : Nat) (u r : Nat → Int32) (n i : Nat) : Int32 := if i < n then r i ||| u (8 * s + i) else r i
set_option maxHeartbeats 4000000 in
theorem ct_M_addAboves {Γ : zk_G} {d p : Nat} {x : Int32} {μ : za_M} {g : gq_G} (hg : gq_ok g) (hM : gq_M g μ) (hx : x = nI p) (hp : p < gq_np g) (hd : 1 ≤ d) : zk_Ct zt Γ zm_M_addAboves d 0 0 [za_r 30 0, za_i x] μ (fun r μ' => r = none ∧ (∀ i, i < 32 → μ'.1 38 0 i = mo_la (gq_sy g p 0) (μ.1 41 0) (μ.1 38 0) 6 i) ∧ zq_fr (fun b j => b = 38 ∧ j = 0) μ μ') (fun _ _ => False) := by
  have hp16 : p < 16 := Nat.lt_of_lt_of_le hp hg.2.1
  have hs8 := gq_sy8 hg hp (Nat.zero_le _)
  refine zs_M_addAboves (Nat.le_of_ble_eq_true rfl) hd (fun ZZ run => ?_)
  have loop := zn_for (σ := za_M) (N := 6)
    (P := fun k μ1 => ∀ y : Int32, y = nI k → ZZ 2 [some (za_r 30 0), some (za_i x), some (za_i y)] [] μ1 (0, 0))
    (I := fun k μ1 => (∀ i, i < 32 → μ1.1 38 0 i = mo_la (gq_sy g p 0) (μ.1 41 0) (μ.1 38 0) k i) ∧ zq_fr (fun b j => b = 38 ∧ j = 0) μ μ1)
    (fun μ1 h y hy => by
      refine run [2] 60 2 _ _ _ _ ?_
      refine ⟨fun _ => ?_, fun q => absurd (by rw [hy]; exact nI_le (Nat.le_refl 6) (by decide)) q⟩
      exact ⟨rfl, rfl, Nat.le_refl _, Nat.le_refl _, rfl, h⟩)
    (fun k μ1 hk h ih y hy => by
      have hM' : gq_M g μ1 := gq_M_fr hM h.2 (by decide) (by decide) (by decide) (by decide) (by rw [h.2.1 30 0 (by decide)]) (by rw [h.2.1 30 0 (by decide)])
      obtain ⟨o1, o2⟩ := gq_occ0 hM' hx hp hp16
      have hck : y.toNatClampNeg = k := zn_c hy (by omega)
      have e2 : (8 : Int32) * μ1.1 33 0 (4 * x).toNatClampNeg + y = nI (8 * gq_sy g p 0 + k) := by rw [o2, hy, zn_8, nI_add]
      refine run [2] 60 2 _ _ _ _ ?_
      refine ⟨fun q => absurd q (zn_ge hy rfl hk (by decide)), fun _ => ?_⟩
      refine ⟨zn_i hy (by omega) (by decide), o1, zn_i e2 (by omega) (by decide), zn_i hy (by omega) (by decide), ?_⟩
      refine ih _ ⟨fun i hi => ?_, zq_u h.2 ⟨rfl, rfl⟩⟩ _ (zn_s hy)
      dsimp only
      rw [zn_c e2 (by omega), hck, h.2.1 41 0 (by decide)]
      by_cases e : i = k
      · subst e
        rw [za_u_same, h.1 i hi, mo_la, if_neg (Nat.lt_irrefl i), mo_la, if_pos (Nat.lt_succ_self i)]
      · rw [za_u_i e, h.1 i hi, mo_la, mo_la]
        by_cases e2 : i < k
        · rw [if_pos e2, if_pos (by omega)]
        · rw [if_neg e2, if_neg (by omega)])
  refine run [2] 60 0 _ _ _ _ ?_
  exact loop 0 μ (Nat.zero_le _) ⟨fun i hi => by rw [mo_la, if_neg (Nat.not_lt_zero i)], zq_rf⟩ 0 rfl
/-- rows with more laid -/
theorem mo_lu_g {g : gq_G} (hg : gq_ok g) {p but : Nat} (hp : p < gq_np g) {μ : za_M} (hub : mo_ub μ) (r : Nat → Int32) {x : Nat} (y : Nat) (hx : x < 32) : bt (mo_lu g p but (μ.1 40 0) r 4 x) y = true ↔ (bt (r x) y = true ∨ (y < 32 ∧ 1 ≤ x / 8 ∧ x / 8 ≤ gq_m g p ∧ x / 8 ≠ but ∧ y / 8 = x / 8 ∧ mo_U μ (gq_sy g p (x / 8)) (x % 8) (y % 8))) := by
  have hm := (hg.2.2.2.2.1 p hp).1
  by_cases hy : y < 32
  · unfold mo_lu
    by_cases c : 1 ≤ x / 8 ∧ x / 8 < 4 ∧ x % 8 < 6 ∧ x / 8 ≤ gq_m g p ∧ x / 8 ≠ but
    · have hs8 := gq_sy8 hg hp c.2.2.2.1
      rw [if_pos c, b_or, bt_shl8 _ c.2.1 hy, Bool.or_eq_true, Bool.and_eq_true, decide_eq_true_eq]
      constructor
      · rintro (h | ⟨h1, h2⟩)
        · exact Or.inl h
        · have h6 := (hub _ _ (by omega) h2).1
          refine Or.inr ⟨hy, c.1, c.2.2.2.1, c.2.2.2.2, by omega, c.2.2.1, by omega, ?_⟩
          rw [show y % 8 = y - 8 * (x / 8) by omega]
          exact h2
      · rintro (h | ⟨_, a, b, d, e, f1, f2, f3⟩)
        · exact Or.inl h
        · refine Or.inr ⟨by omega, ?_⟩
          rw [show y - 8 * (x / 8) = y % 8 by omega]
          exact f3
    · rw [if_neg c]
      refine ⟨Or.inl, fun q => q.elim id (fun ⟨_, a, b, d, e, f1, f2, f3⟩ => absurd ⟨a, by omega, f1, b, d⟩ c)⟩
  · rw [b_big (by omega), b_big (by omega)]
    exact ⟨fun q => (by cases q), fun q => q.elim (fun q => by cases q) (fun q => absurd q.1 hy)⟩
theorem mo_la_g {μ : za_M} (hvb : mo_vb μ) {s : Nat} (hs : s < 8) (r : Nat → Int32) (x y : Nat) : bt (mo_la s (μ.1 41 0) r 6 x) y = true ↔ (bt (r x) y = true ∨ (x < 8 ∧ y < 8 ∧ mo_V μ s x y)) := by
  unfold mo_la mo_V
  by_cases c : x < 6
  · rw [if_pos c, b_or, Bool.or_eq_true]
    refine ⟨fun q => q.elim Or.inl (fun q => Or.inr ?_), fun q => q.elim Or.inl (fun q => Or.inr q.2.2.2.2)⟩
    have := (hvb _ _ (by omega) q).1
    exact ⟨by omega, by omega, c, by omega, q⟩
  · rw [if_neg c]
    exact ⟨Or.inl, fun q => q.elim id (fun q => absurd q.2.2.1 c)⟩
/-- a production's rows with unions and aboves, in both orders -/
theorem mo_ua_is {g : gq_G} (hg : gq_ok g) {p but : Nat} (hp : p < gq_np g) {μ : za_M} (hub : mo_ub μ) (hvb : mo_vb μ) {r : Nat → Int32} (hr : ∀ i, i < 32 → r i = gq_nd g p i) (x y : Nat) (hx : x < 32) :
    (bt (mo_lu g p but (μ.1 40 0) (mo_la (gq_sy g p 0) (μ.1 41 0) r 6) 4 x) y = true ↔ un_E g p but (mo_U μ) (mo_V μ (gq_sy g p 0)) x y) ∧ (bt (mo_la (gq_sy g p 0) (μ.1 41 0) (mo_lu g p but (μ.1 40 0) r 4) 6 x) y = true ↔ un_E g p but (mo_U μ) (mo_V μ (gq_sy g p 0)) x y) := by
  have hs8 := gq_sy8 hg hp (Nat.zero_le _)
  have hlt : bt (gq_nd g p x) y = true → y < 32 := fun h => Classical.byContradiction fun q => by
    rw [b_big (by omega)] at h
    cases h
  rw [mo_lu_g hg hp hub _ y hx, mo_la_g hvb hs8, mo_la_g hvb hs8, mo_lu_g hg hp hub _ y hx, hr x hx]
  unfold un_E
  constructor
  · constructor
    · rintro ((h | h) | h)
      · exact ⟨hx, hlt h, Or.inl h⟩
      · exact ⟨hx, by omega, Or.inr (Or.inr h)⟩
      · exact ⟨hx, h.1, Or.inr (Or.inl h.2)⟩
    · rintro ⟨_, h2, h | h | h⟩
      · exact Or.inl (Or.inl h)
      · exact Or.inr ⟨h2, h⟩
      · exact Or.inl (Or.inr h)
  · constructor
    · rintro ((h | h) | h)
      · exact ⟨hx, hlt h, Or.inl h⟩
      · exact ⟨hx, h.1, Or.inr (Or.inl h.2)⟩
      · exact ⟨hx, by omega, Or.inr (Or.inr h)⟩
    · rintro ⟨_, h2, h | h | h⟩
      · exact Or.inl (Or.inl h)
      · exact Or.inl (Or.inr ⟨h2, h⟩)
      · exact Or.inr h
