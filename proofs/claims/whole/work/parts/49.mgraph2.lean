/-! the reference: its table of graphs -/
def mt_K (μ : za_M) (s : Nat) : Nat := (μ.1 35 0 s).toNatClampNeg
def mt_T (μ : za_M) (s i : Nat) : gr_T := mo_g (μ.2 36 0 (11 * s + i))
def mt_C (μ : za_M) : Prop := μ.1 30 0 9 = 1
def mt_ok (μ : za_M) : Prop := (∀ s, s < 8 → μ.1 35 0 s = nI (mt_K μ s) ∧ mt_K μ s ≤ 11 ∧ ∀ i, i < mt_K μ s → mo_hz (μ.2 36 0 (11 * s + i))) ∧ (μ.1 30 0 9 = 0 ∨ μ.1 30 0 9 = 1) ∧ (μ.1 30 0 8 = 0 ∨ μ.1 30 0 8 = 1)
theorem zn_11 (s : Nat) : (11 : Int32) * nI s = nI (11 * s) := pk_mul 11 s
/-- a graph more -/
def mt_new (μ : za_M) (s : Nat) (w : Int64) : za_M := (za_u (za_u μ.1 35 0 s (nI (mt_K μ s + 1))) 30 0 8 (if mt_K μ s = 10 then 1 else 0), za_u μ.2 36 0 (11 * s + mt_K μ s) w)
set_option maxHeartbeats 8000000 in
theorem ct_M_takeGraph {Γ : zk_G} {d s : Nat} {x : Int32} {w : Int64} {μ : za_M} (hx : x = nI s) (hs : s < 8) (hok : μ.1 35 0 s = nI (mt_K μ s)) (h10 : mt_K μ s ≤ 10) (hd : 1 ≤ d) : zk_Ct zt Γ zm_M_takeGraph d 0 0 [za_r 30 0, za_i x, za_l w] μ (fun r μ' => r = none ∧ ((μ' = μ ∧ ∃ j, j < mt_K μ s ∧ μ.2 36 0 (11 * s + j) = w) ∨ (μ' = mt_new μ s w ∧ ∀ j, j < mt_K μ s → ¬ μ.2 36 0 (11 * s + j) = w))) (fun _ _ => False) := by
  have hcx : x.toNatClampNeg = s := zn_c hx (by omega)
  have hb : vp_in x 8 := zn_i hx hs (by decide)
  have ek : μ.1 35 0 x.toNatClampNeg = nI (mt_K μ s) := by rw [hcx]; exact hok
  refine zs_M_takeGraph (Nat.le_of_ble_eq_true rfl) hd (fun ZZ run => ?_)
  have loop := zn_for (σ := Int32) (N := mt_K μ s)
    (P := fun k v => ∀ y : Int32, y = nI k → ZZ 6 [some (za_r 30 0), some (za_i x), some (za_l w), none, some (za_i v), some (za_i y)] [] μ (0, 0))
    (I := fun k v => (v = 0 ∨ v = 1) ∧ (v = 1 ↔ ∃ j, j < k ∧ μ.2 36 0 (11 * s + j) = w))
    (fun v h y hy => by
      refine run [6] 60 6 _ _ _ _ ?_
      refine ⟨hb, fun _ => ?_, fun q => absurd (by rw [ek, hy]; exact Int32.le_refl _) q⟩
      refine ⟨fun hv => ?_, fun hv => ?_⟩
      · exact ⟨rfl, rfl, Nat.le_refl _, Nat.le_refl _, rfl, Or.inl ⟨rfl, h.2.mp (zn_or01 h.1 hv)⟩⟩
      · have e1 : (11 : Int32) * x + μ.1 35 0 x.toNatClampNeg = nI (11 * s + mt_K μ s) := by rw [ek, hx, zn_11, nI_add]
        have e2 : μ.1 35 0 x.toNatClampNeg + 1 = nI (mt_K μ s + 1) := by rw [ek]; exact nI_1 _
        have hno : ∀ j, j < mt_K μ s → ¬ μ.2 36 0 (11 * s + j) = w := fun j hj z => by
          have := h.2.mpr ⟨j, hj, z⟩
          rw [hv] at this
          exact absurd this (by decide)
        have e3 : za_u μ.1 35 0 x.toNatClampNeg (μ.1 35 0 x.toNatClampNeg + 1) 35 0 x.toNatClampNeg = nI (mt_K μ s + 1) := by rw [za_u_same, e2]
        refine ⟨hb, zn_i e1 (by omega) (by decide), hb, hb, hb, fun hq => ?_, fun hq => ?_⟩
        · refine ⟨Or.inl rfl, rfl, rfl, Nat.le_refl _, Nat.le_refl _, rfl, Or.inr ⟨?_, hno⟩⟩
          unfold mt_new
          have hq : nI (mt_K μ s + 1) ≤ (10 : Int32) := by rw [← e3]; exact hq
          rw [zn_c e1 (by omega), e2, hcx, if_neg (fun z => by rw [z] at hq; exact absurd hq (by decide))]
        · refine ⟨Or.inr rfl, rfl, rfl, Nat.le_refl _, Nat.le_refl _, rfl, Or.inr ⟨?_, hno⟩⟩
          unfold mt_new
          have hq : ¬ nI (mt_K μ s + 1) ≤ (10 : Int32) := by rw [← e3]; exact hq
          rw [zn_c e1 (by omega), e2, hcx, if_pos (Classical.byContradiction fun z => hq (nI_le (b := 10) (by omega) (by decide)))])
    (fun k v hk h ih y hy => by
      have e1 : (11 : Int32) * x + y = nI (11 * s + k) := by rw [hx, hy, zn_11, nI_add]
      have hc1 : ((11 : Int32) * x + y).toNatClampNeg = 11 * s + k := zn_c e1 (by omega)
      have yes : (∃ j, j < k + 1 ∧ μ.2 36 0 (11 * s + j) = w) → ZZ 6 [some (za_r 30 0), some (za_i x), some (za_l w), none, some (za_i 1), some (za_i (y + 1))] [] μ (0, 0) := fun q => ih 1 ⟨Or.inr rfl, fun _ => q, fun _ => rfl⟩ _ (zn_s hy)
      refine run [6] 60 6 _ _ _ _ ?_
      refine ⟨hb, fun q => absurd q (zn_ge hy ek hk (by omega)), fun _ => ⟨fun hv => ?_, fun hv => ⟨zn_i e1 (by omega) (by decide), fun hz => ?_, fun hz => ?_⟩⟩⟩
      · obtain ⟨j, z1, z2⟩ := h.2.mp (zn_or01 h.1 hv)
        exact yes ⟨j, by omega, z2⟩
      · rw [hc1, lg_cmp_eq] at hz
        refine ih 0 ⟨Or.inl rfl, fun q => absurd q (by decide), fun ⟨j, z1, z2⟩ => ?_⟩ _ (zn_s hy)
        by_cases e : j = k
        · subst e; exact absurd z2 hz
        · have := h.2.mpr ⟨j, by omega, z2⟩
          rw [hv] at this
          exact absurd this (by decide)
      · rw [hc1, lg_cmp_eq] at hz
        exact yes ⟨k, by omega, hz⟩)
  refine run [6] 60 0 _ _ _ _ ?_
  exact loop 0 0 (Nat.zero_le _) ⟨Or.inl rfl, fun q => absurd q (by decide), fun ⟨j, q, _⟩ => absurd q (Nat.not_lt_zero j)⟩ 0 rfl
/-- how many choices an occurrence has -/
def mt_n (g : gq_G) (p o : Nat) (K : Nat → Nat) : Nat := if o ≤ gq_m g p then K (gq_sy g p o) else 1
theorem ct_M_countOf {Γ : zk_G} {d p o : Nat} {x z : Int32} {μ : za_M} {g : gq_G} (hg : gq_ok g) (hM : gq_M g μ) (hok : mt_ok μ) (hx : x = nI p) (hz : z = nI o) (ho4 : o < 4) (hp : p < gq_np g) (hd : 1 ≤ d) : zk_Ct zt Γ zm_M_countOf d 0 0 [za_r 30 0, za_i x, za_i z] μ (fun r μ' => r = some (za_i (nI (mt_n g p o (mt_K μ)))) ∧ μ' = μ) (fun _ _ => False) := by
  have hp16 : p < 16 := Nat.lt_of_lt_of_le hp hg.2.1
  obtain ⟨o1, o2⟩ := gq_occ hM hx hz hp hp16 ho4
  refine zs_M_countOf (Nat.le_of_ble_eq_true rfl) hd (fun ZZ run => ?_)
  refine run [] 60 0 _ _ _ _ ?_
  unfold mt_n
  by_cases h : o ≤ gq_m g p
  · rw [if_pos h] at o2
    have hs8 := gq_sy8 hg hp h
    refine ⟨o1, fun _ => ⟨zn_i o2 hs8 (by decide), ?_⟩, fun q => absurd (by rw [o2]; exact Int32.not_lt.mp (gq_neg _ (by omega))) q⟩
    rw [zn_c o2 (by omega), (hok.1 _ hs8).1, if_pos h]
    exact ⟨rfl, Or.inl rfl, Nat.le_refl _, Nat.le_refl _, rfl, rfl⟩
  · rw [if_neg h] at o2
    refine ⟨o1, fun q => absurd q (by rw [o2]; decide), fun _ => ?_⟩
    rw [if_neg h]
    exact ⟨rfl, Or.inl rfl, Nat.le_refl _, Nat.le_refl _, rfl, rfl⟩
/-- steps with the graphs of the parts below n laid -/
def gr_En (g : gq_G) (p : Nat) (c : Nat → gr_T) (n x y : Nat) : Prop := x < 32 ∧ y < 32 ∧ (bt (gq_nd g p x) y = true ∨ (1 ≤ x / 8 ∧ x / 8 < n ∧ x / 8 ≤ gq_m g p ∧ y / 8 = x / 8 ∧ c (x / 8) (x % 8) (y % 8) = true))
theorem gr_En4 {g : gq_G} (hg : gq_ok g) {p : Nat} (hp : p < gq_np g) (c : Nat → gr_T) (x y : Nat) : gr_En g p c 4 x y ↔ gr_E g p c x y := by
  have hm := (hg.2.2.2.2.1 p hp).1
  unfold gr_En gr_E
  constructor
  · rintro ⟨h1, h2, h3 | ⟨a, b, d, e⟩⟩
    · exact ⟨h1, h2, Or.inl h3⟩
    · exact ⟨h1, h2, Or.inr ⟨a, d, e⟩⟩
  · rintro ⟨h1, h2, h3 | ⟨a, d, e⟩⟩
    · exact ⟨h1, h2, Or.inl h3⟩
    · exact ⟨h1, h2, Or.inr ⟨a, by omega, d, e⟩⟩
theorem gr_Ens {g : gq_G} {p o : Nat} (ho1 : 1 ≤ o) (ho : o < 4) (hle : o ≤ gq_m g p) {c : Nat → gr_T} {w : Int64} (hw : c o = mo_g w) {r r' : Nat → Int32} (hr : ∀ x y, x < 32 → (bt (r x) y = true ↔ gr_En g p c o x y)) (hr' : ∀ i, i < 32 → r' i = mo_ag r o w 6 i) (x y : Nat) (hx : x < 32) : bt (r' x) y = true ↔ gr_En g p c (o + 1) x y := by
  rw [hr' x hx, mo_ag_bt ho, hr x y hx, ← hw]
  unfold gr_En
  constructor
  · rintro (⟨h1, h2, h3 | ⟨a, b, d, e⟩⟩ | ⟨a, b, d⟩)
    · exact ⟨h1, h2, Or.inl h3⟩
    · exact ⟨h1, h2, Or.inr ⟨a, by omega, d, e⟩⟩
    · exact ⟨hx, by omega, Or.inr ⟨by omega, by omega, by omega, by omega, by rw [a]; exact d⟩⟩
  · rintro ⟨h1, h2, h3 | ⟨a, b, d, e, f⟩⟩
    · exact Or.inl ⟨h1, h2, Or.inl h3⟩
    · by_cases q : x / 8 = o
      · exact Or.inr ⟨q, by omega, by rw [← q]; exact f⟩
      · exact Or.inl ⟨h1, h2, Or.inr ⟨a, by omega, d, e, f⟩⟩
theorem gr_Enk {g : gq_G} {p o : Nat} (hle : ¬ o ≤ gq_m g p) {c : Nat → gr_T} {r : Nat → Int32} (hr : ∀ x y, x < 32 → (bt (r x) y = true ↔ gr_En g p c o x y)) (x y : Nat) (hx : x < 32) : bt (r x) y = true ↔ gr_En g p c (o + 1) x y := by
  rw [hr x y hx]
  unfold gr_En
  constructor
  · rintro ⟨h1, h2, h3 | ⟨a, b, d, e⟩⟩
    · exact ⟨h1, h2, Or.inl h3⟩
    · exact ⟨h1, h2, Or.inr ⟨a, by omega, d, e⟩⟩
  · rintro ⟨h1, h2, h3 | ⟨a, b, d, e⟩⟩
    · exact ⟨h1, h2, Or.inl h3⟩
    · exact ⟨h1, h2, Or.inr ⟨a, by omega, d, e⟩⟩
/-- the head's graph is the head's graph -/
theorem mo_hg_is {g : gq_G} (hg : gq_ok g) {p : Nat} (hp : p < gq_np g) {c : Nat → gr_T} {r : Nat → Int32} (hr : ∀ x y, x < 32 → (bt (r x) y = true ↔ gr_P g p c x y)) : gr_is g p c (mo_g (mo_hg r (gq_dn g (gq_sy g p 0)) (gq_at g (gq_sy g p 0)))) ∧ mo_hz (mo_hg r (gq_dn g (gq_sy g p 0)) (gq_at g (gq_sy g p 0))) := by
  have hsn : gq_sy g p 0 < gq_ns g := (hg.2.2.2.2.1 p hp).2 0 (Nat.zero_le _)
  obtain ⟨hat6, hdb⟩ := hg.2.2.1 _ hsn
  have hdn : ∀ b, bt (gq_dn g (gq_sy g p 0)) b = true → b < 6 := fun b q => by have := hdb b q; omega
  refine ⟨fun a b => ?_, mo_hg_hz r hdn hat6⟩
  unfold mo_g
  rw [Bool.and_eq_true, Bool.and_eq_true, decide_eq_true_eq, decide_eq_true_eq]
  constructor
  · rintro ⟨h1, h2, h3⟩
    rw [mo_hg_bl r hdn _ hat6 _ (by omega), show (6 * a + b) / 6 = a by omega, show (6 * a + b) % 6 = b by omega, Bool.and_eq_true, Bool.and_eq_true, Bool.and_eq_true] at h3
    exact ⟨by omega, by omega, (hr a b (by omega)).mp h3.2.2.1⟩
  · rintro ⟨h1, h2, h3⟩
    obtain ⟨q1, q2, q3, q4, q5⟩ := gr_b6 hg hp h1 h2 h3
    refine ⟨q1, q2, ?_⟩
    rw [mo_hg_bl r hdn _ hat6 _ (by omega), show (6 * a + b) / 6 = a by omega, show (6 * a + b) % 6 = b by omega, Bool.and_eq_true, Bool.and_eq_true, Bool.and_eq_true, decide_eq_true_eq, q4]
    exact ⟨q3, rfl, (hr a b (by omega)).mpr h3, q5⟩
