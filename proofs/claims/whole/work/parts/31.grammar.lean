/-! THE GRAMMAR as a value; what class and reference hold of it -/
/-- symbols: how many, their attributes, which are down; productions: how many, their parts, symbols by occurrence, dependences by place -/
abbrev gq_G : Type := (Nat × (Nat → Nat) × (Nat → Int32)) × (Nat × (Nat → Nat) × (Nat → Nat → Nat) × (Nat → Nat → Int32))
def gq_ns (g : gq_G) : Nat := g.1.1
def gq_at (g : gq_G) (s : Nat) : Nat := g.1.2.1 s
def gq_dn (g : gq_G) (s : Nat) : Int32 := g.1.2.2 s
def gq_np (g : gq_G) : Nat := g.2.1
def gq_m (g : gq_G) (p : Nat) : Nat := g.2.2.1 p
def gq_sy (g : gq_G) (p o : Nat) : Nat := g.2.2.2.1 p o
def gq_nd (g : gq_G) (p x : Nat) : Int32 := g.2.2.2.2 p x
/-- a place of a production that is there; one that the production defines; one that is given to it -/
def gq_th (g : gq_G) (p x : Nat) : Prop := x / 8 ≤ gq_m g p ∧ x % 8 < gq_at g (gq_sy g p (x / 8))
def gq_df (g : gq_G) (p x : Nat) : Prop := gq_th g p x ∧ (bt (gq_dn g (gq_sy g p (x / 8))) (x % 8) = true ↔ 7 < x)
def gq_gv (g : gq_G) (p x : Nat) : Prop := gq_th g p x ∧ ¬ (bt (gq_dn g (gq_sy g p (x / 8))) (x % 8) = true ↔ 7 < x)
def gq_ok (g : gq_G) : Prop := gq_ns g ≤ 8 ∧ gq_np g ≤ 16 ∧ (∀ s, s < gq_ns g → gq_at g s ≤ 6 ∧ ∀ a, bt (gq_dn g s) a = true → a < gq_at g s) ∧ (0 < gq_ns g → gq_dn g 0 = 0) ∧ (∀ p, p < gq_np g → gq_m g p ≤ 3 ∧ ∀ o, o ≤ gq_m g p → gq_sy g p o < gq_ns g) ∧ (∀ p x y, p < gq_np g → x < 32 → bt (gq_nd g p x) y = true → gq_df g p x ∧ gq_gv g p y)
/-- the reference's memory -/
def gq_M (g : gq_G) (μ : za_M) : Prop := μ.1 30 0 1 = nI (gq_ns g) ∧ μ.1 30 0 4 = nI (gq_np g) ∧ (∀ s, s < gq_ns g → μ.1 31 0 s = nI (gq_at g s) ∧ μ.1 32 0 s = gq_dn g s) ∧ (∀ p o, p < gq_np g → o < 4 → μ.1 33 0 (4 * p + o) = if o ≤ gq_m g p then nI (gq_sy g p o) else -1) ∧ (∀ p x, p < 16 → x < 32 → μ.1 34 0 (32 * p + x) = if p < gq_np g then gq_nd g p x else 0)
/-- the class's memory -/
def gq_C (g : gq_G) (μ : za_M) : Prop := μ.1 1 0 0 = nI (gq_ns g) ∧ μ.1 1 0 3 = nI (gq_np g) ∧ (∀ s, s < gq_ns g → μ.1 2 0 s = nI (gq_at g s) ∧ μ.1 3 0 s = gq_dn g s) ∧ (∀ p, p < gq_np g → μ.1 4 0 p = nI (gq_m g p) ∧ (∀ o, o ≤ gq_m g p → μ.1 6 p o = nI (gq_sy g p o)) ∧ (∀ x, x < 32 → μ.1 8 p x = gq_nd g p x) ∧ (∀ x, x < 32 → (bt (μ.1 9 0 p) x = true ↔ gq_df g p x)) ∧ (∀ x, x < 32 → (bt (μ.1 10 0 p) x = true ↔ gq_gv g p x)))
theorem gq_M_fr {g : gq_G} {S : Nat → Nat → Prop} {μ μ' : za_M} (h : gq_M g μ) (hf : zq_fr S μ μ') (h1 : ¬ S 31 0) (h2 : ¬ S 32 0) (h3 : ¬ S 33 0) (h4 : ¬ S 34 0) (h5 : μ'.1 30 0 1 = μ.1 30 0 1) (h6 : μ'.1 30 0 4 = μ.1 30 0 4) : gq_M g μ' := by
  unfold gq_M at h ⊢
  rw [h5, h6, hf.1 31 0 h1, hf.1 32 0 h2, hf.1 33 0 h3, hf.1 34 0 h4]
  exact h
theorem gq_C_fr {g : gq_G} {S : Nat → Nat → Prop} {μ μ' : za_M} (h : gq_C g μ) (hf : zq_fr S μ μ') (hS : ∀ b j, b ≤ 10 → ¬ S b j) : gq_C g μ' := by
  unfold gq_C at h ⊢
  rw [hf.1 1 0 (hS 1 0 (by decide)), hf.1 2 0 (hS 2 0 (by decide)), hf.1 3 0 (hS 3 0 (by decide)), hf.1 4 0 (hS 4 0 (by decide)), hf.1 9 0 (hS 9 0 (by decide)), hf.1 10 0 (hS 10 0 (by decide))]
  refine ⟨h.1, h.2.1, h.2.2.1, fun p hp => ?_⟩
  rw [hf.1 6 p (hS 6 p (by decide)), hf.1 8 p (hS 8 p (by decide))]
  exact h.2.2.2 p hp
/-- a symbol's number is in range -/
theorem gq_sy8 {g : gq_G} (hg : gq_ok g) {p o : Nat} (hp : p < gq_np g) (ho : o ≤ gq_m g p) : gq_sy g p o < 8 := Nat.lt_of_lt_of_le ((hg.2.2.2.2.1 p hp).2 o ho) hg.1
theorem gq_occ {g : gq_G} {μ : za_M} (h : gq_M g μ) {p o : Nat} {x y : Int32} (hx : x = nI p) (hy : y = nI o) (hp : p < gq_np g) (hp16 : p < 16) (ho : o < 4) : vp_in (4 * x + y) 64 ∧ μ.1 33 0 (4 * x + y).toNatClampNeg = if o ≤ gq_m g p then nI (gq_sy g p o) else -1 := by
  have e : (4 : Int32) * x + y = nI (4 * p + o) := by rw [hx, hy, show (4 : Int32) * nI p = nI (4 * p) from pk_mul 4 p, nI_add]
  rw [e, zn_cl (by omega)]
  exact ⟨zn_in (by omega) (by decide), h.2.2.2.1 p o hp ho⟩
theorem gq_neg (k : Nat) (h : k < 2 ^ 31) : ¬ nI k < 0 := nI_pos h
theorem gq_m1 : (-1 : Int32) < 0 := by decide
