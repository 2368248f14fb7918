/-! bits of longs -/
def bl (x : Int64) (i : Nat) : Bool := x.toBitVec.getLsbD i
theorem bl_ext {x y : Int64} (h : ∀ i, i < 64 → bl x i = bl y i) : x = y := Int64.toBitVec_inj.mp (BitVec.eq_of_getLsbD_eq (fun i hi => h i hi))
theorem bl_or (x y : Int64) (i : Nat) : bl (x ||| y) i = (bl x i || bl y i) := by unfold bl; rw [Int64.toBitVec_or, BitVec.getLsbD_or]
theorem bl_and (x y : Int64) (i : Nat) : bl (x &&& y) i = (bl x i && bl y i) := by unfold bl; rw [Int64.toBitVec_and, BitVec.getLsbD_and]
theorem bl_0 (i : Nat) : bl 0 i = false := BitVec.getLsbD_zero
theorem bl_big {x : Int64} {i : Nat} (h : 64 ≤ i) : bl x i = false := BitVec.getLsbD_of_ge _ _ h
theorem bl_c : ∀ k, k < 64 → ((nI k).toInt64 &&& 63) = lN k := by decide +kernel
theorem bl_cu : ∀ k, k < 64 → ((nI k).toInt64.toUInt64 &&& Int64.toUInt64 63) = UInt64.ofNat k := by decide +kernel
theorem bl_sm : ∀ k, k < 64 → ((BitVec.ofNat 64 k).smod 64).toNat = k := by decide +kernel
theorem bl_ushr (k : Nat) (hk : k < 64) (w : Int64) (i : Nat) : bl ((w.toUInt64 >>> ((nI k).toInt64.toUInt64 &&& Int64.toUInt64 63)).toInt64) i = bl w (k + i) := by
  rw [bl_cu k hk]
  have e : (w.toUInt64 >>> UInt64.ofNat k).toInt64.toBitVec = w.toBitVec >>> k := by
    apply BitVec.eq_of_toNat_eq
    show (w.toUInt64 >>> UInt64.ofNat k).toNat = _
    have h1 : (UInt64.ofNat k).toNat = k := by
      show (BitVec.ofNat 64 k).toNat = k
      rw [BitVec.toNat_ofNat, Nat.mod_eq_of_lt (by omega)]
    rw [UInt64.toNat_shiftRight, h1, Nat.mod_eq_of_lt hk, BitVec.toNat_ushiftRight]
    rfl
  unfold bl
  rw [e, BitVec.getLsbD_ushiftRight]
theorem bl_shl (k : Nat) (hk : k < 64) (w : Int64) {i : Nat} (hi : i < 64) : bl (w <<< ((nI k).toInt64 &&& 63)) i = (decide (k ≤ i) && bl w (i - k)) := by
  rw [bl_c k hk]
  unfold bl
  rw [Int64.toBitVec_shiftLeft, show (lN k).toBitVec = BitVec.ofNat 64 k from rfl, BitVec.shiftLeft_eq', bl_sm k hk, BitVec.getLsbD_shiftLeft, decide_eq_true hi, Bool.true_and]
  by_cases h : k ≤ i
  · rw [decide_eq_true h, show decide (i < k) = false from decide_eq_false (by omega)]; rfl
  · rw [decide_eq_false h, show decide (i < k) = true from decide_eq_true (by omega)]; rfl
theorem bl_l2i (x : Int64) {i : Nat} (hi : i < 32) : bt x.toInt32 i = bl x i := by
  unfold bt bl
  rw [Int64.toBitVec_toInt32, BitVec.getLsbD_signExtend, decide_eq_true hi, Bool.true_and, if_pos (by omega)]
theorem bl_i2l (x : Int32) {i : Nat} (hi : i < 64) : bl x.toInt64 i = if i < 32 then bt x i else bt x 31 := by
  unfold bt bl
  rw [Int32.toBitVec_toInt64, BitVec.getLsbD_signExtend, decide_eq_true hi, Bool.true_and, BitVec.msb_eq_getLsbD_last]
theorem bl_byte (x : Int32) {i : Nat} (hi : i < 64) : bl (x &&& 255).toInt64 i = (decide (i < 8) && bt x i) := by
  rw [bl_i2l _ hi]
  split
  · rw [b_and, b_255, Bool.and_comm]
  · rw [b_and, b_255, decide_eq_false (show ¬ i < 8 by omega), decide_eq_false (show ¬ 31 < 8 by decide), Bool.and_false, Bool.false_and]
theorem zn_8a (a : Nat) : (8 : Int32) * nI a = nI (8 * a) := pk_mul 8 a
/-- a row of a relation -/
theorem rw_of_bt (rel : Int64) {a b : Nat} (ha : a < 8) (hb : b < 32) : bt (rw_of rel a) b = (decide (b < 8) && bl rel (8 * a + b)) := by
  unfold rw_of
  rw [zn_8a, b_and, b_255, bl_l2i _ hb, bl_ushr (8 * a) (by omega), Bool.and_comm]
/-- a relation out of rows -/
theorem bd_rk_bl (r : Nat → Int32) {o : Nat} (ho : o < 4) : ∀ k, k ≤ 6 → ∀ j, j < 64 → bl (bd_rk r o k) j = (decide (j / 8 < k) && bt (r (8 * o + j / 8)) (8 * o + j % 8))
  | 0, _, j, hj => by rw [bd_rk, bl_0, decide_eq_false (Nat.not_lt_zero _), Bool.false_and]
  | k + 1, hk, j, hj => by
    rw [bd_rk, bl_or, bd_rk_bl r ho k (by omega) j hj, zn_8a, bl_shl (8 * k) (by omega) _ hj]
    by_cases h1 : j / 8 = k
    · rw [decide_eq_false (show ¬ j / 8 < k by omega), decide_eq_true (show j / 8 < k + 1 by omega), Bool.false_and, Bool.false_or, decide_eq_true (show 8 * k ≤ j by omega), bl_byte _ (by omega), decide_eq_true (show j - 8 * k < 8 by omega), b_ushr (8 * o) (by omega), show j - 8 * k = j % 8 by omega, h1, Bool.true_and]
    · by_cases h2 : j / 8 < k
      · rw [decide_eq_true h2, decide_eq_true (show j / 8 < k + 1 by omega), decide_eq_false (show ¬ 8 * k ≤ j by omega), Bool.false_and, Bool.or_false]
      · rw [decide_eq_false h2, decide_eq_false (show ¬ j / 8 < k + 1 by omega), Bool.false_and, Bool.false_or, decide_eq_true (show 8 * k ≤ j by omega), bl_byte _ (by omega), decide_eq_false (show ¬ j - 8 * k < 8 by omega), Bool.true_and, Bool.false_and]
/-! A BOARD: its rows hold what goes on at S, its mark tells of a circle there -/
def bd_S (μ : za_M) (J : Nat) (S : Nat → Prop) (E : Nat → Nat → Prop) : Prop := rl_is (μ.1 19 J) S E ∧ (μ.1 18 J 1 = 0 ∨ μ.1 18 J 1 = 1) ∧ (μ.1 18 J 1 = 1 ↔ rl_ci S E)
theorem bd_Sc {μ : za_M} {J : Nat} {S S' : Nat → Prop} {E E' : Nat → Nat → Prop} (h : bd_S μ J S E) (hS : ∀ v, S v ↔ S' v) (hE : ∀ a b, E a b ↔ E' a b) : bd_S μ J S' E' := ⟨rl_congr h.1 hS hE, h.2.1, h.2.2.trans (rl_ci_congr hS hE)⟩
theorem rl_isc {r r' : Nat → Int32} {S : Nat → Prop} {E : Nat → Nat → Prop} (h : rl_is r S E) (hr : ∀ i, i < 32 → r' i = r i) : rl_is r' S E := fun x y hx => by rw [hr x hx]; exact h x y hx
theorem bd_Sm {μ μ' : za_M} {J J' : Nat} {S : Nat → Prop} {E : Nat → Nat → Prop} (h : bd_S μ J S E) (h19 : ∀ i, i < 32 → μ'.1 19 J' i = μ.1 19 J i) (h18 : μ'.1 18 J' 1 = μ.1 18 J 1) : bd_S μ' J' S E := ⟨rl_isc h.1 h19, by rw [h18]; exact h.2.1, by rw [h18]; exact h.2.2⟩
/-- the production's own steps -/
def bd_N (g : gq_G) (p : Nat) (x y : Nat) : Prop := x < 32 ∧ y < 32 ∧ bt (gq_nd g p x) y = true
theorem bd_S0 {g : gq_G} {p J : Nat} {μ : za_M} (h19 : ∀ i, i < 32 → μ.1 19 J i = gq_nd g p i) (h18 : μ.1 18 J 1 = 0) : bd_S μ J (fun _ => False) (bd_N g p) := by
  refine ⟨rl_base (fun x y hx => ?_), Or.inl h18, ?_⟩
  · rw [h19 x hx]
    refine ⟨fun h => ⟨hx, Classical.byContradiction fun q => ?_, h⟩, fun h => h.2.2⟩
    rw [b_big (by omega)] at h
    cases h
  · rw [h18]
    exact ⟨fun q => absurd q (by decide), fun ⟨u, q, _⟩ => q.elim⟩
/-- a relation laid at an occurrence -/
def bd_F (o : Nat) (rel : Int64) (x y : Nat) : Prop := x / 8 = o ∧ x % 8 < 6 ∧ y / 8 = o ∧ bl rel (8 * (x % 8) + y % 8) = true
theorem bd_lay_bt {r : Nat → Int32} {o : Nat} (ho : o < 4) (rel : Int64) (x y : Nat) : bt (bd_lay r o rel x) y = true ↔ (bt (r x) y = true ∨ bd_F o rel x y) := by
  unfold bd_lay bd_F
  by_cases hy : y < 32
  · by_cases c : 8 * o ≤ x ∧ x < 8 * o + 6
    · rw [if_pos c, b_or, bt_shl8 _ ho hy, Bool.or_eq_true, Bool.and_eq_true, decide_eq_true_eq]
      constructor
      · rintro (h | ⟨h1, h2⟩)
        · exact Or.inl h
        · rw [rw_of_bt _ (by omega) (by omega), Bool.and_eq_true, decide_eq_true_eq] at h2
          refine Or.inr ⟨by omega, by omega, by omega, ?_⟩
          rw [show 8 * (x % 8) + y % 8 = 8 * (x - 8 * o) + (y - 8 * o) by omega]
          exact h2.2
      · rintro (h | ⟨h1, h2, h3, h4⟩)
        · exact Or.inl h
        · refine Or.inr ⟨by omega, ?_⟩
          rw [rw_of_bt _ (by omega) (by omega), Bool.and_eq_true, decide_eq_true_eq]
          refine ⟨by omega, ?_⟩
          rw [show 8 * (x - 8 * o) + (y - 8 * o) = 8 * (x % 8) + y % 8 by omega]
          exact h4
    · rw [if_neg c]
      exact ⟨Or.inl, fun q => q.elim id (fun q => absurd ⟨by omega, by omega⟩ c)⟩
  · rw [b_big (by omega), b_big (by omega)]
    exact ⟨fun q => (by cases q), fun q => q.elim (fun q => by cases q) (fun q => by omega)⟩
/-- laid and joined -/
theorem bd_SJ {J o : Nat} (ho : o < 4) {rel : Int64} {μ μ1 μ2 : za_M} {S : Nat → Prop} {E : Nat → Nat → Prop} (h : bd_S μ J S E) (hS : ∀ v, S v → v / 8 ≠ o)
    (h1 : ∀ i, i < 32 → μ1.1 19 J i = bd_lay (μ.1 19 J) o rel i) (h18 : μ1.1 18 J 1 = μ.1 18 J 1) (h2 : ∀ i, i < 32 → μ2.1 19 J i = bd_jk (μ1.1 19 J) o 6 i) (h3 : μ2.1 18 J 1 = bd_ck (μ1.1 19 J) o (μ1.1 18 J 1) 6) :
    bd_S μ2 J (fun v => S v ∨ (v / 8 = o ∧ v % 8 < 6)) (fun x y => E x y ∨ bd_F o rel x y) := by
  have hF : ∀ a b, bd_F o rel a b → ¬ S a ∧ ¬ S b := fun a b q => ⟨fun z => hS a z q.1, fun z => hS b z q.2.2.1⟩
  have k1 : rl_is (μ1.1 19 J) S (fun x y => E x y ∨ bd_F o rel x y) := rl_lay h.1 hF (fun x y hx => by rw [h1 x hx]; exact bd_lay_bt ho rel x y)
  have k2 : μ1.1 18 J 1 = 1 ↔ rl_ci S (fun x y => E x y ∨ bd_F o rel x y) := by rw [h18, rl_ci_lay hF]; exact h.2.2
  have k3 : μ1.1 18 J 1 = 0 ∨ μ1.1 18 J 1 = 1 := by rw [h18]; exact h.2.1
  have hset : ∀ v, (S v ∨ (8 * o ≤ v ∧ v < 8 * o + 6)) ↔ (S v ∨ (v / 8 = o ∧ v % 8 < 6)) := fun v => ⟨fun q => q.elim Or.inl (fun q => Or.inr (by omega)), fun q => q.elim Or.inl (fun q => Or.inr (by omega))⟩
  obtain ⟨c1, c2⟩ := bd_ck_is ho k1 k3 k2 6 (Nat.le_refl 6)
  refine ⟨rl_isc (rl_congr (bd_jk_is ho k1 6 (Nat.le_refl 6)) hset (fun _ _ => Iff.rfl)) h2, by rw [h3]; exact c1, ?_⟩
  rw [h3]
  exact c2.trans (rl_ci_congr hset (fun _ _ => Iff.rfl))
