/-! the reference: graphs, its small methods -/
theorem bl_sshr (k : Nat) (hk : k < 64) (w : Int64) {i : Nat} (hi : k + i < 64) : bl (w >>> ((nI k).toInt64 &&& 63)) i = bl w (k + i) := by
  rw [bl_c k hk]
  unfold bl
  rw [Int64.toBitVec_shiftRight]
  show (w.toBitVec.sshiftRight ((BitVec.ofNat 64 k).smod 64).toNat).getLsbD i = _
  rw [bl_sm k hk, BitVec.getLsbD_sshiftRight]
  simp [hi, show i < 64 by omega]
theorem bl_63 : ∀ i, i < 64 → bl 63 i = decide (i < 6) := by decide +kernel
theorem zn_6a (a : Nat) : (6 : Int32) * nI a = nI (6 * a) := pk_mul 6 a
/-- the reference's long as a graph -/
def mo_g (w : Int64) : gr_T := fun a b => decide (a < 6) && (decide (b < 6) && bl w (6 * a + b))
def mo_hz (w : Int64) : Prop := ∀ j, 36 ≤ j → bl w j = false
theorem mo_g_inj {w w' : Int64} (h : mo_hz w) (h' : mo_hz w') : mo_g w = mo_g w' ↔ w = w' := by
  refine ⟨fun e => bl_ext fun j hj => ?_, fun e => by rw [e]⟩
  by_cases c : j < 36
  · have := congrFun (congrFun e (j / 6)) (j % 6)
    unfold mo_g at this
    rw [decide_eq_true (show j / 6 < 6 by omega), decide_eq_true (show j % 6 < 6 by omega), Bool.true_and, Bool.true_and, show 6 * (j / 6) + j % 6 = j by omega] at this
    exact this
  · rw [h j (by omega), h' j (by omega)]
/-- a graph laid at an occurrence -/
def mo_ag (r : Nat → Int32) (o : Nat) (w : Int64) (n i : Nat) : Int32 := if i / 8 = o ∧ i % 8 < n then r i ||| (((w >>> ((nI (6 * (i % 8))).toInt64 &&& 63)) &&& 63).toInt32 <<< (nI (8 * o) &&& 31)) else r i
theorem mo_ag_bt {r : Nat → Int32} {o : Nat} (ho : o < 4) (w : Int64) (x y : Nat) : bt (mo_ag r o w 6 x) y = true ↔ (bt (r x) y = true ∨ (x / 8 = o ∧ y / 8 = o ∧ mo_g w (x % 8) (y % 8) = true)) := by
  unfold mo_ag mo_g
  by_cases hy : y < 32
  · by_cases c : x / 8 = o ∧ x % 8 < 6
    · rw [if_pos c, b_or, bt_shl8 _ ho hy, Bool.or_eq_true, Bool.and_eq_true, decide_eq_true_eq, decide_eq_true c.2, Bool.true_and, Bool.and_eq_true, decide_eq_true_eq]
      constructor
      · rintro (h | ⟨h1, h2⟩)
        · exact Or.inl h
        · rw [bl_l2i _ (by omega), bl_and, bl_63 _ (by omega), Bool.and_eq_true, decide_eq_true_eq, bl_sshr _ (by omega) _ (by omega)] at h2
          refine Or.inr ⟨c.1, by omega, by omega, ?_⟩
          rw [show y % 8 = y - 8 * o by omega]
          exact h2.1
      · rintro (h | ⟨h1, h2, h3, h4⟩)
        · exact Or.inl h
        · refine Or.inr ⟨by omega, ?_⟩
          rw [bl_l2i _ (by omega), bl_and, bl_63 _ (by omega), Bool.and_eq_true, decide_eq_true_eq, bl_sshr _ (by omega) _ (by omega), show y - 8 * o = y % 8 by omega]
          exact ⟨h4, h3⟩
    · rw [if_neg c]
      refine ⟨Or.inl, fun q => q.elim id (fun ⟨q1, q2, q3⟩ => absurd ⟨q1, ?_⟩ c)⟩
      rw [Bool.and_eq_true, decide_eq_true_eq] at q3
      exact q3.1
  · have hf : ∀ z : Int32, bt z y = false := fun z => b_big (by omega)
    rw [hf, hf]
    exact ⟨fun q => (by cases q), fun q => q.elim (fun q => by cases q) (fun q => by omega)⟩
set_option maxHeartbeats 4000000 in
theorem ct_M_addGraph {Γ : zk_G} {d o : Nat} {x : Int32} {w : Int64} {μ : za_M} (hx : x = nI o) (ho : o < 4) (hd : 1 ≤ d) : zk_Ct zt Γ zm_M_addGraph d 0 0 [za_r 30 0, za_i x, za_l w] μ (fun r μ' => r = none ∧ (∀ i, i < 32 → μ'.1 38 0 i = mo_ag (μ.1 38 0) o w 6 i) ∧ zq_fr (fun b j => b = 38 ∧ j = 0) μ μ') (fun _ _ => False) := by
  refine zs_M_addGraph (Nat.le_of_ble_eq_true rfl) hd (fun ZZ run => ?_)
  have loop := zn_for (σ := za_M) (N := 6)
    (P := fun k μ1 => ∀ y : Int32, y = nI k → ZZ 3 [some (za_r 30 0), some (za_i x), some (za_l w), none, some (za_i y)] [] μ1 (0, 0))
    (I := fun k μ1 => (∀ i, i < 32 → μ1.1 38 0 i = mo_ag (μ.1 38 0) o w k i) ∧ zq_fr (fun b j => b = 38 ∧ j = 0) μ μ1)
    (fun μ1 h y hy => by
      refine run [3] 60 3 _ _ _ _ ?_
      refine ⟨fun _ => ?_, fun q => absurd (by rw [hy]; exact nI_le (Nat.le_refl 6) (by decide)) q⟩
      exact ⟨rfl, rfl, Nat.le_refl _, Nat.le_refl _, rfl, h⟩)
    (fun k μ1 hk h ih y hy => by
      have e1 : (8 : Int32) * x + y = nI (8 * o + k) := by rw [hx, hy, zn_8, nI_add]
      have e2 : (8 : Int32) * x = nI (8 * o) := by rw [hx, zn_8]
      have e3 : (6 : Int32) * y = nI (6 * k) := by rw [hy, zn_6a]
      have hb : vp_in ((8 : Int32) * x + y) 32 := zn_i e1 (by omega) (by decide)
      refine run [3] 60 3 _ _ _ _ ?_
      refine ⟨fun q => absurd q (zn_ge hy rfl hk (by decide)), fun _ => ⟨hb, hb, ?_⟩⟩
      refine ih _ ⟨fun i hi => ?_, zq_u h.2 ⟨rfl, rfl⟩⟩ _ (zn_s hy)
      dsimp only
      rw [zn_c e1 (by omega), e2, e3]
      by_cases e : i = 8 * o + k
      · subst e
        rw [za_u_same, h.1 _ hi, mo_ag, if_neg (by omega), mo_ag, if_pos (by omega), show (8 * o + k) % 8 = k by omega]
        rfl
      · rw [za_u_i e, h.1 i hi, mo_ag, mo_ag]
        by_cases c : i / 8 = o ∧ i % 8 < k
        · rw [if_pos c, if_pos (by omega)]
        · rw [if_neg c, if_neg (by omega)])
  refine run [3] 60 0 _ _ _ _ ?_
  exact loop 0 μ (Nat.zero_le _) ⟨fun i hi => by rw [mo_ag, if_neg (by omega)], zq_rf⟩ 0 rfl
/-- the head's graph out of rows -/
def mo_hg (r : Nat → Int32) (dn : Int32) : Nat → Int64
  | 0 => 0
  | k + 1 => if bt dn k = true then mo_hg r dn k else mo_hg r dn k ||| ((r k &&& dn).toInt64 <<< ((nI (6 * k)).toInt64 &&& 63))
theorem mo_hg_bl (r : Nat → Int32) {dn : Int32} (hdn : ∀ b, bt dn b = true → b < 6) : ∀ k, k ≤ 6 → ∀ j, j < 64 → bl (mo_hg r dn k) j = (decide (j / 6 < k) && (!bt dn (j / 6) && (bt (r (j / 6)) (j % 6) && bt dn (j % 6))))
  | 0, _, j, hj => by rw [mo_hg, bl_0, decide_eq_false (Nat.not_lt_zero _), Bool.false_and]
  | k + 1, hk, j, hj => by
    have hnd : ∀ i, i < 64 → bl (r k &&& dn).toInt64 i = (bt (r k) i && bt dn i) := fun i hi => by
      rw [bl_i2l _ hi]
      split
      · exact b_and _ _ _
      · rw [b_and]
        cases h1 : bt dn 31 with
        | true => have := hdn _ h1; omega
        | false =>
          cases h2 : bt dn i with
          | true => have := hdn _ h2; omega
          | false => rw [Bool.and_false, Bool.and_false]
    have hge : ∀ i, 6 ≤ i → bt dn i = false := fun i hi => by
      cases h : bt dn i with
      | true => have := hdn _ h; omega
      | false => rfl
    have ih := mo_hg_bl r hdn k (by omega) j hj
    rw [mo_hg]
    by_cases h1 : j / 6 = k
    · by_cases h0 : bt dn k = true
      · rw [if_pos h0, ih, decide_eq_false (show ¬ j / 6 < k by omega), h1, h0]
        simp
      · rw [if_neg h0, bl_or, ih, bl_shl _ (by omega) _ hj, hnd _ (by omega), decide_eq_false (show ¬ j / 6 < k by omega), decide_eq_true (show 6 * k ≤ j by omega), decide_eq_true (show j / 6 < k + 1 by omega), show j - 6 * k = j % 6 by omega, h1, Bool.eq_false_iff.mpr h0]
        simp
    · have key : bl (mo_hg r dn k ||| ((r k &&& dn).toInt64 <<< ((nI (6 * k)).toInt64 &&& 63))) j = bl (mo_hg r dn k) j := by
        rw [bl_or, bl_shl _ (by omega) _ hj]
        by_cases c : 6 * k ≤ j
        · rw [hnd _ (by omega), hge (j - 6 * k) (by omega), Bool.and_false, Bool.and_false, Bool.or_false]
        · rw [decide_eq_false c, Bool.false_and, Bool.or_false]
      have hd : decide (j / 6 < k + 1) = decide (j / 6 < k) := by
        by_cases c : j / 6 < k
        · rw [decide_eq_true c, decide_eq_true (by omega)]
        · rw [decide_eq_false c, decide_eq_false (by omega)]
      rw [hd, ← ih]
      split
      · rfl
      · exact key
theorem mo_hg_hz (r : Nat → Int32) {dn : Int32} (hdn : ∀ b, bt dn b = true → b < 6) {k : Nat} (hk : k ≤ 6) : mo_hz (mo_hg r dn k) := by
  intro j hj
  by_cases c : j < 64
  · rw [mo_hg_bl r hdn k hk j c, decide_eq_false (by omega), Bool.false_and]
  · exact bl_big (by omega)
set_option maxHeartbeats 4000000 in
theorem ct_M_headGraph {Γ : zk_G} {d p : Nat} {x : Int32} {μ : za_M} {g : gq_G} (hg : gq_ok g) (hM : gq_M g μ) (hx : x = nI p) (hp : p < gq_np g) (hd : 2 ≤ d) : zk_Ct zt Γ zm_M_headGraph d 0 0 [za_r 30 0, za_i x] μ (fun r μ' => r = some (za_l (mo_hg (μ.1 38 0) (gq_dn g (gq_sy g p 0)) (gq_at g (gq_sy g p 0)))) ∧ μ' = μ) (fun _ _ => False) := by
  have hp16 : p < 16 := Nat.lt_of_lt_of_le hp hg.2.1
  have hs8 : gq_sy g p 0 < 8 := gq_sy8 hg hp (Nat.zero_le _)
  have hsn : gq_sy g p 0 < gq_ns g := (hg.2.2.2.2.1 p hp).2 0 (Nat.zero_le _)
  obtain ⟨hat6, hdb⟩ := hg.2.2.1 _ hsn
  obtain ⟨o1, o2⟩ := gq_occ0 hM hx hp hp16
  obtain ⟨e1, e2⟩ := hM.2.2.1 _ hsn
  refine zs_M_headGraph (Nat.le_of_ble_eq_true rfl) (by omega) (fun ZZ run => ?_)
  have loop := zn_for (σ := Int64) (N := gq_at g (gq_sy g p 0))
    (P := fun k v => ∀ w y : Int32, w = nI (gq_sy g p 0) → y = nI k → ZZ 14 [some (za_r 30 0), some (za_i x), some (za_i w), some (za_l v), none, some (za_i y)] [] μ (0, 0))
    (I := fun k v => v = mo_hg (μ.1 38 0) (gq_dn g (gq_sy g p 0)) k)
    (fun v h w y hw hy => by
      have hcw : w.toNatClampNeg = gq_sy g p 0 := zn_c hw (by omega)
      refine run [14] 60 14 _ _ _ _ ?_
      refine ⟨zn_i hw hs8 (by decide), fun _ => ?_, fun q => absurd (by rw [hcw, e1, hy]; exact Int32.le_refl _) q⟩
      exact ⟨rfl, rfl, Nat.le_refl _, Nat.le_refl _, by rw [h], rfl⟩)
    (fun k v hk h ih w y hw hy => by
      have hcw : w.toNatClampNeg = gq_sy g p 0 := zn_c hw (by omega)
      have hcy : y.toNatClampNeg = k := zn_c hy (by omega)
      refine run [14] 60 14 _ _ _ _ ?_
      refine ⟨zn_i hw hs8 (by decide), fun q => absurd q (by rw [hcw]; exact zn_ge hy e1 hk (by omega)), fun _ => ?_⟩
      refine ⟨d - 1, 0, 0, _, _, by omega, Nat.le_refl _, Nat.le_refl _, ct_M_isDown' (by omega) hw hy hs8 (by omega) e2, ?_, fun _ _ h => h.elim⟩
      rintro r μ5 ⟨⟨u, rfl, hu, hu1⟩, rfl⟩
      refine ⟨fun q => ⟨zn_i hy (by omega) (by decide), zn_i hw hs8 (by decide), ?_⟩, fun q => ?_⟩
      · refine ih _ ?_ w _ hw (zn_s hy)
        rw [hcy, hcw, e2, h, mo_hg, if_neg (fun z => by rw [hu1.mpr z] at q; exact absurd q (by decide)), show (6 : Int32) * y = nI (6 * k) by rw [hy, zn_6a]]
      · refine ih v ?_ w _ hw (zn_s hy)
        rw [h, mo_hg, if_pos (hu1.mp (zn_or01 hu q))])
  refine run [14] 60 0 _ _ _ _ ?_
  exact ⟨o1, loop 0 0 (Nat.zero_le _) rfl _ 0 o2 rfl⟩
