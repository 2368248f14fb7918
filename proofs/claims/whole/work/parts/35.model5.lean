/-! the reference: growUnion -/
theorem gq_occ0 {g : gq_G} {μ : za_M} (h : gq_M g μ) {p : Nat} {x : Int32} (hx : x = nI p) (hp : p < gq_np g) (hp16 : p < 16) : vp_in (4 * x) 64 ∧ μ.1 33 0 (4 * x).toNatClampNeg = nI (gq_sy g p 0) := by
  have e : (4 : Int32) * x = nI (4 * p + 0) := by rw [hx, show (4 : Int32) * nI p = nI (4 * p) from pk_mul 4 p]; rfl
  rw [e, zn_cl (by omega), h.2.2.2.1 p 0 hp (by decide), if_pos (Nat.zero_le _)]
  exact ⟨zn_in (by omega) (by decide), rfl⟩
theorem zb_new (m u : Int32) : m &&& (u ^^^ (-1)) = 0 ↔ ∀ b, bt m b = true → bt u b = true := by
  constructor
  · intro h b hb
    by_cases h32 : b < 32
    · have h1 := congrArg (fun z => bt z b) h
      simp only [b_and, b_xor, b_0, b_m1 b h32, hb] at h1
      simpa using h1
    · rw [b_big (by omega)] at hb
      cases hb
  · intro h
    refine b_ext fun b hb => ?_
    rw [b_and, b_xor, b_0, b_m1 b hb]
    cases hm : bt m b with
    | false => rfl
    | true => rw [h b hm]; rfl
theorem gq_up {g : gq_G} {p a : Nat} (ha : a < 8) (h : gq_df g p a) : a < gq_at g (gq_sy g p 0) ∧ bt (gq_dn g (gq_sy g p 0)) a = false := by
  obtain ⟨⟨_, h1⟩, h2⟩ := h
  rw [show a / 8 = 0 by omega, show a % 8 = a by omega] at h1 h2
  refine ⟨h1, ?_⟩
  cases hb : bt (gq_dn g (gq_sy g p 0)) a with
  | false => rfl
  | true => exact absurd (h2.mp hb) (by omega)
theorem gq_dw {g : gq_G} {p a : Nat} (ha : a < 8) (h : gq_gv g p a) : a < gq_at g (gq_sy g p 0) ∧ bt (gq_dn g (gq_sy g p 0)) a = true := by
  obtain ⟨⟨_, h1⟩, h2⟩ := h
  rw [show a / 8 = 0 by omega, show a % 8 = a by omega] at h1 h2
  refine ⟨h1, ?_⟩
  cases hb : bt (gq_dn g (gq_sy g p 0)) a with
  | true => rfl
  | false => exact absurd ⟨fun q => (by rw [hb] at q; cases q), fun q => by omega⟩ h2
/-- what a production says of its head -/
def mo_P (g : gq_G) (μ : za_M) (p a b : Nat) : Prop := b < 8 ∧ pq_T (fun _ => True) (un_E g p 0 (mo_U μ) un_no) a b
set_option maxHeartbeats 8000000 in
theorem ct_M_growUnion {Γ : zk_G} {d p : Nat} {x : Int32} {μ : za_M} {g : gq_G} (hg : gq_ok g) (hM : gq_M g μ) (hub : mo_ub μ) (h01 : ∀ s, s < 8 → μ.1 39 0 s = 0 ∨ μ.1 39 0 s = 1) (hx : x = nI p) (hp : p < gq_np g) (hd : 2 ≤ d) : zk_Ct zt Γ zm_M_growUnion d 0 0 [za_r 30 0, za_i x] μ
    (fun r μ' => (∃ v : Int32, r = some (za_i v) ∧ (v = 0 ∨ v = 1) ∧ (v = 1 ↔ (μ.1 39 0 (gq_sy g p 0) = 0 ∨ ∃ a b, a < 8 ∧ mo_P g μ p a b ∧ bt (μ.1 40 0 (8 * gq_sy g p 0 + a)) b = false))) ∧
      (∀ i, i < 8 → μ'.1 39 0 i = if i = gq_sy g p 0 then 1 else μ.1 39 0 i) ∧ (∀ i b, i < 64 → (bt (μ'.1 40 0 i) b = true ↔ (bt (μ.1 40 0 i) b = true ∨ (i / 8 = gq_sy g p 0 ∧ mo_P g μ p (i % 8) b)))) ∧ zq_fr (fun b j => (b = 38 ∨ b = 39 ∨ b = 40) ∧ j = 0) μ μ') (fun _ _ => False) := by
  have hp16 : p < 16 := Nat.lt_of_lt_of_le hp hg.2.1
  have hs8 : gq_sy g p 0 < 8 := gq_sy8 hg hp (Nat.zero_le _)
  have hsn : gq_sy g p 0 < gq_ns g := (hg.2.2.2.2.1 p hp).2 0 (Nat.zero_le _)
  obtain ⟨hat6, hdb⟩ := hg.2.2.1 _ hsn
  generalize hse : gq_sy g p 0 = s at hs8 hsn hat6 hdb
  obtain ⟨o1, o2⟩ := gq_occ0 hM hx hp hp16
  rw [hse] at o2
  refine zs_M_growUnion (Nat.le_of_ble_eq_true rfl) (by omega) (fun ZZ run => ?_)
  -- the loop, from any memory with the rows closed
  have loop := fun (R : Nat → Int32) (hR : ∀ a b, a < 8 → (bt (R a) b = true ↔ pq_T (fun _ => True) (un_E g p 0 (mo_U μ) un_no) a b)) (μ4 : za_M) (hrow : ∀ a, a < 8 → μ4.1 38 0 a = R a) =>
    zn_for (σ := za_M × Int32 × Option za_V) (N := gq_at g s)
    (P := fun k t => ∀ w y : Int32, w = nI s → y = nI k → ZZ 49 [some (za_r 30 0), some (za_i x), some (za_i w), some (za_i t.2.1), some (za_i y), t.2.2] [] t.1 (0, 0))
    (I := fun k t => (t.2.1 = 0 ∨ t.2.1 = 1) ∧ (t.2.1 = 1 ↔ (μ.1 39 0 s = 0 ∨ ∃ a b, a < k ∧ mo_P g μ p a b ∧ bt (μ.1 40 0 (8 * s + a)) b = false)) ∧ (∀ a, a < 8 → t.1.1 38 0 a = R a) ∧ (∀ i, i < 8 → t.1.1 39 0 i = if i = s then 1 else μ.1 39 0 i) ∧
      (∀ i b, i < 64 → (bt (t.1.1 40 0 i) b = true ↔ (bt (μ.1 40 0 i) b = true ∨ (i / 8 = s ∧ i % 8 < k ∧ mo_P g μ p (i % 8) b)))) ∧ zq_fr (fun b j => (b = 38 ∨ b = 39 ∨ b = 40) ∧ j = 0) μ t.1)
    (fun t h w y hw hy => by
      obtain ⟨i1, i2, i3, i4, i5, i6⟩ := h
      have e1 : t.1.1 31 0 w.toNatClampNeg = nI (gq_at g s) := by rw [i6.1 31 0 (by decide), zn_c hw (by omega)]; exact (hM.2.2.1 s hsn).1
      refine run [49] 80 49 _ _ _ _ ?_
      refine ⟨zn_i hw (by omega) (by decide), fun _ => ?_, fun q => absurd (by rw [e1, hy]; exact Int32.le_refl _) q⟩
      refine ⟨rfl, Or.inr ⟨rfl, i1⟩, Nat.le_refl _, Nat.le_refl _, ⟨t.2.1, rfl, i1, i2.trans ?_⟩, i4, fun i b hi => (i5 i b hi).trans ?_, i6⟩
      · refine ⟨fun q => q.elim Or.inl (fun ⟨a, b, q1, q2, q3⟩ => Or.inr ⟨a, b, by omega, q2, q3⟩), fun q => q.elim Or.inl (fun ⟨a, b, q1, q2, q3⟩ => Or.inr ⟨a, b, ?_, q2, q3⟩)⟩
        have := (gq_up q1 (un_from hg hp q1 q2.2)).1
        rw [hse] at this
        exact this
      · refine ⟨fun q => q.elim Or.inl (fun q => Or.inr ⟨q.1, q.2.2⟩), fun q => q.elim Or.inl (fun q => Or.inr ⟨q.1, ?_, q.2⟩)⟩
        have := (gq_up (by omega) (un_from hg hp (by omega) q.2.2)).1
        rw [hse] at this
        exact this)
    (fun k t hk h ih w y hw hy => by
      obtain ⟨i1, i2, i3, i4, i5, i6⟩ := h
      have hcw : w.toNatClampNeg = s := zn_c hw (by omega)
      have hcy : y.toNatClampNeg = k := zn_c hy (by omega)
      have e1 : t.1.1 31 0 s = nI (gq_at g s) := by rw [i6.1 31 0 (by decide)]; exact (hM.2.2.1 s hsn).1
      have e2 : t.1.1 32 0 s = gq_dn g s := by rw [i6.1 32 0 (by decide)]; exact (hM.2.2.1 s hsn).2
      have e3 : (8 : Int32) * w + y = nI (8 * s + k) := by rw [hw, hy, zn_8, nI_add]
      have hc3 : ((8 : Int32) * w + y).toNatClampNeg = 8 * s + k := zn_c e3 (by omega)
      have b3 : vp_in ((8 : Int32) * w + y) 64 := zn_i e3 (by omega) (by decide)
      have hold : ∀ b, bt (t.1.1 40 0 (8 * s + k)) b = true ↔ bt (μ.1 40 0 (8 * s + k)) b = true := fun b => (i5 (8 * s + k) b (by omega)).trans ⟨fun q => q.elim id (fun q => by omega), Or.inl⟩
      -- what is more
      have more : ∀ m : Int32, (∀ b, bt m b = true ↔ mo_P g μ p k b) → ∀ (v : Int32), (v = 0 ∨ v = 1) → (v = 1 ↔ (t.2.1 = 1 ∨ ¬ m &&& (t.1.1 40 0 (8 * s + k) ^^^ (-1)) = 0)) → ZZ 49 [some (za_r 30 0), some (za_i x), some (za_i w), some (za_i v), some (za_i (y + 1)), some (za_i m)] [] (za_u t.1.1 40 0 ((8 : Int32) * w + y).toNatClampNeg (t.1.1 40 0 ((8 : Int32) * w + y).toNatClampNeg ||| m), t.1.2) (0, 0) := by
        intro m hm v hv hv1
        refine ih (_, v, some (za_i m)) ⟨hv, ?_, fun a ha => ?_, fun i hi => ?_, fun i b hi => ?_, zq_u i6 ⟨Or.inr (Or.inr rfl), rfl⟩⟩ w _ hw (zn_s hy)
        · rw [hv1, i2, zb_new]
          constructor
          · rintro ((q | ⟨a, b, q1, q2, q3⟩) | q)
            · exact Or.inl q
            · exact Or.inr ⟨a, b, by omega, q2, q3⟩
            · refine Or.inr (Classical.byContradiction fun hn => q fun b hb => ?_)
              rw [hold]
              cases hu : bt (μ.1 40 0 (8 * s + k)) b with
              | true => rfl
              | false => exact absurd ⟨k, b, Nat.lt_succ_self k, (hm b).mp hb, hu⟩ hn
          · rintro (q | ⟨a, b, q1, q2, q3⟩)
            · exact Or.inl (Or.inl q)
            · by_cases e : a = k
              · subst e
                refine Or.inr fun hn => ?_
                have := (hold b).mp (hn b ((hm b).mpr q2))
                rw [q3] at this
                cases this
              · exact Or.inl (Or.inr ⟨a, b, by omega, q2, q3⟩)
        · dsimp only
          rw [za_u_b (show (38 : Nat) ≠ 40 by decide)]
          exact i3 a ha
        · dsimp only
          rw [za_u_b (show (39 : Nat) ≠ 40 by decide)]
          exact i4 i hi
        · dsimp only
          rw [hc3]
          by_cases e : i = 8 * s + k
          · subst e
            rw [za_u_same, b_or, Bool.or_eq_true, hold, hm, show (8 * s + k) / 8 = s by omega, show (8 * s + k) % 8 = k by omega]
            exact ⟨fun q => q.elim Or.inl (fun q => Or.inr ⟨rfl, Nat.lt_succ_self k, q⟩), fun q => q.elim Or.inl (fun q => Or.inr q.2.2)⟩
          · rw [za_u_i e, i5 i b hi]
            exact ⟨fun q => q.elim Or.inl (fun q => Or.inr ⟨q.1, by omega, q.2.2⟩), fun q => q.elim Or.inl (fun q => Or.inr ⟨q.1, by omega, q.2.2⟩)⟩
      have tail : ∀ m : Int32, (∀ b, bt m b = true ↔ mo_P g μ p k b) → ZZ 90 [some (za_r 30 0), some (za_i x), some (za_i w), some (za_i t.2.1), some (za_i y), some (za_i m)] [] t.1 (0, 0) := by
        intro m hm
        refine run [49] 80 90 _ _ _ _ ?_
        refine ⟨fun hv => ⟨b3, b3, ?_⟩, fun hv => ⟨b3, fun hz => ⟨b3, b3, ?_⟩, fun hz => ⟨b3, b3, ?_⟩⟩⟩
        · exact more m hm 1 (Or.inr rfl) ⟨fun _ => Or.inl (zn_or01 i1 hv), fun _ => rfl⟩
        · rw [hc3] at hz
          exact more m hm 0 (Or.inl rfl) ⟨fun q => absurd q (by decide), fun q => q.elim (fun q => by rw [hv] at q; exact absurd q (by decide)) (fun q => absurd hz q)⟩
        · rw [hc3] at hz
          exact more m hm 1 (Or.inr rfl) ⟨fun _ => Or.inr hz, fun _ => rfl⟩
      refine run [49, 90] 80 49 _ _ _ _ ?_
      refine ⟨zn_i hw (by omega) (by decide), fun q => absurd q (by rw [hcw]; exact zn_ge hy e1 hk (by omega)), fun _ => ?_⟩
      refine ⟨d - 1, 0, 0, _, _, by omega, Nat.le_refl _, Nat.le_refl _, ct_M_isDown (by omega) (zn_i hw (by omega) (by decide)), ?_, fun _ _ h => h.elim⟩
      rintro r μ5 ⟨rfl, rfl⟩
      have hif : (t.1.1 32 0 w.toNatClampNeg >>> (y &&& 31)) &&& 1 = 1 ↔ bt (gq_dn g s) k = true := by rw [hcw, e2, hy]; exact zb_t2 _ (by omega)
      by_cases hdn : bt (gq_dn g s) k = true
      · rw [if_pos (hif.mpr hdn)]
        refine ⟨fun q => absurd q (by decide), fun _ => ?_⟩
        refine tail 0 (fun b => ⟨fun q => (by rw [b_0] at q; cases q), fun q => ?_⟩)
        have := (gq_up (by omega) (un_from hg hp (show k < 8 by omega) q.2)).2
        rw [hse, hdn] at this
        cases this
      · rw [if_neg (fun q => hdn (hif.mp q))]
        refine ⟨fun _ => ?_, fun q => absurd rfl q⟩
        refine ⟨zn_i hy (by omega) (by decide), zn_i hw (by omega) (by decide), ?_⟩
        refine tail (t.1.1 38 0 y.toNatClampNeg &&& t.1.1 32 0 w.toNatClampNeg) (fun b => ?_)
        · rw [hcy, hcw, e2]
          rw [b_and, Bool.and_eq_true, i3 k (by omega), hR k b (by omega)]
          refine ⟨fun q => ⟨by have := hdb b q.2; omega, q.1⟩, fun q => ⟨q.2, ?_⟩⟩
          have := (gq_dw q.1 (un_to hg hp q.1 q.2)).2
          rw [hse] at this
          exact this)
  have pre : ∀ (v w : Int32), (v = 0 ∨ v = 1) → (v = 1 ↔ μ.1 39 0 s = 0) → w = nI s → ZZ 31 [some (za_r 30 0), some (za_i x), some (za_i w), some (za_i v), none, none] [] (za_u μ.1 39 0 w.toNatClampNeg 1, μ.2) (0, 0) := by
    intro v w hv hv1 hw
    have hcw : w.toNatClampNeg = s := zn_c hw (by omega)
    rw [hcw]
    have f0 : zq_fr (fun b j => (b = 38 ∨ b = 39 ∨ b = 40) ∧ j = 0) μ (za_u μ.1 39 0 s 1, μ.2) := zq_u zq_rf ⟨Or.inr (Or.inl rfl), rfl⟩
    refine run [49] 80 31 _ _ _ _ ?_
    refine ⟨d - 1, 0, 0, _, _, by omega, Nat.le_refl _, Nat.le_refl _, ct_M_takeDepends hx (by omega) hp16, ?_, fun _ _ h => h.elim⟩
    rintro r μ1 ⟨rfl, t1, t2⟩
    have f1 := zq_tr f0 (zq_up t2 (fun _ _ q => ⟨Or.inl q.1, q.2⟩))
    have hM1 : gq_M g μ1 := gq_M_fr hM f1 (by decide) (by decide) (by decide) (by decide) (by rw [f1.1 30 0 (by decide)]) (by rw [f1.1 30 0 (by decide)])
    refine ⟨d - 1, 0, 0, _, _, by omega, Nat.le_refl _, Nat.le_refl _, ct_M_addUnions (but := 0) hg hM1 hx rfl (by decide) hp (by omega), ?_, fun _ _ h => h.elim⟩
    rintro r μ2 ⟨rfl, u1, u2⟩
    have f2 := zq_tr f1 (zq_up u2 (fun _ _ q => ⟨Or.inl q.1, q.2⟩))
    refine ⟨d - 1, 0, 0, _, _, by omega, Nat.le_refl _, Nat.le_refl _, ct_M_follow (by omega), ?_, fun _ _ h => h.elim⟩
    rintro r μ3 ⟨rfl, w1, w2⟩
    have f3 := zq_tr f2 (zq_up w2 (fun _ _ q => ⟨Or.inl q.1, q.2⟩))
    have e40 : μ1.1 40 0 = μ.1 40 0 := by
      rw [t2.1 40 0 (by decide)]
      show za_u μ.1 39 0 s 1 40 0 = _
      exact za_u_b (by decide)
    have hnd : ∀ i, i < 32 → μ1.1 38 0 i = gq_nd g p i := fun i hi => by
      rw [t1 i hi]
      show za_u μ.1 39 0 s 1 34 0 (32 * p + i) = _
      rw [za_u_b (by decide), hM.2.2.2.2 p i hp16 hi, if_pos hp]
    have hrows : ∀ a b, a < 8 → (bt (mo_f (μ2.1 38 0) 32 a) b = true ↔ pq_T (fun _ => True) (un_E g p 0 (mo_U μ) un_no) a b) := fun a b ha => un_closed (fun x y hx => by
      rw [u1 x hx, e40]
      exact mo_lu_is hg hp hub hnd x y hx) (by omega)
    refine loop (mo_f (μ2.1 38 0) 32) hrows μ3 (fun a ha => w1 a (by omega)) 0 (μ3, v, none) (Nat.zero_le _) ⟨hv, hv1.trans ⟨Or.inl, fun q => q.elim id (fun ⟨a, b, q, _⟩ => absurd q (Nat.not_lt_zero a))⟩, fun a ha => w1 a (by omega), fun i hi => ?_, fun i b hi => ?_, f3⟩ w 0 hw rfl
    · dsimp only
      rw [w2.1 39 0 (by decide), u2.1 39 0 (by decide), t2.1 39 0 (by decide)]
      by_cases e : i = s
      · subst e
        rw [if_pos rfl]
        exact za_u_same _ _ _ _ _
      · rw [if_neg e]
        exact za_u_i e
    · dsimp only
      rw [w2.1 40 0 (by decide), u2.1 40 0 (by decide), e40]
      exact ⟨Or.inl, fun q => q.elim id (fun q => absurd q.2.1 (Nat.not_lt_zero _))⟩
  have hin : vp_in (μ.1 33 0 (4 * x).toNatClampNeg) 8 := by rw [o2]; exact zn_in hs8 (by decide)
  have hcs : (μ.1 33 0 (4 * x).toNatClampNeg).toNatClampNeg = s := zn_c o2 (by omega)
  refine run [31] 80 0 _ _ _ _ ?_
  refine ⟨o1, hin, fun hv => ⟨hin, Or.inr rfl, ?_⟩, fun hv => ⟨hin, Or.inr rfl, ?_⟩⟩
  · rw [hcs] at hv
    exact pre 0 _ (Or.inl rfl) ⟨fun q => absurd q (by decide), fun q => absurd q hv⟩ o2
  · rw [hcs] at hv
    exact pre 1 _ (Or.inr rfl) ⟨fun _ => hv, fun _ => rfl⟩ o2
