/-! the reference: growAbove -/
theorem zb_first : ∀ n, n < 31 → ∀ b, b < 32 → bt ((1 <<< (nI n &&& 31)) - 1) b = decide (b < n) := by decide +kernel
/-- what a production says of a part from above -/
def mo_R (g : gq_G) (μ : za_M) (p o a b : Nat) : Prop := b < 8 ∧ pq_T (fun _ => True) (un_E g p o (mo_U μ) (mo_V μ (gq_sy g p 0))) (8 * o + a) (8 * o + b)
theorem ct_M_isDown' {Γ : zk_G} {d s a : Nat} {w y : Int32} {μ : za_M} {g : gq_G} (hd : 1 ≤ d) (hw : w = nI s) (hy : y = nI a) (hs : s < 8) (ha : a < 32) (h32 : μ.1 32 0 s = gq_dn g s) : zk_Ct zt Γ zm_M_isDown d 0 0 [za_r 30 0, za_i w, za_i y] μ (fun r μ' => (∃ v : Int32, r = some (za_i v) ∧ (v = 0 ∨ v = 1) ∧ (v = 1 ↔ bt (gq_dn g s) a = true)) ∧ μ' = μ) (fun _ _ => False) := by
  refine zs_M_isDown (Nat.le_of_ble_eq_true rfl) hd (fun ZZ run => ?_)
  refine run [] 20 0 _ _ _ _ ?_
  have hif : (μ.1 32 0 w.toNatClampNeg >>> (y &&& 31)) &&& 1 = 1 ↔ bt (gq_dn g s) a = true := by rw [zn_c hw (by omega), h32, hy]; exact zb_t2 _ ha
  refine ⟨zn_i hw (by omega) (by decide), fun h => ?_, fun h => ?_⟩
  · exact ⟨rfl, Or.inr ⟨rfl, Or.inl rfl⟩, Nat.le_refl _, Nat.le_refl _, ⟨0, rfl, Or.inl rfl, fun q => absurd q (by decide), fun q => absurd (hif.mpr q) h⟩, rfl⟩
  · exact ⟨rfl, Or.inr ⟨rfl, Or.inr rfl⟩, Nat.le_refl _, Nat.le_refl _, ⟨1, rfl, Or.inr rfl, fun _ => hif.mp h, fun _ => rfl⟩, rfl⟩
set_option maxHeartbeats 16000000 in
theorem ct_M_growAbove {Γ : zk_G} {d p o : Nat} {x z : Int32} {μ : za_M} {g : gq_G} (hg : gq_ok g) (hM : gq_M g μ) (hub : mo_ub μ) (hvb : mo_vb μ) (hx : x = nI p) (hz : z = nI o) (ho1 : 1 ≤ o) (ho4 : o < 4) (hp : p < gq_np g) (hd : 2 ≤ d) : zk_Ct zt Γ zm_M_growAbove d 0 0 [za_r 30 0, za_i x, za_i z] μ
    (fun r μ' => (∃ v : Int32, r = some (za_i v) ∧ (v = 0 ∨ v = 1) ∧ (v = 1 ↔ (o ≤ gq_m g p ∧ ∃ a b, a < 8 ∧ mo_R g μ p o a b ∧ bt (μ.1 41 0 (8 * gq_sy g p o + a)) b = false))) ∧
      (∀ i b, i < 64 → (bt (μ'.1 41 0 i) b = true ↔ (bt (μ.1 41 0 i) b = true ∨ (o ≤ gq_m g p ∧ i / 8 = gq_sy g p o ∧ mo_R g μ p o (i % 8) b)))) ∧ zq_fr (fun b j => (b = 38 ∨ b = 41) ∧ j = 0) μ μ') (fun _ _ => False) := by
  have hp16 : p < 16 := Nat.lt_of_lt_of_le hp hg.2.1
  have hs0 : gq_sy g p 0 < 8 := gq_sy8 hg hp (Nat.zero_le _)
  obtain ⟨o1, o2⟩ := gq_occ hM hx hz hp hp16 ho4
  refine zs_M_growAbove (Nat.le_of_ble_eq_true rfl) (by omega) (fun ZZ run => ?_)
  by_cases hle : o ≤ gq_m g p
  case neg =>
    rw [if_neg hle] at o2
    refine run [] 80 0 _ _ _ _ ?_
    refine ⟨o1, fun q => absurd q (by rw [o2]; decide), fun _ => ?_⟩
    exact ⟨rfl, Or.inr ⟨rfl, Or.inl rfl⟩, Nat.le_refl _, Nat.le_refl _, ⟨0, rfl, Or.inl rfl, fun q => absurd q (by decide), fun q => absurd q.1 hle⟩, fun i b hi => ⟨Or.inl, fun q => q.elim id (fun q => absurd q.1 hle)⟩, zq_rf⟩
  rw [if_pos hle] at o2
  have hs8 : gq_sy g p o < 8 := gq_sy8 hg hp hle
  have hsn : gq_sy g p o < gq_ns g := (hg.2.2.2.2.1 p hp).2 o hle
  obtain ⟨hat6, hdb⟩ := hg.2.2.1 _ hsn
  have fr2 : ∀ {a b}, a < 8 → mo_R g μ p o a b → a < gq_at g (gq_sy g p o) ∧ bt (gq_dn g (gq_sy g p o)) a = true := fun ha h => un_from2 hg hp ho1 ha h.2
  have to2 : ∀ {a b}, mo_R g μ p o a b → b < gq_at g (gq_sy g p o) ∧ bt (gq_dn g (gq_sy g p o)) b = false := fun h => un_to2 hg hp ho1 h.1 h.2
  generalize hse : gq_sy g p o = s at hs8 hsn hat6 hdb o2 fr2 to2
  have loop := fun (R : Nat → Int32) (hR : ∀ a b, a < 32 → (bt (R a) b = true ↔ pq_T (fun _ => True) (un_E g p o (mo_U μ) (mo_V μ (gq_sy g p 0))) a b)) =>
    zn_for (σ := za_M × Int32 × Option za_V × Option za_V) (N := gq_at g s)
    (P := fun k t => ∀ w y : Int32, w = nI s → y = nI k → ZZ 43 [some (za_r 30 0), some (za_i x), some (za_i z), some (za_i w), some (za_i t.2.1), some (za_i y), t.2.2.1, t.2.2.2] [] t.1 (0, 0))
    (I := fun k t => (t.2.1 = 0 ∨ t.2.1 = 1) ∧ (t.2.1 = 1 ↔ (∃ a b, a < k ∧ mo_R g μ p o a b ∧ bt (μ.1 41 0 (8 * s + a)) b = false)) ∧ (∀ a, a < 32 → t.1.1 38 0 a = R a) ∧
      (∀ i b, i < 64 → (bt (t.1.1 41 0 i) b = true ↔ (bt (μ.1 41 0 i) b = true ∨ (i / 8 = s ∧ i % 8 < k ∧ mo_R g μ p o (i % 8) b)))) ∧ zq_fr (fun b j => (b = 38 ∨ b = 41) ∧ j = 0) μ t.1)
    (fun t h w y hw hy => by
      obtain ⟨i1, i2, i3, i5, i6⟩ := h
      have e1 : t.1.1 31 0 w.toNatClampNeg = nI (gq_at g s) := by rw [i6.1 31 0 (by decide), zn_c hw (by omega)]; exact (hM.2.2.1 s hsn).1
      refine run [43] 80 43 _ _ _ _ ?_
      refine ⟨zn_i hw (by omega) (by decide), fun _ => ?_, fun q => absurd (by rw [e1, hy]; exact Int32.le_refl _) q⟩
      refine ⟨rfl, Or.inr ⟨rfl, i1⟩, Nat.le_refl _, Nat.le_refl _, ⟨t.2.1, rfl, i1, i2.trans ?_⟩, fun i b hi => (i5 i b hi).trans ?_, i6⟩
      · rw [hse]
        exact ⟨fun ⟨a, b, q1, q2, q3⟩ => ⟨hle, a, b, by omega, q2, q3⟩, fun ⟨_, a, b, q1, q2, q3⟩ => ⟨a, b, (fr2 q1 q2).1, q2, q3⟩⟩
      · rw [hse]
        exact ⟨fun q => q.elim Or.inl (fun q => Or.inr ⟨hle, q.1, q.2.2⟩), fun q => q.elim Or.inl (fun q => Or.inr ⟨q.2.1, (fr2 (by omega) q.2.2).1, q.2.2⟩)⟩)
    (fun k t hk h ih w y hw hy => by
      obtain ⟨i1, i2, i3, i5, i6⟩ := h
      have hcw : w.toNatClampNeg = s := zn_c hw (by omega)
      have hcy : y.toNatClampNeg = k := zn_c hy (by omega)
      have e1 : t.1.1 31 0 s = nI (gq_at g s) := by rw [i6.1 31 0 (by decide)]; exact (hM.2.2.1 s hsn).1
      have e2 : t.1.1 32 0 s = gq_dn g s := by rw [i6.1 32 0 (by decide)]; exact (hM.2.2.1 s hsn).2
      have e3 : (8 : Int32) * w + y = nI (8 * s + k) := by rw [hw, hy, zn_8, nI_add]
      have hc3 : ((8 : Int32) * w + y).toNatClampNeg = 8 * s + k := zn_c e3 (by omega)
      have b3 : vp_in ((8 : Int32) * w + y) 64 := zn_i e3 (by omega) (by decide)
      have e4 : (8 : Int32) * z + y = nI (8 * o + k) := by rw [hz, hy, zn_8, nI_add]
      have hold : ∀ b, bt (t.1.1 41 0 (8 * s + k)) b = true ↔ bt (μ.1 41 0 (8 * s + k)) b = true := fun b => (i5 (8 * s + k) b (by omega)).trans ⟨fun q => q.elim id (fun q => by omega), Or.inl⟩
      have more : ∀ (u m : Int32), (∀ b, bt m b = true ↔ mo_R g μ p o k b) → ∀ (v : Int32), (v = 0 ∨ v = 1) → (v = 1 ↔ (t.2.1 = 1 ∨ ¬ m &&& (t.1.1 41 0 (8 * s + k) ^^^ (-1)) = 0)) → ZZ 43 [some (za_r 30 0), some (za_i x), some (za_i z), some (za_i w), some (za_i v), some (za_i (y + 1)), some (za_i u), some (za_i m)] [] (za_u t.1.1 41 0 ((8 : Int32) * w + y).toNatClampNeg (t.1.1 41 0 ((8 : Int32) * w + y).toNatClampNeg ||| m), t.1.2) (0, 0) := by
        intro u m hm v hv hv1
        refine ih (_, v, some (za_i u), some (za_i m)) ⟨hv, ?_, fun a ha => ?_, fun i b hi => ?_, zq_u i6 ⟨Or.inr rfl, rfl⟩⟩ w _ hw (zn_s hy)
        · rw [hv1, i2, zb_new]
          constructor
          · rintro (⟨a, b, q1, q2, q3⟩ | q)
            · exact ⟨a, b, by omega, q2, q3⟩
            · refine (Classical.byContradiction fun hn => q fun b hb => ?_)
              rw [hold]
              cases hu : bt (μ.1 41 0 (8 * s + k)) b with
              | true => rfl
              | false => exact absurd ⟨k, b, Nat.lt_succ_self k, (hm b).mp hb, hu⟩ hn
          · rintro ⟨a, b, q1, q2, q3⟩
            by_cases e : a = k
            · subst e
              refine Or.inr fun hn => ?_
              have := (hold b).mp (hn b ((hm b).mpr q2))
              rw [q3] at this
              cases this
            · exact Or.inl ⟨a, b, by omega, q2, q3⟩
        · dsimp only
          rw [za_u_b (show (38 : Nat) ≠ 41 by decide)]
          exact i3 a ha
        · dsimp only
          rw [hc3]
          by_cases e : i = 8 * s + k
          · subst e
            rw [za_u_same, b_or, Bool.or_eq_true, hold, hm, show (8 * s + k) / 8 = s by omega, show (8 * s + k) % 8 = k by omega]
            exact ⟨fun q => q.elim Or.inl (fun q => Or.inr ⟨rfl, Nat.lt_succ_self k, q⟩), fun q => q.elim Or.inl (fun q => Or.inr q.2.2)⟩
          · rw [za_u_i e, i5 i b hi]
            exact ⟨fun q => q.elim Or.inl (fun q => Or.inr ⟨q.1, by omega, q.2.2⟩), fun q => q.elim Or.inl (fun q => Or.inr ⟨q.1, by omega, q.2.2⟩)⟩
      have tail : ∀ u m : Int32, (∀ b, bt m b = true ↔ mo_R g μ p o k b) → ZZ 111 [some (za_r 30 0), some (za_i x), some (za_i z), some (za_i w), some (za_i t.2.1), some (za_i y), some (za_i u), some (za_i m)] [] t.1 (0, 0) := by
        intro u m hm
        refine run [43] 80 111 _ _ _ _ ?_
        refine ⟨fun hv => ⟨b3, b3, ?_⟩, fun hv => ⟨b3, fun hz => ⟨b3, b3, ?_⟩, fun hz => ⟨b3, b3, ?_⟩⟩⟩
        · exact more u m hm 1 (Or.inr rfl) ⟨fun _ => Or.inl (zn_or01 i1 hv), fun _ => rfl⟩
        · rw [hc3] at hz
          exact more u m hm 0 (Or.inl rfl) ⟨fun q => absurd q (by decide), fun q => q.elim (fun q => by rw [hv] at q; exact absurd q (by decide)) (fun q => absurd hz q)⟩
        · rw [hc3] at hz
          exact more u m hm 1 (Or.inr rfl) ⟨fun _ => Or.inr hz, fun _ => rfl⟩
      refine run [43, 111] 80 43 _ _ _ _ ?_
      have bw : vp_in w 8 := zn_i hw (by omega) (by decide)
      refine ⟨bw, fun q => absurd q (by rw [hcw]; exact zn_ge hy e1 hk (by omega)), fun _ => ⟨bw, bw, ?_⟩⟩
      refine ⟨d - 1, 0, 0, _, _, by omega, Nat.le_refl _, Nat.le_refl _, ct_M_isDown' (by omega) hw hy hs8 (by omega) e2, ?_, fun _ _ h => h.elim⟩
      rintro r μ5 ⟨⟨v, rfl, hv, hv1⟩, rfl⟩
      refine ⟨fun q => ?_, fun q => ⟨zn_i e4 (by omega) (by decide), ?_⟩⟩
      · refine tail _ 0 (fun b => ⟨fun q => (by rw [b_0] at q; cases q), fun h => ?_⟩)
        have := hv1.mpr (fr2 (by omega) h).2
        rw [q] at this
        exact absurd this (by decide)
      · refine tail _ _ (fun b => ?_)
        rw [zn_c e4 (by omega), hcw, e1, e2, i3 _ (by omega), show (8 : Int32) * z = nI (8 * o) by rw [hz, zn_8]]
        by_cases hb : b < 32
        · rw [b_and, b_and, b_xor, b_m1 b hb, zb_first _ (by omega) b hb, b_sshr _ (by omega) _ hb, Bool.and_eq_true, Bool.and_eq_true, decide_eq_true_eq]
          constructor
          · rintro ⟨q1, q2, q3⟩
            rw [if_pos (by omega), hR _ _ (by omega)] at q1
            exact ⟨by omega, q1⟩
          · intro q
            have d2 := to2 q
            have hb8 := q.1
            refine ⟨?_, d2.1, by rw [d2.2]; rfl⟩
            rw [if_pos (by omega), hR _ _ (by omega)]
            exact q.2
        · rw [b_big (by omega)]
          exact ⟨fun q => (by cases q), fun q => absurd q.1 (by omega)⟩)
  refine run [43] 80 0 _ _ _ _ ?_
  have f0 : zq_fr (fun b j => (b = 38 ∨ b = 41) ∧ j = 0) μ μ := zq_rf
  refine ⟨o1, fun _ => ?_, fun q => absurd (by rw [o2]; exact Int32.not_lt.mp (gq_neg _ (by omega))) q⟩
  refine ⟨d - 1, 0, 0, _, _, by omega, Nat.le_refl _, Nat.le_refl _, ct_M_takeDepends hx (by omega) hp16, ?_, fun _ _ h => h.elim⟩
  rintro r μ1 ⟨rfl, t1, t2⟩
  have f1 := zq_tr f0 (zq_up t2 (fun _ _ q => ⟨Or.inl q.1, q.2⟩))
  have hM1 : gq_M g μ1 := gq_M_fr hM f1 (by decide) (by decide) (by decide) (by decide) (by rw [f1.1 30 0 (by decide)]) (by rw [f1.1 30 0 (by decide)])
  refine ⟨d - 1, 0, 0, _, _, by omega, Nat.le_refl _, Nat.le_refl _, ct_M_addAboves hg hM1 hx hp (by omega), ?_, fun _ _ h => h.elim⟩
  rintro r μ2 ⟨rfl, a1, a2⟩
  have f2 := zq_tr f1 (zq_up a2 (fun _ _ q => ⟨Or.inl q.1, q.2⟩))
  have hM2 : gq_M g μ2 := gq_M_fr hM f2 (by decide) (by decide) (by decide) (by decide) (by rw [f2.1 30 0 (by decide)]) (by rw [f2.1 30 0 (by decide)])
  refine ⟨d - 1, 0, 0, _, _, by omega, Nat.le_refl _, Nat.le_refl _, ct_M_addUnions (but := o) hg hM2 hx hz ho4 hp (by omega), ?_, fun _ _ h => h.elim⟩
  rintro r μ3 ⟨rfl, u1, u2⟩
  have f3 := zq_tr f2 (zq_up u2 (fun _ _ q => ⟨Or.inl q.1, q.2⟩))
  refine ⟨d - 1, 0, 0, _, _, by omega, Nat.le_refl _, Nat.le_refl _, ct_M_follow (by omega), ?_, fun _ _ h => h.elim⟩
  rintro r μ4 ⟨rfl, w1, w2⟩
  have f4 := zq_tr f3 (zq_up w2 (fun _ _ q => ⟨Or.inl q.1, q.2⟩))
  have hnd : ∀ i, i < 32 → μ1.1 38 0 i = gq_nd g p i := fun i hi => by
    rw [t1 i hi, hM.2.2.2.2 p i hp16 hi, if_pos hp]
  have e40 : μ2.1 40 0 = μ.1 40 0 := by rw [f2.1 40 0 (by decide)]
  have e41 : μ1.1 41 0 = μ.1 41 0 := by rw [t2.1 41 0 (by decide)]
  have hrows : ∀ a b, a < 32 → (bt (mo_f (μ3.1 38 0) 32 a) b = true ↔ pq_T (fun _ => True) (un_E g p o (mo_U μ) (mo_V μ (gq_sy g p 0))) a b) := fun a b ha => un_closed (fun x y hx => by
    have := (mo_ua_is (but := o) hg hp hub hvb hnd x y hx).1
    rw [u1 x hx, e40]
    rw [← this, ← e41]
    unfold mo_lu
    rw [a1 x hx]) ha
  refine loop (mo_f (μ3.1 38 0) 32) hrows 0 (μ4, 0, none, none) (Nat.zero_le _) ⟨Or.inl rfl, ⟨fun q => absurd q (show ¬ (0 : Int32) = 1 by decide), fun ⟨a, b, q, _⟩ => absurd q (Nat.not_lt_zero a)⟩, fun a ha => w1 a ha, fun i b hi => ?_, f4⟩ _ 0 o2 rfl
  dsimp only
  rw [w2.1 41 0 (by decide), u2.1 41 0 (by decide), a2.1 41 0 (by decide), e41]
  exact ⟨Or.inl, fun q => q.elim id (fun q => absurd q.2.1 (Nat.not_lt_zero _))⟩
