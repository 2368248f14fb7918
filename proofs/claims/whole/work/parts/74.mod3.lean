/-! the reference: depend -/
theorem gq_M_addD {g : gq_G} (hg : gq_ok g) {μ μ' : za_M} (hM : gq_M g μ) {p x y : Nat} (hp : p < gq_np g) (hx : x < 32) (h34 : ∀ i, μ'.1 34 0 i = if i = 32 * p + x then gq_nd g p x ||| (1 <<< (nI y &&& 31)) else μ.1 34 0 i) (hb : ∀ b, b ≠ 34 → μ'.1 b 0 = μ.1 b 0) : gq_M (gq_addD g p x y) μ' := by
  refine ⟨by rw [hb 30 (by decide)]; exact hM.1, by rw [hb 30 (by decide)]; exact hM.2.1, by rw [hb 31 (by decide), hb 32 (by decide)]; exact hM.2.2.1, by rw [hb 33 (by decide)]; exact hM.2.2.2.1, fun q z hq hz => ?_⟩
  rw [h34]
  show _ = if q < gq_np g then (if q = p ∧ z = x then gq_nd g p x ||| (1 <<< (nI y &&& 31)) else gq_nd g q z) else 0
  by_cases e : q = p ∧ z = x
  · obtain ⟨rfl, rfl⟩ := e
    rw [if_pos rfl, if_pos hp, if_pos ⟨rfl, rfl⟩]
  · rw [if_neg (fun w => e (by omega)), if_neg e]
    exact hM.2.2.2.2 q z hq hz
set_option maxHeartbeats 16000000 in
theorem ct_M_depend {Γ : zk_G} {d : Nat} {P X Y : Int32} {μ : za_M} {g : gq_G} (hg : gq_ok g) (h : gm g μ) (hd : 5 ≤ d) : zk_Ct zt Γ zm_M_depend d 0 0 [za_r 30 0, za_i P, za_i X, za_i Y] μ
    (fun r μ' => (∃ v : Int32, r = some (za_i v) ∧ ((∃ p x y, gs_D g P X Y p x y ∧ v = (if bt (gq_nd g p x) y = true then 0 else 1) ∧ μ'.1 30 0 0 = 0 ∧ gm (gq_addD g p x y) μ') ∨ (¬ (∃ p, p < gq_np g ∧ P = nI p) ∧ μ'.1 30 0 0 = 1 ∧ gm g μ') ∨ ((∃ p, p < gq_np g ∧ P = nI p) ∧ (¬ ∃ p x y, gs_D g P X Y p x y) ∧ μ'.1 30 0 0 = 2 ∧ gm g μ'))) ∧ zq_fr (fun b _ => 30 ≤ b) μ μ') (fun _ _ => False) := by
  have hnp : gq_np g ≤ 16 := hg.2.1
  have e4 : μ.1 30 0 4 = nI (gq_np g) := h.1.2.1
  refine zs_M_depend (Nat.le_of_ble_eq_true rfl) (by omega) (fun ZZ run => ?_)
  have c95 : (∃ p x y, gs_D g P X Y p x y) → ∀ v4 v5 : Int32, ZZ 95 [some (za_r 30 0), some (za_i P), some (za_i X), some (za_i Y), some (za_i v4), some (za_i v5), none] [] (gm_t μ 0) (0, 0) := by
    rintro ⟨p, x, y, hD⟩ v4 v5
    obtain ⟨⟨hp, hP⟩, ⟨hx, hX, hdf⟩, ⟨hy, hY, hgv⟩⟩ := hD
    have hM1 := (gm_tg (t := 0) h).1
    have hi : (32 : Int32) * P + X = nI (32 * p + x) := by rw [hP, hX, show (32 : Int32) * nI p = nI (32 * p) from pk_mul 32 p, nI_add]
    have hc : ((32 : Int32) * P + X).toNatClampNeg = 32 * p + x := zn_c hi (by omega)
    have hv : vp_in ((32 : Int32) * P + X) 512 := zn_i hi (by omega) (by decide)
    have e34 : (gm_t μ 0).1 34 0 ((32 : Int32) * P + X).toNatClampNeg = gq_nd g p x := by rw [hc, hM1.2.2.2.2 p x (by omega) hx, if_pos hp]
    have c118 : ∀ v : Int32, (v = 0 ∨ v = 1) → v = (if bt (gq_nd g p x) y = true then 0 else 1) → ZZ 118 [some (za_r 30 0), some (za_i P), some (za_i X), some (za_i Y), some (za_i v4), some (za_i v5), none] [za_i v] (gm_t μ 0) (0, 0) := by
      intro v hv01 hvv
      refine run [] 60 118 _ _ _ _ ?_
      refine ⟨hv, hv, ?_⟩
      suffices post : ∀ f : Nat → Nat → Nat → Int32, za_u (gm_t μ 0).1 34 0 ((32 : Int32) * P + X).toNatClampNeg ((gm_t μ 0).1 34 0 ((32 : Int32) * P + X).toNatClampNeg ||| (1 <<< (Y &&& 31))) = f → (∃ (d' mc' ms' : Nat) (post : Option za_V → za_M → Prop) (px : Nat → za_M → Prop), d' < d ∧ 0 + mc' ≤ 0 ∧ 0 + ms' ≤ 0 ∧ zk_Ct zt Γ zm_M_forget d' mc' ms' [za_r 30 0] (f, (gm_t μ 0).2) post px ∧ (∀ r μ2, post r μ2 → r = none ∧ ((μ2.1 30 0 0 = 0 ∧ gm (gq_addD g p x y) μ2) ∧ zq_fr (fun b _ => 30 ≤ b) μ μ2) ∧ 0 + mc' ≤ 0 ∧ 0 + ms' ≤ 0) ∧ (∀ E μ2, px E μ2 → False)) from ?_
      · obtain ⟨d', mc', ms', po, px, e1, e2, e3, e4, e5, e6⟩ := post _ rfl
        refine ⟨d', mc', ms', po, px, e1, e2, e3, e4, fun r μ2 hr => ?_, fun E μ2 hE => (e6 E μ2 hE).elim⟩
        obtain ⟨rfl, ⟨⟨z1, z2⟩, z6⟩, z7, z8⟩ := e5 r μ2 hr
        exact ⟨rfl, Or.inr ⟨rfl, hv01⟩, z7, z8, ⟨v, rfl, Or.inl ⟨p, x, y, ⟨⟨hp, hP⟩, ⟨hx, hX, hdf⟩, ⟨hy, hY, hgv⟩⟩, hvv, z1, z2⟩⟩, z6⟩
      intro f hf
      rw [e34, hc, hY] at hf
      have hM2 : gq_M (gq_addD g p x y) (f, (gm_t μ 0).2) := gq_M_addD hg hM1 hp hx (fun i => by
        show f 34 0 i = _
        rw [← hf]
        by_cases t : i = 32 * p + x
        · subst t; rw [za_u_same, if_pos rfl]
        · rw [za_u_i t, if_neg t]) (fun b hb => by show f b 0 = _; rw [← hf, za_u_b hb])
      refine ⟨d - 1, 0, 0, _, _, by omega, Nat.le_refl _, Nat.le_refl _, ct_M_forget (by omega), ?_, fun _ _ h => h.elim⟩
      rintro r μ2 ⟨rfl, hμ2⟩
      have hμ2 : μ2 = gm_f (f, (gm_t μ 0).2) := hμ2
      subst hμ2
      refine ⟨rfl, ⟨⟨?_, gm_fM hM2⟩, ?_⟩, Nat.le_refl _, Nat.le_refl _⟩
      · rw [gm_fi (by decide) (by decide)]
        show f 30 0 0 = 0
        rw [← hf, za_u_b (show (30 : Nat) ≠ 34 by decide), gm_t0]
      · refine zq_tr (zq_tr (gm_tf (t := 0)) (?_ : zq_fr (fun b _ => 30 ≤ b) (gm_t μ 0) (f, (gm_t μ 0).2))) gm_ff
        rw [← hf]
        exact zq_u zq_rf (show 30 ≤ 34 by decide)
    refine run [118] 60 95 _ _ _ _ ?_
    refine ⟨hv, fun q => c118 0 (Or.inl rfl) ?_, fun q => c118 1 (Or.inr rfl) ?_⟩
    · have q : ¬ ((gm_t μ 0).1 34 0 ((32 : Int32) * P + X).toNatClampNeg >>> (Y &&& 31)) &&& 1 = 0 := q
      rw [e34, hY, zb_t20 _ hy, Bool.not_eq_false] at q
      rw [if_pos q]
    · have q : ((gm_t μ 0).1 34 0 ((32 : Int32) * P + X).toNatClampNeg >>> (Y &&& 31)) &&& 1 = 0 := q
      rw [e34, hY, zb_t20 _ hy] at q
      rw [if_neg (by rw [q]; decide)]
  have c87 : ∀ (x y v4 v5 : Int32), (x = 0 ∨ x = 1) → (y = 0 ∨ y = 1) → (x = 0 ↔ ∃ p, p < gq_np g ∧ P = nI p) → (y = 1 ↔ ((∃ p, p < gq_np g ∧ P = nI p) ∧ ¬ ∃ p x y, gs_D g P X Y p x y)) → ZZ 87 [some (za_r 30 0), some (za_i P), some (za_i X), some (za_i Y), some (za_i v4), some (za_i v5), none] [za_i y, za_i x, za_r 30 0] μ (0, 0) := by
    intro x y v4 v5 hx hy hxS hy8
    obtain ⟨t0, t1, t2⟩ := mo_t_eq hx hy
    refine run [95] 60 87 _ _ _ _ ?_
    refine ⟨d - 1, 0, 0, _, _, by omega, Nat.le_refl _, Nat.le_refl _, ct_M_refuse (by omega), ?_, fun _ _ h => h.elim⟩
    rintro r μ1 ⟨rfl, hμ1⟩
    have hμ1 : μ1 = gm_t μ (mo_t x y) := hμ1
    subst hμ1
    by_cases ht : mo_t x y = 0
    · rw [if_pos ht, ht]
      refine ⟨fun _ => c95 ?_ v4 v5, fun q => absurd rfl q⟩
      refine Classical.byContradiction fun q => ?_
      have := hy8.mpr ⟨hxS.mp (t0.mp ht).1, q⟩
      exact absurd ((t0.mp ht).2.symm.trans this) (by decide)
    · rw [if_neg ht]
      refine ⟨fun q => absurd q (by decide), fun _ => ⟨rfl, Or.inr ⟨rfl, Or.inl rfl⟩, Nat.le_refl _, Nat.le_refl _, ⟨0, rfl, Or.inr ?_⟩, gm_tf⟩⟩
      by_cases e : x = 1
      · refine Or.inl ⟨fun z => absurd (e.symm.trans (hxS.mpr z)) (by decide), ?_, gm_tg h⟩
        rw [gm_t0]; exact t1 e
      · have e0 := hx.resolve_right e
        have ey : y = 1 := hy.resolve_left (fun z => ht (t0.mpr ⟨e0, z⟩))
        refine Or.inr ⟨hxS.mp e0, (hy8.mp ey).2, ?_, gm_tg h⟩
        rw [gm_t0]; exact t2 e0 ey
  have c59 : ∀ v4 v : Int32, (v4 = 0 ∨ v4 = 1) → (v4 = 1 ↔ ∃ p, p < gq_np g ∧ P = nI p) → (v = 0 ∨ v = 1) → (v = 1 ↔ ∃ p x y, gs_D g P X Y p x y) → ZZ 59 [some (za_r 30 0), some (za_i P), some (za_i X), some (za_i Y), some (za_i v4), none, none] [za_i v] μ (0, 0) := by
    intro v4 v hv4 hv4' hv hv'
    have c72 : ∀ x : Int32, (x = 0 ∨ x = 1) → (x = 0 ↔ ∃ p, p < gq_np g ∧ P = nI p) → ZZ 72 [some (za_r 30 0), some (za_i P), some (za_i X), some (za_i Y), some (za_i v4), some (za_i v), none] [za_i x, za_r 30 0] μ (0, 0) := by
      intro x hx hxS
      have no : ¬ ((∃ p, p < gq_np g ∧ P = nI p) ∧ ¬ ∃ p x y, gs_D g P X Y p x y) → ZZ 87 [some (za_r 30 0), some (za_i P), some (za_i X), some (za_i Y), some (za_i v4), some (za_i v), none] [za_i 0, za_i x, za_r 30 0] μ (0, 0) := fun q => c87 x 0 v4 v hx (Or.inl rfl) hxS ⟨fun z => absurd z (by decide), fun z => absurd z q⟩
      refine run [87] 60 72 _ _ _ _ ?_
      refine ⟨fun q => no (fun z => absurd (q.symm.trans (hv4'.mpr z.1)) (by decide)), fun q => ⟨fun q2 => no (fun z => z.2 (hv'.mp (zn_or01 hv q2))), fun q2 => c87 x 1 v4 v hx (Or.inr rfl) hxS ⟨fun _ => ⟨hv4'.mp (zn_or01 hv4 q), fun z => absurd (q2.symm.trans (hv'.mpr z)) (by decide)⟩, fun _ => rfl⟩⟩⟩
    refine run [72] 60 59 _ _ _ _ ?_
    exact ⟨fun q => c72 0 (Or.inl rfl) ⟨fun _ => hv4'.mp (zn_or01 hv4 q), fun _ => rfl⟩, fun q => c72 1 (Or.inr rfl) ⟨fun z => absurd z (by decide), fun z => absurd (q.symm.trans (hv4'.mpr z)) (by decide)⟩⟩
  refine run [58, 59] 60 0 _ _ _ _ ?_
  refine ⟨d - 1, 0, 0, _, _, by omega, Nat.le_refl _, Nat.le_refl _, ct_M_in (by omega), ?_, fun _ _ h => h.elim⟩
  rintro r μ1 ⟨rfl, hμ1⟩
  have hμ1 := hμ1.symm
  subst hμ1
  have key := zn_m1 (n := gq_np g) (s := P) (by omega)
  rw [← e4] at key
  have c58 : ∀ v4 : Int32, (v4 = 0 ∨ v4 = 1) → (v4 = 1 ↔ ∃ p, p < gq_np g ∧ P = nI p) → (¬ ∃ p x y, gs_D g P X Y p x y) → ZZ 58 [some (za_r 30 0), some (za_i P), some (za_i X), some (za_i Y), some (za_i v4), none, none] [] μ (0, 0) := fun v4 a b q => run [59] 20 58 _ _ _ _ (c59 v4 0 a b (Or.inl rfl) ⟨fun z => absurd z (by decide), fun z => absurd z q⟩)
  by_cases hin : P < 0 ∨ μ.1 30 0 4 - 1 < P
  · rw [if_pos hin]
    refine ⟨fun _ => c58 0 (Or.inl rfl) ⟨fun z => absurd z (by decide), fun z => absurd hin (key.mpr z)⟩ (fun ⟨p, x, y, z, _⟩ => absurd hin (key.mpr ⟨p, z⟩)), fun q => absurd rfl q⟩
  · rw [if_neg hin]
    obtain ⟨p, hp, hP⟩ := key.mp hin
    have h1 : (1 : Int32) = 1 ↔ ∃ p, p < gq_np g ∧ P = nI p := ⟨fun _ => ⟨p, hp, hP⟩, fun _ => rfl⟩
    have hpu : ∀ p', p' < gq_np g → P = nI p' → p' = p := fun p' z1 z2 => (nI_eq (by omega) (by omega)).mp (z2.symm.trans hP)
    have c1 := c58 1 (Or.inr rfl) h1
    refine ⟨fun q => absurd q (by decide), fun _ => ?_⟩
    refine ⟨d - 1, 0, 0, _, _, by omega, Nat.le_refl _, Nat.le_refl _, ct_M_isThere hg h.1 hP hp (by omega), ?_, fun _ _ h => h.elim⟩
    rintro r μ1 ⟨⟨a1, rfl, ha1, ha1'⟩, hμ1⟩
    have hμ1 := hμ1.symm
    subst hμ1
    refine ⟨fun q => c1 ?_, fun q1 => ?_⟩
    · rintro ⟨p', x, y, ⟨z1, z2⟩, ⟨z3, z4, z5⟩, _⟩
      rw [hpu p' z1 z2] at z5
      exact absurd (q.symm.trans (ha1'.mpr ⟨x, z3, z4, z5.1⟩)) (by decide)
    refine ⟨d - 1, 0, 0, _, _, by omega, Nat.le_refl _, Nat.le_refl _, ct_M_isThere hg h.1 hP hp (by omega), ?_, fun _ _ h => h.elim⟩
    rintro r μ1 ⟨⟨a2, rfl, ha2, ha2'⟩, hμ1⟩
    have hμ1 := hμ1.symm
    subst hμ1
    refine ⟨fun q => c1 ?_, fun q2 => ?_⟩
    · rintro ⟨p', x, y, ⟨z1, z2⟩, _, ⟨z3, z4, z5⟩⟩
      rw [hpu p' z1 z2] at z5
      exact absurd (q.symm.trans (ha2'.mpr ⟨y, z3, z4, z5.1⟩)) (by decide)
    obtain ⟨y, hy, hY, hthy⟩ := ha2'.mp (zn_or01 ha2 q2)
    refine ⟨d - 1, 0, 0, _, _, by omega, Nat.le_refl _, Nat.le_refl _, ct_M_defines hg h.1 hP hp (by omega), ?_, fun _ _ h => h.elim⟩
    rintro r μ1 ⟨⟨a3, rfl, ha3, ha3'⟩, hμ1⟩
    have hμ1 := hμ1.symm
    subst hμ1
    refine ⟨fun q => c1 ?_, fun q3 => ?_⟩
    · rintro ⟨p', x, y, ⟨z1, z2⟩, ⟨z3, z4, z5⟩, _⟩
      rw [hpu p' z1 z2] at z5
      exact absurd (q.symm.trans (ha3'.mpr ⟨x, z3, z4, z5⟩)) (by decide)
    obtain ⟨x, hx, hX, hdf⟩ := ha3'.mp (zn_or01 ha3 q3)
    refine ⟨d - 1, 0, 0, _, _, by omega, Nat.le_refl _, Nat.le_refl _, ct_M_defines hg h.1 hP hp (by omega), ?_, fun _ _ h => h.elim⟩
    rintro r μ1 ⟨⟨a4, rfl, ha4, ha4'⟩, hμ1⟩
    have hμ1 := hμ1.symm
    subst hμ1
    refine ⟨fun q => c1 ?_, fun q4 => ?_⟩
    · rintro ⟨p', x', y', ⟨z1, z2⟩, _, ⟨z3, z4, z5⟩⟩
      rw [hpu p' z1 z2] at z5
      obtain ⟨k, w1, w2, w3⟩ := ha4'.mp (zn_or01 ha4 q)
      have : k = y' := (nI_eq (by omega) (by omega)).mp (w2.symm.trans z4)
      subst this
      exact z5.2 w3.2
    · refine c59 1 1 (Or.inr rfl) h1 (Or.inr rfl) ⟨fun _ => ⟨p, x, y, ⟨hp, hP⟩, ⟨hx, hX, hdf⟩, ⟨hy, hY, hthy, fun w => ?_⟩⟩, fun _ => rfl⟩
      exact absurd (q4.symm.trans (ha4'.mpr ⟨y, hy, hY, hthy, w⟩)) (by decide)
