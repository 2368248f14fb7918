/-! the class: Numbering, what one production drops -/
def nu_ms (g : gq_G) (J : Nat) (μ : za_M) (i : Nat) : Bool := decide (i / 8 < gq_ns g) && bt (μ.1 28 J (i / 8)) (i % 8)
def nu_so (g : gq_G) (J : Nat) (nb : Nat → Nat) (μ : za_M) : Prop := ∀ s, s < gq_ns g → ∀ a, bt (μ.1 28 J s) a = true → a < gq_at g s ∧ nb (8 * s + a) = 0
def nu_D (g : gq_G) (J : Nat) (nb : Nat → Nat) (μ : za_M) (i : Nat) : Prop := lf_V 64 (ps_d g nb (nu_ms g J μ)) i
def nu_K (g : gq_G) (nb : Nat → Nat) (L : Bool) (p x : Nat) (D : Nat → Prop) : Prop := ∃ y, bt (gq_nd g p x) y = true ∧ nb (ps_ix g p y) = 0 ∧ (¬ ps_sd L x y ∨ D (ps_ix g p y))
theorem nu_F {g : gq_G} {nb : Nat → Nat} {L : Bool} {p x : Nat} {D : Nat → Prop} {i : Nat} (hx : x < 32) : ps_F g nb L (32 * p + x) D i ↔ (i = ps_ix g p x ∧ nb i = 0 ∧ nu_K g nb L p x D) := by
  unfold ps_F nu_K
  rw [show (32 * p + x) / 32 = p by omega, show (32 * p + x) % 32 = x by omega]
theorem zb_cl (c : Int32) {a : Nat} (ha : a < 32) (b : Nat) : bt (c &&& ((1 <<< (nI a &&& 31)) ^^^ (-1))) b = (bt c b && decide (b ≠ a)) := by
  by_cases hb : b < 32
  · rw [b_and, b_xor, b_m1 b hb, b_shl a ha 1 hb, zb_b1 (b - a) (by omega)]
    by_cases e : b = a
    · subst e
      simp
    · have : (decide (a ≤ b) && decide (b - a = 0)) = false := by
        rw [Bool.and_eq_false_iff]
        by_cases q : a ≤ b
        · exact Or.inr (decide_eq_false (by omega))
        · exact Or.inl (decide_eq_false q)
      rw [this, decide_eq_true e]
      simp
  · rw [b_big (Nat.le_of_not_lt hb), b_big (Nat.le_of_not_lt hb)]
    rfl
theorem nu_ms_ix {g : gq_G} (hg : gq_ok g) {p y J : Nat} (hp : p < gq_np g) (hth : gq_th g p y) (μ : za_M) : nu_ms g J μ (ps_ix g p y) = bt (μ.1 28 J (gq_sy g p (y / 8))) (y % 8) := by
  have hat := (ps_th hg hp hth).1.1
  unfold nu_ms
  rw [decide_eq_true hat, Bool.true_and]
  unfold ps_ix
  rw [show (8 * gq_sy g p (y / 8) + y % 8) / 8 = gq_sy g p (y / 8) by omega, show (8 * gq_sy g p (y / 8) + y % 8) % 8 = y % 8 by omega]
theorem nu_rd {g : gq_G} (hg : gq_ok g) {p J o a : Nat} {L : Bool} {nb : Nat → Nat} {μ : za_M} {e w b : Int32} (hp : p < gq_np g) (ho : o < 4) (ha : a < 8)
    (h27 : ∀ s, s < 8 → ∀ a, bt (μ.1 27 J s) a = true ↔ (a < 8 ∧ nb (8 * s + a) ≠ 0))
    (he : ∀ z, bt e z = true ↔ (z < 32 ∧ z / 8 ≤ gq_m g p ∧ bt (μ.1 27 J (gq_sy g p (z / 8))) (z % 8) = true))
    (hw : ∀ z, bt w z = true ↔ (z < 32 ∧ z / 8 ≤ gq_m g p ∧ bt (μ.1 28 J (gq_sy g p (z / 8))) (z % 8) = true))
    (hb : ∀ a y, a < 8 → y < 32 → (bt b y = true ↔ ps_sd L (8 * o + a) y)) : gq_nd g p (8 * o + a) &&& ((e ||| (w &&& b)) ^^^ (-1)) = 0 ↔ ¬ nu_K g nb L p (8 * o + a) (nu_D g J nb μ) := by
  rw [zb_new]
  have key : ∀ y, bt (gq_nd g p (8 * o + a)) y = true → (bt (e ||| (w &&& b)) y = true ↔ ¬ (nb (ps_ix g p y) = 0 ∧ (¬ ps_sd L (8 * o + a) y ∨ nu_D g J nb μ (ps_ix g p y)))) := by
    intro y hy
    have hy32 : y < 32 := Classical.byContradiction fun q => by
      rw [b_big (Nat.le_of_not_lt q)] at hy
      cases hy
    have hth := (hg.2.2.2.2.2 p _ y hp (by omega) hy).2.1
    have hat := ps_th hg hp hth
    have hs8 := gq_sy8 hg hp hth.1
    have e1 : bt e y = true ↔ nb (ps_ix g p y) ≠ 0 := (he y).trans ⟨fun q => ((h27 _ hs8 _).mp q.2.2).2, fun q => ⟨hy32, hth.1, (h27 _ hs8 _).mpr ⟨Nat.mod_lt _ (by decide), q⟩⟩⟩
    have e2 : bt w y = true ↔ nu_ms g J μ (ps_ix g p y) = true := by
      rw [nu_ms_ix hg hp hth]
      exact (hw y).trans ⟨fun q => q.2.2, fun q => ⟨hy32, hth.1, q⟩⟩
    have e3 : nu_D g J nb μ (ps_ix g p y) ↔ (nb (ps_ix g p y) = 0 ∧ nu_ms g J μ (ps_ix g p y) = false) := ⟨fun q => (ps_d_iff.mp q.2).2, fun q => ⟨hat.2, ps_d_iff.mpr ⟨hat.1, q⟩⟩⟩
    rw [b_or, b_and, Bool.or_eq_true, Bool.and_eq_true, e1, e2, hb a y ha hy32, e3]
    cases hq : nu_ms g J μ (ps_ix g p y) with
    | true =>
      constructor
      · rintro (q | ⟨_, q⟩) ⟨z1, z2⟩
        · exact q z1
        · rcases z2 with z2 | z2
          · exact z2 q
          · exact absurd z2.2 (by decide)
      · intro q
        by_cases z : nb (ps_ix g p y) = 0
        · exact Or.inr ⟨rfl, Classical.byContradiction fun z2 => q ⟨z, Or.inl z2⟩⟩
        · exact Or.inl z
    | false =>
      constructor
      · rintro (q | ⟨q, _⟩) ⟨z1, z2⟩
        · exact q z1
        · cases q
      · intro q
        refine Or.inl fun z => q ⟨z, Or.inr ⟨z, rfl⟩⟩
  constructor
  · rintro h ⟨y, h1, h2, h3⟩
    exact (key y h1).mp (h y h1) ⟨h2, h3⟩
  · intro h y hy
    exact (key y hy).mpr (fun q => h ⟨y, hy, q.1, q.2⟩)
/-- the n first places gone through -/
def nu_A (g : gq_G) (J : Nat) (nb : Nat → Nat) (L : Bool) (p : Nat) (μ : za_M) (n : Nat) (μ1 : za_M) (v : Int32) : Prop :=
  (v = 0 ∨ v = 1) ∧ (v = 1 ↔ ∃ x, x < n ∧ ∃ i, ps_F g nb L (32 * p + x) (nu_D g J nb μ) i ∧ ¬ nu_D g J nb μ i) ∧ (∀ s a, s < gq_ns g → (bt (μ1.1 28 J s) a = true ↔ (bt (μ.1 28 J s) a = true ∧ ¬ ∃ x, x < n ∧ ps_F g nb L (32 * p + x) (nu_D g J nb μ) (8 * s + a)))) ∧ zq_fr (fun b j => b = 28 ∧ j = J) μ μ1
/-- a place that does nothing -/
theorem nu_A0 {g : gq_G} {J : Nat} {nb : Nat → Nat} {L : Bool} {p : Nat} {μ : za_M} {n : Nat} {μ1 : za_M} {v : Int32} (h : nu_A g J nb L p μ n μ1 v) (hn : ∀ i, ¬ ps_F g nb L (32 * p + n) (nu_D g J nb μ) i) : nu_A g J nb L p μ (n + 1) μ1 v := by
  have e : ∀ x i, (x < n + 1 ∧ ps_F g nb L (32 * p + x) (nu_D g J nb μ) i) ↔ (x < n ∧ ps_F g nb L (32 * p + x) (nu_D g J nb μ) i) := fun x i => ⟨fun ⟨q1, q2⟩ => ⟨Classical.byContradiction fun z => by
    have z : x = n := by omega
    subst z
    exact hn i q2, q2⟩, fun ⟨q1, q2⟩ => ⟨by omega, q2⟩⟩
  refine ⟨h.1, h.2.1.trans ⟨fun ⟨x, q1, i, q2⟩ => ⟨x, by omega, i, q2⟩, fun ⟨x, q1, i, q2, q3⟩ => ⟨x, ((e x i).mp ⟨q1, q2⟩).1, i, q2, q3⟩⟩, fun s a hs => ?_, h.2.2.2⟩
  rw [h.2.2.1 s a hs]
  exact ⟨fun q => ⟨q.1, fun ⟨x, z⟩ => q.2 ⟨x, (e x _).mp z⟩⟩, fun q => ⟨q.1, fun ⟨x, z⟩ => q.2 ⟨x, (e x _).mpr z⟩⟩⟩
theorem nu_Ak {g : gq_G} {J : Nat} {nb : Nat → Nat} {L : Bool} {p : Nat} {μ : za_M} {μ1 : za_M} {v : Int32} : ∀ (k n : Nat), nu_A g J nb L p μ n μ1 v → (∀ x i, n ≤ x → x < n + k → ¬ ps_F g nb L (32 * p + x) (nu_D g J nb μ) i) → nu_A g J nb L p μ (n + k) μ1 v
  | 0, _, h, _ => h
  | k + 1, n, h, hn => nu_A0 (nu_Ak k n h (fun x i q1 q2 => hn x i q1 (by omega))) (fun i => hn (n + k) i (by omega) (by omega))
/-- places that are not there do nothing -/
theorem nu_no {g : gq_G} (hg : gq_ok g) {J : Nat} {nb : Nat → Nat} {L : Bool} {p x : Nat} {μ : za_M} (hp : p < gq_np g) (hx : x < 32) (h : ¬ gq_th g p x) (i : Nat) : ¬ ps_F g nb L (32 * p + x) (nu_D g J nb μ) i := fun q => by
  obtain ⟨_, _, y, z, _⟩ := (nu_F hx).mp q
  exact h (hg.2.2.2.2.2 p x y hp hx z).1.1
set_option maxHeartbeats 16000000 in
theorem ct_N_drop {Γ : zk_G} {d p J : Nat} {x l : Int32} {L : Bool} {μ : za_M} {g : gq_G} {nb : Nat → Nat} (hg : gq_ok g) (hC : gq_C g μ) (hx : x = nI p) (hp : p < gq_np g)
    (h27 : ∀ s, s < 8 → ∀ a, bt (μ.1 27 J s) a = true ↔ (a < 8 ∧ nb (8 * s + a) ≠ 0)) (hso : nu_so g J nb μ) (hl : l = if L = true then 0 else 1) (hd : 3 ≤ d) : zk_Ct zt Γ zm_N_drop d 0 0 [za_r 24 J, za_r 1 0, za_i x, za_i l] μ
    (fun r μ' => (∃ v : Int32, r = some (za_i v) ∧ nu_A g J nb L p μ 32 μ' v)) (fun _ _ => False) := by
  obtain ⟨c1, c2, c3, c4, c5, c6⟩ := gq_Cp hg hC hx hp
  have hm := (hg.2.2.2.2.1 p hp).1
  have hns : gq_ns g ≤ 8 := hg.1
  refine zs_N_drop (Nat.le_of_ble_eq_true rfl) (by omega) (fun ZZ run => ?_)
  refine run [28] 60 0 _ _ _ _ ?_
  refine ⟨d - 1, 0, 0, _, _, by omega, Nat.le_refl _, Nat.le_refl _, ct_G_placesOf27 hg hC hx hp (fun s hs a q => ((h27 s (by omega) a).mp q).1) (by omega), ?_, fun _ _ h => h.elim⟩
  rintro r μ0 ⟨⟨e, rfl, he⟩, hμ0⟩
  have hμ0 := hμ0.symm
  subst hμ0
  refine ⟨d - 1, 0, 0, _, _, by omega, Nat.le_refl _, Nat.le_refl _, ct_G_placesOf28 hg hC hx hp (fun s hs a q => Nat.lt_of_lt_of_le (hso s hs a q).1 (Nat.le_trans (hg.2.2.1 s hs).1 (by decide))) (by omega), ?_, fun _ _ h => h.elim⟩
  rintro r μ0 ⟨⟨w, rfl, hw⟩, hμ0⟩
  have hμ0 := hμ0.symm
  subst hμ0
  have loop := zn_for (σ := (za_M × Int32) × Option za_V × Option za_V × Option za_V × Option za_V) (N := gq_m g p + 1)
    (P := fun o t => ∀ y : Int32, y = nI o → ZZ 28 [some (za_r 24 J), some (za_r 1 0), some (za_i x), some (za_i l), some (za_i e), some (za_i w), some (za_i t.1.2), some (za_i y), t.2.1, t.2.2.1, t.2.2.2.1, t.2.2.2.2] [] t.1.1 (0, 0))
    (I := fun o t => nu_A g J nb L p μ (8 * o) t.1.1 t.1.2)
    (fun t h y hy => by
      have n4 : t.1.1.1 4 0 x.toNatClampNeg = nI (gq_m g p) := by rw [h.2.2.2.1 4 0 (fun q => absurd q.1 (by decide))]; exact c4
      refine run [28, 67, 135] 60 28 _ _ _ _ ?_
      refine ⟨c2, fun _ => ?_, fun q => absurd (zn_lt2 n4 hy (Nat.lt_succ_self _) (by omega)) q⟩
      refine ⟨rfl, Or.inr ⟨rfl, h.1⟩, Nat.le_refl _, Nat.le_refl _, ⟨t.1.2, rfl, ?_⟩⟩
      have := nu_Ak (32 - 8 * (gq_m g p + 1)) (8 * (gq_m g p + 1)) h (fun x i q1 q2 => nu_no hg hp (by omega) (fun z => by have := z.1; omega) i)
      rw [show 8 * (gq_m g p + 1) + (32 - 8 * (gq_m g p + 1)) = 32 by omega] at this
      exact this)
    (fun o t ho h ih y hy => by
      have n4 : t.1.1.1 4 0 x.toNatClampNeg = nI (gq_m g p) := by rw [h.2.2.2.1 4 0 (fun q => absurd q.1 (by decide))]; exact c4
      have hco : y.toNatClampNeg = o := zn_c hy (by omega)
      have hs0 : t.1.1.1 6 x.toNatClampNeg y.toNatClampNeg = nI (gq_sy g p o) := by rw [h.2.2.2.1 6 x.toNatClampNeg (fun q => absurd q.1 (by decide)), hco]; exact c5 o (by omega)
      have hs8 := gq_sy8 hg hp (show o ≤ gq_m g p by omega)
      have hsn := (hg.2.2.2.2.1 p hp).2 o (by omega)
      have hat := (hg.2.2.1 _ hsn).1
      refine run [28, 67, 135] 60 28 _ _ _ _ ?_
      refine ⟨c2, fun q => absurd q (zn_nl n4 hy (by omega) (by omega)), fun _ => ⟨c2, zn_i hy (by omega) (by decide), ?_⟩⟩
      refine ⟨d - 1, 0, 0, _, _, by omega, Nat.le_refl _, Nat.le_refl _, ct_N_placesBefore hy (by omega) hl (by omega), ?_, fun _ _ h => h.elim⟩
      rintro r μ0 ⟨⟨b, rfl, hb⟩, hμ0⟩
      subst hμ0
      have inner := zn_for (σ := (za_M × Int32) × Option za_V) (N := 6)
        (P := fun a u => ∀ z : Int32, z = nI a → ZZ 67 [some (za_r 24 J), some (za_r 1 0), some (za_i x), some (za_i l), some (za_i e), some (za_i w), some (za_i u.1.2), some (za_i y), some (za_i (t.1.1.1 6 x.toNatClampNeg y.toNatClampNeg)), some (za_i (e ||| (w &&& b))), some (za_i z), u.2] [] u.1.1 (0, 0))
        (I := fun a u => nu_A g J nb L p μ (8 * o + a) u.1.1 u.1.2)
        (fun u q z hz => by
          refine run [28, 67, 135] 60 67 _ _ _ _ ?_
          refine ⟨fun _ => ?_, fun w => absurd (by rw [hz]; exact nI_le (Nat.le_refl 6) (by decide)) w⟩
          refine ih (u.1, some _, some _, some _, u.2) ?_ _ (zn_s hy)
          have := nu_Ak 2 (8 * o + 6) q (fun x i q1 q2 => nu_no hg hp (by omega) (fun z => by
            have z2 := z.2
            rw [show x / 8 = o by omega] at z2
            omega) i)
          exact this)
        (fun a u ha q ih2 z hz => by
          have hca : z.toNatClampNeg = a := zn_c hz (by omega)
          have e8 : (8 : Int32) * y + z = nI (8 * o + a) := by rw [hy, hz, zn_8, nI_add]
          have n8 : u.1.1.1 8 x.toNatClampNeg ((8 : Int32) * y + z).toNatClampNeg = gq_nd g p (8 * o + a) := by rw [q.2.2.2.1 8 x.toNatClampNeg (fun q => absurd q.1 (by decide)), zn_c e8 (by omega)]; exact c6 _ (by omega)
          have hrd := nu_rd hg (nb := nb) hp (show o < 4 by omega) (show a < 8 by omega) h27 he hw hb
          have hix : ps_ix g p (8 * o + a) = 8 * gq_sy g p o + a := by
            unfold ps_ix
            rw [show (8 * o + a) / 8 = o by omega, show (8 * o + a) % 8 = a by omega]
          have c135 : ∀ (μ2 : za_M) (v : Int32), nu_A g J nb L p μ (8 * o + a + 1) μ2 v → ZZ 135 [some (za_r 24 J), some (za_r 1 0), some (za_i x), some (za_i l), some (za_i e), some (za_i w), some (za_i v), some (za_i y), some (za_i (t.1.1.1 6 x.toNatClampNeg y.toNatClampNeg)), some (za_i (e ||| (w &&& b))), some (za_i z), some (za_i (u.1.1.1 8 x.toNatClampNeg ((8 : Int32) * y + z).toNatClampNeg))] [] μ2 (0, 0) := by
            intro μ2 v h2
            refine run [67] 60 135 _ _ _ _ ?_
            exact ih2 ((μ2, v), some _) h2 _ (zn_s hz)
          refine run [28, 67, 135] 60 67 _ _ _ _ ?_
          refine ⟨fun w => absurd w (zn_ge hz rfl ha (by decide)), fun _ => ⟨c2, zn_i e8 (by omega) (by decide), fun h0 => ?_, fun h0 => ?_⟩⟩
          · have h0 : u.1.1.1 8 x.toNatClampNeg ((8 : Int32) * y + z).toNatClampNeg &&& ((e ||| (w &&& b)) ^^^ (-1)) = 0 := h0
            rw [n8] at h0
            have hK := hrd.mp h0
            exact c135 _ _ (nu_A0 q (fun i z => hK ((nu_F (by omega)).mp z).2.2))
          · have h0 : ¬ u.1.1.1 8 x.toNatClampNeg ((8 : Int32) * y + z).toNatClampNeg &&& ((e ||| (w &&& b)) ^^^ (-1)) = 0 := h0
            rw [n8] at h0
            have hK : nu_K g nb L p (8 * o + a) (nu_D g J nb μ) := Classical.byContradiction fun w => h0 (hrd.mpr w)
            refine ⟨zn_i hs0 hs8 (by decide), ?_⟩
            refine ⟨d - 1, 0, 0, _, _, by omega, Nat.le_refl _, Nat.le_refl _, ct_A_hasBit (by omega), ?_, fun _ _ h => h.elim⟩
            rintro r μ0 ⟨rfl, hμ0⟩
            subst hμ0
            have hcs : (t.1.1.1 6 x.toNatClampNeg y.toNatClampNeg).toNatClampNeg = gq_sy g p o := zn_c hs0 (by omega)
            have hF : ∀ i, ps_F g nb L (32 * p + (8 * o + a)) (nu_D g J nb μ) i ↔ (i = 8 * gq_sy g p o + a ∧ nb i = 0) := fun i => (nu_F (by omega)).trans ⟨fun q => ⟨by rw [← hix]; exact q.1, q.2.1⟩, fun q => ⟨by rw [hix]; exact q.1, q.2, hK⟩⟩
            have hth : gq_th g p (8 * o + a) := by
              obtain ⟨y, w1, _⟩ := hK
              exact (hg.2.2.2.2.2 p _ y hp (by omega) w1).1.1
            have hpat := ps_th hg hp hth
            have hD : ¬ nu_D g J nb μ (8 * gq_sy g p o + a) → nb (8 * gq_sy g p o + a) = 0 → bt (μ.1 28 J (gq_sy g p o)) a = true := by
              intro w1 w2
              cases hq : bt (μ.1 28 J (gq_sy g p o)) a with
              | true => rfl
              | false =>
                refine absurd ?_ w1
                rw [← hix]
                refine ⟨hpat.2, ps_d_iff.mpr ⟨hpat.1, by rw [hix]; exact w2, ?_⟩⟩
                rw [nu_ms_ix hg hp hth, show (8 * o + a) / 8 = o by omega, show (8 * o + a) % 8 = a by omega]
                exact hq
            have hD2 : bt (μ.1 28 J (gq_sy g p o)) a = true → ¬ nu_D g J nb μ (8 * gq_sy g p o + a) := by
              intro w1 w2
              rw [← hix] at w2
              have := (ps_d_iff.mp w2.2).2.2
              rw [nu_ms_ix hg hp hth, show (8 * o + a) / 8 = o by omega, show (8 * o + a) % 8 = a by omega, w1] at this
              cases this
            by_cases hbit : bt (u.1.1.1 28 J (gq_sy g p o)) a = true
            · have hne : ¬ ((u.1.1.1 28 J (t.1.1.1 6 x.toNatClampNeg y.toNatClampNeg).toNatClampNeg).toUInt32 >>> (z.toUInt32 &&& Int32.toUInt32 31)).toInt32 &&& 1 = 0 := by
                rw [hcs, hz, zb_t3 _ (show a < 32 by omega), hbit]
                decide
              rw [if_neg hne]
              have hor := (q.2.2.1 _ a hsn).mp hbit
              have hnb0 := (hso _ hsn a hor.1).2
              refine ⟨fun w => absurd w (by decide), fun _ => ⟨zn_i hs0 hs8 (by decide), zn_i hs0 hs8 (by decide), ?_⟩⟩
              suffices post : ∀ μ2 : za_M, (za_u u.1.1.1 28 J (t.1.1.1 6 x.toNatClampNeg y.toNatClampNeg).toNatClampNeg (u.1.1.1 28 J (t.1.1.1 6 x.toNatClampNeg y.toNatClampNeg).toNatClampNeg &&& ((1 <<< (z &&& 31)) ^^^ (-1))), u.1.1.2) = μ2 → nu_A g J nb L p μ (8 * o + a + 1) μ2 1 from c135 _ 1 (post _ rfl)
              intro μ2 hμ2
              rw [hcs, hz] at hμ2
              refine ⟨Or.inr rfl, ⟨fun _ => ⟨8 * o + a, Nat.lt_succ_self _, _, (hF _).mpr ⟨rfl, hnb0⟩, hD2 hor.1⟩, fun _ => rfl⟩, fun s a' hs => ?_, by rw [← hμ2]; exact zq_u q.2.2.2 ⟨rfl, rfl⟩⟩
              by_cases es : s = gq_sy g p o
              · subst es
                have e1 : μ2.1 28 J (gq_sy g p o) = u.1.1.1 28 J (gq_sy g p o) &&& ((1 <<< (nI a &&& 31)) ^^^ (-1)) := by rw [← hμ2]; exact za_u_same _ _ _ _ _
                rw [e1, zb_cl _ (show a < 32 by omega), Bool.and_eq_true, q.2.2.1 _ a' hs, decide_eq_true_eq]
                constructor
                · rintro ⟨⟨w1, w2⟩, w3⟩
                  refine ⟨w1, fun ⟨x', w4, w5⟩ => ?_⟩
                  by_cases ex : x' = 8 * o + a
                  · subst ex
                    have := ((hF _).mp w5).1
                    omega
                  · exact w2 ⟨x', by omega, w5⟩
                · rintro ⟨w1, w2⟩
                  refine ⟨⟨w1, fun ⟨x', w4, w5⟩ => w2 ⟨x', by omega, w5⟩⟩, fun w3 => w2 ⟨8 * o + a, Nat.lt_succ_self _, (hF _).mpr ⟨by rw [w3], ?_⟩⟩⟩
                  rw [w3]
                  exact hnb0
              · have e1 : μ2.1 28 J s = u.1.1.1 28 J s := by
                  rw [← hμ2]
                  exact za_u_i es
                rw [e1, q.2.2.1 s a' hs]
                refine and_congr_right fun w1 => not_congr ⟨fun ⟨x', w4, w5⟩ => ⟨x', by omega, w5⟩, fun ⟨x', w4, w5⟩ => ⟨x', ?_, w5⟩⟩
                refine Classical.byContradiction fun w6 => ?_
                have ex : x' = 8 * o + a := by omega
                subst ex
                have h1 := ((hF _).mp w5).1
                have h2 := (hso s hs a' w1).1
                have h3 := (hg.2.2.1 s hs).1
                omega
            · have hbf : bt (u.1.1.1 28 J (gq_sy g p o)) a = false := by rw [Bool.not_eq_true] at hbit; exact hbit
              have hze : ((u.1.1.1 28 J (t.1.1.1 6 x.toNatClampNeg y.toNatClampNeg).toNatClampNeg).toUInt32 >>> (z.toUInt32 &&& Int32.toUInt32 31)).toInt32 &&& 1 = 0 := by
                rw [hcs, hz, zb_t3 _ (show a < 32 by omega)]
                exact hbf
              rw [if_pos hze]
              refine ⟨fun _ => c135 _ _ ?_, fun w => absurd rfl w⟩
              -- the bit was dropped before, or never there
              have hprev : bt (μ.1 28 J (gq_sy g p o)) a = true → ∃ x', x' < 8 * o + a ∧ ps_F g nb L (32 * p + x') (nu_D g J nb μ) (8 * gq_sy g p o + a) := by
                intro w1
                exact Classical.byContradiction fun w2 => hbit ((q.2.2.1 _ a hsn).mpr ⟨w1, w2⟩)
              refine ⟨q.1, q.2.1.trans ⟨fun ⟨x', w1, i, w2⟩ => ⟨x', by omega, i, w2⟩, fun ⟨x', w1, i, w2, w3⟩ => ?_⟩, fun s a' hs => ?_, q.2.2.2⟩
              · by_cases ex : x' = 8 * o + a
                · subst ex
                  obtain ⟨rfl, w4⟩ := (hF _).mp w2
                  obtain ⟨x2, w5, w6⟩ := hprev (hD w3 w4)
                  exact ⟨x2, w5, _, w6, w3⟩
                · exact ⟨x', by omega, i, w2, w3⟩
              · rw [q.2.2.1 s a' hs]
                refine and_congr_right fun w1 => not_congr ⟨fun ⟨x', w4, w5⟩ => ⟨x', by omega, w5⟩, fun ⟨x', w4, w5⟩ => ?_⟩
                by_cases ex : x' = 8 * o + a
                · subst ex
                  have h1 := ((hF _).mp w5).1
                  have h2 := (hso s hs a' w1).1
                  have h3 := (hg.2.2.1 s hs).1
                  have es : s = gq_sy g p o := by omega
                  have ea : a' = a := by omega
                  rw [es, ea] at w1 ⊢
                  exact hprev w1
                · exact ⟨x', by omega, w5⟩)
      exact inner 0 (t.1, t.2.2.2.2) (Nat.zero_le _) h 0 rfl)
  refine loop 0 ((μ, 0), none, none, none, none) (Nat.zero_le _) ⟨Or.inl rfl, ⟨fun q => absurd q (show ¬ (0 : Int32) = 1 by decide), fun ⟨x, q, _⟩ => absurd q (Nat.not_lt_zero x)⟩, fun s a hs => ⟨fun q => ⟨q, fun ⟨x, z, _⟩ => absurd z (Nat.not_lt_zero x)⟩, fun q => q.1⟩, zq_rf⟩ 0 rfl
