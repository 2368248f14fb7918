/-! the class: Numbering, the set of a pass -/
theorem nu_fin1 {g : gq_G} (hg : gq_ok g) {J : Nat} {nb : Nat → Nat} {L : Bool} {p : Nat} {μ μ' : za_M} {v : Int32} (hp : p < gq_np g) (h : nu_A g J nb L p μ 32 μ' v) (hso : nu_so g J nb μ) : (∀ i, i < 64 → (ps_d g nb (nu_ms g J μ') i = true ↔ (ps_d g nb (nu_ms g J μ) i = true ∨ ps_G g nb L p (nu_D g J nb μ) i))) ∧ (v = 1 ↔ ∃ i, ps_G g nb L p (nu_D g J nb μ) i ∧ ¬ nu_D g J nb μ i) ∧ nu_so g J nb μ' := by
  obtain ⟨h1, h2, h3, h4⟩ := h
  refine ⟨fun i hi => ?_, h2.trans ⟨fun ⟨x, q1, i, q2, q3⟩ => ⟨i, ⟨x, q1, q2⟩, q3⟩, fun ⟨i, ⟨x, q1, q2⟩, q3⟩ => ⟨x, q1, i, q2, q3⟩⟩, fun s hs a q => hso s hs a ((h3 s a hs).mp q).1⟩
  have key : i / 8 < gq_ns g → (nu_ms g J μ' i = false ↔ (nu_ms g J μ i = false ∨ ps_G g nb L p (nu_D g J nb μ) i)) := by
    intro hs
    have e := h3 (i / 8) (i % 8) hs
    rw [show 8 * (i / 8) + i % 8 = i by omega] at e
    unfold nu_ms
    rw [decide_eq_true hs, Bool.true_and, Bool.true_and, ← Bool.not_eq_true, ← Bool.not_eq_true, e]
    constructor
    · intro q
      by_cases z : bt (μ.1 28 J (i / 8)) (i % 8) = true
      · refine Or.inr ?_
        exact Classical.byContradiction fun w => q ⟨z, w⟩
      · exact Or.inl z
    · rintro (q | q) z
      · exact q z.1
      · exact z.2 q
  rw [ps_d_iff, ps_d_iff]
  constructor
  · rintro ⟨q1, q2, q3⟩
    exact ((key q1.1).mp q3).elim (fun z => Or.inl ⟨q1, q2, z⟩) Or.inr
  · rintro (⟨q1, q2, q3⟩ | q)
    · exact ⟨q1, q2, (key q1.1).mpr (Or.inl q3)⟩
    · obtain ⟨x, z1, z2⟩ := q
      obtain ⟨w1, w2, y, w3, _⟩ := (nu_F z1).mp z2
      have hat := ps_th hg hp (hg.2.2.2.2.2 p x y hp z1 w3).1.1
      rw [← w1] at hat
      exact ⟨hat.1, w2, (key hat.1.1).mpr (Or.inr ⟨x, z1, z2⟩)⟩
theorem b_not (c n : Int32) (a : Nat) : bt (c &&& (n ^^^ (-1))) a = (bt c a && !bt n a) := by
  by_cases h : a < 32
  · rw [b_and, b_xor, b_m1 a h]
    cases bt c a <;> cases bt n a <;> rfl
  · rw [b_big (Nat.le_of_not_lt h), b_big (Nat.le_of_not_lt h)]
    rfl
theorem fb_bt' {n : Nat} (hn : n < 32) (i : Nat) : bt ((1 <<< (nI n &&& 31)) - 1) i = decide (i < n) := by
  by_cases h : i < 32
  · exact fb_bt n hn i h
  · rw [b_big (Nat.le_of_not_lt h), decide_eq_false (by omega)]
set_option maxHeartbeats 8000000 in
theorem ct_N_choose {Γ : zk_G} {d J : Nat} {l : Int32} {L : Bool} {μ : za_M} {g : gq_G} {nb : Nat → Nat} (hg : gq_ok g) (hC : gq_C g μ)
    (h27 : ∀ s, s < 8 → ∀ a, bt (μ.1 27 J s) a = true ↔ (a < 8 ∧ nb (8 * s + a) ≠ 0)) (hl : l = if L = true then 0 else 1) (hd : 4 ≤ d) : zk_Ct zt Γ zm_N_choose d 0 0 [za_r 24 J, za_r 1 0, za_i l] μ
    (fun r μ' => r = none ∧ (∀ s, s < gq_ns g → ∀ a, bt (μ'.1 28 J s) a = true ↔ (a < 8 ∧ ps_in g nb L (8 * s + a))) ∧ zq_fr (fun b j => b = 28 ∧ j = J) μ μ') (fun _ _ => False) := by
  have hns : gq_ns g ≤ 8 := hg.1
  have hnp : gq_np g ≤ 16 := hg.2.1
  have hCf : ∀ {μ1 : za_M}, zq_fr (fun b j => b = 28 ∧ j = J) μ μ1 → gq_C g μ1 := fun hf => gq_C_fr hC hf (fun b j hb q => by omega)
  refine zs_N_choose (Nat.le_of_ble_eq_true rfl) (by omega) (fun ZZ run => ?_)
  have wh := zn_wh (σ := (za_M × Int32) × Nat × Option za_V)
    (P := fun t => ∀ y : Int32, y = nI t.2.1 → ZZ 41 [some (za_r 24 J), some (za_r 1 0), some (za_i l), some (za_i t.1.2), some (za_i y), t.2.2] [] t.1.1 (0, 0))
    (I := fun t => lf_H (ps_G g nb L) (gq_np g) 64 (ps_d g nb (nu_ms g J t.1.1)) t.1.2 ∧ nu_so g J nb t.1.1 ∧ t.2.1 + (2 * ct_n (ps_d g nb (nu_ms g J t.1.1)) 64 + t.1.2.toNatClampNeg) ≤ 129 ∧ zq_fr (fun b j => b = 28 ∧ j = J) μ t.1.1)
    (fun t => 2 * ct_n (ps_d g nb (nu_ms g J t.1.1)) 64 + t.1.2.toNatClampNeg)
    (fun t h ih y hy => by
      obtain ⟨i1, i2, i3, i4⟩ := h
      refine run [41, 58] 60 41 _ _ _ _ ?_
      refine ⟨fun h0 => ?_, fun h0 => ⟨fun hz => absurd hz (zn_1000 hy (by omega)), fun _ => ?_⟩⟩
      · refine ⟨rfl, rfl, Nat.le_refl _, Nat.le_refl _, rfl, fun s hs a => ?_, i4⟩
        have done : ∀ i, i < 64 → (nu_ms g J t.1.1 i = true ↔ ps_in g nb L i) := fun i hi => ps_done (fun i hi q => by
          unfold nu_ms at q
          rw [Bool.and_eq_true, decide_eq_true_eq] at q
          have := i2 _ q.1 _ q.2
          rw [show 8 * (i / 8) + i % 8 = i by omega] at this
          exact ⟨⟨q.1, this.1⟩, this.2⟩) (fun i => (i1.2.2 h0 i).trans (ps_GL g nb L i)) hi
        constructor
        · intro q
          have h1 := (i2 s hs a q).1
          have h2 := (hg.2.2.1 s hs).1
          refine ⟨by omega, (done _ (by omega)).mp ?_⟩
          unfold nu_ms
          rw [show (8 * s + a) / 8 = s by omega, show (8 * s + a) % 8 = a by omega, decide_eq_true hs, q]
          rfl
        · rintro ⟨q1, q2⟩
          have := (done _ (by omega)).mpr q2
          unfold nu_ms at this
          rw [show (8 * s + a) / 8 = s by omega, show (8 * s + a) % 8 = a by omega, decide_eq_true hs] at this
          exact this
      · have inner := zn_for (σ := za_M × Int32) (N := gq_np g)
          (P := fun p u => ∀ x : Int32, x = nI p → ZZ 58 [some (za_r 24 J), some (za_r 1 0), some (za_i l), some (za_i u.2), some (za_i y), some (za_i x)] [] u.1 (0, 0))
          (I := fun p u => lf_I (ps_G g nb L) (gq_np g) 64 (ps_d g nb (nu_ms g J t.1.1)) p (ps_d g nb (nu_ms g J u.1)) u.2 ∧ nu_so g J nb u.1 ∧ zq_fr (fun b j => b = 28 ∧ j = J) μ u.1)
          (fun u q x hx => by
            have e3 : u.1.1 1 0 3 = nI (gq_np g) := (hCf q.2.2).2.1
            refine run [41, 58] 60 58 _ _ _ _ ?_
            refine ⟨fun _ => ?_, fun w => absurd (by rw [hx, e3]; exact nI_le (Nat.le_refl _) (by omega)) w⟩
            have hm := lf_Im q.1 (zn_or01 i1.1 h0)
            exact ih (u, t.2.1 + 1, some (za_i x)) ⟨lf_IH q.1, q.2.1, (by show t.2.1 + 1 + (2 * ct_n (ps_d g nb (nu_ms g J u.1)) 64 + u.2.toNatClampNeg) ≤ 129; omega), q.2.2⟩ hm _ (zn_s hy))
          (fun p u hp q ih2 x hx => by
            have e3 : u.1.1 1 0 3 = nI (gq_np g) := (hCf q.2.2).2.1
            refine run [41, 58] 60 58 _ _ _ _ ?_
            refine ⟨fun w => absurd w (zn_ge hx e3 hp (by omega)), fun _ => ?_⟩
            refine ⟨d - 1, 0, 0, _, _, by omega, Nat.le_refl _, Nat.le_refl _, ct_N_drop (nb := nb) hg (hCf q.2.2) hx hp (by rw [q.2.2.1 27 J (fun q => absurd q.1 (by decide))]; exact h27) q.2.1 hl (by omega), ?_, fun _ _ h => h.elim⟩
            rintro r μ1 ⟨v, rfl, hA⟩
            obtain ⟨n1, n2, n3⟩ := nu_fin1 hg hp hA q.2.1
            refine ih2 (μ1, u.2 ||| v) ⟨lf_Is (ps_Gm g nb L) (ps_GN hg nb L) q.1 hp n1 ?_ ?_, n3, zq_tr q.2.2 hA.2.2.2⟩ _ (zn_s hx)
            · rcases hA.1 with e | e
              · rw [e, zn_o0 q.1.1]; exact q.1.1
              · rw [e, zn_o1 q.1.1]; exact Or.inr rfl
            · rcases hA.1 with e | e
              · rw [e, zn_o0 q.1.1]
                exact ⟨Or.inl, fun w => w.elim id (fun w => absurd (n2.mpr w) (by rw [e]; decide))⟩
              · rw [e, zn_o1 q.1.1]
                exact ⟨fun _ => Or.inr (n2.mp e), fun _ => rfl⟩)
        exact inner 0 (t.1.1, 0) (Nat.zero_le _) ⟨lf_I0 i1.2.1, i2, i4⟩ 0 rfl)
  have loop := zn_for (σ := za_M) (N := gq_ns g)
    (P := fun k μ1 => ∀ y : Int32, y = nI k → ZZ 2 [some (za_r 24 J), some (za_r 1 0), some (za_i l), some (za_i y), none, none] [] μ1 (0, 0))
    (I := fun k μ1 => (∀ s, s < k → ∀ a, bt (μ1.1 28 J s) a = true ↔ (a < gq_at g s ∧ nb (8 * s + a) = 0)) ∧ zq_fr (fun b j => b = 28 ∧ j = J) μ μ1)
    (fun μ1 h y hy => by
      have e0 : μ1.1 1 0 0 = nI (gq_ns g) := (hCf h.2).1
      refine run [2, 41] 60 2 _ _ _ _ ?_
      refine ⟨fun _ => ?_, fun q => absurd (by rw [hy, e0]; exact nI_le (Nat.le_refl _) (by omega)) q⟩
      refine wh ((μ1, 1), 0, none) ⟨⟨Or.inr rfl, fun i q => ?_, fun q => absurd q (show ¬ (1 : Int32) = 0 by decide)⟩, fun s hs a q => (h.1 s hs a).mp q, ?_, h.2⟩ 0 rfl
      · obtain ⟨q1, q2, q3⟩ := ps_d_iff.mp q.2
        have h1 := (h.1 (i / 8) q1.1 (i % 8)).mpr ⟨q1.2, by rw [show 8 * (i / 8) + i % 8 = i by omega]; exact q2⟩
        have q3 : nu_ms g J μ1 i = false := q3
        unfold nu_ms at q3
        rw [decide_eq_true q1.1, h1] at q3
        cases q3
      · have := ct_n_max (ps_d g nb (nu_ms g J μ1)) 64
        show 0 + (2 * ct_n (ps_d g nb (nu_ms g J μ1)) 64 + (1 : Int32).toNatClampNeg) ≤ 129
        rw [show (1 : Int32).toNatClampNeg = 1 by decide]
        omega)
    (fun k μ1 hk h ih y hy => by
      have hC1 := hCf h.2
      have e0 : μ1.1 1 0 0 = nI (gq_ns g) := hC1.1
      have hck : y.toNatClampNeg = k := zn_c hy (by omega)
      have hb : vp_in y 8 := zn_i hy (by omega) (by decide)
      have hat := (hg.2.2.1 k hk).1
      refine run [2, 41] 60 2 _ _ _ _ ?_
      refine ⟨fun q => absurd q (zn_ge hy e0 hk (by omega)), fun _ => ?_⟩
      refine ⟨d - 1, 0, 0, _, _, by omega, Nat.le_refl _, Nat.le_refl _, ct_G_all (by omega) hb, ?_, fun _ _ h => h.elim⟩
      rintro r μ0 ⟨rfl, hμ0⟩
      have hμ0 := hμ0.symm
      subst hμ0
      refine ⟨hb, hb, ?_⟩
      refine ih _ ⟨fun s hs a => ?_, zq_u h.2 ⟨rfl, rfl⟩⟩ _ (zn_s hy)
      dsimp only
      rw [hck]
      by_cases e : s = k
      · subst e
        rw [za_u_same, b_not, (hC1.2.2.1 s hk).1, fb_bt' (by omega), Bool.and_eq_true, decide_eq_true_eq, Bool.not_eq_true', ← Bool.not_eq_true, h.2.1 27 J (fun q => absurd q.1 (by decide)), h27 s (by omega) a]
        constructor
        · rintro ⟨q1, q2⟩
          exact ⟨q1, Classical.byContradiction fun w => q2 ⟨by omega, w⟩⟩
        · rintro ⟨q1, q2⟩
          exact ⟨q1, fun w => w.2 q2⟩
      · rw [za_u_i e]
        exact h.1 s (by omega) a)
  refine run [2] 60 0 _ _ _ _ ?_
  exact loop 0 μ (Nat.zero_le _) ⟨fun i hi => absurd hi (Nat.not_lt_zero i), zq_rf⟩ 0 rfl
/-- what numbered and number hold -/
def nu_27 (J : Nat) (f : Nat → Nat) (μ : za_M) : Prop := ∀ s, s < 8 → ∀ a, bt (μ.1 27 J s) a = true ↔ (a < 8 ∧ f (8 * s + a) ≠ 0)
def nu_v (k : Nat) : Int32 := if k = 0 then -1 else nI k
def nu_26 (J : Nat) (f : Nat → Nat) (μ : za_M) : Prop := ∀ s a, s < 8 → a < 6 → μ.1 26 (8 * J + s) a = nu_v (f (8 * s + a))
set_option maxHeartbeats 4000000 in
theorem ct_N_isWhole {Γ : zk_G} {d J : Nat} {μ : za_M} {g : gq_G} {nb : Nat → Nat} (hg : gq_ok g) (hC : gq_C g μ) (h27 : nu_27 J nb μ) (hat : ∀ i, nb i ≠ 0 → ps_at g i) (hd : 3 ≤ d) : zk_Ct zt Γ zm_N_isWhole d 0 0 [za_r 24 J, za_r 1 0] μ
    (fun r μ' => (∃ v : Int32, r = some (za_i v) ∧ (v = 0 ∨ v = 1) ∧ (v = 1 ↔ ∀ i, ps_at g i → nb i ≠ 0)) ∧ μ' = μ) (fun _ _ => False) := by
  have hns : gq_ns g ≤ 8 := hg.1
  refine zs_N_isWhole (Nat.le_of_ble_eq_true rfl) (by omega) (fun ZZ run => ?_)
  have e0 : μ.1 1 0 0 = nI (gq_ns g) := hC.1
  have loop := zn_for (σ := Unit) (N := gq_ns g)
    (P := fun k _ => ∀ y : Int32, y = nI k → ZZ 2 [some (za_r 24 J), some (za_r 1 0), some (za_i y)] [] μ (0, 0))
    (I := fun k _ => ∀ i, i / 8 < k → ps_at g i → nb i ≠ 0)
    (fun _ h y hy => by
      refine run [2] 60 2 _ _ _ _ ?_
      refine ⟨fun _ => ?_, fun q => absurd (by rw [hy, e0]; exact nI_le (Nat.le_refl _) (by omega)) q⟩
      exact ⟨rfl, Or.inr ⟨rfl, Or.inr rfl⟩, Nat.le_refl _, Nat.le_refl _, ⟨1, rfl, Or.inr rfl, fun _ i q => h i q.1 q, fun _ => rfl⟩, rfl⟩)
    (fun k _ hk h ih y hy => by
      have hck : y.toNatClampNeg = k := zn_c hy (by omega)
      have hb : vp_in y 8 := zn_i hy (by omega) (by decide)
      have hat6 := (hg.2.2.1 k hk).1
      refine run [2] 60 2 _ _ _ _ ?_
      refine ⟨fun q => absurd q (zn_ge hy e0 hk (by omega)), fun _ => ⟨hb, ?_⟩⟩
      refine ⟨d - 1, 0, 0, _, _, by omega, Nat.le_refl _, Nat.le_refl _, ct_G_all (by omega) hb, ?_, fun _ _ h => h.elim⟩
      rintro r μ0 ⟨rfl, hμ0⟩
      have hμ0 := hμ0.symm
      subst hμ0
      have eall : ∀ a, bt ((1 <<< (μ.1 2 0 y.toNatClampNeg &&& 31)) - 1) a = decide (a < gq_at g k) := fun a => by
        rw [hck, (hC.2.2.1 k hk).1]
        exact fb_bt' (by omega) a
      refine ⟨fun q => ?_, fun q => ?_⟩
      · refine ih () (fun i hi hp => ?_) _ (zn_s hy)
        by_cases e : i / 8 = k
        · have h1 := eall (i % 8)
          have hp2 : i % 8 < gq_at g k := by rw [← e]; exact hp.2
          rw [← q, hck, decide_eq_true hp2, h27 k (by omega) (i % 8)] at h1
          rw [show i = 8 * k + i % 8 by omega]
          exact h1.2
        · exact h i (by omega) hp
      · refine ⟨rfl, Or.inr ⟨rfl, Or.inl rfl⟩, Nat.le_refl _, Nat.le_refl _, ⟨0, rfl, Or.inl rfl, fun q => absurd q (by decide), fun w => absurd ?_ q⟩, rfl⟩
        refine b_ext fun a ha => ?_
        rw [eall a, hck]
        by_cases ea : a < gq_at g k
        · rw [decide_eq_true ea, h27 k (by omega) a]
          refine ⟨by omega, w _ ⟨?_, ?_⟩⟩
          · rw [show (8 * k + a) / 8 = k by omega]; exact hk
          · rw [show (8 * k + a) / 8 = k by omega, show (8 * k + a) % 8 = a by omega]; exact ea
        · rw [decide_eq_false ea, ← Bool.not_eq_true, h27 k (by omega) a]
          rintro ⟨z1, z2⟩
          have := (hat _ z2).2
          rw [show (8 * k + a) / 8 = k by omega, show (8 * k + a) % 8 = a by omega] at this
          exact ea this)
  refine run [2] 60 0 _ _ _ _ ?_
  exact loop 0 () (Nat.zero_le _) (fun i hi => absurd hi (Nat.not_lt_zero _)) 0 rfl
