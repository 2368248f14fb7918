/-! the class: Numbering, numbers given; find -/
noncomputable def nu_L (f f' : Nat → Nat) (m i : Nat) : Nat := if i < m then f' i else f i
theorem nu_L_eq {f f' : Nat → Nat} {m m' i : Nat} (h : m ≤ i → i < m' → f' i = f i) (hm : m ≤ m') : nu_L f f' m i = nu_L f f' m' i := by
  unfold nu_L
  by_cases e : i < m
  · rw [if_pos e, if_pos (by omega)]
  · rw [if_neg e]
    by_cases e2 : i < m'
    · rw [if_pos e2, h (by omega) e2]
    · rw [if_neg e2]
theorem nu_27c {J : Nat} {f f' : Nat → Nat} {μ μ' : za_M} (h : nu_27 J f μ) (e : ∀ i, f i = f' i) (hμ : μ'.1 27 J = μ.1 27 J) : nu_27 J f' μ' := by
  intro s hs a
  rw [hμ, ← e]
  exact h s hs a
theorem nu_26c {J : Nat} {f f' : Nat → Nat} {μ μ' : za_M} (h : nu_26 J f μ) (e : ∀ i, f i = f' i) (hμ : ∀ s, μ'.1 26 (8 * J + s) = μ.1 26 (8 * J + s)) : nu_26 J f' μ' := by
  intro s a hs ha
  rw [hμ, ← e]
  exact h s a hs ha
set_option maxHeartbeats 16000000 in
theorem ct_N_give {Γ : zk_G} {d J n : Nat} {x : Int32} {L : Bool} {μ : za_M} {g : gq_G} {nb : Nat → Nat} (hg : gq_ok g) (hC : gq_C g μ) (hx : x = nI n) (hn : 1 ≤ n)
    (h28 : ∀ s, s < gq_ns g → ∀ a, bt (μ.1 28 J s) a = true ↔ (a < 8 ∧ ps_in g nb L (8 * s + a))) (h27 : nu_27 J nb μ) (h26 : nu_26 J nb μ) (hd : 2 ≤ d) : zk_Ct zt Γ zm_N_give d 0 0 [za_r 24 J, za_r 1 0, za_i x] μ
    (fun r μ' => (∃ v : Int32, r = some (za_i v) ∧ (v = 0 ∨ v = 1) ∧ (v = 1 ↔ ∃ i, i < 64 ∧ ps_in g nb L i) ∧ μ'.1 24 J 2 = if v = 1 then nI n else μ.1 24 J 2) ∧ nu_27 J (ps_nx g L n nb) μ' ∧ nu_26 J (ps_nx g L n nb) μ' ∧ (∀ i, i ≠ 2 → μ'.1 24 J i = μ.1 24 J i) ∧ zq_fr (nu_S J) μ μ') (fun _ _ => False) := by
  have hns : gq_ns g ≤ 8 := hg.1
  have hCf : ∀ {μ1 : za_M}, zq_fr (nu_S J) μ μ1 → gq_C g μ1 := fun hf => gq_C_fr hC hf (fun b j hb q => by unfold nu_S at q; omega)
  have hno : ∀ i, ¬ ps_at g i → ps_nx g L n nb i = nb i := fun i q => by unfold ps_nx; exact ps_in' (fun z => q z.1) _ _
  have hyes : ∀ i, ps_in g nb L i → ps_nx g L n nb i = n := fun i q => by unfold ps_nx; exact ps_ip q _ _
  have hnot : ∀ i, ¬ ps_in g nb L i → ps_nx g L n nb i = nb i := fun i q => by unfold ps_nx; exact ps_in' q _ _
  have n28S : ∀ {μ1 : za_M}, zq_fr (fun b j => ((b = 24 ∨ b = 27) ∧ j = J) ∨ (b = 26 ∧ j / 8 = J)) μ μ1 → μ1.1 28 J = μ.1 28 J := fun hf => hf.1 28 J (fun q => by omega)
  have upS : ∀ {μ1 : za_M}, zq_fr (fun b j => ((b = 24 ∨ b = 27) ∧ j = J) ∨ (b = 26 ∧ j / 8 = J)) μ μ1 → zq_fr (nu_S J) μ μ1 := fun hf => zq_up hf (fun b j q => by unfold nu_S; omega)
  refine zs_N_give (Nat.le_of_ble_eq_true rfl) (by omega) (fun ZZ run => ?_)
  have loop := zn_for (σ := (za_M × Int32) × Option za_V) (N := gq_ns g)
    (P := fun k t => ∀ y : Int32, y = nI k → ZZ 5 [some (za_r 24 J), some (za_r 1 0), some (za_i x), some (za_i t.1.2), some (za_i y), t.2] [] t.1.1 (0, 0))
    (I := fun k t => (t.1.2 = 0 ∨ t.1.2 = 1) ∧ (t.1.2 = 1 ↔ ∃ i, i < 8 * k ∧ ps_in g nb L i) ∧ (t.1.1.1 24 J 2 = if t.1.2 = 1 then nI n else μ.1 24 J 2) ∧ nu_27 J (nu_L nb (ps_nx g L n nb) (8 * k)) t.1.1 ∧ nu_26 J (nu_L nb (ps_nx g L n nb) (8 * k)) t.1.1 ∧ (∀ i, i ≠ 2 → t.1.1.1 24 J i = μ.1 24 J i) ∧ zq_fr (fun b j => ((b = 24 ∨ b = 27) ∧ j = J) ∨ (b = 26 ∧ j / 8 = J)) μ t.1.1)
    (fun t h y hy => by
      obtain ⟨i1, i2, i3, i4, i5, i6, i7⟩ := h
      have e0 : t.1.1.1 1 0 0 = nI (gq_ns g) := (hCf (upS i7)).1
      refine run [5, 17, 62] 60 5 _ _ _ _ ?_
      refine ⟨fun _ => ?_, fun q => absurd (by rw [hy, e0]; exact nI_le (Nat.le_refl _) (by omega)) q⟩
      have ee : ∀ i, nu_L nb (ps_nx g L n nb) (8 * gq_ns g) i = ps_nx g L n nb i := fun i => by
        unfold nu_L
        by_cases e : i < 8 * gq_ns g
        · rw [if_pos e]
        · rw [if_neg e, hno i (fun q => by have := q.1; omega)]
      refine ⟨rfl, Or.inr ⟨rfl, i1⟩, Nat.le_refl _, Nat.le_refl _, ⟨t.1.2, rfl, i1, i2.trans ⟨fun ⟨i, q1, q2⟩ => ⟨i, by omega, q2⟩, fun ⟨i, q1, q2⟩ => ⟨i, by have := q2.1.1; omega, q2⟩⟩, i3⟩, nu_27c i4 ee rfl, nu_26c i5 ee (fun _ => rfl), i6, upS i7⟩)
    (fun k t hk h ih y hy => by
      obtain ⟨i1, i2, i3, i4, i5, i6, i7⟩ := h
      have e0 : t.1.1.1 1 0 0 = nI (gq_ns g) := (hCf (upS i7)).1
      have hck : y.toNatClampNeg = k := zn_c hy (by omega)
      have hb : vp_in y 8 := zn_i hy (by omega) (by decide)
      have hat := (hg.2.2.1 k hk).1
      have inner := zn_for (σ := za_M × Int32) (N := gq_at g k)
        (P := fun a u => ∀ z : Int32, z = nI a → ZZ 17 [some (za_r 24 J), some (za_r 1 0), some (za_i x), some (za_i u.2), some (za_i y), some (za_i z)] [] u.1 (0, 0))
        (I := fun a u => (u.2 = 0 ∨ u.2 = 1) ∧ (u.2 = 1 ↔ ∃ i, i < 8 * k + a ∧ ps_in g nb L i) ∧ (u.1.1 24 J 2 = if u.2 = 1 then nI n else μ.1 24 J 2) ∧ nu_27 J (nu_L nb (ps_nx g L n nb) (8 * k)) u.1 ∧ nu_26 J (nu_L nb (ps_nx g L n nb) (8 * k + a)) u.1 ∧ (∀ i, i ≠ 2 → u.1.1 24 J i = μ.1 24 J i) ∧ zq_fr (fun b j => ((b = 24 ∨ b = 27) ∧ j = J) ∨ (b = 26 ∧ j / 8 = J)) μ u.1)
        (fun u q z hz => by
          obtain ⟨j1, j2, j3, j4, j5, j6, j7⟩ := q
          have hC1 := hCf (upS j7)
          have e2 : u.1.1 2 0 y.toNatClampNeg = nI (gq_at g k) := by rw [hck]; exact (hC1.2.2.1 k hk).1
          refine run [5, 17, 62] 60 17 _ _ _ _ ?_
          refine ⟨hb, fun _ => ⟨hb, hb, hb, ?_⟩, fun w => absurd (by rw [hz, e2]; exact nI_le (Nat.le_refl _) (by omega)) w⟩
          suffices post : ∀ μ2 : za_M, (za_u u.1.1 27 J y.toNatClampNeg (u.1.1 27 J y.toNatClampNeg ||| u.1.1 28 J y.toNatClampNeg), u.1.2) = μ2 → ZZ 5 [some (za_r 24 J), some (za_r 1 0), some (za_i x), some (za_i u.2), some (za_i (y + 1)), some (za_i z)] [] μ2 (0, 0) from post _ rfl
          intro μ2 hμ2
          rw [hck] at hμ2
          have n24 : μ2.1 24 J = u.1.1 24 J := by rw [← hμ2]; dsimp only; rw [za_u_b (show (24 : Nat) ≠ 27 by decide)]
          have n26 : ∀ s, μ2.1 26 s = u.1.1 26 s := fun s => by rw [← hμ2]; dsimp only; rw [za_u_b (show (26 : Nat) ≠ 27 by decide)]
          have hnoat : ∀ i, 8 * k + gq_at g k ≤ i → i < 8 * (k + 1) → ¬ ps_at g i := fun i q1 q2 q3 => by
            have := q3.2
            rw [show i / 8 = k by omega] at this
            omega
          refine ih ((μ2, u.2), some (za_i z)) ⟨j1, j2.trans ⟨fun ⟨i, q1, q2⟩ => ⟨i, by omega, q2⟩, fun ⟨i, q1, q2⟩ => ⟨i, Classical.byContradiction fun w => hnoat i (by omega) q1 q2.1, q2⟩⟩, by dsimp only; rw [n24]; exact j3, fun s hs a => ?_, nu_26c j5 (fun i => nu_L_eq (fun q1 q2 => hno i (hnoat i q1 q2)) (by omega)) (fun s => n26 _), by dsimp only; rw [n24]; exact j6, by rw [← hμ2]; exact zq_u j7 (Or.inl ⟨Or.inr rfl, rfl⟩)⟩ _ (zn_s hy)
          dsimp only
          by_cases es : s = k
          · subst es
            have e1 : μ2.1 27 J s = u.1.1 27 J s ||| u.1.1 28 J s := by rw [← hμ2]; exact za_u_same _ _ _ _ _
            rw [e1, b_or, Bool.or_eq_true, j4 s hs a, n28S j7, h28 s hk a]
            unfold nu_L
            constructor
            · rintro (⟨q1, q2⟩ | ⟨q1, q2⟩)
              · refine ⟨q1, ?_⟩
                rw [if_neg (by omega)] at q2
                rw [if_pos (by omega)]
                by_cases w : ps_in g nb L (8 * s + a)
                · rw [hyes _ w]; omega
                · rw [hnot _ w]; exact q2
              · refine ⟨q1, ?_⟩
                rw [if_pos (by omega), hyes _ q2]
                omega
            · rintro ⟨q1, q2⟩
              rw [if_pos (by omega)] at q2
              by_cases w : ps_in g nb L (8 * s + a)
              · exact Or.inr ⟨q1, w⟩
              · rw [hnot _ w] at q2
                refine Or.inl ⟨q1, ?_⟩
                rw [if_neg (by omega)]
                exact q2
          · have e1 : μ2.1 27 J s = u.1.1 27 J s := by rw [← hμ2]; exact za_u_i es
            rw [e1, j4 s hs a]
            refine and_congr_right fun q1 => ?_
            rw [nu_L_eq (m := 8 * k) (m' := 8 * (k + 1)) (fun z1 z2 => absurd z1 (by omega)) (by omega)])
        (fun a u ha q ih2 z hz => by
          obtain ⟨j1, j2, j3, j4, j5, j6, j7⟩ := q
          have hC1 := hCf (upS j7)
          have e2 : u.1.1 2 0 y.toNatClampNeg = nI (gq_at g k) := by rw [hck]; exact (hC1.2.2.1 k hk).1
          have hca : z.toNatClampNeg = a := zn_c hz (by omega)
          have h28a : bt (u.1.1 28 J k) a = true ↔ ps_in g nb L (8 * k + a) := by rw [n28S j7]; exact (h28 k hk a).trans ⟨fun q => q.2, fun q => ⟨by omega, q⟩⟩
          have c62 : ∀ (μ2 : za_M) (v : Int32), ((v = 0 ∨ v = 1) ∧ (v = 1 ↔ ∃ i, i < 8 * k + (a + 1) ∧ ps_in g nb L i) ∧ (μ2.1 24 J 2 = if v = 1 then nI n else μ.1 24 J 2) ∧ nu_27 J (nu_L nb (ps_nx g L n nb) (8 * k)) μ2 ∧ nu_26 J (nu_L nb (ps_nx g L n nb) (8 * k + (a + 1))) μ2 ∧ (∀ i, i ≠ 2 → μ2.1 24 J i = μ.1 24 J i) ∧ zq_fr (fun b j => ((b = 24 ∨ b = 27) ∧ j = J) ∨ (b = 26 ∧ j / 8 = J)) μ μ2) → ZZ 62 [some (za_r 24 J), some (za_r 1 0), some (za_i x), some (za_i v), some (za_i y), some (za_i z)] [] μ2 (0, 0) := by
            intro μ2 v hh
            refine run [17] 60 62 _ _ _ _ ?_
            exact ih2 (μ2, v) hh _ (zn_s hz)
          refine run [5, 17, 62] 60 17 _ _ _ _ ?_
          refine ⟨hb, fun w => absurd w (zn_ge hz e2 ha (by omega)), fun _ => ⟨hb, ?_⟩⟩
          refine ⟨d - 1, 0, 0, _, _, by omega, Nat.le_refl _, Nat.le_refl _, ct_A_hasBit (by omega), ?_, fun _ _ h => h.elim⟩
          rintro r μ0 ⟨rfl, hμ0⟩
          have hμ0 := hμ0.symm
          subst hμ0
          have hbt : (((u.1.1 28 J y.toNatClampNeg).toUInt32 >>> (z.toUInt32 &&& Int32.toUInt32 31)).toInt32 &&& 1) = 0 ↔ ¬ ps_in g nb L (8 * k + a) := by
            rw [hck, hz, zb_t3 _ (show a < 32 by omega), ← Bool.not_eq_true, h28a]
          by_cases hin : ps_in g nb L (8 * k + a)
          · rw [if_neg (fun w => hbt.mp w hin)]
            refine ⟨fun w => absurd w (by decide), fun _ => ⟨hb, zn_i hz (by omega) (by decide), ?_⟩⟩
            suffices post : ∀ μ2 : za_M, (za_u (za_u u.1.1 26 (za_ix J 8 y.toNatClampNeg) z.toNatClampNeg x) 24 J 2 x, u.1.2) = μ2 → ZZ 62 [some (za_r 24 J), some (za_r 1 0), some (za_i x), some (za_i 1), some (za_i y), some (za_i z)] [] μ2 (0, 0) from post _ rfl
            intro μ2 hμ2
            rw [za_ix8, hck, hca] at hμ2
            have n27 : μ2.1 27 J = u.1.1 27 J := by rw [← hμ2]; dsimp only; rw [za_u_b (show (27 : Nat) ≠ 24 by decide), za_u_b (show (27 : Nat) ≠ 26 by decide)]
            refine c62 μ2 1 ⟨Or.inr rfl, ⟨fun _ => ⟨8 * k + a, by omega, hin⟩, fun _ => rfl⟩, ?_, nu_27c j4 (fun _ => rfl) n27, fun s a' hs ha' => ?_, fun i hi => ?_, ?_⟩
            · rw [if_pos rfl, ← hμ2]
              show za_u _ 24 J 2 x 24 J 2 = _
              rw [za_u_same]
              exact hx
            · have e26 : μ2.1 26 (8 * J + s) a' = za_u u.1.1 26 (8 * J + k) a x 26 (8 * J + s) a' := by
                rw [← hμ2]
                show za_u (za_u u.1.1 26 (8 * J + k) a x) 24 J 2 x 26 (8 * J + s) a' = _
                rw [za_u_b (show (26 : Nat) ≠ 24 by decide)]
              rw [e26]
              by_cases es : s = k ∧ a' = a
              · obtain ⟨rfl, rfl⟩ := es
                rw [za_u_same, hx]
                unfold nu_L nu_v
                rw [if_pos (show 8 * s + a' < 8 * s + (a' + 1) by omega), hyes _ hin, if_neg (by omega)]
              · have : za_u u.1.1 26 (8 * J + k) a x 26 (8 * J + s) a' = u.1.1 26 (8 * J + s) a' := by
                  unfold za_u
                  rw [if_neg (by omega)]
                rw [this, j5 s a' hs ha', nu_L_eq (m := 8 * k + a) (m' := 8 * k + (a + 1)) (fun z1 z2 => absurd (show s = k ∧ a' = a by omega) es) (by omega)]
            · rw [← hμ2]
              show za_u _ 24 J 2 x 24 J i = _
              rw [za_u_i hi, za_u_b (show (24 : Nat) ≠ 26 by decide)]
              exact j6 i hi
            · rw [← hμ2]
              exact zq_u (b := (za_u u.1.1 26 (8 * J + k) a x, u.1.2)) (zq_u j7 (Or.inr ⟨rfl, by omega⟩)) (Or.inl ⟨Or.inl rfl, rfl⟩)
          · rw [if_pos (hbt.mpr hin)]
            refine ⟨fun _ => c62 u.1 u.2 ⟨j1, j2.trans ⟨fun ⟨i, q1, q2⟩ => ⟨i, by omega, q2⟩, fun ⟨i, q1, q2⟩ => ⟨i, Classical.byContradiction fun w => hin (by rw [show 8 * k + a = i by omega]; exact q2), q2⟩⟩, j3, j4, nu_26c j5 (fun i => nu_L_eq (fun z1 z2 => by rw [show i = 8 * k + a by omega]; exact hnot _ hin) (by omega)) (fun _ => rfl), j6, j7⟩, fun w => absurd rfl w⟩)
      refine run [5, 17, 62] 60 5 _ _ _ _ ?_
      refine ⟨fun q => absurd q (zn_ge hy e0 hk (by omega)), fun _ => ?_⟩
      exact inner 0 t.1 (Nat.zero_le _) ⟨i1, i2, i3, i4, i5, i6, i7⟩ 0 rfl)
  refine run [5, 17] 60 0 _ _ _ _ ?_
  have e00 : ∀ i, nb i = nu_L nb (ps_nx g L n nb) (8 * 0) i := fun i => by unfold nu_L; rw [if_neg (by omega)]
  refine loop 0 ((μ, 0), none) (Nat.zero_le _) ⟨Or.inl rfl, ⟨fun q => absurd q (show ¬ (0 : Int32) = 1 by decide), fun ⟨i, q, _⟩ => by omega⟩, by rw [if_neg (show ¬ (0 : Int32) = 1 by decide)], nu_27c h27 e00 rfl, nu_26c h26 e00 (fun _ => rfl), fun _ _ => rfl, zq_rf⟩ 0 rfl
theorem ps_nb_at (g : gq_G) (tb : Bool) : ∀ n i, ps_nb g tb n i ≠ 0 → ps_at g i
  | 0, i, h => absurd rfl h
  | n + 1, i, h => by
    by_cases q : ps_in g (ps_nb g tb n) (ps_left tb (n + 1)) i
    · exact q.1
    · refine ps_nb_at g tb n i ?_
      rw [ps_nb, ps_nx, ps_in' q] at h
      exact h
/-- what find leaves -/
def nu_fin (g : gq_G) (tb : Bool) (J : Nat) (μ : za_M) : Prop := ∃ n, ps_end g tb n ∧ n ≤ 200 ∧ nu_26 J (ps_nb g tb n) μ ∧ μ.1 24 J 2 = nI (ps_la g tb n) ∧ (μ.1 24 J 1 = 0 ∨ μ.1 24 J 1 = 1) ∧ (μ.1 24 J 1 = 1 ↔ ∀ i, ps_at g i → ps_nb g tb n i ≠ 0)
set_option maxHeartbeats 16000000 in
theorem ct_N_find {Γ : zk_G} {d J : Nat} {tb : Bool} {μ : za_M} {g : gq_G} (hg : gq_ok g) (hC : gq_C g μ) (hk : μ.1 24 J 0 = 0 ∨ μ.1 24 J 0 = 1 ∧ nu_fin g tb J μ) (h4 : μ.1 24 J 4 = if tb = true then 1 else 0) (hd : 5 ≤ d) : zk_Ct zt Γ zm_N_find d 0 0 [za_r 24 J, za_r 1 0] μ
    (fun r μ' => r = none ∧ nu_fin g tb J μ' ∧ μ'.1 24 J 0 = 1 ∧ μ'.1 24 J 4 = μ.1 24 J 4 ∧ zq_fr (nu_S J) μ μ') (fun _ _ => False) := by
  refine zs_N_find (Nat.le_of_ble_eq_true rfl) (by omega) (fun ZZ run => ?_)
  rcases hk with hk | ⟨hk, hfin⟩
  case inr =>
    refine run [] 20 0 _ _ _ _ ?_
    refine ⟨fun q => absurd (hk.symm.trans q) (by decide), fun _ => ?_⟩
    exact ⟨rfl, rfl, Nat.le_refl _, Nat.le_refl _, rfl, hfin, hk, rfl, zq_rf⟩
  have hCf : ∀ {μ1 : za_M}, zq_fr (nu_S J) μ μ1 → gq_C g μ1 := fun hf => gq_C_fr hC hf (fun b j hb q => by unfold nu_S at q; omega)
  have hl0 : μ.1 24 J 4 = 0 → tb = false := fun q => by
    cases tb with
    | false => rfl
    | true => rw [h4] at q; exact absurd q (by decide)
  have hl1 : ¬ μ.1 24 J 4 = 0 → tb = true := fun q => by
    cases tb with
    | true => rfl
    | false => rw [h4] at q; exact absurd rfl q
  have hmo : ps_mo tb ≤ 2 := by unfold ps_mo; split <;> omega
  have wh := zn_wh (σ := za_M × Nat)
    (P := fun t => ∀ y m mo : Int32, y = nI (t.2 + 1) → m = nI (ps_id g tb t.2) → mo = nI (ps_mo tb) → ZZ 30 [some (za_r 24 J), some (za_r 1 0), some (za_i m), some (za_i mo), some (za_i y)] [] t.1 (0, 0))
    (I := fun t => nu_27 J (ps_nb g tb t.2) t.1 ∧ nu_26 J (ps_nb g tb t.2) t.1 ∧ t.1.1 24 J 2 = nI (ps_la g tb t.2) ∧ (∀ j, j < t.2 → ps_id g tb j < ps_mo tb) ∧ t.2 + ps_me g tb t.2 ≤ 194 ∧ (∀ i, i ≠ 2 → t.1.1 24 J i = μ.1 24 J i) ∧ zq_fr (nu_S J) μ t.1)
    (fun t => ps_me g tb t.2)
    (fun t h ih y m mo hy hm hmoq => by
      obtain ⟨i1, i2, i3, i4, i5, i6, i7⟩ := h
      have hid := ps_id_le g tb t.2
      have hCt := hCf i7
      have e4 : t.1.1 24 J 4 = μ.1 24 J 4 := i6 4 (by decide)
      have c64 : ps_id g tb t.2 < ps_mo tb → ∀ v : Int32, v = (if ps_left tb (t.2 + 1) = true then 0 else 1) → ZZ 64 [some (za_r 24 J), some (za_r 1 0), some (za_i m), some (za_i mo), some (za_i y)] [za_i v, za_r 1 0, za_r 24 J] t.1 (0, 0) := by
        intro hlt v hv
        refine run [30] 60 64 _ _ _ _ ?_
        refine ⟨d - 1, 0, 0, _, _, by omega, Nat.le_refl _, Nat.le_refl _, ct_N_choose hg hCt i1 hv (by omega), ?_, fun _ _ h => h.elim⟩
        rintro r μ1 ⟨rfl, q28, qf⟩
        have qS : zq_fr (nu_S J) μ μ1 := zq_tr i7 (zq_up qf (fun b j q => Or.inl ⟨Or.inr (Or.inr q.1), q.2⟩))
        have e24 : μ1.1 24 J = t.1.1 24 J := qf.1 24 J (fun q => absurd q.1 (by decide))
        refine ⟨d - 1, 0, 0, _, _, by omega, Nat.le_refl _, Nat.le_refl _, ct_N_give (n := t.2 + 1) hg (hCf qS) hy (by omega) q28 (nu_27c i1 (fun _ => rfl) (qf.1 27 J (fun q => absurd q.1 (by decide)))) (nu_26c i2 (fun _ => rfl) (fun s => qf.1 26 _ (fun q => absurd q.1 (by decide)))) (by omega), ?_, fun _ _ h => h.elim⟩
        rintro r μ2 ⟨⟨w, rfl, hw, hw1, hw2⟩, q27, q26, q24, qf2⟩
        have hany : w = 1 ↔ ps_any g tb t.2 := hw1
        have hme := ps_me_lt (g := g) (tb := tb) (n := t.2) (by omega)
        have fin : ∀ m' : Int32, m' = nI (ps_id g tb (t.2 + 1)) → ZZ 30 [some (za_r 24 J), some (za_r 1 0), some (za_i m'), some (za_i mo), some (za_i (y + 1))] [] μ2 (0, 0) := by
          intro m' hm'
          refine ih (μ2, t.2 + 1) ⟨q27, q26, ?_, fun j hj => ?_, ?_, fun i hi => ?_, zq_tr qS qf2⟩ hme _ _ _ (zn_s hy) hm' hmoq
          · show μ2.1 24 J 2 = nI (ps_la g tb (t.2 + 1))
            rw [hw2, ps_la]
            by_cases e : w = 1
            · rw [if_pos e, ps_ip (hany.mp e)]
            · rw [if_neg e, ps_in' (fun z => e (hany.mpr z)), e24]
              exact i3
          · by_cases e : j = t.2
            · subst e; exact hlt
            · have hj : j < t.2 + 1 := hj
              exact i4 j (by omega)
          · show t.2 + 1 + ps_me g tb (t.2 + 1) ≤ 194
            omega
          · show μ2.1 24 J i = _
            rw [q24 i hi, e24]
            exact i6 i hi
        refine ⟨fun h0 => ?_, fun h0 => ?_⟩
        · refine fin _ ?_
          rw [ps_id, ps_in' (fun z => absurd (h0.symm.trans (hany.mpr z)) (by decide))]
          exact zn_s hm
        · refine fin _ ?_
          rw [ps_id, ps_ip (hany.mp (zn_or01 hw h0))]
          rfl
      refine run [30, 64, 91] 60 30 _ _ _ _ ?_
      refine ⟨fun h0 => ?_, fun h0 => ?_⟩
      · have hend : ps_end g tb t.2 := ⟨Classical.byContradiction fun w => absurd h0 (zn_ge hm hmoq (by omega) (by omega)), i4⟩
        refine run [] 60 91 _ _ _ _ ?_
        refine ⟨d - 1, 0, 0, _, _, by omega, Nat.le_refl _, Nat.le_refl _, ct_N_isWhole hg hCt i1 (ps_nb_at g tb t.2) (by omega), ?_, fun _ _ h => h.elim⟩
        rintro r μ0 ⟨⟨v, rfl, hv, hv1⟩, hμ0⟩
        have hμ0 := hμ0.symm
        subst hμ0
        refine ⟨hv, Or.inr rfl, rfl, rfl, Nat.le_refl _, Nat.le_refl _, rfl, ?_⟩
        suffices post : ∀ μ2 : za_M, (za_u (za_u t.1.1 24 J 1 v) 24 J 0 1, t.1.2) = μ2 → nu_fin g tb J μ2 ∧ μ2.1 24 J 0 = 1 ∧ μ2.1 24 J 4 = μ.1 24 J 4 ∧ zq_fr (nu_S J) μ μ2 from post _ rfl
        intro μ2 hμ2
        have n1 : μ2.1 24 J 1 = v := by rw [← hμ2]; dsimp only; rw [za_u_i (by decide), za_u_same]
        have n2 : μ2.1 24 J 2 = t.1.1 24 J 2 := by rw [← hμ2]; dsimp only; rw [za_u_i (by decide), za_u_i (by decide)]
        have n4 : μ2.1 24 J 4 = t.1.1 24 J 4 := by rw [← hμ2]; dsimp only; rw [za_u_i (by decide), za_u_i (by decide)]
        have n0 : μ2.1 24 J 0 = 1 := by rw [← hμ2]; dsimp only; rw [za_u_same]
        have n26 : ∀ s, μ2.1 26 (8 * J + s) = t.1.1 26 (8 * J + s) := fun s => by rw [← hμ2]; dsimp only; rw [za_u_b (show (26 : Nat) ≠ 24 by decide), za_u_b (show (26 : Nat) ≠ 24 by decide)]
        refine ⟨⟨t.2, hend, by omega, nu_26c i2 (fun _ => rfl) n26, by rw [n2]; exact i3, by rw [n1]; exact hv, by rw [n1]; exact hv1⟩, n0, by rw [n4]; exact e4, ?_⟩
        rw [← hμ2]
        exact zq_u (b := (za_u t.1.1 24 J 1 v, t.1.2)) (zq_u i7 (Or.inl ⟨Or.inl rfl, rfl⟩)) (Or.inl ⟨Or.inl rfl, rfl⟩)
      · have hlt : ps_id g tb t.2 < ps_mo tb := Classical.byContradiction fun w => h0 (by rw [hm, hmoq]; exact nI_le (by omega) (by omega))
        have hrem : y - y / 2 * 2 = nI ((t.2 + 1) % 2) := by rw [hy]; exact pk_rem (by omega) (by decide) (by decide)
        refine ⟨fun hz => absurd hz (zn_1000 hy (by omega)), fun _ => ⟨fun hq => c64 hlt _ ?_, fun hq => ⟨by decide, fun h2 => c64 hlt _ ?_, fun h2 => c64 hlt _ ?_⟩⟩⟩
        · rw [hl0 (e4.symm.trans hq)]; rfl
        · have h2 : ¬ y - y / 2 * 2 = 0 := h2
          rw [hrem] at h2
          rw [hl1 (fun z => hq (e4.trans z))]
          have : (t.2 + 1) % 2 = 1 := by
            have := Nat.mod_lt (t.2 + 1) (show 2 > 0 by decide)
            refine Classical.byContradiction fun w => h2 ?_
            rw [show (t.2 + 1) % 2 = 0 by omega]
            rfl
          unfold ps_left
          rw [this]
          rfl
        · have h2 : y - y / 2 * 2 = 0 := h2
          rw [hrem] at h2
          rw [hl1 (fun z => hq (e4.trans z))]
          have : (t.2 + 1) % 2 = 0 := (nI_eq (b := 0) (by omega) (by decide)).mp h2
          unfold ps_left
          rw [this]
          rfl)
  refine run [26] 60 0 _ _ _ _ ?_
  refine ⟨fun _ => ?_, fun q => absurd hk q⟩
  refine ⟨d - 1, 0, 0, _, _, by omega, Nat.le_refl _, Nat.le_refl _, ct_N_forget (by omega), ?_, fun _ _ h => h.elim⟩
  rintro r μ1 ⟨rfl, q1, q2, q3, q4⟩
  have hI : ∀ mo : Int32, mo = nI (ps_mo tb) → ZZ 30 [some (za_r 24 J), some (za_r 1 0), some (za_i 0), some (za_i mo), some (za_i 1)] [] μ1 (0, 0) := by
    intro mo hmoq
    refine wh (μ1, 0) ⟨fun s hs a => ?_, fun s a hs ha => ?_, ?_, fun j hj => absurd hj (Nat.not_lt_zero j), ?_, q3, q4⟩ 1 0 mo rfl rfl hmoq
    · rw [(q1 s hs).1, b_0]
      exact ⟨fun z => absurd z (by decide), fun z => absurd rfl z.2⟩
    · exact (q1 s hs).2 a ha
    · exact q2
    · have := ps_me0 g tb
      show 0 + ps_me g tb 0 ≤ 194
      omega
  have e4 : μ1.1 24 J 4 = μ.1 24 J 4 := q3 4 (by decide)
  have c26 : ∀ mo : Int32, mo = nI (ps_mo tb) → ZZ 26 [some (za_r 24 J), some (za_r 1 0), some (za_i 0), none, none] [za_i mo] μ1 (0, 0) := by
    intro mo hmoq
    refine run [30] 60 26 _ _ _ _ ?_
    exact hI mo hmoq
  refine ⟨fun h0 => c26 _ (by rw [hl0 (e4.symm.trans h0)]; rfl), fun h0 => c26 _ (by rw [hl1 (fun z => h0 (e4.trans z))]; rfl)⟩
