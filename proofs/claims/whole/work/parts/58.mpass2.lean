/-! the reference: what must be left out -/
theorem zb_t20 (x : Int32) {l : Nat} (hl : l < 32) : (x >>> (nI l &&& 31)) &&& 1 = 0 ↔ bt x l = false := by
  have h := zb_t2 x hl
  have h1 : ∀ y : Int32, y &&& 1 = 0 ∨ y &&& 1 = 1 := by
    intro y
    by_cases q : bt y 0 = true
    · exact Or.inr ((zb_and1 y).mpr q)
    · refine Or.inl (b_ext fun i hi => ?_)
      rw [b_and, zb_b1 i hi, b_0]
      by_cases e : i = 0
      · subst e
        rw [Bool.not_eq_true] at q
        rw [q]
        rfl
      · rw [decide_eq_false e, Bool.and_false]
  constructor
  · intro q
    cases hb : bt x l with
    | false => rfl
    | true =>
      rw [h.mpr hb] at q
      exact absurd q (by decide)
  · intro q
    rcases h1 (x >>> (nI l &&& 31)) with z | z
    · exact z
    · rw [h.mp z] at q
      cases q
theorem lf_In {F : Nat → (Nat → Prop) → Nat → Prop} {n N : Nat} {x0 x : Nat → Bool} {k : Nat} {v : Int32} (hm : lf_m F) (hN : ∀ p X i, p < n → F p X i → i < N) (h : lf_I F n N x0 k x v) (hk : k < n) (hF : ∀ i, F k (lf_V N x) i → lf_V N x i) : lf_I F n N x0 (k + 1) x v :=
  lf_Is hm hN h hk (fun i _ => ⟨Or.inl, fun q => q.elim id (fun q => (hF i q).2)⟩) h.1 ⟨Or.inl, fun q => q.elim id (fun ⟨i, q, q2⟩ => absurd (hF i q) q2)⟩
def ps_st (g : gq_G) (nb : Nat → Nat) (set : Nat → Bool) (L : Bool) (p k y : Nat) : Prop := 0 < nb (ps_ix g p y) ∨ (set (ps_ix g p y) = true ∧ ps_sd L k y)
/-- the set in memory -/
def ps_ms (μ : za_M) (i : Nat) : Bool := decide (μ.1 43 0 i = 1)
set_option maxHeartbeats 8000000 in
theorem ct_M_mayStay {Γ : zk_G} {d p k : Nat} {x z l : Int32} {L : Bool} {μ : za_M} {g : gq_G} {nb : Nat → Nat} (hg : gq_ok g) (hM : gq_M g μ) (h42 : ∀ i, i < 64 → μ.1 42 0 i = nI (nb i) ∧ nb i < 2 ^ 31) (h01 : ∀ i, i < 64 → μ.1 43 0 i = 0 ∨ μ.1 43 0 i = 1) (hx : x = nI p) (hz : z = nI k) (hk : k < 32) (hp : p < gq_np g) (hl : l = if L = true then 1 else 0) (hd : 5 ≤ d) : zk_Ct zt Γ zm_M_mayStay d 0 0 [za_r 30 0, za_i x, za_i z, za_i l] μ (fun r μ' => (∃ v : Int32, r = some (za_i v) ∧ (v = 0 ∨ v = 1) ∧ (v = 1 ↔ ∀ y, bt (gq_nd g p k) y = true → ps_st g nb (ps_ms μ) L p k y)) ∧ μ' = μ) (fun _ _ => False) := by
  have hp16 : p < 16 := Nat.lt_of_lt_of_le hp hg.2.1
  refine zs_M_mayStay (Nat.le_of_ble_eq_true rfl) (by omega) (fun ZZ run => ?_)
  have hpart : z / 8 = nI (k / 8) := by rw [hz]; exact zn_div (by omega)
  have loop := zn_for (σ := Int32 × Option za_V × Option za_V) (N := 32)
    (P := fun n t => ∀ y : Int32, y = nI n → ZZ 12 [some (za_r 30 0), some (za_i x), some (za_i z), some (za_i l), some (za_i t.1), some (za_i (z / 8)), some (za_i y), t.2.1, t.2.2] [] μ (0, 0))
    (I := fun n t => (t.1 = 0 ∨ t.1 = 1) ∧ (t.1 = 1 ↔ ∀ y, y < n → bt (gq_nd g p k) y = true → ps_st g nb (ps_ms μ) L p k y))
    (fun t h y hy => by
      refine run [12, 111, 145] 60 12 _ _ _ _ ?_
      refine ⟨fun _ => ?_, fun q => absurd (by rw [hy]; exact nI_le (Nat.le_refl 32) (by decide)) q⟩
      refine ⟨rfl, Or.inr ⟨rfl, h.1⟩, Nat.le_refl _, Nat.le_refl _, ⟨t.1, rfl, h.1, h.2.trans ⟨fun q y hy => ?_, fun q y _ hy => q y hy⟩⟩, rfl⟩
      by_cases e : y < 32
      · exact q y e hy
      · rw [b_big (by omega)] at hy; cases hy)
    (fun n t hn h ih y hy => by
      have hi : (32 : Int32) * x + z = nI (32 * p + k) := by rw [hx, hz, show (32 : Int32) * nI p = nI (32 * p) from pk_mul 32 p, nI_add]
      have hc : ((32 : Int32) * x + z).toNatClampNeg = 32 * p + k := zn_c hi (by omega)
      have end145 : ∀ (v : Int32) (a b : Option za_V), (v = 0 ∨ v = 1) → (v = 1 ↔ (t.1 = 1 ∧ (bt (gq_nd g p k) n = true → ps_st g nb (ps_ms μ) L p k n))) → ZZ 145 [some (za_r 30 0), some (za_i x), some (za_i z), some (za_i l), some (za_i v), some (za_i (z / 8)), some (za_i y), a, b] [] μ (0, 0) := by
        intro v a b hv hv1
        refine run [12] 60 145 _ _ _ _ ?_
        refine ih (v, a, b) ⟨hv, hv1.trans ⟨fun q y hy hb => ?_, fun q => ⟨h.2.mpr (fun y hy => q y (by omega)), q n (Nat.lt_succ_self n)⟩⟩⟩ _ (zn_s hy)
        by_cases e : y = n
        · subst e; exact q.2 hb
        · exact h.2.mp q.1 y (by omega) hb
      refine run [12, 111, 145] 60 12 _ _ _ _ ?_
      refine ⟨fun q => absurd q (zn_ge hy rfl hn (by decide)), fun _ => ⟨zn_i hi (by omega) (by decide), fun hb => ?_, fun hb => ?_⟩⟩
      case refine_2 =>
        rw [hc, hM.2.2.2.2 p k hp16 hk, if_pos hp, hy, zb_t20 _ hn] at hb
        exact end145 _ _ _ h.1 ⟨fun q => ⟨q, fun q2 => by rw [hb] at q2; cases q2⟩, fun q => q.1⟩
      have hbt : bt (gq_nd g p k) n = true := by
        rw [hc, hM.2.2.2.2 p k hp16 hk, if_pos hp, hy, zb_t20 _ hn, Bool.not_eq_false] at hb
        exact hb
      have hth := (hg.2.2.2.2.2 p k n hp hk hbt).2.1
      have hlt : ps_ix g p n < 64 := (ps_th hg hp hth).2
      refine ⟨by decide, ?_⟩
      refine ⟨d - 1, 0, 0, _, _, by omega, Nat.le_refl _, Nat.le_refl _, ct_M_symbolOf' (k := n / 8) hg hM hx (by rw [hy]; exact zn_div (by omega)) (by omega) hp (by omega), ?_, fun _ _ h => h.elim⟩
      rintro r μ1 ⟨⟨s, rfl, hs⟩, rfl⟩
      rw [if_pos hth.1] at hs
      have e : (8 : Int32) * s + (y - y / 8 * 8) = nI (ps_ix g p n) := by
        rw [hs, hy, zn_rem (by omega), zn_8, nI_add]
        rfl
      have hnum : μ1.1 42 0 ((8 : Int32) * s + (y - y / 8 * 8)).toNatClampNeg = nI (nb (ps_ix g p n)) := by rw [zn_c e (by omega)]; exact (h42 _ hlt).1
      have hnl := (h42 _ hlt).2
      have c111 : ∀ (v : Int32), (v = 0 ∨ v = 1) → (v = 1 ↔ ps_sd L k n) → ZZ 111 [some (za_r 30 0), some (za_i x), some (za_i z), some (za_i l), some (za_i t.1), some (za_i (z / 8)), some (za_i y), some (za_i (μ1.1 42 0 ((8 : Int32) * s + (y - y / 8 * 8)).toNatClampNeg)), t.2.2] [za_i v] μ1 (0, 0) := by
        intro v hv hv1
        refine run [12, 145] 60 111 _ _ _ _ ?_
        have no : (t.1 = 0 ∨ ¬ ps_st g nb (ps_ms μ1) L p k n) → ZZ 145 [some (za_r 30 0), some (za_i x), some (za_i z), some (za_i l), some (za_i 0), some (za_i (z / 8)), some (za_i y), some (za_i (μ1.1 42 0 ((8 : Int32) * s + (y - y / 8 * 8)).toNatClampNeg)), some (za_i v)] [] μ1 (0, 0) := fun q => end145 0 _ _ (Or.inl rfl) ⟨fun z => absurd z (by decide), fun z => q.elim (fun w => absurd (w.symm.trans z.1) (by decide)) (fun w => absurd (z.2 hbt) w)⟩
        have yes : ¬ t.1 = 0 → ps_st g nb (ps_ms μ1) L p k n → ZZ 145 [some (za_r 30 0), some (za_i x), some (za_i z), some (za_i l), some (za_i 1), some (za_i (z / 8)), some (za_i y), some (za_i (μ1.1 42 0 ((8 : Int32) * s + (y - y / 8 * 8)).toNatClampNeg)), some (za_i v)] [] μ1 (0, 0) := fun q1 q2 => end145 1 _ _ (Or.inr rfl) ⟨fun _ => ⟨zn_or01 h.1 q1, fun _ => q2⟩, fun _ => rfl⟩
        refine ⟨fun ht => no (Or.inl ht), fun ht => ⟨fun hn0 => ?_, fun hn0 => ?_⟩⟩
        · rw [hnum] at hn0
          refine yes ht (Or.inl ?_)
          refine Classical.byContradiction fun w => ?_
          rw [show nb (ps_ix g p n) = 0 by omega] at hn0
          exact absurd hn0 (by decide)
        · have hz0 : nb (ps_ix g p n) = 0 := by
            refine Classical.byContradiction fun w => hn0 ?_
            rw [hnum]
            exact zn_lt2 (show (0 : Int32) = nI 0 from rfl) rfl (by omega) hnl
          refine ⟨d - 1, 0, 0, _, _, by omega, Nat.le_refl _, Nat.le_refl _, ct_M_inSet hg hM h01 hx hy hn hth hp (by omega), ?_, fun _ _ h => h.elim⟩
          rintro r μ2 ⟨rfl, rfl⟩
          have hs01 := h01 _ hlt
          refine ⟨fun hq => no (Or.inr ?_), fun hq => ⟨fun hv0 => no (Or.inr ?_), fun hv0 => yes ht (Or.inr ⟨decide_eq_true (zn_or01 hs01 hq), hv1.mp (zn_or01 hv hv0)⟩)⟩⟩
          · rintro (w | ⟨w, _⟩)
            · omega
            · have w := of_decide_eq_true w
              exact absurd (hq.symm.trans w) (by decide)
          · rintro (w | ⟨_, w⟩)
            · omega
            · exact absurd (hv0.symm.trans (hv1.mpr w)) (by decide)
      have hny : y / 8 = nI (n / 8) := by rw [hy]; exact zn_div (by omega)
      have y1 : ps_sd L k n → ZZ 111 [some (za_r 30 0), some (za_i x), some (za_i z), some (za_i l), some (za_i t.1), some (za_i (z / 8)), some (za_i y), some (za_i (μ1.1 42 0 ((8 : Int32) * s + (y - y / 8 * 8)).toNatClampNeg)), t.2.2] [za_i 1] μ1 (0, 0) := fun q => c111 1 (Or.inr rfl) ⟨fun _ => q, fun _ => rfl⟩
      have y0 : ¬ ps_sd L k n → ZZ 111 [some (za_r 30 0), some (za_i x), some (za_i z), some (za_i l), some (za_i t.1), some (za_i (z / 8)), some (za_i y), some (za_i (μ1.1 42 0 ((8 : Int32) * s + (y - y / 8 * 8)).toNatClampNeg)), t.2.2] [za_i 0] μ1 (0, 0) := fun q => c111 0 (Or.inl rfl) ⟨fun w => absurd w (by decide), fun w => absurd w q⟩
      refine ⟨by decide, zn_i e hlt (by decide), fun h0 => y1 (Or.inl ?_), fun h0 => ⟨fun h8 => y1 (Or.inr (Or.inl ?_)), fun h8 => ⟨fun hL => ⟨by decide, fun hs => y0 ?_, fun hs => y1 ?_⟩, fun hL => ⟨by decide, fun hs => y0 ?_, fun hs => y1 ?_⟩⟩⟩⟩
      · rw [hpart] at h0
        exact (nI_eq (b := 0) (by omega) (by decide)).mp h0
      · exact Classical.byContradiction fun w => absurd h8 (zn_nl hy (show (8 : Int32) = nI 8 from rfl) (by omega) (by omega))
      all_goals
        have h0 : ¬ k / 8 = 0 := fun w => h0 (by rw [hpart, w]; rfl)
        have h8 : ¬ n < 8 := fun w => h8 (zn_lt2 hy (show (8 : Int32) = nI 8 from rfl) w (by decide))
        rw [hny, hpart] at hs
      · have hLf : L = false := by
          cases hq : L with
          | false => rfl
          | true => rw [hl, hq] at hL; exact absurd hL (by decide)
        rintro (w | w | w)
        · exact h0 w
        · exact h8 w
        · rw [hLf] at w
          exact absurd hs (nI_ge w (by omega))
      · have hLf : L = false := by
          cases hq : L with
          | false => rfl
          | true => rw [hl, hq] at hL; exact absurd hL (by decide)
        refine Or.inr (Or.inr ?_)
        rw [hLf]
        exact Classical.byContradiction fun w => hs (nI_le (show n / 8 ≤ k / 8 from Nat.le_of_not_lt w) (by omega))
      · have hLt : L = true := by
          cases hq : L with
          | true => rfl
          | false => rw [hl, hq] at hL; exact absurd rfl hL
        rintro (w | w | w)
        · exact h0 w
        · exact h8 w
        · rw [hLt] at w
          exact absurd hs (nI_ge w (by omega))
      · have hLt : L = true := by
          cases hq : L with
          | true => rfl
          | false => rw [hl, hq] at hL; exact absurd rfl hL
        refine Or.inr (Or.inr ?_)
        rw [hLt]
        exact Classical.byContradiction fun w => hs (nI_le (show k / 8 ≤ n / 8 from Nat.le_of_not_lt w) (by omega)))
  refine run [12] 60 0 _ _ _ _ ?_
  refine ⟨by decide, ?_⟩
  exact loop 0 (1, none, none) (Nat.zero_le _) ⟨Or.inr rfl, fun _ y hy => absurd hy (Nat.not_lt_zero y), fun _ => rfl⟩ 0 rfl
