/-! the reference: a pass, all passes -/
set_option maxHeartbeats 8000000 in
theorem ct_M_onePass {Γ : zk_G} {d n : Nat} {x l : Int32} {L : Bool} {μ : za_M} {g : gq_G} {nb : Nat → Nat} (hg : gq_ok g) (hM : gq_M g μ) (h42 : ∀ i, i < 64 → μ.1 42 0 i = nI (nb i) ∧ nb i < 2 ^ 31) (hx : x = nI n) (hl : l = if L = true then 1 else 0) (hd : 7 ≤ d) : zk_Ct zt Γ zm_M_onePass d 0 0 [za_r 30 0, za_i x, za_i l] μ (fun r μ' => (∃ c : Nat, r = some (za_i (nI c)) ∧ c ≤ 64 ∧ (0 < c ↔ ∃ i, i < 64 ∧ ps_in g nb L i)) ∧ (∀ i, i < 64 → μ'.1 42 0 i = nI (ps_nx g L n nb i)) ∧ zq_fr (fun b j => (b = 42 ∨ b = 43) ∧ j = 0) μ μ') (fun _ _ => False) := by
  have hns : gq_ns g ≤ 8 := hg.1
  refine zs_M_onePass (Nat.le_of_ble_eq_true rfl) (by omega) (fun ZZ run => ?_)
  -- the last loop
  have loop2 : ∀ μs : za_M, zq_fr (fun b j => b = 43 ∧ j = 0) μ μs → (∀ i, i < 64 → μs.1 43 0 i = 0 ∨ μs.1 43 0 i = 1) → (∀ i, i < 64 → (ps_ms μs i = true ↔ ps_in g nb L i)) → ∀ w : Int32, ZZ 82 [some (za_r 30 0), some (za_i x), some (za_i l), some (za_i w), some (za_i 0), some (za_i 0)] [] μs (0, 0) := by
    intro μs hfs h01 hin w
    have loop := zn_for (σ := za_M × Nat) (N := 64)
      (P := fun k t => ∀ y m : Int32, y = nI k → m = nI t.2 → ZZ 82 [some (za_r 30 0), some (za_i x), some (za_i l), some (za_i w), some (za_i m), some (za_i y)] [] t.1 (0, 0))
      (I := fun k t => (∀ i, i < 64 → t.1.1 42 0 i = if i < k then nI (ps_nx g L n nb i) else nI (nb i)) ∧ t.2 ≤ k ∧ (0 < t.2 ↔ ∃ i, i < k ∧ ps_in g nb L i) ∧ zq_fr (fun b j => b = 42 ∧ j = 0) μs t.1)
      (fun t h y m hy hm => by
        refine run [82, 116] 60 82 _ _ _ _ ?_
        refine ⟨fun _ => ?_, fun q => absurd (by rw [hy]; exact nI_le (Nat.le_refl 64) (by decide)) q⟩
        refine ⟨rfl, Or.inl rfl, Nat.le_refl _, Nat.le_refl _, ⟨t.2, by rw [hm], h.2.1, h.2.2.1⟩, fun i hi => by rw [h.1 i hi, if_pos hi], zq_tr (zq_up hfs (fun b j q => ⟨Or.inr q.1, q.2⟩)) (zq_up h.2.2.2 (fun b j q => ⟨Or.inl q.1, q.2⟩))⟩)
      (fun k t hk h ih y m hy hm => by
        obtain ⟨i1, i2, i3, i4⟩ := h
        have hck : y.toNatClampNeg = k := zn_c hy (by omega)
        have hb : vp_in y 64 := zn_i hy hk (by decide)
        have e43 : t.1.1 43 0 y.toNatClampNeg = μs.1 43 0 k := by rw [hck, i4.1 43 0 (by decide)]
        have next : ∀ v : Int32, v = nI (ps_nx g L n nb k) → ZZ 116 [some (za_r 30 0), some (za_i x), some (za_i l), some (za_i w), some (za_i m), some (za_i y)] [za_i v, za_i y, za_r 42 0] t.1 (0, 0) := by
          intro v hv
          refine run [82] 60 116 _ _ _ _ ?_
          refine ⟨hb, hb, ?_⟩
          suffices post : ∀ μ2 : za_M, (za_u t.1.1 42 0 y.toNatClampNeg v, t.1.2) = μ2 → ((μ2.1 43 0 y.toNatClampNeg = 0 → ZZ 82 [some (za_r 30 0), some (za_i x), some (za_i l), some (za_i w), some (za_i m), some (za_i (y + 1))] [] μ2 (0, 0)) ∧ (¬ μ2.1 43 0 y.toNatClampNeg = 0 → ZZ 82 [some (za_r 30 0), some (za_i x), some (za_i l), some (za_i w), some (za_i (m + 1)), some (za_i (y + 1))] [] μ2 (0, 0))) from post _ rfl
          intro μ2 hμ2
          have n43 : μ2.1 43 0 y.toNatClampNeg = μs.1 43 0 k := by rw [← hμ2]; dsimp only; rw [za_u_b (show (43 : Nat) ≠ 42 by decide), e43]
          have n42 : ∀ i, i < 64 → μ2.1 42 0 i = if i < k + 1 then nI (ps_nx g L n nb i) else nI (nb i) := by
            intro i hi
            rw [← hμ2]
            dsimp only
            rw [hck]
            by_cases e : i = k
            · subst e
              rw [za_u_same, if_pos (Nat.lt_succ_self i), hv]
            · rw [za_u_i e, i1 i hi]
              by_cases e2 : i < k
              · rw [if_pos e2, if_pos (by omega)]
              · rw [if_neg e2, if_neg (by omega)]
          have nf : zq_fr (fun b j => b = 42 ∧ j = 0) μs μ2 := by rw [← hμ2]; exact zq_u i4 ⟨rfl, rfl⟩
          rw [n43]
          refine ⟨fun h0 => ih (μ2, t.2) ⟨n42, by omega, i3.trans ⟨fun ⟨i, q1, q2⟩ => ⟨i, by omega, q2⟩, fun ⟨i, q1, q2⟩ => ⟨i, ?_, q2⟩⟩, nf⟩ _ _ (zn_s hy) hm, fun h0 => ih (μ2, t.2 + 1) ⟨n42, by omega, ⟨fun _ => ⟨k, Nat.lt_succ_self k, (hin k hk).mp (decide_eq_true (zn_or01 (h01 k hk) h0))⟩, fun _ => Nat.succ_pos _⟩, nf⟩ _ _ (zn_s hy) (zn_s hm)⟩
          refine Classical.byContradiction fun e => ?_
          have e : i = k := by omega
          subst e
          have := of_decide_eq_true ((hin i hk).mpr q2)
          rw [h0] at this
          exact absurd this (by decide)
        refine run [82, 116] 60 82 _ _ _ _ ?_
        refine ⟨fun q => absurd q (zn_ge hy rfl hk (by decide)), fun _ => ⟨hb, fun h0 => ⟨hb, ?_⟩, fun h0 => ?_⟩⟩
        · rw [e43] at h0
          refine next _ ?_
          rw [hck, i1 k hk, if_neg (Nat.lt_irrefl k), ps_nx, ps_in']
          intro q
          have := of_decide_eq_true ((hin k hk).mpr q)
          rw [h0] at this
          exact absurd this (by decide)
        · rw [e43] at h0
          refine next _ ?_
          rw [hx, ps_nx, ps_ip]
          exact (hin k hk).mp (decide_eq_true (zn_or01 (h01 k hk) h0)))
    refine loop 0 (μs, 0) (Nat.zero_le _) ⟨fun i hi => ?_, Nat.le_refl _, ⟨fun q => absurd q (Nat.lt_irrefl 0), fun ⟨i, q, _⟩ => absurd q (Nat.not_lt_zero i)⟩, zq_rf⟩ 0 0 rfl rfl
    rw [if_neg (Nat.not_lt_zero i)]
    show μs.1 42 0 i = nI (nb i)
    rw [hfs.1 42 0 (by decide)]
    exact (h42 i hi).1
  -- while something must be left out
  have wh := zn_wh (σ := za_M × Int32)
    (P := fun t => ZZ 63 [some (za_r 30 0), some (za_i x), some (za_i l), some (za_i t.2), none, none] [] t.1 (0, 0))
    (I := fun t => lf_H (ps_F g nb L) (32 * gq_np g) 64 (ps_d g nb (ps_ms t.1)) t.2 ∧ ps_so g nb t.1 ∧ zq_fr (fun b j => b = 43 ∧ j = 0) μ t.1)
    (fun t => 2 * ct_n (ps_d g nb (ps_ms t.1)) 64 + t.2.toNatClampNeg)
    (fun t h ih => by
      obtain ⟨h1, h2, h3⟩ := h
      have hMu : gq_M g t.1 := gq_M_fr hM h3 (by decide) (by decide) (by decide) (by decide) (by rw [h3.1 30 0 (by decide)]) (by rw [h3.1 30 0 (by decide)])
      have h42u : ∀ i, i < 64 → t.1.1 42 0 i = nI (nb i) ∧ nb i < 2 ^ 31 := by rw [h3.1 42 0 (by decide)]; exact h42
      refine run [63, 82] 60 63 _ _ _ _ ?_
      refine ⟨fun h0 => ?_, fun h0 => ?_⟩
      · exact loop2 t.1 h3 h2.1 (fun i hi => ps_done h2.2 (h1.2.2 h0) hi) _
      · refine ⟨d - 1, 0, 0, _, _, by omega, Nat.le_refl _, Nat.le_refl _, ct_M_leaveOut hg hMu h42u h2 h1.2.1 hl (by omega), ?_, fun _ _ h => h.elim⟩
        rintro r μ1 ⟨⟨v, rfl, hv⟩, hso, hf⟩
        exact ih (μ1, v) ⟨lf_IH hv, hso, zq_tr h3 hf⟩ (lf_Im hv (zn_or01 h1.1 h0)))
  -- the set of all that have no number yet
  have loop := zn_for (σ := za_M) (N := 64)
    (P := fun k μ1 => ∀ y : Int32, y = nI k → ZZ 2 [some (za_r 30 0), some (za_i x), some (za_i l), some (za_i y), none, none] [] μ1 (0, 0))
    (I := fun k μ1 => (∀ i, i < k → (μ1.1 43 0 i = 0 ∨ μ1.1 43 0 i = 1) ∧ (μ1.1 43 0 i = 1 ↔ (ps_at g i ∧ nb i = 0))) ∧ zq_fr (fun b j => b = 43 ∧ j = 0) μ μ1)
    (fun μ1 h y hy => by
      refine run [2, 63] 60 2 _ _ _ _ ?_
      refine ⟨fun _ => ?_, fun q => absurd (by rw [hy]; exact nI_le (Nat.le_refl 64) (by decide)) q⟩
      refine wh (μ1, 1) ⟨⟨Or.inr rfl, fun i q => ?_, fun q => absurd q (show ¬ (1 : Int32) = 0 by decide)⟩, ⟨fun i hi => (h.1 i hi).1, fun i hi q => (h.1 i hi).2.mp (of_decide_eq_true q)⟩, h.2⟩
      obtain ⟨q1, q2, q3⟩ := ps_d_iff.mp q.2
      have := of_decide_eq_false q3
      exact absurd ((h.1 i q.1).2.mpr ⟨q1, q2⟩) this)
    (fun k μ1 hk h ih y hy => by
      have hck : y.toNatClampNeg = k := zn_c hy (by omega)
      have hb : vp_in y 64 := zn_i hy hk (by decide)
      have hdv : y / 8 = nI (k / 8) := by rw [hy]; exact zn_div (by omega)
      have hrm : y - y / 8 * 8 = nI (k % 8) := by rw [hy]; exact zn_rem (by omega)
      have e1 : μ1.1 30 0 1 = nI (gq_ns g) := by rw [h.2.1 30 0 (by decide)]; exact hM.1
      have e42 : μ1.1 42 0 y.toNatClampNeg = nI (nb k) := by rw [hck, h.2.1 42 0 (by decide)]; exact (h42 k hk).1
      have next : ∀ v : Int32, (v = 0 ∨ v = 1) → (v = 1 ↔ (ps_at g k ∧ nb k = 0)) → ZZ 54 [some (za_r 30 0), some (za_i x), some (za_i l), some (za_i y), none, none] [za_i v, za_i y, za_r 43 0] μ1 (0, 0) := by
        intro v hv hv1
        refine run [2] 60 54 _ _ _ _ ?_
        refine ⟨hb, hv, ?_⟩
        refine ih _ ⟨fun i hi => ?_, zq_u h.2 ⟨rfl, rfl⟩⟩ _ (zn_s hy)
        dsimp only
        rw [hck]
        by_cases e : i = k
        · subst e
          rw [za_u_same]
          exact ⟨hv, hv1⟩
        · rw [za_u_i e]
          exact h.1 i (by omega)
      have no : ¬ (ps_at g k ∧ nb k = 0) → ZZ 54 [some (za_r 30 0), some (za_i x), some (za_i l), some (za_i y), none, none] [za_i 0, za_i y, za_r 43 0] μ1 (0, 0) := fun q => next 0 (Or.inl rfl) ⟨fun z => absurd z (by decide), fun z => absurd z q⟩
      refine run [2, 54] 60 2 _ _ _ _ ?_
      refine ⟨fun q => absurd q (zn_ge hy rfl hk (by decide)), fun _ => ⟨by decide, fun hs => no ?_, fun hs => ?_⟩⟩
      · rintro ⟨q, _⟩
        rw [hdv, e1] at hs
        exact absurd hs (nI_ge q.1 (by omega))
      · have hs : k / 8 < gq_ns g := Classical.byContradiction fun w => hs (by rw [hdv, e1]; exact nI_le (by omega) (by omega))
        have hat6 := (hg.2.2.1 _ hs).1
        have e31 : μ1.1 31 0 (y / 8).toNatClampNeg = nI (gq_at g (k / 8)) := by rw [zn_c hdv (by omega), h.2.1 31 0 (by decide)]; exact (hM.2.2.1 _ hs).1
        refine ⟨by decide, by decide, zn_i hdv (by omega) (by decide), fun ha => no ?_, fun ha => ⟨hb, fun h0 => no ?_, fun h0 => next 1 (Or.inr rfl) ⟨fun _ => ⟨⟨hs, ?_⟩, ?_⟩, fun _ => rfl⟩⟩⟩
        · rintro ⟨q, _⟩
          rw [hrm, e31] at ha
          exact absurd ha (nI_ge q.2 (by omega))
        · rintro ⟨_, q⟩
          rw [e42, q] at h0
          exact h0 rfl
        · exact Classical.byContradiction fun w => ha (by rw [hrm, e31]; exact nI_le (by omega) (by omega))
        · rw [e42] at h0
          exact (nI_eq (b := 0) (h42 k hk).2 (by decide)).mp h0)
  refine run [2] 60 0 _ _ _ _ ?_
  exact loop 0 μ (Nat.zero_le _) ⟨fun i hi => absurd hi (Nat.not_lt_zero i), zq_rf⟩ 0 rfl
theorem ps_id_le (g : gq_G) (tb : Bool) : ∀ n, ps_id g tb n ≤ n
  | 0 => Nat.le_refl _
  | n + 1 => by
    rw [ps_id]
    by_cases h : ps_any g tb n
    · rw [ps_ip h]; omega
    · rw [ps_in' h]; have := ps_id_le g tb n; omega
theorem ps_la_le (g : gq_G) (tb : Bool) : ∀ n, ps_la g tb n ≤ n
  | 0 => Nat.le_refl _
  | n + 1 => by
    rw [ps_la]
    by_cases h : ps_any g tb n
    · rw [ps_ip h]; omega
    · rw [ps_in' h]; have := ps_la_le g tb n; omega
/-- what findPasses leaves -/
def ps_M (g : gq_G) (tb : Bool) (μ : za_M) : Prop := ∃ n, ps_end g tb n ∧ n ≤ 200 ∧ (∀ i, i < 64 → μ.1 42 0 i = nI (ps_nb g tb n i)) ∧ μ.1 30 0 22 = nI (ps_la g tb n)
def pf_S (b j : Nat) : Prop := (b = 42 ∨ b = 43 ∨ b = 30) ∧ j = 0
set_option maxHeartbeats 8000000 in
theorem ct_M_findPasses {Γ : zk_G} {d : Nat} {l : Int32} {tb : Bool} {μ : za_M} {g : gq_G} (hg : gq_ok g) (hM : gq_M g μ) (hl : l = if tb = true then 1 else 0) (hd : 8 ≤ d) : zk_Ct zt Γ zm_M_findPasses d 0 0 [za_r 30 0, za_i l] μ (fun r μ' => r = none ∧ ps_M g tb μ' ∧ (∀ i, i ≠ 22 → μ'.1 30 0 i = μ.1 30 0 i) ∧ zq_fr pf_S μ μ') (fun _ _ => False) := by
  refine zs_M_findPasses (Nat.le_of_ble_eq_true rfl) (by omega) (fun ZZ run => ?_)
  have hl0 : l = 0 → tb = false := fun q => by
    cases tb with
    | false => rfl
    | true => rw [hl] at q; exact absurd q (by decide)
  have hl1 : ¬ l = 0 → tb = true := fun q => by
    cases tb with
    | true => rfl
    | false => rw [hl] at q; exact absurd rfl q
  have wh := zn_wh (σ := za_M × Nat × Option za_V)
    (P := fun t => ∀ y m : Int32, y = nI (t.2.1 + 1) → m = nI (ps_id g tb t.2.1) → ZZ 30 [some (za_r 30 0), some (za_i l), some (za_i m), some (za_i y), t.2.2] [] t.1 (0, 0))
    (I := fun t => (∀ i, i < 64 → t.1.1 42 0 i = nI (ps_nb g tb t.2.1 i)) ∧ t.1.1 30 0 22 = nI (ps_la g tb t.2.1) ∧ (∀ j, j < t.2.1 → ps_id g tb j < ps_mo tb) ∧ t.2.1 + ps_me g tb t.2.1 ≤ 194 ∧ (∀ i, i ≠ 22 → t.1.1 30 0 i = μ.1 30 0 i) ∧ zq_fr pf_S μ t.1)
    (fun t => ps_me g tb t.2.1)
    (fun t h ih y m hy hm => by
      obtain ⟨i1, i2, i3, i4, i5, i6⟩ := h
      have hid := ps_id_le g tb t.2.1
      have hMt : gq_M g t.1 := gq_M_fr hM i6 (by unfold pf_S; decide) (by unfold pf_S; decide) (by unfold pf_S; decide) (by unfold pf_S; decide) (i5 1 (by decide)) (i5 4 (by decide))
      have h42t : ∀ i, i < 64 → t.1.1 42 0 i = nI (ps_nb g tb t.2.1 i) ∧ ps_nb g tb t.2.1 i < 2 ^ 31 := fun i hi => ⟨i1 i hi, by have := ps_nb_le g tb t.2.1 i; omega⟩
      have c61 : ps_id g tb t.2.1 < ps_mo tb → ∀ v : Int32, v = (if ps_left tb (t.2.1 + 1) = true then 1 else 0) → ZZ 61 [some (za_r 30 0), some (za_i l), some (za_i m), some (za_i y), t.2.2] [za_i v, za_i y, za_r 30 0] t.1 (0, 0) := by
        intro hlt v hv
        refine run [30] 60 61 _ _ _ _ ?_
        refine ⟨d - 1, 0, 0, _, _, by omega, Nat.le_refl _, Nat.le_refl _, ct_M_onePass (n := t.2.1 + 1) hg hMt h42t hy hv (by omega), ?_, fun _ _ h => h.elim⟩
        rintro r μ1 ⟨⟨c, rfl, hc, hc0⟩, q42, qf⟩
        have hany : 0 < c ↔ ps_any g tb t.2.1 := hc0
        have hmo : ps_mo tb ≤ 2 := by unfold ps_mo; split <;> omega
        have hme := ps_me_lt (g := g) (tb := tb) (n := t.2.1) (by omega)
        have e30 : μ1.1 30 0 = t.1.1 30 0 := qf.1 30 0 (by decide)
        have fin : ∀ (v : Int32) (m' : Int32), v = nI (ps_la g tb (t.2.1 + 1)) → m' = nI (ps_id g tb (t.2.1 + 1)) → ZZ 30 [some (za_r 30 0), some (za_i l), some (za_i m'), some (za_i (y + 1)), some (za_i (nI c))] [] (za_u μ1.1 30 0 22 v, μ1.2) (0, 0) := by
          intro v m' hv hm'
          refine ih (_, t.2.1 + 1, _) ⟨fun i hi => ?_, ?_, fun j hj => ?_, ?_, fun i hi => ?_, zq_u (zq_tr i6 (zq_up qf (fun b j q => ⟨by rcases q.1 with z | z <;> simp [z], q.2⟩))) ⟨Or.inr (Or.inr rfl), rfl⟩⟩ hme _ _ (zn_s hy) hm'
          · dsimp only
            rw [za_u_b (show (42 : Nat) ≠ 30 by decide)]
            exact q42 i hi
          · dsimp only
            rw [za_u_same, hv]
          · by_cases e : j = t.2.1
            · subst e; exact hlt
            · have hj : j < t.2.1 + 1 := hj
              exact i3 j (by omega)
          · show t.2.1 + 1 + ps_me g tb (t.2.1 + 1) ≤ 194
            omega
          · dsimp only
            rw [za_u_i hi, e30]
            exact i5 i hi
        have pos : ¬ nI c ≤ 0 → 0 < c := fun q => Nat.pos_of_ne_zero (fun z => q (by rw [z]; decide))
        have neg : nI c ≤ 0 → ¬ 0 < c := fun q z => absurd q (nI_ge (a := 0) z (by omega))
        refine ⟨fun h0 => ⟨fun _ => ?_, fun h1 => absurd h0 h1⟩, fun h0 => ⟨fun h1 => absurd h1 h0, fun _ => ?_⟩⟩
        · have hno : ¬ ps_any g tb t.2.1 := fun q => neg h0 (hany.mpr q)
          refine fin _ _ ?_ ?_
          · rw [e30, i2, ps_la, ps_in' hno]
          · rw [ps_id, ps_in' hno]
            exact zn_s hm
        · have hyes := hany.mp (pos h0)
          refine fin _ _ ?_ ?_
          · rw [ps_la, ps_ip hyes]
            exact hy
          · rw [ps_id, ps_ip hyes]
            rfl
      have c40 : ∀ v : Int32, v = nI (ps_mo tb) → ZZ 40 [some (za_r 30 0), some (za_i l), some (za_i m), some (za_i y), t.2.2] [za_i v, za_i m] t.1 (0, 0) := by
        intro v hv
        have hmo : ps_mo tb ≤ 2 := by unfold ps_mo; split <;> omega
        refine run [30, 61] 60 40 _ _ _ _ ?_
        refine ⟨fun h0 => ?_, fun h0 => ?_⟩
        · refine ⟨rfl, rfl, Nat.le_refl _, Nat.le_refl _, rfl, ⟨t.2.1, ⟨?_, i3⟩, by omega, i1, i2⟩, i5, i6⟩
          exact Classical.byContradiction fun w => absurd h0 (zn_ge hm hv (by omega) (by omega))
        · have hlt : ps_id g tb t.2.1 < ps_mo tb := Classical.byContradiction fun w => h0 (by rw [hm, hv]; exact nI_le (by omega) (by omega))
          have hrem : y - y / 2 * 2 = nI ((t.2.1 + 1) % 2) := by rw [hy]; exact pk_rem (by omega) (by decide) (by decide)
          refine ⟨fun hq => c61 hlt _ ?_, fun hq => ⟨by decide, fun h2 => c61 hlt _ ?_, fun h2 => c61 hlt _ ?_⟩⟩
          · rw [hl0 hq]; rfl
          · rw [hrem] at h2
            rw [hl1 hq]
            have : ¬ (t.2.1 + 1) % 2 = 1 := fun w => h2 (by rw [w]; rfl)
            unfold ps_left
            rw [show ((t.2.1 + 1) % 2 == 1) = false by simpa using this]
            rfl
          · rw [hrem] at h2
            rw [hl1 hq]
            have : (t.2.1 + 1) % 2 = 1 := (nI_eq (b := 1) (by omega) (by decide)).mp h2
            unfold ps_left
            rw [this]
            rfl
      refine run [30, 40] 60 30 _ _ _ _ ?_
      refine ⟨fun h0 => c40 _ (by rw [hl0 h0]; rfl), fun h0 => c40 _ (by rw [hl1 h0]; rfl)⟩)
  have loop := zn_for (σ := za_M) (N := 64)
    (P := fun k μ1 => ∀ y : Int32, y = nI k → ZZ 2 [some (za_r 30 0), some (za_i l), some (za_i y), none, none] [] μ1 (0, 0))
    (I := fun k μ1 => (∀ i, i < k → μ1.1 42 0 i = 0) ∧ zq_fr (fun b j => b = 42 ∧ j = 0) μ μ1)
    (fun μ1 h y hy => by
      refine run [2, 30] 60 2 _ _ _ _ ?_
      refine ⟨fun _ => ?_, fun q => absurd (by rw [hy]; exact nI_le (Nat.le_refl 64) (by decide)) q⟩
      refine wh (_, 0, none) ⟨fun i hi => ?_, ?_, fun j hj => absurd hj (Nat.not_lt_zero j), ?_, fun i hi => ?_, zq_u (zq_up h.2 (fun b j q => ⟨Or.inl q.1, q.2⟩)) ⟨Or.inr (Or.inr rfl), rfl⟩⟩ 1 0 rfl rfl
      · dsimp only
        rw [za_u_b (show (42 : Nat) ≠ 30 by decide)]
        exact h.1 i hi
      · dsimp only
        rw [za_u_same]
        rfl
      · have := ps_me0 g tb
        show 0 + ps_me g tb 0 ≤ 194
        omega
      · dsimp only
        rw [za_u_i hi, h.2.1 30 0 (by decide)])
    (fun k μ1 hk h ih y hy => by
      have hck : y.toNatClampNeg = k := zn_c hy (by omega)
      refine run [2, 30] 60 2 _ _ _ _ ?_
      refine ⟨fun q => absurd q (zn_ge hy rfl hk (by decide)), fun _ => ⟨zn_i hy hk (by decide), ?_⟩⟩
      refine ih _ ⟨fun i hi => ?_, zq_u h.2 ⟨rfl, rfl⟩⟩ _ (zn_s hy)
      dsimp only
      rw [hck]
      by_cases e : i = k
      · subst e; rw [za_u_same]
      · rw [za_u_i e]; exact h.1 i (by omega))
  refine run [2] 60 0 _ _ _ _ ?_
  exact loop 0 μ (Nat.zero_le _) ⟨fun i hi => absurd hi (Nat.not_lt_zero i), zq_rf⟩ 0 rfl
