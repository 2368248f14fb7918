/-! the class's object as a whole -/
def ga_T (g : gq_G) (μ : za_M) : Prop := μ.1 11 0 0 = 0 ∨ μ.1 11 0 0 = 1 ∧ tg_fin g μ
def ga_R (g : gq_G) (μ : za_M) : Prop := μ.1 20 0 0 = 0 ∨ μ.1 20 0 0 = 1 ∧ cl_fin g μ
def ga_N (g : gq_G) (tb : Bool) (J : Nat) (μ : za_M) : Prop := (μ.1 24 J 0 = 0 ∨ μ.1 24 J 0 = 1 ∧ nu_fin g tb J μ) ∧ μ.1 24 J 4 = if tb = true then 1 else 0
def ga (g : gq_G) (μ : za_M) : Prop := gq_C g μ ∧ ga_T g μ ∧ ga_R g μ ∧ ga_N g false 0 μ ∧ ga_N g true 1 μ
theorem ga_Tc {g : gq_G} {μ μ' : za_M} (h : ga_T g μ) (h1 : μ'.1 11 0 = μ.1 11 0) (h2 : μ'.1 12 0 = μ.1 12 0) (h3 : ∀ s, μ'.2 14 s = μ.2 14 s) : ga_T g μ' := by
  have eK : tg_K μ' = tg_K μ := by funext s; unfold tg_K; rw [h2]
  have eT : tg_T μ' = tg_T μ := by funext s i; unfold tg_T; rw [h3]
  have eC : tg_C μ' = tg_C μ := by unfold tg_C; rw [h1]
  unfold ga_T tg_fin tg_I tg_ok tg_so tg_cl tg_tr at h ⊢
  rw [eK, eT, eC, h1, h2]
  exact h
theorem ga_Rc {g : gq_G} {μ μ' : za_M} (h : ga_R g μ) (h1 : μ'.1 20 0 = μ.1 20 0) (h2 : μ'.1 21 0 = μ.1 21 0) (h3 : μ'.2 22 0 = μ.2 22 0) (h4 : μ'.2 23 0 = μ.2 23 0) : ga_R g μ' := by
  have ex : cl_x μ' = cl_x μ := by funext i; unfold cl_x; rw [h2, h3]
  have ey : cl_y μ' = cl_y μ := by funext i; unfold cl_y; rw [h4]
  unfold ga_R cl_fin cl_01 at h ⊢
  rw [ex, ey, h1, h2]
  exact h
theorem ga_Nc {g : gq_G} {tb : Bool} {J : Nat} {μ μ' : za_M} (h : ga_N g tb J μ) (h1 : μ'.1 24 J = μ.1 24 J) (h2 : ∀ s, μ'.1 26 (8 * J + s) = μ.1 26 (8 * J + s)) : ga_N g tb J μ' := by
  unfold ga_N nu_fin at h ⊢
  rw [h1]
  refine ⟨h.1.imp id (fun q => ⟨q.1, ?_⟩), h.2⟩
  obtain ⟨n, q1, q2, q3, q4⟩ := q.2
  exact ⟨n, q1, q2, nu_26c q3 (fun _ => rfl) h2, q4⟩
theorem ga_fr {g : gq_G} {S : Nat → Nat → Prop} {μ μ' : za_M} (h : ga g μ) (hf : zq_fr S μ μ') (hS : ∀ b j, b ≤ 28 → ¬ S b j) : ga g μ' :=
  ⟨gq_C_fr h.1 hf (fun b j q => hS b j (by omega)), ga_Tc h.2.1 (hf.1 11 0 (hS 11 0 (by decide))) (hf.1 12 0 (hS 12 0 (by decide))) (fun s => hf.2 14 s (hS 14 s (by decide))),
    ga_Rc h.2.2.1 (hf.1 20 0 (hS 20 0 (by decide))) (hf.1 21 0 (hS 21 0 (by decide))) (hf.2 22 0 (hS 22 0 (by decide))) (hf.2 23 0 (hS 23 0 (by decide))),
    ga_Nc h.2.2.2.1 (hf.1 24 0 (hS 24 0 (by decide))) (fun s => hf.1 26 _ (hS 26 _ (by decide))), ga_Nc h.2.2.2.2 (hf.1 24 1 (hS 24 1 (by decide))) (fun s => hf.1 26 _ (hS 26 _ (by decide)))⟩
/-- nothing known -/
def ga_z (μ : za_M) : Prop := μ.1 11 0 0 = 0 ∧ μ.1 20 0 0 = 0 ∧ μ.1 24 0 0 = 0 ∧ μ.1 24 1 0 = 0 ∧ μ.1 24 0 4 = 0 ∧ μ.1 24 1 4 = 1
theorem ga_of_z {g : gq_G} {μ : za_M} (hC : gq_C g μ) (h : ga_z μ) : ga g μ := ⟨hC, Or.inl h.1, Or.inl h.2.1, ⟨Or.inl h.2.2.1, h.2.2.2.2.1⟩, ⟨Or.inl h.2.2.2.1, h.2.2.2.2.2⟩⟩
theorem ga_zf {μ μ' : za_M} (h : ga_z μ) (hf : zq_fr (fun b _ => b ≤ 10) μ μ') : ga_z μ' := by
  unfold ga_z at h ⊢
  rw [hf.1 11 0 (by decide), hf.1 20 0 (by decide), hf.1 24 0 (by decide), hf.1 24 1 (by decide)]
  exact h
def ga_fg (μ : za_M) : za_M := (za_u (za_u (za_u (za_u μ.1 11 0 0 0) 20 0 0 0) 24 0 0 0) 24 1 0 0, μ.2)
theorem ga_fgz {μ : za_M} (h4 : μ.1 24 0 4 = 0) (h5 : μ.1 24 1 4 = 1) : ga_z (ga_fg μ) := by
  unfold ga_z ga_fg
  dsimp only
  refine ⟨?_, ?_, ?_, ?_, ?_, ?_⟩ <;> simp [za_u, h4, h5]
theorem ga_fgf {μ : za_M} : zq_fr (fun b _ => b ≤ 28 ∧ 10 < b) μ (ga_fg μ) := by
  unfold ga_fg
  exact zq_u (b := (za_u (za_u (za_u μ.1 11 0 0 0) 20 0 0 0) 24 0 0 0, μ.2)) (zq_u (b := (za_u (za_u μ.1 11 0 0 0) 20 0 0 0, μ.2)) (zq_u (b := (za_u μ.1 11 0 0 0, μ.2)) (zq_u zq_rf (by decide)) (by decide)) (by decide)) (by decide)
theorem ga_fgC {g : gq_G} {μ : za_M} (h : gq_C g μ) : gq_C g (ga_fg μ) := gq_C_fr h ga_fgf (fun b j q z => by omega)
theorem fr_up10 {μ μ' : za_M} (h : zq_fr (fun b _ => b ≤ 10) μ μ') : zq_fr (fun b _ => b ≤ 28) μ μ' := zq_up h (fun b _ q => by omega)
theorem fr_upg {μ μ' : za_M} (h : zq_fr (fun b _ => b ≤ 28 ∧ 10 < b) μ μ') : zq_fr (fun b _ => b ≤ 28) μ μ' := zq_up h (fun b _ q => q.1)
theorem gq_C0 {μ : za_M} (h0 : μ.1 1 0 0 = 0) (h3 : μ.1 1 0 3 = 0) : gq_C gq_0 μ := ⟨h0, h3, fun s hs => absurd hs (Nat.not_lt_zero s), fun p hp => absurd hp (Nat.not_lt_zero p)⟩
theorem ct_A_clear {Γ : zk_G} {d : Nat} {μ : za_M} {g : gq_G} (h : ga g μ) (hd : 2 ≤ d) : zk_Ct zt Γ zm_A_clear d 0 0 [za_r 0 0] μ (fun r μ' => r = none ∧ ga gq_0 μ' ∧ zq_fr (fun b _ => b ≤ 28) μ μ') (fun _ _ => False) := by
  refine zs_A_clear (Nat.le_of_ble_eq_true rfl) (by omega) (fun ZZ run => ?_)
  refine run [] 40 0 _ _ _ _ ?_
  refine ⟨d - 1, 0, 0, _, _, by omega, Nat.le_refl _, Nat.le_refl _, ct_G_wipe (by omega), ?_, fun _ _ h => h.elim⟩
  rintro r μ1 ⟨rfl, hμ1⟩
  refine ⟨d - 1, 0, 0, _, _, by omega, Nat.le_refl _, Nat.le_refl _, ct_A_forgetAnswers (by omega), ?_, fun _ _ h => h.elim⟩
  rintro r μ2 ⟨rfl, hμ2⟩
  have f1 : zq_fr (fun b _ => b ≤ 10) μ μ1 := by rw [hμ1]; exact zq_u (b := (za_u μ.1 1 0 0 0, μ.2)) (zq_u zq_rf (show 1 ≤ 10 by decide)) (show 1 ≤ 10 by decide)
  have hμ2 : μ2 = ga_fg μ1 := hμ2
  subst hμ2
  refine ⟨rfl, rfl, Nat.le_refl _, Nat.le_refl _, rfl, ga_of_z (ga_fgC (gq_C0 ?_ ?_)) (ga_fgz ?_ ?_), zq_tr (fr_up10 f1) (fr_upg ga_fgf)⟩
  · rw [hμ1]; dsimp only; rw [za_u_i (by decide), za_u_same]
  · rw [hμ1]; dsimp only; rw [za_u_same]
  · rw [f1.1 24 0 (by decide)]; exact h.2.2.2.1.2
  · rw [f1.1 24 1 (by decide)]; exact h.2.2.2.2.2
/-- a symbol that may be added -/
def gs_S (g : gq_G) (a w : Int32) (n : Nat) : Prop := n ≤ 6 ∧ a = nI n ∧ (∀ b, bt w b = true → b < n) ∧ (gq_ns g = 0 → w = 0)
theorem gq_C_addS {g : gq_G} (hg : gq_ok g) {μ : za_M} (hC : gq_C g μ) {n : Nat} {a w : Int32} (ha : a = nI n) : gq_C (gq_addS g n w) (za_u (za_u (za_u μ.1 2 0 (gq_ns g) a) 3 0 (gq_ns g) w) 1 0 0 (nI (gq_ns g + 1)), μ.2) := by
  generalize hm : ((za_u (za_u (za_u μ.1 2 0 (gq_ns g) a) 3 0 (gq_ns g) w) 1 0 0 (nI (gq_ns g + 1)), μ.2) : za_M) = μ'
  have m1 : ∀ i, μ'.1 1 0 i = if i = 0 then nI (gq_ns g + 1) else μ.1 1 0 i := fun i => by
    rw [← hm]
    dsimp only
    by_cases e : i = 0
    · subst e; rw [za_u_same, if_pos rfl]
    · rw [za_u_i e, if_neg e, za_u_b (show (1 : Nat) ≠ 3 by decide), za_u_b (show (1 : Nat) ≠ 2 by decide)]
  have m2 : ∀ i, μ'.1 2 0 i = if i = gq_ns g then a else μ.1 2 0 i := fun i => by
    rw [← hm]
    dsimp only
    rw [za_u_b (show (2 : Nat) ≠ 1 by decide), za_u_b (show (2 : Nat) ≠ 3 by decide)]
    by_cases e : i = gq_ns g
    · subst e; rw [za_u_same, if_pos rfl]
    · rw [za_u_i e, if_neg e]
  have m3 : ∀ i, μ'.1 3 0 i = if i = gq_ns g then w else μ.1 3 0 i := fun i => by
    rw [← hm]
    dsimp only
    rw [za_u_b (show (3 : Nat) ≠ 1 by decide)]
    by_cases e : i = gq_ns g
    · subst e; rw [za_u_same, if_pos rfl]
    · rw [za_u_i e, if_neg e, za_u_b (show (3 : Nat) ≠ 2 by decide)]
  have mb : ∀ b j, b ≠ 1 → b ≠ 2 → b ≠ 3 → μ'.1 b j = μ.1 b j := fun b j n1 n2 n3 => by rw [← hm]; dsimp only; rw [za_u_b n1, za_u_b n3, za_u_b n2]
  refine ⟨by rw [m1]; rfl, by rw [m1]; exact hC.2.1, fun s hs => ?_, fun p hp => ?_⟩
  · rw [m2, m3]
    show _ = nI (if s = gq_ns g then n else gq_at g s) ∧ _ = (if s = gq_ns g then w else gq_dn g s)
    by_cases e : s = gq_ns g
    · rw [if_pos e, if_pos e, if_pos e]; exact ⟨ha, by rw [if_pos e]⟩
    · rw [if_neg e, if_neg e, if_neg e, if_neg e]
      have hs : s < gq_ns g + 1 := hs
      exact hC.2.2.1 s (by omega)
  · have hp : p < gq_np g := hp
    obtain ⟨d1, d2, d3, d4, d5⟩ := hC.2.2.2 p hp
    rw [mb 4 0 (by decide) (by decide) (by decide), mb 6 p (by decide) (by decide) (by decide), mb 8 p (by decide) (by decide) (by decide), mb 9 0 (by decide) (by decide) (by decide), mb 10 0 (by decide) (by decide) (by decide)]
    exact ⟨d1, d2, d3, fun x hx => (d4 x hx).trans (gq_addS_df hg n w hp x).1.symm, fun x hx => (d5 x hx).trans (gq_addS_df hg n w hp x).2.symm⟩
set_option maxHeartbeats 4000000 in
theorem ct_A_symbol {Γ : zk_G} {d : Nat} {a w : Int32} {μ : za_M} {g : gq_G} (hg : gq_ok g) (h : ga g μ) (hd : 6 ≤ d) : zk_Ct zt Γ zm_A_symbol d 1 6 [za_r 0 0, za_i a, za_i w] μ
    (fun r μ' => ∃ n, gs_S g a w n ∧ gq_ns g < 8 ∧ r = some (za_i (nI (gq_ns g))) ∧ ga (gq_addS g n w) μ' ∧ zq_fr (fun b _ => b ≤ 28) μ μ')
    (fun E μ' => (E = 0 ∧ ¬ (∃ n, gs_S g a w n) ∨ E = 1 ∧ (∃ n, gs_S g a w n) ∧ ¬ gq_ns g < 8) ∧ μ' = μ) := by
  have hns : gq_ns g ≤ 8 := hg.1
  refine zX_A_symbol (Nat.le_of_ble_eq_true rfl) hd (fun ZZ run => ?_)
  have c65 : (∃ n, gs_S g a w n) → ZZ 65 [some (za_r 0 0), some (za_i a), some (za_i w)] [] μ (0, 0) := by
    rintro ⟨n, hS⟩
    refine run [] 40 65 _ _ _ _ ?_
    refine ⟨fun hlt => ?_, fun hlt => ⟨rfl, Nat.le_refl _, Nat.le_refl _, Or.inr ⟨rfl, ⟨n, hS⟩, fun q => hlt ?_⟩, rfl⟩⟩
    · have hlt : μ.1 1 0 0 < 8 := hlt
      have hlt : gq_ns g < 8 := Classical.byContradiction fun q => absurd hlt (zn_nl h.1.1 (show (8 : Int32) = nI 8 from rfl) (by omega) (by omega))
      refine ⟨d - 1, 0, 0, _, _, by omega, Nat.zero_le _, Nat.zero_le _, ct_A_forgetAnswers (by omega), ?_, fun _ _ h => h.elim⟩
      rintro r μ1 ⟨rfl, hμ1⟩
      have hμ1 : μ1 = ga_fg μ := hμ1
      subst hμ1
      have hz := ga_fgz (μ := μ) h.2.2.2.1.2 h.2.2.2.2.2
      have hC := ga_fgC h.1
      refine ⟨d - 1, 0, 0, _, _, by omega, Nat.zero_le _, Nat.zero_le _, ct_G_addSymbol (n := gq_ns g) hC.1 hlt (by omega), ?_, fun _ _ h => h.elim⟩
      rintro r μ2 ⟨rfl, hμ2⟩
      have f2 : zq_fr (fun b _ => b ≤ 10) (ga_fg μ) μ2 := by
        rw [hμ2]
        exact zq_u (b := (za_u (za_u (ga_fg μ).1 2 0 (gq_ns g) a) 3 0 (gq_ns g) w, (ga_fg μ).2)) (zq_u (b := (za_u (ga_fg μ).1 2 0 (gq_ns g) a, (ga_fg μ).2)) (zq_u zq_rf (show 2 ≤ 10 by decide)) (show 3 ≤ 10 by decide)) (show 1 ≤ 10 by decide)
      refine ⟨rfl, Or.inl rfl, Nat.zero_le _, Nat.zero_le _, n, hS, hlt, rfl, ga_of_z ?_ (ga_zf hz f2), zq_tr (fr_upg ga_fgf) (fr_up10 f2)⟩
      rw [hμ2]
      exact gq_C_addS hg hC hS.2.1
    · exact zn_lt2 h.1.1 (show (8 : Int32) = nI 8 from rfl) q (by decide)
  have bad : ∀ κ : Nat × Nat, κ = (0, 0) → ¬ (∃ n, gs_S g a w n) → ([] : List za_V) = [] ∧ zk_XX 1 6 (fun E μ' => (E = 0 ∧ ¬ (∃ n, gs_S g a w n) ∨ E = 1 ∧ (∃ n, gs_S g a w n) ∧ ¬ gq_ns g < 8) ∧ μ' = μ) 0 μ (κ.1 + 1, κ.2 + 6) := by
    rintro κ rfl q
    exact ⟨rfl, Nat.le_refl _, Nat.le_refl _, Or.inl ⟨rfl, q⟩, rfl⟩
  refine run [65] 60 0 _ _ _ _ ?_
  refine ⟨fun h0 => bad (0, 0) rfl ?_, fun h0 => ⟨fun h6 => ?_, fun h6 => bad (0, 0) rfl ?_⟩⟩
  · rintro ⟨n, q1, q2, _⟩
    exact absurd h0 (by rw [q2]; exact gq_neg n (by omega))
  · obtain ⟨n, hn, ha⟩ := nI_of h0
    have hn6 : n ≤ 6 := Classical.byContradiction fun q => absurd h6 (by rw [ha]; exact nI_ge (a := 6) (by omega) (by omega))
    have huq : ∀ k, k ≤ 6 → a = nI k → k = n := fun k q1 q2 => (nI_eq (by omega) (by omega)).mp (q2.symm.trans ha)
    refine ⟨d - 1, 0, 0, _, _, by omega, Nat.zero_le _, Nat.zero_le _, ct_A_firstBits (by omega), ?_, fun _ _ h => h.elim⟩
    rintro r μ1 ⟨rfl, hμ1⟩
    have hμ1 := hμ1.symm
    subst hμ1
    have hbits : w &&& (((1 <<< (a &&& 31)) - 1) ^^^ (-1)) = 0 ↔ ∀ b, bt w b = true → b < n := by
      rw [zb_new, ha]
      refine ⟨fun q b z => ?_, fun q b z => ?_⟩
      · have := q b z
        rw [fb_bt' (by omega), decide_eq_true_eq] at this
        exact this
      · rw [fb_bt' (by omega), decide_eq_true_eq]
        exact q b z
    refine ⟨fun hw => ⟨fun hs => ?_, fun hs => ⟨fun hw0 => ?_, fun hw0 => bad (0, 0) rfl ?_⟩⟩, fun hw => bad (0, 0) rfl ?_⟩
    · refine c65 ⟨n, hn6, ha, hbits.mp hw, fun q => absurd ?_ hs⟩
      show μ.1 1 0 0 = 0
      rw [h.1.1, q]
      rfl
    · exact c65 ⟨n, hn6, ha, hbits.mp hw, fun _ => hw0⟩
    · rintro ⟨k, q1, q2, q3, q4⟩
      have hs : μ.1 1 0 0 = 0 := hs
      rw [h.1.1] at hs
      exact hw0 (q4 ((nI_eq (b := 0) (by omega) (by decide)).mp hs))
    · rintro ⟨k, q1, q2, q3, q4⟩
      rw [huq k q1 q2] at q3
      exact hw (hbits.mpr q3)
  · rintro ⟨n, q1, q2, _⟩
    refine h6 ?_
    rw [q2]
    exact nI_le (b := 6) q1 (by decide)
