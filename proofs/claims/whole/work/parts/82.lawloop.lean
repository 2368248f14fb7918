/-! THE LAW'S LOOP -/
theorem lg_cmp0 (x : Int64) : lg_cmp x x = 0 := by
  unfold lg_cmp
  rw [if_neg (by simp), if_pos rfl]
theorem zn_L5 : ∀ L, L < 5 → nI L - 5 < 0 := by decide +kernel
theorem zn_gt5 {L i : Nat} {y : Int32} (hL : L ≤ 2560) (hi : i ≤ 5000) (hy : y = nI i) : nI L - 5 < y ↔ L < i + 5 := by
  by_cases h : L < 5
  · refine ⟨fun _ => by omega, fun _ => ?_⟩
    have h0 := zn_L5 L h
    refine Int32.lt_of_lt_of_le h0 ?_
    rw [hy]
    exact Int32.not_lt.mp (gq_neg i (by omega))
  · have e : nI L - 5 = nI (L - 5) := by
      have : nI L = nI (L - 5) + 5 := by rw [show (5 : Int32) = nI 5 from rfl, nI_add]; congr 1; omega
      rw [this, Int32.add_sub_cancel]
    rw [e, hy]
    constructor
    · intro q
      exact Classical.byContradiction fun z => absurd q (zn_nl rfl rfl (by omega) (by omega))
    · intro q
      exact zn_lt2 rfl rfl (by omega) (by omega)
theorem zn_5 {k : Nat} {y : Int32} (h : y = nI k) : y + 5 = nI (k + 5) := by rw [h, show (5 : Int32) = nI 5 from rfl, nI_add]
theorem zn_jj {k : Nat} {y : Int32} (j : Nat) (h : y = nI k) : y + nI j = nI (k + j) := by rw [h, nI_add]
/-- what holds between two calls -/
def zl_I (g : gq_G) (μ : za_M) (κ : Nat × Nat) (k : Nat) : Prop := gq_ok g ∧ ga g μ ∧ gm g μ ∧ κ.1 ≤ 1000 + 2 * k ∧ κ.2 ≤ 100000 + 12 * k ∧ k ≤ 600
theorem zl_01 {v w : Int32} (hv : v = 0 ∨ v = 1) (hw : w = 0 ∨ w = 1) (h : v = 1 ↔ w = 1) : v = w := by
  rcases hv with rfl | rfl <;> rcases hw with rfl | rfl
  · rfl
  · exact absurd (h.mpr rfl) (by decide)
  · exact absurd (h.mp rfl) (by decide)
  · rfl
theorem zl_nf {x : Int32} {fl : Bool} (h : x = 0 ↔ fl = false) (hx : ¬ x = 0) : fl = true := by
  cases fl with
  | true => rfl
  | false => exact absurd (h.mpr rfl) hx
section ZLOOP
variable {ZZ : Nat → za_K} {Γ : zk_G} {b L : Nat} {xs : Nat → Int32}
def zl_rn (ZZ : Nat → za_K) (Γ : zk_G) (b L : Nat) (xs : Nat → Int32) : Prop := ∀ (cuts : List Nat) (n pc : Nat) (ls : za_C) (st : List za_V) (μ : za_M) (κ : Nat × Nat), zk_go zt_Λ (true, b, L, xs) 2 zl_RR (fun _ _ _ => False) (zl_CC Γ) (fun _ _ _ _ _ => False) zp_law cuts ZZ n pc ls st μ κ → ZZ pc ls st μ κ
/-- the next turn -/
def zl_nx (ZZ : Nat → za_K) (b k : Nat) (y : Int32) : Prop := ∀ (g : gq_G) (μ : za_M) (κ : Nat × Nat) (o5 o6 : Option za_V), zl_I g μ κ (k + 1) → ZZ 720 [some (za_q b), some (za_r 0 0), some (za_r 30 0), some (za_r 29 0), some (za_i y), o5, o6] [] μ κ
theorem zl_e_symbol (run : zl_rn ZZ Γ b L xs) {k : Nat} {y : Int32} (nx : zl_nx ZZ b k y) {g : gq_G} {μ : za_M} {κ : Nat × Nat} {kk v : Int32} (hI : zl_I g μ κ (k + 1)) (ht : μ.1 30 0 0 = kk) (ho : kk = 0 → μ.2 29 0 0 = v.toInt64) : ZZ 144 [some (za_q b), some (za_r 0 0), some (za_r 30 0), some (za_r 29 0), some (za_i y), some (za_i kk), some (za_i v)] [] μ κ := by
  have hk := hI.2.2.2
  refine run [720] 40 144 _ _ _ _ ?_
  refine ⟨1, 0, 0, _, _, by decide, by show κ.1 + 0 ≤ 601024; omega, by show κ.2 + 0 ≤ 7293034; omega, ct_M_thrown (Nat.le_refl 1), ?_, fun _ _ h => h.elim⟩
  rintro r μ1 ⟨rfl, hμ1⟩
  have hμ1 := hμ1.symm
  subst hμ1
  refine ⟨fun _ => ⟨fun _ => nx g μ _ _ _ hI, fun h0 => ⟨vp_01, fun _ => nx g μ _ _ _ hI, fun q => absurd ?_ q⟩⟩, fun q => absurd ht q⟩
  have ho := ho h0
  rw [zn_c0, ho]
  exact lg_cmp0 _
theorem zl_e_production (run : zl_rn ZZ Γ b L xs) {k : Nat} {y : Int32} (nx : zl_nx ZZ b k y) {g : gq_G} {μ : za_M} {κ : Nat × Nat} {kk v : Int32} (hI : zl_I g μ κ (k + 1)) (ht : μ.1 30 0 0 = kk) (ho : kk = 0 → μ.2 29 0 0 = v.toInt64) : ZZ 236 [some (za_q b), some (za_r 0 0), some (za_r 30 0), some (za_r 29 0), some (za_i y), some (za_i kk), some (za_i v)] [] μ κ := by
  have hk := hI.2.2.2
  refine run [720] 40 236 _ _ _ _ ?_
  refine ⟨1, 0, 0, _, _, by decide, by show κ.1 + 0 ≤ 601024; omega, by show κ.2 + 0 ≤ 7293034; omega, ct_M_thrown (Nat.le_refl 1), ?_, fun _ _ h => h.elim⟩
  rintro r μ1 ⟨rfl, hμ1⟩
  have hμ1 := hμ1.symm
  subst hμ1
  refine ⟨fun _ => ⟨fun _ => nx g μ _ _ _ hI, fun h0 => ⟨vp_01, fun _ => nx g μ _ _ _ hI, fun q => absurd ?_ q⟩⟩, fun q => absurd ht q⟩
  have ho := ho h0
  rw [zn_c0, ho]
  exact lg_cmp0 _
theorem zl_e_graphs (run : zl_rn ZZ Γ b L xs) {k : Nat} {y : Int32} (nx : zl_nx ZZ b k y) {g : gq_G} {μ : za_M} {κ : Nat × Nat} {kk v : Int32} (hI : zl_I g μ κ (k + 1)) (ht : μ.1 30 0 0 = kk) (ho : kk = 0 → μ.2 29 0 0 = v.toInt64) : ZZ 379 [some (za_q b), some (za_r 0 0), some (za_r 30 0), some (za_r 29 0), some (za_i y), some (za_i kk), some (za_i v)] [] μ κ := by
  have hk := hI.2.2.2
  refine run [720] 40 379 _ _ _ _ ?_
  refine ⟨1, 0, 0, _, _, by decide, by show κ.1 + 0 ≤ 601024; omega, by show κ.2 + 0 ≤ 7293034; omega, ct_M_thrown (Nat.le_refl 1), ?_, fun _ _ h => h.elim⟩
  rintro r μ1 ⟨rfl, hμ1⟩
  have hμ1 := hμ1.symm
  subst hμ1
  refine ⟨fun _ => ⟨fun _ => nx g μ _ _ _ hI, fun h0 => ⟨vp_01, fun _ => nx g μ _ _ _ hI, fun q => absurd ?_ q⟩⟩, fun q => absurd ht q⟩
  have ho := ho h0
  rw [zn_c0, ho]
  exact lg_cmp0 _
theorem zl_e_relation (run : zl_rn ZZ Γ b L xs) {k : Nat} {y : Int32} (nx : zl_nx ZZ b k y) {g : gq_G} {μ : za_M} {κ : Nat × Nat} {kk v : Int32} (hI : zl_I g μ κ (k + 1)) (ht : μ.1 30 0 0 = kk) (ho : kk = 0 → μ.2 29 0 0 = v.toInt64) : ZZ 552 [some (za_q b), some (za_r 0 0), some (za_r 30 0), some (za_r 29 0), some (za_i y), some (za_i kk), some (za_i v)] [] μ κ := by
  have hk := hI.2.2.2
  refine run [720] 40 552 _ _ _ _ ?_
  refine ⟨1, 0, 0, _, _, by decide, by show κ.1 + 0 ≤ 601024; omega, by show κ.2 + 0 ≤ 7293034; omega, ct_M_thrown (Nat.le_refl 1), ?_, fun _ _ h => h.elim⟩
  rintro r μ1 ⟨rfl, hμ1⟩
  have hμ1 := hμ1.symm
  subst hμ1
  refine ⟨fun _ => ⟨fun _ => nx g μ _ _ _ hI, fun h0 => ⟨vp_01, fun _ => nx g μ _ _ _ hI, fun q => absurd ?_ q⟩⟩, fun q => absurd ht q⟩
  have ho := ho h0
  rw [zn_c0, ho]
  exact lg_cmp0 _
theorem zl_e_pass (run : zl_rn ZZ Γ b L xs) {k : Nat} {y : Int32} (nx : zl_nx ZZ b k y) {g : gq_G} {μ : za_M} {κ : Nat × Nat} {kk v : Int32} (hI : zl_I g μ κ (k + 1)) (ht : μ.1 30 0 0 = kk) (ho : kk = 0 → μ.2 29 0 0 = v.toInt64) : ZZ 648 [some (za_q b), some (za_r 0 0), some (za_r 30 0), some (za_r 29 0), some (za_i y), some (za_i kk), some (za_i v)] [] μ κ := by
  have hk := hI.2.2.2
  refine run [720] 40 648 _ _ _ _ ?_
  refine ⟨1, 0, 0, _, _, by decide, by show κ.1 + 0 ≤ 601024; omega, by show κ.2 + 0 ≤ 7293034; omega, ct_M_thrown (Nat.le_refl 1), ?_, fun _ _ h => h.elim⟩
  rintro r μ1 ⟨rfl, hμ1⟩
  have hμ1 := hμ1.symm
  subst hμ1
  refine ⟨fun _ => ⟨fun _ => nx g μ _ _ _ hI, fun h0 => ⟨vp_01, fun _ => nx g μ _ _ _ hI, fun q => absurd ?_ q⟩⟩, fun q => absurd ht q⟩
  have ho := ho h0
  rw [zn_c0, ho]
  exact lg_cmp0 _
theorem zl_e_depend (run : zl_rn ZZ Γ b L xs) {k : Nat} {y : Int32} (nx : zl_nx ZZ b k y) {g : gq_G} {μ : za_M} {κ : Nat × Nat} {kk v : Int32} (hI : zl_I g μ κ (k + 1)) (ht : μ.1 30 0 0 = kk) (ho : kk = 0 → μ.2 29 0 0 = gw_b v) : ZZ 316 [some (za_q b), some (za_r 0 0), some (za_r 30 0), some (za_r 29 0), some (za_i y), some (za_i kk), some (za_i v)] [] μ κ := by
  have hk := hI.2.2.2
  refine run [720] 40 316 _ _ _ _ ?_
  refine ⟨1, 0, 0, _, _, by decide, by show κ.1 + 0 ≤ 601024; omega, by show κ.2 + 0 ≤ 7293034; omega, ct_M_thrown (Nat.le_refl 1), ?_, fun _ _ h => h.elim⟩
  rintro r μ1 ⟨rfl, hμ1⟩
  have hμ1 := hμ1.symm
  subst hμ1
  refine ⟨fun _ => ⟨fun _ => nx g μ _ _ _ hI, fun h0 => ⟨vp_01, fun hv => ⟨fun _ => nx g μ _ _ _ hI, fun q => absurd ?_ q⟩, fun hv => ⟨fun _ => nx g μ _ _ _ hI, fun q => absurd ?_ q⟩⟩⟩, fun q => absurd ht q⟩
  · have ho := ho h0
    unfold gw_b at ho
    rw [if_pos hv] at ho
    rw [zn_c0, ho]
    exact lg_cmp0 _
  · have ho := ho h0
    unfold gw_b at ho
    rw [if_neg hv] at ho
    rw [zn_c0, ho]
    exact lg_cmp0 _
theorem zl_e_circular (run : zl_rn ZZ Γ b L xs) {k : Nat} {y : Int32} (nx : zl_nx ZZ b k y) {g : gq_G} {μ : za_M} {κ : Nat × Nat} {kk v : Int32} (hI : zl_I g μ κ (k + 1)) (ht : μ.1 30 0 0 = kk) (ho : kk = 0 → μ.2 29 0 0 = gw_b v) : ZZ 423 [some (za_q b), some (za_r 0 0), some (za_r 30 0), some (za_r 29 0), some (za_i y), some (za_i kk), some (za_i v)] [] μ κ := by
  have hk := hI.2.2.2
  refine run [720] 40 423 _ _ _ _ ?_
  refine ⟨1, 0, 0, _, _, by decide, by show κ.1 + 0 ≤ 601024; omega, by show κ.2 + 0 ≤ 7293034; omega, ct_M_thrown (Nat.le_refl 1), ?_, fun _ _ h => h.elim⟩
  rintro r μ1 ⟨rfl, hμ1⟩
  have hμ1 := hμ1.symm
  subst hμ1
  refine ⟨fun _ => ⟨fun _ => nx g μ _ _ _ hI, fun h0 => ⟨vp_01, fun hv => ⟨fun _ => nx g μ _ _ _ hI, fun q => absurd ?_ q⟩, fun hv => ⟨fun _ => nx g μ _ _ _ hI, fun q => absurd ?_ q⟩⟩⟩, fun q => absurd ht q⟩
  · have ho := ho h0
    unfold gw_b at ho
    rw [if_pos hv] at ho
    rw [zn_c0, ho]
    exact lg_cmp0 _
  · have ho := ho h0
    unfold gw_b at ho
    rw [if_neg hv] at ho
    rw [zn_c0, ho]
    exact lg_cmp0 _
set_option maxHeartbeats 4000000 in
theorem zl_c_clear (run : zl_rn ZZ Γ b L xs) {k : Nat} {y : Int32} (nx : zl_nx ZZ b k y) (hy : y = nI (5 * k)) (hL5 : 5 * k + 5 ≤ L) (hL : L ≤ 2560) {g : gq_G} {μ : za_M} {κ : Nat × Nat} (hI : zl_I g μ κ k) (o5 o6 : Option za_V) : ZZ 96 [some (za_q b), some (za_r 0 0), some (za_r 30 0), some (za_r 29 0), some (za_i y), o5, o6] [] μ κ := by
  obtain ⟨hg, ha, hm, hk1, hk2, hk3⟩ := hI
  have v1 : vp_in (y + 1) L := zn_i (zn_jj 1 hy) (by omega) (by omega)
  have v2 : vp_in (y + 2) L := zn_i (zn_jj 2 hy) (by omega) (by omega)
  have v3 : vp_in (y + 3) L := zn_i (zn_jj 3 hy) (by omega) (by omega)
  have v4 : vp_in (y + 4) L := zn_i (zn_jj 4 hy) (by omega) (by omega)
  refine run [720] 40 96 _ _ _ _ ?_
  refine ⟨2, 0, 0, _, _, by decide, by show κ.1 + 0 ≤ 601024; omega, by show κ.2 + 0 ≤ 7293034; omega, ct_A_clear ha (Nat.le_refl 2), ?_, fun _ _ h => h.elim⟩
  rintro r μ1 ⟨rfl, ha1, hf1⟩
  refine ⟨2, 0, 0, _, _, by decide, by show κ.1 + 0 + 0 ≤ 601024; omega, by show κ.2 + 0 + 0 ≤ 7293034; omega, ct_M_clear (Nat.le_refl 2), ?_, fun _ _ h => h.elim⟩
  rintro r μ2 ⟨rfl, hm2, hf2⟩
  exact nx gq_0 μ2 _ _ _ ⟨gq_0_ok, ga_fr ha1 hf2 (fun b j q z => by omega), hm2, by show κ.1 + 0 + 0 ≤ _; omega, by show κ.2 + 0 + 0 ≤ _; omega, by omega⟩
set_option maxHeartbeats 4000000 in
theorem zl_c_symbol (run : zl_rn ZZ Γ b L xs) {k : Nat} {y : Int32} (nx : zl_nx ZZ b k y) (hy : y = nI (5 * k)) (hL5 : 5 * k + 5 ≤ L) (hL : L ≤ 2560) {g : gq_G} {μ : za_M} {κ : Nat × Nat} (hI : zl_I g μ κ k) (o5 o6 : Option za_V) : ZZ 107 [some (za_q b), some (za_r 0 0), some (za_r 30 0), some (za_r 29 0), some (za_i y), o5, o6] [] μ κ := by
  obtain ⟨hg, ha, hm, hk1, hk2, hk3⟩ := hI
  have v1 : vp_in (y + 1) L := zn_i (zn_jj 1 hy) (by omega) (by omega)
  have v2 : vp_in (y + 2) L := zn_i (zn_jj 2 hy) (by omega) (by omega)
  have v3 : vp_in (y + 3) L := zn_i (zn_jj 3 hy) (by omega) (by omega)
  have v4 : vp_in (y + 4) L := zn_i (zn_jj 4 hy) (by omega) (by omega)
  refine run [144] 60 107 _ _ _ _ ?_
  refine ⟨rfl, rfl, rfl, v1, rfl, rfl, rfl, v2, ?_⟩
  refine ⟨40, 1, 6, _, by decide, by show κ.1 + 1 ≤ 601024; omega, by show κ.2 + 6 ≤ 7293034; omega, cw_symbol hg ha (by decide), ?_⟩
  rintro r μ1 ⟨hc, hf1⟩
  have hm1 : gm g μ1 := gm_fr hm hf1 (fun b j q z => by omega)
  have fin : ∀ kk : Int32, r = some (za_i kk) → (∃ v : Int32, True) → True := fun _ _ _ => trivial
  rcases hc with ⟨n, s1, s2, rfl, s4, s5⟩ | ⟨s1, rfl, s5⟩ | ⟨s1, s2, rfl, s5⟩
  all_goals
    refine ⟨rfl, rfl, rfl, v1, rfl, rfl, rfl, v2, ?_⟩
    refine ⟨40, 0, 0, _, _, by decide, by show κ.1 + 1 + 0 ≤ 601024; omega, by show κ.2 + 6 + 0 ≤ 7293034; omega, ct_M_symbol hg hm1 (by decide), ?_, fun _ _ h => h.elim⟩
    rintro r μ2 ⟨⟨v, rfl, hv⟩, hf2⟩
    have e29 : μ2.2 29 0 = μ1.2 29 0 := hf2.2 29 0 (by decide)
  · rcases hv with ⟨n', t1, t2, t3, t4, t5⟩ | ⟨t1, t2, t3⟩ | ⟨t1, t2, t3, t4⟩
    · have e : n' = n := (nI_eq (by have := t1.1; omega) (by have := s1.1; omega)).mp (t1.2.1.symm.trans s1.2.1)
      subst e
      exact zl_e_symbol run nx ⟨gq_addS_ok hg s2 s1.1 s1.2.2.1 s1.2.2.2, ga_fr s5 hf2 (fun b j q z => by omega), t5, by show κ.1 + 1 + 0 ≤ _; omega, by show κ.2 + 6 + 0 ≤ _; omega, by omega⟩ t4 (fun _ => by rw [e29, s4, t3])
    · exact absurd ⟨n, s1⟩ t1
    · exact absurd s2 t2
  · rcases hv with ⟨n', t1, t2, t3, t4, t5⟩ | ⟨t1, t2, t3⟩ | ⟨t1, t2, t3, t4⟩
    · exact absurd ⟨n', t1⟩ s1
    · exact zl_e_symbol run nx ⟨hg, ga_fr s5 hf2 (fun b j q z => by omega), t3, by show κ.1 + 1 + 0 ≤ _; omega, by show κ.2 + 6 + 0 ≤ _; omega, by omega⟩ t2 (fun q => absurd q (by decide))
    · exact absurd t1 s1
  · rcases hv with ⟨n', t1, t2, t3, t4, t5⟩ | ⟨t1, t2, t3⟩ | ⟨t1, t2, t3, t4⟩
    · exact absurd t2 s2
    · exact absurd s1 t1
    · exact zl_e_symbol run nx ⟨hg, ga_fr s5 hf2 (fun b j q z => by omega), t4, by show κ.1 + 1 + 0 ≤ _; omega, by show κ.2 + 6 + 0 ≤ _; omega, by omega⟩ t3 (fun q => absurd q (by decide))
set_option maxHeartbeats 4000000 in
theorem zl_c_production (run : zl_rn ZZ Γ b L xs) {k : Nat} {y : Int32} (nx : zl_nx ZZ b k y) (hy : y = nI (5 * k)) (hL5 : 5 * k + 5 ≤ L) (hL : L ≤ 2560) {g : gq_G} {μ : za_M} {κ : Nat × Nat} (hI : zl_I g μ κ k) (o5 o6 : Option za_V) : ZZ 175 [some (za_q b), some (za_r 0 0), some (za_r 30 0), some (za_r 29 0), some (za_i y), o5, o6] [] μ κ := by
  obtain ⟨hg, ha, hm, hk1, hk2, hk3⟩ := hI
  have v1 : vp_in (y + 1) L := zn_i (zn_jj 1 hy) (by omega) (by omega)
  have v2 : vp_in (y + 2) L := zn_i (zn_jj 2 hy) (by omega) (by omega)
  have v3 : vp_in (y + 3) L := zn_i (zn_jj 3 hy) (by omega) (by omega)
  have v4 : vp_in (y + 4) L := zn_i (zn_jj 4 hy) (by omega) (by omega)
  refine run [236] 60 175 _ _ _ _ ?_
  refine ⟨rfl, rfl, rfl, v1, rfl, rfl, rfl, v2, rfl, rfl, rfl, v3, rfl, rfl, rfl, v4, ?_⟩
  refine ⟨40, 1, 6, _, by decide, by show κ.1 + 1 ≤ 601024; omega, by show κ.2 + 6 ≤ 7293034; omega, cw_production hg ha (by decide), ?_⟩
  rintro r μ1 ⟨hc, hf1⟩
  have hm1 : gm g μ1 := gm_fr hm hf1 (fun b j q z => by omega)
  rcases hc with ⟨n, s1, s2, rfl, s4, s5⟩ | ⟨s1, rfl, s5⟩ | ⟨s1, s2, rfl, s5⟩
  all_goals
    refine ⟨rfl, rfl, rfl, v1, rfl, rfl, rfl, v2, rfl, rfl, rfl, v3, rfl, rfl, rfl, v4, ?_⟩
    refine ⟨40, 0, 0, _, _, by decide, by show κ.1 + 1 + 0 ≤ 601024; omega, by show κ.2 + 6 + 0 ≤ 7293034; omega, ct_M_production hg hm1 (by decide), ?_, fun _ _ h => h.elim⟩
    rintro r μ2 ⟨⟨v, rfl, hv⟩, hf2⟩
    have e29 : μ2.2 29 0 = μ1.2 29 0 := hf2.2 29 0 (by decide)
  · rcases hv with ⟨n', t1, t2, t3, t4, t5⟩ | ⟨t1, t2, t3⟩ | ⟨t1, t2, t3, t4⟩
    · have h8 := hg.1
      have e : n' = n := (nI_eq (by have := t1.1; omega) (by have := s1.1; omega)).mp (t1.2.1.symm.trans s1.2.1)
      subst e
      exact zl_e_production run nx ⟨gq_pr_ok hg s2 s1.1 s1.2.2.1 s1.2.2.2.1 s1.2.2.2.2.1, ga_fr s5 hf2 (fun b j q z => by omega), t5, by show κ.1 + 1 + 0 ≤ _; omega, by show κ.2 + 6 + 0 ≤ _; omega, by omega⟩ t4 (fun _ => by rw [e29, s4, t3])
    · exact absurd ⟨n, s1⟩ t1
    · exact absurd s2 t2
  · rcases hv with ⟨n', t1, t2, t3, t4, t5⟩ | ⟨t1, t2, t3⟩ | ⟨t1, t2, t3, t4⟩
    · exact absurd ⟨n', t1⟩ s1
    · exact zl_e_production run nx ⟨hg, ga_fr s5 hf2 (fun b j q z => by omega), t3, by show κ.1 + 1 + 0 ≤ _; omega, by show κ.2 + 6 + 0 ≤ _; omega, by omega⟩ t2 (fun q => absurd q (by decide))
    · exact absurd t1 s1
  · rcases hv with ⟨n', t1, t2, t3, t4, t5⟩ | ⟨t1, t2, t3⟩ | ⟨t1, t2, t3, t4⟩
    · exact absurd t2 s2
    · exact absurd s1 t1
    · exact zl_e_production run nx ⟨hg, ga_fr s5 hf2 (fun b j q z => by omega), t4, by show κ.1 + 1 + 0 ≤ _; omega, by show κ.2 + 6 + 0 ≤ _; omega, by omega⟩ t3 (fun q => absurd q (by decide))
set_option maxHeartbeats 4000000 in
theorem zl_c_depend (run : zl_rn ZZ Γ b L xs) {k : Nat} {y : Int32} (nx : zl_nx ZZ b k y) (hy : y = nI (5 * k)) (hL5 : 5 * k + 5 ≤ L) (hL : L ≤ 2560) {g : gq_G} {μ : za_M} {κ : Nat × Nat} (hI : zl_I g μ κ k) (o5 o6 : Option za_V) : ZZ 267 [some (za_q b), some (za_r 0 0), some (za_r 30 0), some (za_r 29 0), some (za_i y), o5, o6] [] μ κ := by
  obtain ⟨hg, ha, hm, hk1, hk2, hk3⟩ := hI
  have v1 : vp_in (y + 1) L := zn_i (zn_jj 1 hy) (by omega) (by omega)
  have v2 : vp_in (y + 2) L := zn_i (zn_jj 2 hy) (by omega) (by omega)
  have v3 : vp_in (y + 3) L := zn_i (zn_jj 3 hy) (by omega) (by omega)
  have v4 : vp_in (y + 4) L := zn_i (zn_jj 4 hy) (by omega) (by omega)
  refine run [316] 60 267 _ _ _ _ ?_
  refine ⟨rfl, rfl, rfl, v1, rfl, rfl, rfl, v2, rfl, rfl, rfl, v3, ?_⟩
  refine ⟨40, 1, 6, _, by decide, by show κ.1 + 1 ≤ 601024; omega, by show κ.2 + 6 ≤ 7293034; omega, cw_depend hg ha (by decide), ?_⟩
  rintro r μ1 ⟨hc, hf1⟩
  have hm1 : gm g μ1 := gm_fr hm hf1 (fun b j q z => by omega)
  rcases hc with ⟨p, x, z, s1, rfl, s4, s5⟩ | ⟨s1, rfl, s5⟩ | ⟨s1, s2, rfl, s5⟩
  all_goals
    refine ⟨rfl, rfl, rfl, v1, rfl, rfl, rfl, v2, rfl, rfl, rfl, v3, ?_⟩
    refine ⟨40, 0, 0, _, _, by decide, by show κ.1 + 1 + 0 ≤ 601024; omega, by show κ.2 + 6 + 0 ≤ 7293034; omega, ct_M_depend hg hm1 (by decide), ?_, fun _ _ h => h.elim⟩
    rintro r μ2 ⟨⟨v, rfl, hv⟩, hf2⟩
    have e29 : μ2.2 29 0 = μ1.2 29 0 := hf2.2 29 0 (by decide)
  · rcases hv with ⟨p', x', z', t1, t3, t4, t5⟩ | ⟨t1, t2, t3⟩ | ⟨t1, t2, t3, t4⟩
    · have h16 := hg.2.1
      have e1 : p' = p := (nI_eq (by have := t1.1.1; omega) (by have := s1.1.1; omega)).mp (t1.1.2.symm.trans s1.1.2)
      have e2 : x' = x := (nI_eq (by have := t1.2.1.1; omega) (by have := s1.2.1.1; omega)).mp (t1.2.1.2.1.symm.trans s1.2.1.2.1)
      have e3 : z' = z := (nI_eq (by have := t1.2.2.1; omega) (by have := s1.2.2.1; omega)).mp (t1.2.2.2.1.symm.trans s1.2.2.2.1)
      subst e1
      subst e2
      subst e3
      exact zl_e_depend run nx ⟨gq_addD_ok hg s1.2.2.1 s1.2.1.2.2 s1.2.2.2.2, ga_fr s5 hf2 (fun b j q z => by omega), t5, by show κ.1 + 1 + 0 ≤ _; omega, by show κ.2 + 6 + 0 ≤ _; omega, by omega⟩ t4 (fun _ => by rw [e29, s4, t3])
    · exact absurd ⟨p, s1.1⟩ t1
    · exact absurd ⟨p, x, z, s1⟩ t2
  · rcases hv with ⟨p', x', z', t1, t3, t4, t5⟩ | ⟨t1, t2, t3⟩ | ⟨t1, t2, t3, t4⟩
    · exact absurd ⟨p', t1.1⟩ s1
    · exact zl_e_depend run nx ⟨hg, ga_fr s5 hf2 (fun b j q z => by omega), t3, by show κ.1 + 1 + 0 ≤ _; omega, by show κ.2 + 6 + 0 ≤ _; omega, by omega⟩ t2 (fun q => absurd q (by decide))
    · exact absurd t1 s1
  · rcases hv with ⟨p', x', z', t1, t3, t4, t5⟩ | ⟨t1, t2, t3⟩ | ⟨t1, t2, t3, t4⟩
    · exact absurd ⟨p', x', z', t1⟩ s2
    · exact absurd s1 t1
    · exact zl_e_depend run nx ⟨hg, ga_fr s5 hf2 (fun b j q z => by omega), t4, by show κ.1 + 1 + 0 ≤ _; omega, by show κ.2 + 6 + 0 ≤ _; omega, by omega⟩ t3 (fun q => absurd q (by decide))
set_option maxHeartbeats 4000000 in
theorem zl_c_graphs (run : zl_rn ZZ Γ b L xs) {k : Nat} {y : Int32} (nx : zl_nx ZZ b k y) (hy : y = nI (5 * k)) (hL5 : 5 * k + 5 ≤ L) (hL : L ≤ 2560) {g : gq_G} {μ : za_M} {κ : Nat × Nat} (hI : zl_I g μ κ k) (o5 o6 : Option za_V) : ZZ 354 [some (za_q b), some (za_r 0 0), some (za_r 30 0), some (za_r 29 0), some (za_i y), o5, o6] [] μ κ := by
  obtain ⟨hg, ha, hm, hk1, hk2, hk3⟩ := hI
  have v1 : vp_in (y + 1) L := zn_i (zn_jj 1 hy) (by omega) (by omega)
  have v2 : vp_in (y + 2) L := zn_i (zn_jj 2 hy) (by omega) (by omega)
  have v3 : vp_in (y + 3) L := zn_i (zn_jj 3 hy) (by omega) (by omega)
  have v4 : vp_in (y + 4) L := zn_i (zn_jj 4 hy) (by omega) (by omega)
  refine run [379] 60 354 _ _ _ _ ?_
  refine ⟨rfl, rfl, rfl, v1, ?_⟩
  refine ⟨40, 2, 12, _, by decide, by show κ.1 + 2 ≤ 601024; omega, by show κ.2 + 12 ≤ 7293034; omega, cw_graphs hg ha (by decide), ?_⟩
  rintro r μ1 ⟨hc, s5, hf1⟩
  have hm1 : gm g μ1 := gm_fr hm hf1 (fun b j q z => by omega)
  rcases hc with ⟨n, c, s1, s2, s3, s4, rfl, s6⟩ | ⟨s1, rfl⟩ | ⟨s1, s2, rfl⟩
  all_goals
    refine ⟨rfl, rfl, rfl, v1, ?_⟩
    refine ⟨40, 0, 0, _, _, by decide, by show κ.1 + 2 + 0 ≤ 601024; omega, by show κ.2 + 12 + 0 ≤ 7293034; omega, ct_M_graphs hg hm1 (by decide), ?_, fun _ _ h => h.elim⟩
    rintro r μ2 ⟨⟨v, rfl, hv⟩, t5, hf2⟩
    have e29 : μ2.2 29 0 = μ1.2 29 0 := hf2.2 29 0 (by decide)
    have hI2 : zl_I g μ2 (κ.1 + 2 + 0, κ.2 + 12 + 0) (k + 1) := ⟨hg, ga_fr s5 hf2 (fun b j q z => by omega), t5, by show κ.1 + 2 + 0 ≤ _; omega, by show κ.2 + 12 + 0 ≤ _; omega, by omega⟩
  · rcases hv with ⟨n', c', t1, t2, t3, t4, t6, t7⟩ | ⟨t1, t2⟩ | ⟨t1, t2, t3⟩
    · have h8 := hg.1
      have e : n' = n := (nI_eq (by omega) (by omega)).mp (t2.symm.trans s2)
      subst e
      have ec : c' = c := gs_cnt_uq (by omega) t4 s4
      subst ec
      exact zl_e_graphs run nx hI2 t7 (fun _ => by rw [e29, s6, t6])
    · exact absurd ⟨n, s1, s2⟩ t1
    · exact absurd t2 s3
  · rcases hv with ⟨n', c', t1, t2, t3, t4, t6, t7⟩ | ⟨t1, t2⟩ | ⟨t1, t2, t3⟩
    · exact absurd ⟨n', t1, t2⟩ s1
    · exact zl_e_graphs run nx hI2 t2 (fun q => absurd q (by decide))
    · exact absurd t1 s1
  · rcases hv with ⟨n', c', t1, t2, t3, t4, t6, t7⟩ | ⟨t1, t2⟩ | ⟨t1, t2, t3⟩
    · exact absurd s2 t3
    · exact absurd s1 t1
    · exact zl_e_graphs run nx hI2 t3 (fun q => absurd q (by decide))
set_option maxHeartbeats 4000000 in
theorem zl_c_circular (run : zl_rn ZZ Γ b L xs) {k : Nat} {y : Int32} (nx : zl_nx ZZ b k y) (hy : y = nI (5 * k)) (hL5 : 5 * k + 5 ≤ L) (hL : L ≤ 2560) {g : gq_G} {μ : za_M} {κ : Nat × Nat} (hI : zl_I g μ κ k) (o5 o6 : Option za_V) : ZZ 410 [some (za_q b), some (za_r 0 0), some (za_r 30 0), some (za_r 29 0), some (za_i y), o5, o6] [] μ κ := by
  obtain ⟨hg, ha, hm, hk1, hk2, hk3⟩ := hI
  have v1 : vp_in (y + 1) L := zn_i (zn_jj 1 hy) (by omega) (by omega)
  have v2 : vp_in (y + 2) L := zn_i (zn_jj 2 hy) (by omega) (by omega)
  have v3 : vp_in (y + 3) L := zn_i (zn_jj 3 hy) (by omega) (by omega)
  have v4 : vp_in (y + 4) L := zn_i (zn_jj 4 hy) (by omega) (by omega)
  refine run [423] 60 410 _ _ _ _ ?_
  refine ⟨40, 1, 6, _, by decide, by show κ.1 + 1 ≤ 601024; omega, by show κ.2 + 6 ≤ 7293034; omega, cw_circular hg ha (by decide), ?_⟩
  rintro r μ1 ⟨hc, s5, hf1⟩
  have hm1 : gm g μ1 := gm_fr hm hf1 (fun b j q z => by omega)
  rcases hc with ⟨s1, w, s2, s3, rfl, s6⟩ | ⟨s1, rfl⟩
  all_goals
    refine ⟨40, 0, 0, _, _, by decide, by show κ.1 + 1 + 0 ≤ 601024; omega, by show κ.2 + 6 + 0 ≤ 7293034; omega, ct_M_circular hg hm1 (by decide), ?_, fun _ _ h => h.elim⟩
    rintro r μ2 ⟨⟨v, rfl, hv⟩, t5, hf2⟩
    have e29 : μ2.2 29 0 = μ1.2 29 0 := hf2.2 29 0 (by decide)
    have hI2 : zl_I g μ2 (κ.1 + 1 + 0, κ.2 + 6 + 0) (k + 1) := ⟨hg, ga_fr s5 hf2 (fun b j q z => by omega), t5, by show κ.1 + 1 + 0 ≤ _; omega, by show κ.2 + 6 + 0 ≤ _; omega, by omega⟩
  · rcases hv with ⟨t1, t2, t3, t4⟩ | ⟨t1, t2⟩
    · have e : v = w := zl_01 t2 s2 (t3.trans s3.symm)
      subst e
      exact zl_e_circular run nx hI2 t4 (fun _ => by rw [e29, s6])
    · exact absurd t1 s1
  · rcases hv with ⟨t1, t2, t3, t4⟩ | ⟨t1, t2⟩
    · exact absurd s1 t1
    · exact zl_e_circular run nx hI2 t2 (fun q => absurd q (by decide))
set_option maxHeartbeats 4000000 in
theorem zl_c_strong (run : zl_rn ZZ Γ b L xs) {k : Nat} {y : Int32} (nx : zl_nx ZZ b k y) (hy : y = nI (5 * k)) (hL5 : 5 * k + 5 ≤ L) (hL : L ≤ 2560) {g : gq_G} {μ : za_M} {κ : Nat × Nat} (hI : zl_I g μ κ k) (o5 o6 : Option za_V) : ZZ 461 [some (za_q b), some (za_r 0 0), some (za_r 30 0), some (za_r 29 0), some (za_i y), o5, o6] [] μ κ := by
  obtain ⟨hg, ha, hm, hk1, hk2, hk3⟩ := hI
  have v1 : vp_in (y + 1) L := zn_i (zn_jj 1 hy) (by omega) (by omega)
  have v2 : vp_in (y + 2) L := zn_i (zn_jj 2 hy) (by omega) (by omega)
  have v3 : vp_in (y + 3) L := zn_i (zn_jj 3 hy) (by omega) (by omega)
  have v4 : vp_in (y + 4) L := zn_i (zn_jj 4 hy) (by omega) (by omega)
  refine run [720] 60 461 _ _ _ _ ?_
  refine ⟨40, 0, 0, _, _, by decide, by show κ.1 + 0 ≤ 601024; omega, by show κ.2 + 0 ≤ 7293034; omega, ct_A_strong hg ha (by decide), ?_, fun _ _ h => h.elim⟩
  rintro r μ1 ⟨⟨w, rfl, s1, s2⟩, s5, hf1⟩
  have hm1 : gm g μ1 := gm_fr hm hf1 (fun b j q z => by omega)
  refine ⟨40, 0, 0, _, _, by decide, by show κ.1 + 0 + 0 ≤ 601024; omega, by show κ.2 + 0 + 0 ≤ 7293034; omega, ct_M_strong hg hm1 (by decide), ?_, fun _ _ h => h.elim⟩
  rintro r μ2 ⟨⟨v, rfl, t1, t2⟩, t5, hf2⟩
  have e : v = w := zl_01 t1 s1 (t2.trans s2.symm)
  subst e
  exact ⟨fun _ => nx g μ2 _ _ _ ⟨hg, ga_fr s5 hf2 (fun b j q z => by omega), t5, by show κ.1 + 0 + 0 ≤ _; omega, by show κ.2 + 0 + 0 ≤ _; omega, by omega⟩, fun q => absurd rfl q⟩
set_option maxHeartbeats 4000000 in
theorem zl_c_doubly (run : zl_rn ZZ Γ b L xs) {k : Nat} {y : Int32} (nx : zl_nx ZZ b k y) (hy : y = nI (5 * k)) (hL5 : 5 * k + 5 ≤ L) (hL : L ≤ 2560) {g : gq_G} {μ : za_M} {κ : Nat × Nat} (hI : zl_I g μ κ k) (o5 o6 : Option za_V) : ZZ 474 [some (za_q b), some (za_r 0 0), some (za_r 30 0), some (za_r 29 0), some (za_i y), o5, o6] [] μ κ := by
  obtain ⟨hg, ha, hm, hk1, hk2, hk3⟩ := hI
  have v1 : vp_in (y + 1) L := zn_i (zn_jj 1 hy) (by omega) (by omega)
  have v2 : vp_in (y + 2) L := zn_i (zn_jj 2 hy) (by omega) (by omega)
  have v3 : vp_in (y + 3) L := zn_i (zn_jj 3 hy) (by omega) (by omega)
  have v4 : vp_in (y + 4) L := zn_i (zn_jj 4 hy) (by omega) (by omega)
  refine run [720] 60 474 _ _ _ _ ?_
  refine ⟨40, 0, 0, _, _, by decide, by show κ.1 + 0 ≤ 601024; omega, by show κ.2 + 0 ≤ 7293034; omega, ct_A_doubly hg ha (by decide), ?_, fun _ _ h => h.elim⟩
  rintro r μ1 ⟨⟨w, rfl, s1, s2⟩, s5, hf1⟩
  have hm1 : gm g μ1 := gm_fr hm hf1 (fun b j q z => by omega)
  refine ⟨40, 0, 0, _, _, by decide, by show κ.1 + 0 + 0 ≤ 601024; omega, by show κ.2 + 0 + 0 ≤ 7293034; omega, ct_M_doubly hg hm1 (by decide), ?_, fun _ _ h => h.elim⟩
  rintro r μ2 ⟨⟨v, rfl, t1, t2⟩, t5, hf2⟩
  have e : v = w := zl_01 t1 s1 (t2.trans s2.symm)
  subst e
  exact ⟨fun _ => nx g μ2 _ _ _ ⟨hg, ga_fr s5 hf2 (fun b j q z => by omega), t5, by show κ.1 + 0 + 0 ≤ _; omega, by show κ.2 + 0 + 0 ≤ _; omega, by omega⟩, fun q => absurd rfl q⟩
set_option maxHeartbeats 4000000 in
theorem zl_c_relation (run : zl_rn ZZ Γ b L xs) {k : Nat} {y : Int32} (nx : zl_nx ZZ b k y) (hy : y = nI (5 * k)) (hL5 : 5 * k + 5 ≤ L) (hL : L ≤ 2560) {g : gq_G} {μ : za_M} {κ : Nat × Nat} (hI : zl_I g μ κ k) (o5 o6 : Option za_V) : ZZ 487 [some (za_q b), some (za_r 0 0), some (za_r 30 0), some (za_r 29 0), some (za_i y), o5, o6] [] μ κ := by
  obtain ⟨hg, ha, hm, hk1, hk2, hk3⟩ := hI
  have v1 : vp_in (y + 1) L := zn_i (zn_jj 1 hy) (by omega) (by omega)
  have v2 : vp_in (y + 2) L := zn_i (zn_jj 2 hy) (by omega) (by omega)
  have v3 : vp_in (y + 3) L := zn_i (zn_jj 3 hy) (by omega) (by omega)
  have v4 : vp_in (y + 4) L := zn_i (zn_jj 4 hy) (by omega) (by omega)
  have main : ∀ (fl : Bool) (l : Int32), l = (if fl = true then 1 else 0) → (xs (y + 3).toNatClampNeg = 0 ↔ fl = false) → ZZ 514 [some (za_q b), some (za_r 0 0), some (za_r 30 0), some (za_r 29 0), some (za_i y), o5, o6] [za_i l, za_i (xs (y + 2).toNatClampNeg), za_i (xs (y + 1).toNatClampNeg), za_r 0 0] μ κ := by
    intro fl l hl hfl
    refine run [547, 552] 60 514 _ _ _ _ ?_
    refine ⟨40, 2, 12, _, by decide, by show κ.1 + 2 ≤ 601024; omega, by show κ.2 + 12 ≤ 7293034; omega, cw_relation (fa := fl) hg ha hl (by decide), ?_⟩
    rintro r μ1 ⟨hc, s5, hf1⟩
    have hm1 : gm g μ1 := gm_fr hm hf1 (fun b j q z => by omega)
    have two : ∀ kk l' : Int32, l' = (if fl = true then 1 else 0) → ((kk = 0 ∧ ∃ n j w, gs_at g (xs (y + 1).toNatClampNeg) (xs (y + 2).toNatClampNeg) n j ∧ gs_rel g n j fl w ∧ μ1.2 29 0 0 = w.toInt64) ∨ (kk = 1 ∧ ¬ ∃ n j, gs_at g (xs (y + 1).toNatClampNeg) (xs (y + 2).toNatClampNeg) n j)) → ZZ 547 [some (za_q b), some (za_r 0 0), some (za_r 30 0), some (za_r 29 0), some (za_i y), some (za_i kk), o6] [za_i l', za_i (xs (y + 2).toNatClampNeg), za_i (xs (y + 1).toNatClampNeg), za_r 30 0] μ1 (κ.1 + 2, κ.2 + 12) := by
      intro kk l' hl' hk
      refine run [552] 60 547 _ _ _ _ ?_
      refine ⟨40, 0, 0, _, _, by decide, by show κ.1 + 2 + 0 ≤ 601024; omega, by show κ.2 + 12 + 0 ≤ 7293034; omega, ct_M_relation (fa := fl) hg hm1 hl' (by decide), ?_, fun _ _ h => h.elim⟩
      rintro r μ2 ⟨⟨v, rfl, hv⟩, t5, hf2⟩
      have e29 : μ2.2 29 0 = μ1.2 29 0 := hf2.2 29 0 (by decide)
      have hI2 : zl_I g μ2 (κ.1 + 2 + 0, κ.2 + 12 + 0) (k + 1) := ⟨hg, ga_fr s5 hf2 (fun b j q z => by omega), t5, by show κ.1 + 2 + 0 ≤ _; omega, by show κ.2 + 12 + 0 ≤ _; omega, by omega⟩
      rcases hk with ⟨rfl, n, j, w, s1, s2, s3⟩ | ⟨rfl, s1⟩
      · rcases hv with ⟨n', j', t1, t2, t3⟩ | ⟨t1, t2⟩
        · have h8 := hg.1
          have e1 : n' = n := (nI_eq (by have := t1.1.1; omega) (by have := s1.1.1; omega)).mp (t1.1.2.symm.trans s1.1.2)
          subst e1
          have h6 := (hg.2.2.1 n' s1.1.1).1
          have e2 : j' = j := (nI_eq (by have := t1.2.1; omega) (by have := s1.2.1; omega)).mp (t1.2.2.symm.trans s1.2.2)
          subst e2
          have e3 : v = w := gs_rel_uq t2 s2
          subst e3
          exact zl_e_relation run nx hI2 t3 (fun _ => by rw [e29, s3])
        · exact absurd ⟨n, j, s1⟩ t1
      · rcases hv with ⟨n', j', t1, t2, t3⟩ | ⟨t1, t2⟩
        · exact absurd ⟨n', j', t1⟩ s1
        · exact zl_e_relation run nx hI2 t2 (fun q => absurd q (by decide))
    rcases hc with ⟨n, j, w, s1, s2, rfl, s3⟩ | ⟨s1, rfl⟩
    · refine ⟨rfl, rfl, rfl, v1, rfl, rfl, rfl, v2, rfl, rfl, rfl, v3, fun q => two 0 0 ?_ (Or.inl ⟨rfl, n, j, w, s1, s2, s3⟩), fun q => two 0 1 ?_ (Or.inl ⟨rfl, n, j, w, s1, s2, s3⟩)⟩
      · rw [hfl.mp q]; rfl
      · rw [zl_nf hfl q]; rfl
    · refine ⟨rfl, rfl, rfl, v1, rfl, rfl, rfl, v2, rfl, rfl, rfl, v3, fun q => two 1 0 ?_ (Or.inr ⟨rfl, s1⟩), fun q => two 1 1 ?_ (Or.inr ⟨rfl, s1⟩)⟩
      · rw [hfl.mp q]; rfl
      · rw [zl_nf hfl q]; rfl
  refine run [514] 60 487 _ _ _ _ ?_
  refine ⟨rfl, rfl, rfl, v1, rfl, rfl, rfl, v2, rfl, rfl, rfl, v3, fun q => main false 0 rfl ⟨fun _ => rfl, fun _ => q⟩, fun q => main true 1 rfl ⟨fun z => absurd z q, fun z => absurd z (by decide)⟩⟩
set_option maxHeartbeats 4000000 in
theorem zl_c_pass (run : zl_rn ZZ Γ b L xs) {k : Nat} {y : Int32} (nx : zl_nx ZZ b k y) (hy : y = nI (5 * k)) (hL5 : 5 * k + 5 ≤ L) (hL : L ≤ 2560) {g : gq_G} {μ : za_M} {κ : Nat × Nat} (hI : zl_I g μ κ k) (o5 o6 : Option za_V) : ZZ 583 [some (za_q b), some (za_r 0 0), some (za_r 30 0), some (za_r 29 0), some (za_i y), o5, o6] [] μ κ := by
  obtain ⟨hg, ha, hm, hk1, hk2, hk3⟩ := hI
  have v1 : vp_in (y + 1) L := zn_i (zn_jj 1 hy) (by omega) (by omega)
  have v2 : vp_in (y + 2) L := zn_i (zn_jj 2 hy) (by omega) (by omega)
  have v3 : vp_in (y + 3) L := zn_i (zn_jj 3 hy) (by omega) (by omega)
  have v4 : vp_in (y + 4) L := zn_i (zn_jj 4 hy) (by omega) (by omega)
  have main : ∀ (fl : Bool) (l : Int32), l = (if fl = true then 1 else 0) → (xs (y + 3).toNatClampNeg = 0 ↔ fl = false) → ZZ 610 [some (za_q b), some (za_r 0 0), some (za_r 30 0), some (za_r 29 0), some (za_i y), o5, o6] [za_i l, za_i (xs (y + 2).toNatClampNeg), za_i (xs (y + 1).toNatClampNeg), za_r 0 0] μ κ := by
    intro fl l hl hfl
    refine run [643, 648] 60 610 _ _ _ _ ?_
    refine ⟨40, 2, 12, _, by decide, by show κ.1 + 2 ≤ 601024; omega, by show κ.2 + 12 ≤ 7293034; omega, cw_pass (tb := fl) hg ha hl (by decide), ?_⟩
    rintro r μ1 ⟨hc, s5, hf1⟩
    have hm1 : gm g μ1 := gm_fr hm hf1 (fun b j q z => by omega)
    have two : ∀ kk l' : Int32, l' = (if fl = true then 1 else 0) → ((kk = 0 ∧ ∃ n j w, gs_at g (xs (y + 1).toNatClampNeg) (xs (y + 2).toNatClampNeg) n j ∧ gs_pass g fl n j w ∧ μ1.2 29 0 0 = w.toInt64) ∨ (kk = 1 ∧ ¬ ∃ n j, gs_at g (xs (y + 1).toNatClampNeg) (xs (y + 2).toNatClampNeg) n j)) → ZZ 643 [some (za_q b), some (za_r 0 0), some (za_r 30 0), some (za_r 29 0), some (za_i y), some (za_i kk), o6] [za_i l', za_i (xs (y + 2).toNatClampNeg), za_i (xs (y + 1).toNatClampNeg), za_r 30 0] μ1 (κ.1 + 2, κ.2 + 12) := by
      intro kk l' hl' hk
      refine run [648] 60 643 _ _ _ _ ?_
      refine ⟨40, 0, 0, _, _, by decide, by show κ.1 + 2 + 0 ≤ 601024; omega, by show κ.2 + 12 + 0 ≤ 7293034; omega, ct_M_pass (tb := fl) hg hm1 hl' (by decide), ?_, fun _ _ h => h.elim⟩
      rintro r μ2 ⟨⟨v, rfl, hv⟩, t5, hf2⟩
      have e29 : μ2.2 29 0 = μ1.2 29 0 := hf2.2 29 0 (by decide)
      have hI2 : zl_I g μ2 (κ.1 + 2 + 0, κ.2 + 12 + 0) (k + 1) := ⟨hg, ga_fr s5 hf2 (fun b j q z => by omega), t5, by show κ.1 + 2 + 0 ≤ _; omega, by show κ.2 + 12 + 0 ≤ _; omega, by omega⟩
      rcases hk with ⟨rfl, n, j, w, s1, s2, s3⟩ | ⟨rfl, s1⟩
      · rcases hv with ⟨n', j', t1, t2, t3⟩ | ⟨t1, t2⟩
        · have h8 := hg.1
          have e1 : n' = n := (nI_eq (by have := t1.1.1; omega) (by have := s1.1.1; omega)).mp (t1.1.2.symm.trans s1.1.2)
          subst e1
          have h6 := (hg.2.2.1 n' s1.1.1).1
          have e2 : j' = j := (nI_eq (by have := t1.2.1; omega) (by have := s1.2.1; omega)).mp (t1.2.2.symm.trans s1.2.2)
          subst e2
          have e3 : v = w := gs_pass_uq t2 s2
          subst e3
          exact zl_e_pass run nx hI2 t3 (fun _ => by rw [e29, s3])
        · exact absurd ⟨n, j, s1⟩ t1
      · rcases hv with ⟨n', j', t1, t2, t3⟩ | ⟨t1, t2⟩
        · exact absurd ⟨n', j', t1⟩ s1
        · exact zl_e_pass run nx hI2 t2 (fun q => absurd q (by decide))
    rcases hc with ⟨n, j, w, s1, s2, rfl, s3⟩ | ⟨s1, rfl⟩
    · refine ⟨rfl, rfl, rfl, v1, rfl, rfl, rfl, v2, rfl, rfl, rfl, v3, fun q => two 0 0 ?_ (Or.inl ⟨rfl, n, j, w, s1, s2, s3⟩), fun q => two 0 1 ?_ (Or.inl ⟨rfl, n, j, w, s1, s2, s3⟩)⟩
      · rw [hfl.mp q]; rfl
      · rw [zl_nf hfl q]; rfl
    · refine ⟨rfl, rfl, rfl, v1, rfl, rfl, rfl, v2, rfl, rfl, rfl, v3, fun q => two 1 0 ?_ (Or.inr ⟨rfl, s1⟩), fun q => two 1 1 ?_ (Or.inr ⟨rfl, s1⟩)⟩
      · rw [hfl.mp q]; rfl
      · rw [zl_nf hfl q]; rfl
  refine run [610] 60 583 _ _ _ _ ?_
  refine ⟨rfl, rfl, rfl, v1, rfl, rfl, rfl, v2, rfl, rfl, rfl, v3, fun q => main false 0 rfl ⟨fun _ => rfl, fun _ => q⟩, fun q => main true 1 rfl ⟨fun z => absurd z q, fun z => absurd z (by decide)⟩⟩
set_option maxHeartbeats 4000000 in
theorem zl_c_passes (run : zl_rn ZZ Γ b L xs) {k : Nat} {y : Int32} (nx : zl_nx ZZ b k y) (hy : y = nI (5 * k)) (hL5 : 5 * k + 5 ≤ L) (hL : L ≤ 2560) {g : gq_G} {μ : za_M} {κ : Nat × Nat} (hI : zl_I g μ κ k) (o5 o6 : Option za_V) : ZZ 679 [some (za_q b), some (za_r 0 0), some (za_r 30 0), some (za_r 29 0), some (za_i y), o5, o6] [] μ κ := by
  obtain ⟨hg, ha, hm, hk1, hk2, hk3⟩ := hI
  have v1 : vp_in (y + 1) L := zn_i (zn_jj 1 hy) (by omega) (by omega)
  have v2 : vp_in (y + 2) L := zn_i (zn_jj 2 hy) (by omega) (by omega)
  have v3 : vp_in (y + 3) L := zn_i (zn_jj 3 hy) (by omega) (by omega)
  have v4 : vp_in (y + 4) L := zn_i (zn_jj 4 hy) (by omega) (by omega)
  have main : ∀ (fl : Bool) (l : Int32), l = (if fl = true then 1 else 0) → (xs (y + 1).toNatClampNeg = 0 ↔ fl = false) → ZZ 694 [some (za_q b), some (za_r 0 0), some (za_r 30 0), some (za_r 29 0), some (za_i y), o5, o6] [za_i l, za_r 0 0] μ κ := by
    intro fl l hl hfl
    refine run [712, 720] 60 694 _ _ _ _ ?_
    refine ⟨40, 0, 0, _, _, by decide, by show κ.1 + 0 ≤ 601024; omega, by show κ.2 + 0 ≤ 7293034; omega, ct_A_passes (tb := fl) hg ha hl (by decide), ?_, fun _ _ h => h.elim⟩
    rintro r μ1 ⟨⟨w, s1, rfl⟩, s5, hf1⟩
    have hm1 : gm g μ1 := gm_fr hm hf1 (fun b j q z => by omega)
    have two : ∀ l' : Int32, l' = (if fl = true then 1 else 0) → ZZ 712 [some (za_q b), some (za_r 0 0), some (za_r 30 0), some (za_r 29 0), some (za_i y), o5, o6] [za_i l', za_r 30 0, za_i w] μ1 (κ.1 + 0, κ.2 + 0) := by
      intro l' hl'
      refine run [720] 60 712 _ _ _ _ ?_
      refine ⟨40, 0, 0, _, _, by decide, by show κ.1 + 0 + 0 ≤ 601024; omega, by show κ.2 + 0 + 0 ≤ 7293034; omega, ct_M_passes (tb := fl) hg hm1 hl' (by decide), ?_, fun _ _ h => h.elim⟩
      rintro r μ2 ⟨⟨v, t1, rfl⟩, t5, hf2⟩
      have e : v = w := gs_passes_uq t1 s1
      subst e
      exact ⟨fun _ => nx g μ2 _ _ _ ⟨hg, ga_fr s5 hf2 (fun b j q z => by omega), t5, by show κ.1 + 0 + 0 ≤ _; omega, by show κ.2 + 0 + 0 ≤ _; omega, by omega⟩, fun q => absurd rfl q⟩
    refine ⟨rfl, rfl, rfl, v1, fun q => two 0 ?_, fun q => two 1 ?_⟩
    · rw [hfl.mp q]; rfl
    · rw [zl_nf hfl q]; rfl
  refine run [694] 60 679 _ _ _ _ ?_
  refine ⟨rfl, rfl, rfl, v1, fun q => main false 0 rfl ⟨fun _ => rfl, fun _ => q⟩, fun q => main true 1 rfl ⟨fun z => absurd z q, fun z => absurd z (by decide)⟩⟩
set_option maxHeartbeats 4000000 in
theorem zl_loop (run : zl_rn ZZ Γ b L xs) (hL : L ≤ 2560) : ∀ (t : (gq_G × za_M × (Nat × Nat)) × Nat × Option za_V × Option za_V), zl_I t.1.1 t.1.2.1 t.1.2.2 t.2.1 ∧ 5 * t.2.1 ≤ L + 5 → ∀ y : Int32, y = nI (5 * t.2.1) → ZZ 23 [some (za_q b), some (za_r 0 0), some (za_r 30 0), some (za_r 29 0), some (za_i y), t.2.2.1, t.2.2.2] [] t.1.2.1 t.1.2.2 := by
  refine zn_wh (fun t => 3000 - 5 * t.2.1) ?_
  rintro ⟨⟨g, μ, κ⟩, k, o5, o6⟩ ⟨hI, hkL⟩ ih y hy
  dsimp only at hI hkL hy ⊢
  have hk3 := hI.2.2.2
  have nx : 5 * k + 5 ≤ L → zl_nx ZZ b k y := by
    intro h5 g' μ' κ' p5 p6 hI'
    refine run [23] 20 720 _ _ _ _ ?_
    exact ih ((g', μ', κ'), k + 1, p5, p6) ⟨hI', by show 5 * (k + 1) ≤ L + 5; omega⟩ (by show 3000 - 5 * (k + 1) < 3000 - 5 * k; omega) _ (zn_5 hy)
  refine run [23, 96, 107, 175, 267, 354, 410, 461, 474, 487, 583, 679, 720] 60 23 _ _ _ _ ?_
  refine ⟨rfl, rfl, fun hq => ⟨rfl, Or.inr ⟨rfl, Or.inr rfl⟩, rfl, by omega, by omega⟩, fun hq => ?_⟩
  have h5 : 5 * k + 5 ≤ L := by
    have hq : ¬ nI L - 5 < y := hq
    rw [zn_gt5 hL (by omega) hy] at hq
    omega
  have nx := nx h5
  have hs : zl_I g μ κ (k + 1) := ⟨hI.1, hI.2.1, hI.2.2.1, by omega, by omega, by omega⟩
  have v0 : vp_in y L := zn_i hy (by omega) (by omega)
  refine ⟨rfl, rfl, rfl, v0, ?_⟩
  exact ⟨fun _ => zl_c_clear run nx hy h5 hL hI o5 o6, fun _ => ⟨fun _ => zl_c_symbol run nx hy h5 hL hI o5 o6, fun _ => ⟨fun _ => zl_c_production run nx hy h5 hL hI o5 o6, fun _ => ⟨fun _ => zl_c_depend run nx hy h5 hL hI o5 o6, fun _ => ⟨fun _ => zl_c_graphs run nx hy h5 hL hI o5 o6, fun _ => ⟨fun _ => zl_c_circular run nx hy h5 hL hI o5 o6, fun _ => ⟨fun _ => zl_c_strong run nx hy h5 hL hI o5 o6, fun _ => ⟨fun _ => zl_c_doubly run nx hy h5 hL hI o5 o6, fun _ => ⟨fun _ => zl_c_relation run nx hy h5 hL hI o5 o6, fun _ => ⟨fun _ => zl_c_pass run nx hy h5 hL hI o5 o6, fun _ => ⟨fun _ => zl_c_passes run nx hy h5 hL hI o5 o6, fun _ => nx g μ κ o5 o6 hs⟩⟩⟩⟩⟩⟩⟩⟩⟩⟩⟩
end ZLOOP
