/-! memory: rows, frames, counters -/
/-- nothing but the cells of S has changed -/
def zq_fr (S : Nat → Nat → Prop) (μ μ' : za_M) : Prop := (∀ b j, ¬ S b j → μ'.1 b j = μ.1 b j) ∧ ∀ b j, ¬ S b j → μ'.2 b j = μ.2 b j
theorem zq_rf {S : Nat → Nat → Prop} {μ : za_M} : zq_fr S μ μ := ⟨fun _ _ _ => rfl, fun _ _ _ => rfl⟩
theorem zq_tr {S : Nat → Nat → Prop} {a b c : za_M} (h1 : zq_fr S a b) (h2 : zq_fr S b c) : zq_fr S a c := ⟨fun x y h => (h2.1 x y h).trans (h1.1 x y h), fun x y h => (h2.2 x y h).trans (h1.2 x y h)⟩
theorem zq_up {S S' : Nat → Nat → Prop} {a b : za_M} (h : zq_fr S a b) (hS : ∀ x y, S x y → S' x y) : zq_fr S' a b := ⟨fun x y q => h.1 x y (fun z => q (hS x y z)), fun x y q => h.2 x y (fun z => q (hS x y z))⟩
theorem zq_u {S : Nat → Nat → Prop} {a b : za_M} (h : zq_fr S a b) {p j i : Nat} {x : Int32} (hS : S p j) : zq_fr S a (za_u b.1 p j i x, b.2) := by
  refine ⟨fun u v q => ?_, h.2⟩
  show za_u b.1 p j i x u v = _
  rw [za_u_ne (fun z => q (by rw [z.1, z.2]; exact hS))]
  exact h.1 u v q
theorem zq_uL {S : Nat → Nat → Prop} {a b : za_M} (h : zq_fr S a b) {p j i : Nat} {x : Int64} (hS : S p j) : zq_fr S a (b.1, za_u b.2 p j i x) := by
  refine ⟨h.1, fun u v q => ?_⟩
  show za_u b.2 p j i x u v = _
  rw [za_u_ne (fun z => q (by rw [z.1, z.2]; exact hS))]
  exact h.2 u v q
theorem za_u_same {α : Type} (f : Nat → Nat → Nat → α) (b j i : Nat) (x : α) : za_u f b j i x b j i = x := by simp [za_u]
theorem za_u_i {α : Type} {f : Nat → Nat → Nat → α} {b j i i' : Nat} {x : α} (h : i' ≠ i) : za_u f b j i x b j i' = f b j i' := by simp [za_u, h]
theorem za_u_b {α : Type} {f : Nat → Nat → Nat → α} {b j i b' j' : Nat} {x : α} (h : b' ≠ b) : za_u f b j i x b' j' = f b' j' := za_u_ne (fun z => h z.1)
theorem zn_lt {k n : Nat} (h : k < n) (hn : n < 2 ^ 31) : ¬ nI n ≤ nI k := nI_ge h hn
theorem zn_cl {k : Nat} (h : k < 2 ^ 31) : (nI k).toNatClampNeg = k := nI_clamp h
theorem zn_in {k n : Nat} (h : k < n) (hn : n < 2 ^ 31) : vp_in (nI k) n := vp_in_nI h hn
/-- a loop that counts -/
theorem zn_for {σ : Type} {P I : Nat → σ → Prop} {N : Nat} (hx : ∀ s, I N s → P N s) (hs : ∀ k s, k < N → I k s → (∀ s', I (k + 1) s' → P (k + 1) s') → P k s) : ∀ k s, k ≤ N → I k s → P k s := by
  have key : ∀ n k s, k + n = N → I k s → P k s := by
    intro n
    induction n with
    | zero =>
      intro k s hk h
      have hk : k = N := by omega
      subst hk
      exact hx s h
    | succ n ih =>
      intro k s hk h
      exact hs k s (by omega) h (fun s' h' => ih (k + 1) s' (by omega) h')
  intro k s hk h
  exact key (N - k) k s (by omega) h
/-- a loop by a measure -/
theorem zn_wh {σ : Type} {P I : σ → Prop} (m : σ → Nat) (hs : ∀ s, I s → (∀ s', I s' → m s' < m s → P s') → P s) : ∀ s, I s → P s := by
  have key : ∀ n s, m s < n → I s → P s := by
    intro n
    induction n with
    | zero => intro s h; omega
    | succ n ih => intro s h hI; exact hs s hI (fun s' h1 h2 => ih s' (by omega) h1)
  intro s h
  exact key (m s + 1) s (Nat.lt_succ_self _) h
theorem zn_8 (o : Nat) : (8 : Int32) * nI o = nI (8 * o) := pk_mul 8 o
theorem zn_c32 : (32 : Int32).toNatClampNeg = 32 := by decide
theorem zn_c0 : (0 : Int32).toNatClampNeg = 0 := by decide
theorem zn_s {k : Nat} {x : Int32} (h : x = nI k) : x + 1 = nI (k + 1) := by rw [h]; exact nI_1 k
theorem zn_ge {k n : Nat} {x y : Int32} (hx : x = nI k) (hy : y = nI n) (h : k < n) (hn : n < 2 ^ 31) : ¬ y ≤ x := by rw [hx, hy]; exact nI_ge h hn
theorem zn_i {k n : Nat} {x : Int32} (hx : x = nI k) (h : k < n) (hn : n < 2 ^ 31) : vp_in x n := by rw [hx]; exact vp_in_nI h hn
theorem zn_c {k : Nat} {x : Int32} (hx : x = nI k) (h : k < 2 ^ 31) : x.toNatClampNeg = k := by rw [hx]; exact nI_clamp h
