/-! a contract out of runs: methods that throw nothing and whose callees throw nothing -/
section ZKC
variable {p : Program} {e : Env} {s : State} {m : MethodId} {args : Array Value} {below : List Frame} {meth : Method} {c : Code} {Θ : zk_T} {Γ : zk_G} {d mc ms : Nat}
/-- the walk until the cuts is sound, if its steps are -/
theorem zk_wp_sound {Λ : List za_S} {X : za_X} {ret : Nat} {RR : za_RR} {XX : za_XX} {CC : za_CC} {HX : Nat → Nat → za_C → za_M → Nat × Nat → Prop} {prog : List za_E} {cuts : List Nat} {ZZ : Nat → za_K} (hch : zk_ch prog)
    (step : ∀ E ∈ prog, ∀ (K : za_K) (J : Nat → za_K) ls st μ κ, (∀ ls st μ κ, K ls st μ κ → ZZ E.2.2.1 ls st μ κ) → (∀ t ls st μ κ, J t ls st μ κ → ZZ t ls st μ κ) → za_stp Λ X ret RR XX CC (HX E.1) K J E ls st μ κ → ZZ E.1 ls st μ κ) :
    ∀ (n : Nat) (E : za_E) (r : List za_E), (∀ x ∈ E :: r, x ∈ prog) → zk_ch (E :: r) → ∀ ls st μ κ, za_wp Λ X ret RR XX CC HX prog cuts ZZ n (E :: r) ls st μ κ → ZZ E.1 ls st μ κ := by
  intro n
  induction n with
  | zero => intro E r _ _ ls st μ κ h; exact h.elim
  | succ n ih =>
    intro E r hr hc ls st μ κ h
    unfold za_wp at h
    split at h
    · exact h
    · have hJ : ∀ t ls st μ κ, za_wp Λ X ret RR XX CC HX prog cuts ZZ n (za_at t prog) ls st μ κ → ZZ t ls st μ κ := by
        intro t ls st μ κ h
        cases ha : za_at t prog with
        | nil => rw [ha] at h; cases n <;> exact h.elim
        | cons E' r' =>
          rw [ha] at h
          obtain ⟨h1, h2, h3⟩ := zk_at_spec ha
          have := ih E' r' h2 (h3 hch) ls st μ κ h
          rw [h1] at this
          exact this
      cases hnf : zk_nf E.2.1 with
      | true => exact step E (hr E List.mem_cons_self) _ _ ls st μ κ (fun _ _ _ _ h => h.elim) hJ (zk_nf_stp hnf h)
      | false =>
        refine step E (hr E List.mem_cons_self) _ _ ls st μ κ ?_ hJ h
        intro ls st μ κ h
        cases r with
        | nil => cases n <;> exact h.elim
        | cons E' r' =>
          rcases hc.1 with h9 | h9
          · rw [h9] at hnf; cases hnf
          · rw [h9]
            exact ih E' r' (fun x hx => hr x (List.mem_cons_of_mem _ hx)) hc.2 ls st μ κ h
theorem zk_go_sound {Λ : List za_S} {X : za_X} {ret : Nat} {RR : za_RR} {XX : za_XX} {CC : za_CC} {HX : Nat → Nat → za_C → za_M → Nat × Nat → Prop} {prog : List za_E} {ZZ : Nat → za_K} (hch : zk_ch prog)
    (step : ∀ E ∈ prog, ∀ (K : za_K) (J : Nat → za_K) ls st μ κ, (∀ ls st μ κ, K ls st μ κ → ZZ E.2.2.1 ls st μ κ) → (∀ t ls st μ κ, J t ls st μ κ → ZZ t ls st μ κ) → za_stp Λ X ret RR XX CC (HX E.1) K J E ls st μ κ → ZZ E.1 ls st μ κ)
    (cuts : List Nat) (n pc : Nat) (ls : za_C) (st : List za_V) (μ : za_M) (κ : Nat × Nat) (h : zk_go Λ X ret RR XX CC HX prog cuts ZZ n pc ls st μ κ) : ZZ pc ls st μ κ := by
  unfold zk_go at h
  cases ha : za_at pc prog with
  | nil => rw [ha] at h; exact h.elim
  | cons E r =>
    rw [ha] at h
    obtain ⟨h1, h2, h3⟩ := zk_at_spec ha
    rw [← h1]
    have hJ : ∀ t ls st μ κ, za_wp Λ X ret RR XX CC HX prog cuts ZZ n (za_at t prog) ls st μ κ → ZZ t ls st μ κ := by
      intro t ls st μ κ h
      cases hb : za_at t prog with
      | nil => rw [hb] at h; cases n <;> exact h.elim
      | cons E' r' =>
        rw [hb] at h
        obtain ⟨g1, g2, g3⟩ := zk_at_spec hb
        have := zk_wp_sound hch step n E' r' g2 (g3 hch) ls st μ κ h
        rw [g1] at this
        exact this
    cases hnf : zk_nf E.2.1 with
    | true => exact step E (h2 E List.mem_cons_self) _ _ ls st μ κ (fun _ _ _ _ h => h.elim) hJ (zk_nf_stp hnf h)
    | false =>
      refine step E (h2 E List.mem_cons_self) _ _ ls st μ κ ?_ hJ h
      intro ls st μ κ h
      cases r with
      | nil => cases n <;> exact h.elim
      | cons E' r' =>
        rcases (h3 hch).1 with h9 | h9
        · rw [h9] at hnf; cases hnf
        · rw [h9]
          exact zk_wp_sound hch step n E' r' (fun x hx => h2 x (List.mem_cons_of_mem _ hx)) (h3 hch).2 ls st μ κ h
/-- a start's locals: the arguments in their places, then nothing -/
def zk_l0 : List za_V → List (Option za_V)
  | [] => []
  | .inr (.inl x) :: t => some (.inr (.inl x)) :: none :: zk_l0 t
  | v :: t => some v :: zk_l0 t
def zk_ls (as : List za_V) (nL : Nat) : za_C := zk_l0 as ++ List.replicate (nL - (zk_l0 as).length) none
theorem zk_l0_len (ad : Nat → Nat → Nat) : ∀ as : List za_V, (zk_l0 as).length = (lg_sl (as.map (za_cv ad))).length
  | [] => rfl
  | .inl x :: t => by
    have := zk_l0_len ad t
    simp only [zk_l0, List.map_cons, za_cv, lg_sl, List.length_cons, this]
    rfl
  | .inr (.inl x) :: t => by
    have := zk_l0_len ad t
    simp only [zk_l0, List.map_cons, za_cv, lg_sl, List.length_cons, this]
    rfl
  | .inr (.inr (.inl q)) :: t => by
    have := zk_l0_len ad t
    simp only [zk_l0, List.map_cons, za_cv, lg_sl, List.length_cons, this]
    rfl
  | .inr (.inr (.inr a)) :: t => by
    have := zk_l0_len ad t
    simp only [zk_l0, List.map_cons, za_cv, lg_sl, List.length_cons, this]
    rfl
end ZKC
