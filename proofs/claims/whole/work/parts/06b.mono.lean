/-! going on is monotone -/
theorem za_set_mono {α : Type} {l : List α} {i : Nat} {v : α} {k k' : List α → Prop} (hk : ∀ l, k l → k' l) (h : za_set l i v k) : za_set l i v k' := by
  induction l generalizing i k k' with
  | nil => exact h.elim
  | cons a t ih =>
    cases i with
    | zero => exact hk _ h
    | succ i => exact ih (k := fun t' => k (a :: t')) (k' := fun t' => k' (a :: t')) (fun l h => hk _ h) h
theorem za_kill_mono {ls : za_C} {i : Nat} {k k' : za_C → Prop} (hk : ∀ l, k l → k' l) (h : za_kill ls i k) : za_kill ls i k' := by
  revert h
  unfold za_kill
  split
  · exact za_set_mono hk
  · exact hk _
theorem za_pre_mono {ls : za_C} {i : Nat} {k k' : za_C → Prop} (hk : ∀ l, k l → k' l) (h : za_pre ls i k) : za_pre ls i k' := by
  cases i with
  | zero => exact hk _ h
  | succ i => exact za_kill_mono hk h
theorem za_st1_mono {ls : za_C} {i : Nat} {v : za_V} {k k' : za_C → Prop} (hk : ∀ l, k l → k' l) (h : za_st1 ls i v k) : za_st1 ls i v k' := za_pre_mono (fun _ h => za_set_mono hk h) h
theorem za_st2_mono {ls : za_C} {i : Nat} {v : za_V} {k k' : za_C → Prop} (hk : ∀ l, k l → k' l) (h : za_st2 ls i v k) : za_st2 ls i v k' := za_pre_mono (fun _ h => za_set_mono (fun _ h => za_set_mono hk h) h) h
theorem za_gf_mono {Λ : List za_S} {μ : za_M} {b j c f : Nat} {k k' : za_V → Prop} (hk : ∀ v, k v → k' v) (h : za_gf Λ μ b j c f k) : za_gf Λ μ b j c f k' := by
  revert h
  unfold za_gf
  split
  · split
    · exact hk _
    · exact hk _
    · exact hk _
    · exact id
  · exact id
theorem za_pf_mono {Λ : List za_S} {μ : za_M} {b j c f : Nat} {x : Int32} {k k' : za_M → Prop} (hk : ∀ v, k v → k' v) (h : za_pf Λ μ b j c f x k) : za_pf Λ μ b j c f x k' := by
  revert h
  unfold za_pf
  split
  · split
    · exact hk _
    · exact fun h => ⟨h.1, hk _ h.2⟩
    · exact id
  · exact id
theorem za_ia_mono {Λ : List za_S} {μ : za_M} {kd b j : Nat} {i : Int32} {k k' : za_V → Prop} (hk : ∀ v, k v → k' v) (h : za_ia Λ μ kd b j i k) : za_ia Λ μ kd b j i k' := by
  revert h
  unfold za_ia
  split
  · split
    · exact fun h => ⟨h.1, hk _ h.2⟩
    · exact id
  · split
    · exact fun h => ⟨h.1, hk _ h.2⟩
    · exact id
  · split
    · exact fun h => ⟨h.1, hk _ h.2⟩
    · exact id
  · split
    · exact fun h => ⟨h.1, hk _ h.2⟩
    · exact id
  · exact id
theorem za_is_mono {Λ : List za_S} {μ : za_M} {kd b j : Nat} {i x : Int32} {k k' : za_M → Prop} (hk : ∀ v, k v → k' v) (h : za_is Λ μ kd b j i x k) : za_is Λ μ kd b j i x k' := by
  revert h
  unfold za_is
  split
  · split
    · exact fun h => ⟨h.1, hk _ h.2⟩
    · exact id
  · split
    · exact fun h => ⟨h.1, h.2.1, hk _ h.2.2⟩
    · exact id
  · exact id
theorem za_ls_mono {Λ : List za_S} {μ : za_M} {b j : Nat} {i : Int32} {x : Int64} {k k' : za_M → Prop} (hk : ∀ v, k v → k' v) (h : za_ls Λ μ b j i x k) : za_ls Λ μ b j i x k' := by
  revert h
  unfold za_ls
  split
  · exact fun h => ⟨h.1, hk _ h.2⟩
  · exact id
theorem za_al_mono {Λ : List za_S} {b : Nat} {k k' : Int32 → Prop} (hk : ∀ v, k v → k' v) (h : za_al Λ b k) : za_al Λ b k' := by
  revert h
  unfold za_al
  split
  · exact hk _
  · exact hk _
  · exact hk _
  · exact hk _
  · exact id
theorem za_get_mono {Λ : List za_S} {μ : za_M} {c f : Nat} {st : List za_V} {k k' : za_V → List za_V → Prop} (hk : ∀ v t, k v t → k' v t) (h : za_get Λ μ c f st k) : za_get Λ μ c f st k' := by
  revert h
  unfold za_get
  split
  · exact za_gf_mono (fun _ h => hk _ _ h)
  · exact id
theorem za_put_mono {Λ : List za_S} {μ : za_M} {c f : Nat} {st : List za_V} {k k' : za_M → List za_V → Prop} (hk : ∀ v t, k v t → k' v t) (h : za_put Λ μ c f st k) : za_put Λ μ c f st k' := by
  revert h
  unfold za_put
  split
  · exact za_pf_mono (fun _ h => hk _ _ h)
  · exact id
theorem za_ald_mono {Λ : List za_S} {X : za_X} {μ : za_M} {kd : Nat} {st : List za_V} {k k' : za_V → List za_V → Prop} (hk : ∀ v t, k v t → k' v t) (h : za_ald Λ X μ kd st k) : za_ald Λ X μ kd st k' := by
  revert h
  unfold za_ald
  split
  · exact za_ia_mono (fun _ h => hk _ _ h)
  · exact fun h => ⟨h.1, h.2.1, h.2.2.1, h.2.2.2.1, hk _ _ h.2.2.2.2⟩
  · exact id
theorem za_ast_mono {Λ : List za_S} {μ : za_M} {kd : Nat} {st : List za_V} {k k' : za_M → List za_V → Prop} (hk : ∀ v t, k v t → k' v t) (h : za_ast Λ μ kd st k) : za_ast Λ μ kd st k' := by
  revert h
  unfold za_ast
  split
  · exact za_is_mono (fun _ h => hk _ _ h)
  · split
    · exact za_ls_mono (fun _ h => hk _ _ h)
    · exact id
  · exact id
theorem za_len_mono {Λ : List za_S} {X : za_X} {st : List za_V} {k k' : Int32 → List za_V → Prop} (hk : ∀ v t, k v t → k' v t) (h : za_len Λ X st k) : za_len Λ X st k' := by
  revert h
  unfold za_len
  split
  · exact za_al_mono (fun _ h => hk _ _ h)
  · exact fun h => ⟨h.1, h.2.1, hk _ _ h.2.2⟩
  · exact id
theorem za_pop_spec' {n : Nat} {st acc : List za_V} {k : List za_V → List za_V → Prop} (h : za_pop n st acc k) : ∃ as t, st = as.reverse ++ t ∧ as.length = n ∧ k (as ++ acc) t := by
  induction n generalizing st acc with
  | zero => exact ⟨[], st, rfl, rfl, h⟩
  | succ n ih =>
    cases st with
    | nil => exact h.elim
    | cons v st =>
      obtain ⟨as, t, h1, h2, h3⟩ := ih (st := st) (acc := v :: acc) h
      exact ⟨as ++ [v], t, by simp [h1], by simp [h2], by simpa using h3⟩
theorem za_pop_spec {n : Nat} {st : List za_V} {k : List za_V → List za_V → Prop} (h : za_pop n st [] k) : ∃ as t, st = as.reverse ++ t ∧ as.length = n ∧ k as t := by
  obtain ⟨as, t, h1, h2, h3⟩ := za_pop_spec' h
  exact ⟨as, t, h1, h2, by simpa using h3⟩
theorem za_cl_spec {n : Nat} {st : List za_V} {k : List za_V → List za_V → Prop} (h : za_cl n st k) : ∃ as t, st = as.reverse ++ t ∧ as.length = n ∧ za_wt t ≤ 8 ∧ k as t := by
  obtain ⟨as, t, h1, h2, h3⟩ := za_pop_spec (show za_pop n st [] _ from h)
  split at h3
  · rename_i hq
    exact ⟨as, t, h1, h2, Nat.le_of_ble_eq_true hq, h3⟩
  · exact h3.elim
theorem za_cp_mono {Λ : List za_S} {μ : za_M} {st : List za_V} {k k' : za_M → List za_V → Prop} (hk : ∀ v t, k v t → k' v t) (h : za_cp Λ μ st k) : za_cp Λ μ st k' := by
  revert h
  unfold za_cp
  split
  · split
    · exact fun h => ⟨h.1, h.2.1, h.2.2.1, h.2.2.2.1, h.2.2.2.2.1, h.2.2.2.2.2.1, hk _ _ h.2.2.2.2.2.2⟩
    · exact id
  · exact id
