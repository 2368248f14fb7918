/-! THE ABSTRACT MACHINE IS SOUND: what it says of a place in the code, the walk of the kit does. -/
def za_cv (ad : Nat → Nat → Nat) (v : za_V) : Value := match v with
  | .inl x => .int x
  | .inr (.inl y) => .long y
  | .inr (.inr (.inl q)) => .ref (ad q.1 q.2)
  | .inr (.inr (.inr a)) => .ref a
/-- a reference to a cell that is there -/
def za_ok (cn : Nat → Nat) (v : za_V) : Prop := match v with
  | .inr (.inr (.inl q)) => q.2 < cn q.1
  | _ => True
def za_oks (cn : Nat → Nat) : List za_V → Prop
  | [] => True
  | v :: t => za_ok cn v ∧ za_oks cn t
def za_okc (cn : Nat → Nat) (ls : za_C) : Prop := ∀ (i : Nat) (v : za_V), za_n ls i = some (some v) → za_ok cn v
def za_lo (ad : Nat → Nat → Nat) (nL : Nat) (ls : za_C) (lc : Array Slot) : Prop := ls.length = nL ∧ lc.size = nL ∧ lv_wf lc ∧ ∀ (i : Nat) (v : za_V), za_n ls i = some (some v) → lc[i]? = some (.val (za_cv ad v))
/-- the cells -/
def za_fv (ad : Nat → Nat → Nat) (μ : za_M) (b j f : Nat) (q : Nat × Nat × Nat) : Value := match q with
  | (0, _, _) => .int (μ.1 b j f)
  | (1, b', j') => .ref (ad b' j')
  | (_, b', _) => .ref (ad b' j)
def za_fs (ad : Nat → Nat → Nat) (μ : za_M) (b j : Nat) : Nat → List (Nat × Nat × Nat) → List Value
  | _, [] => []
  | f, q :: t => za_fv ad μ b j f q :: za_fs ad μ b j (f + 1) t
def za_en (Λ : List za_S) (ad : Nat → Nat → Nat) (ca : Nat → ClassId) (μ : za_M) (b j : Nat) : va_E := match za_n Λ b with
  | some (0, n, _) => .inl (ca b, n, .inl (μ.1 b j))
  | some (1, n, _) => .inl (ca b, n, .inl (μ.1 b j))
  | some (2, n, _) => .inl (ca b, n, .inr (.inl (μ.2 b j)))
  | some (3, n, (b', _, _) :: _) => .inl (ca b, n, .inr (.inr (.inr (.inr (fun i => some (ad b' (za_ix j n i)))))))
  | some (4, ci, fs) => .inr (ci, za_fs ad μ b j 0 fs)
  | _ => .inr (0, [])
def za_ps (cn : Nat → Nat) : Nat → List (Nat × Nat)
  | 0 => []
  | b + 1 => za_ps cn b ++ (List.range (cn b)).map (fun j => (b, j))
def za_ws (Λ : List za_S) (cn : Nat → Nat) (ad : Nat → Nat → Nat) (ca : Nat → ClassId) (μ : za_M) : va_W := (za_ps cn Λ.length).map (fun q => (ad q.1 q.2, za_en Λ ad ca μ q.1 q.2))
theorem za_ps_mem {cn : Nat → Nat} {n : Nat} {q : Nat × Nat} : q ∈ za_ps cn n ↔ q.1 < n ∧ q.2 < cn q.1 := by
  induction n with
  | zero => simp [za_ps]
  | succ n ih =>
    simp only [za_ps, List.mem_append, List.mem_map, List.mem_range, ih]
    constructor
    · rintro (⟨h1, h2⟩ | ⟨j, hj, rfl⟩)
      · exact ⟨by omega, h2⟩
      · exact ⟨by simp, hj⟩
    · rintro ⟨h1, h2⟩
      by_cases h : q.1 = n
      · right
        exact ⟨q.2, by rw [← h]; exact h2, by rw [← h]⟩
      · left
        exact ⟨by omega, h2⟩
theorem za_ps_nodup {cn : Nat → Nat} {n : Nat} : (za_ps cn n).Nodup := by
  induction n with
  | zero => simp [za_ps]
  | succ n ih =>
    simp only [za_ps]
    rw [List.nodup_append]
    refine ⟨ih, ?_, ?_⟩
    · rw [List.nodup_iff_pairwise_ne, List.pairwise_map]
      refine List.Pairwise.imp ?_ (List.nodup_iff_pairwise_ne.mp (List.nodup_range (n := cn n)))
      intro a b hab h
      exact hab (by simpa using h)
    · intro a ha b hb hab
      subst hab
      obtain ⟨j, -, rfl⟩ := List.mem_map.mp hb
      have := (za_ps_mem.mp ha).1
      simp at this
theorem za_map_set {α β : Type} {l : List α} (hn : l.Nodup) {f g : α → β} {k : Nat} {a : α} {y : β} (hk : l[k]? = some a) (hy : g a = y) (ho : ∀ b, b ≠ a → g b = f b) : (l.map f).set k y = l.map g := by
  induction l generalizing k with
  | nil => simp at hk
  | cons c t ih =>
    rw [List.nodup_cons] at hn
    cases k with
    | zero =>
      simp only [List.getElem?_cons_zero, Option.some.injEq] at hk
      subst hk
      simp only [List.map_cons, List.set_cons_zero, hy, List.cons.injEq, true_and]
      refine List.map_congr_left fun b hb => (ho b ?_).symm
      intro h
      exact hn.1 (h ▸ hb)
    | succ k =>
      simp only [List.getElem?_cons_succ] at hk
      simp only [List.map_cons, List.set_cons_succ, List.cons.injEq]
      refine ⟨(ho c ?_).symm, ih hn.2 hk⟩
      intro h
      exact hn.1 (h ▸ List.mem_of_getElem? hk)
theorem za_n_eq {α : Type} (l : List α) (i : Nat) : za_n l i = l[i]? := by
  induction l generalizing i with
  | nil => simp [za_n]
  | cons a t ih =>
    cases i with
    | zero => simp [za_n]
    | succ i => simp [za_n, ih]
theorem za_set_spec {α : Type} {l : List α} {i : Nat} {v : α} {k : List α → Prop} (h : za_set l i v k) : i < l.length ∧ k (l.set i v) := by
  induction l generalizing i k with
  | nil => exact h.elim
  | cons a t ih =>
    cases i with
    | zero => exact ⟨by simp, h⟩
    | succ i =>
      obtain ⟨h1, h2⟩ := ih (k := fun t' => k (a :: t')) h
      exact ⟨by simpa using h1, h2⟩
/-! locals -/
def za_isL (v : za_V) : Prop := match v with
  | .inr (.inl _) => True
  | _ => False
theorem za_cat2 {ad : Nat → Nat → Nat} {v : za_V} (h : (za_cv ad v).category = 2) : za_isL v := by
  rcases v with x | x | x | x <;> simp [za_cv, Value.category, za_isL] at h ⊢
theorem za_kill_spec {ls : za_C} {i : Nat} {k : za_C → Prop} (h : za_kill ls i k) : ∃ l1, k l1 ∧ l1.length = ls.length ∧ ∀ (j : Nat) (w : za_V), l1[j]? = some (some w) → ls[j]? = some (some w) ∧ ¬ (j = i ∧ za_isL w) := by
  unfold za_kill at h
  split at h
  · obtain ⟨h1, h2⟩ := za_set_spec h
    refine ⟨_, h2, by simp, fun j w hj => ?_⟩
    rw [List.getElem?_set] at hj
    by_cases e : i = j
    · subst e
      simp [h1] at hj
    · rw [if_neg e] at hj
      exact ⟨hj, fun q => e q.1.symm⟩
  · rename_i hn
    refine ⟨ls, h, rfl, fun j w hj => ⟨hj, fun q => ?_⟩⟩
    obtain ⟨rfl, hw⟩ := q
    rcases w with x | x | x | x <;> simp [za_isL] at hw
    exact hn x (by rw [za_n_eq]; exact hj)
theorem za_pre_spec {ls : za_C} {i : Nat} {k : za_C → Prop} (h : za_pre ls i k) : ∃ l1, k l1 ∧ l1.length = ls.length ∧ ∀ (j : Nat) (w : za_V), l1[j]? = some (some w) → ls[j]? = some (some w) ∧ ¬ (j + 1 = i ∧ za_isL w) := by
  cases i with
  | zero => exact ⟨ls, h, rfl, fun j w hj => ⟨hj, fun q => by omega⟩⟩
  | succ i =>
    obtain ⟨l1, h1, h2, h3⟩ := za_kill_spec (show za_kill ls i k from h)
    exact ⟨l1, h1, h2, fun j w hj => ⟨(h3 j w hj).1, fun q => (h3 j w hj).2 ⟨by omega, q.2⟩⟩⟩
theorem za_st1_spec {ls : za_C} {i : Nat} {v : za_V} {k : za_C → Prop} (h : za_st1 ls i v k) : i < ls.length ∧ ∃ l1, k l1 ∧ l1.length = ls.length ∧ ∀ (j : Nat) (w : za_V), l1[j]? = some (some w) → (j = i ∧ w = v) ∨ (j ≠ i ∧ ls[j]? = some (some w) ∧ ¬ (j + 1 = i ∧ za_isL w)) := by
  obtain ⟨l1, h1, h2, h3⟩ := za_pre_spec (show za_pre ls i _ from h)
  obtain ⟨h4, h5⟩ := za_set_spec h1
  refine ⟨by omega, _, h5, by simp [h2], fun j w hj => ?_⟩
  rw [List.getElem?_set] at hj
  by_cases e : i = j
  · subst e
    simp [h4] at hj
    exact Or.inl ⟨rfl, hj.symm⟩
  · rw [if_neg e] at hj
    exact Or.inr ⟨fun q => e q.symm, h3 j w hj⟩
theorem za_st2_spec {ls : za_C} {i : Nat} {v : za_V} {k : za_C → Prop} (h : za_st2 ls i v k) : i + 1 < ls.length ∧ ∃ l1, k l1 ∧ l1.length = ls.length ∧ ∀ (j : Nat) (w : za_V), l1[j]? = some (some w) → (j = i ∧ w = v) ∨ (j ≠ i ∧ j ≠ i + 1 ∧ ls[j]? = some (some w) ∧ ¬ (j + 1 = i ∧ za_isL w)) := by
  obtain ⟨l1, h1, h2, h3⟩ := za_pre_spec (show za_pre ls i _ from h)
  obtain ⟨h4, h5⟩ := za_set_spec h1
  obtain ⟨h6, h7⟩ := za_set_spec h5
  refine ⟨by simp at h6; omega, _, h7, by simp [h2], fun j w hj => ?_⟩
  rw [List.getElem?_set] at hj
  by_cases e2 : i + 1 = j
  · subst e2
    simp at h6
    simp [h6] at hj
  · rw [if_neg e2, List.getElem?_set] at hj
    by_cases e : i = j
    · subst e
      simp [h4] at hj
      exact Or.inl ⟨rfl, hj.symm⟩
    · rw [if_neg e] at hj
      exact Or.inr ⟨fun q => e q.symm, fun q => e2 q.symm, h3 j w hj⟩
/-- the locals as the kit lists them -/
def za_lv (ad : Nat → Nat → Nat) (ls : za_C) : List (Nat × Value) := (List.range ls.length).filterMap (fun i => match ls[i]? with
  | some (some v) => some (i, za_cv ad v)
  | _ => none)
theorem za_lv_mem {ad : Nat → Nat → Nat} {ls : za_C} {i : Nat} {v : za_V} (h : ls[i]? = some (some v)) : (i, za_cv ad v) ∈ za_lv ad ls := by
  refine List.mem_filterMap.mpr ⟨i, List.mem_range.mpr (List.getElem?_eq_some_iff.mp h).1, ?_⟩
  simp [h]
theorem za_lo.at {ad : Nat → Nat → Nat} {nL : Nat} {ls : za_C} {lc : Array Slot} (h : za_lo ad nL ls lc) {i : Nat} {v : za_V} (hv : za_n ls i = some (some v)) : lc[i]? = some (.val (za_cv ad v)) := h.2.2.2 i v hv
theorem za_lo.has {ad : Nat → Nat → Nat} {nL : Nat} {ls : za_C} {lc : Array Slot} (h : za_lo ad nL ls lc) : lv_has lc nL (za_lv ad ls) := by
  refine ⟨h.2.1, h.2.2.1, fun q hq => ?_⟩
  obtain ⟨i, -, hi⟩ := List.mem_filterMap.mp hq
  split at hi
  · rename_i v hv
    cases hi
    exact h.2.2.2 i v (by rw [za_n_eq]; exact hv)
  · cases hi
theorem za_lo.st1 {ad : Nat → Nat → Nat} {nL : Nat} {ls l1 : za_C} {lc lc' : Array Slot} {i : Nat} {v : za_V} (h : za_lo ad nL ls lc) (hl : l1.length = ls.length) (hs : ∀ (j : Nat) (w : za_V), l1[j]? = some (some w) → (j = i ∧ w = v) ∨ (j ≠ i ∧ ls[j]? = some (some w) ∧ ¬ (j + 1 = i ∧ za_isL w)))
    (h' : lv_has lc' nL ((i, za_cv ad v) :: (za_lv ad ls).filter (fun q => !(q.1 == i) && !(q.1 + 1 == i && q.2.category == 2)))) : za_lo ad nL l1 lc' := by
  refine ⟨hl.trans h.1, h'.1, h'.2.1, fun j w hj => ?_⟩
  rw [za_n_eq] at hj
  rcases hs j w hj with ⟨rfl, rfl⟩ | ⟨h1, h2, h3⟩
  · exact h'.2.2 _ List.mem_cons_self
  · refine h'.2.2 (j, za_cv ad w) (List.mem_cons_of_mem _ (List.mem_filter.mpr ⟨za_lv_mem h2, ?_⟩))
    have h4 : ¬ (j + 1 = i ∧ (za_cv ad w).category = 2) := fun q => h3 ⟨q.1, za_cat2 q.2⟩
    simp only [Bool.and_eq_true, Bool.not_eq_true', beq_eq_false_iff_ne, Bool.and_eq_false_iff]
    refine ⟨h1, ?_⟩
    by_cases e : j + 1 = i
    · exact Or.inr (fun q => h4 ⟨e, q⟩)
    · exact Or.inl e
theorem za_lo.st2 {ad : Nat → Nat → Nat} {nL : Nat} {ls l1 : za_C} {lc lc' : Array Slot} {i : Nat} {v : za_V} (h : za_lo ad nL ls lc) (hl : l1.length = ls.length) (hs : ∀ (j : Nat) (w : za_V), l1[j]? = some (some w) → (j = i ∧ w = v) ∨ (j ≠ i ∧ j ≠ i + 1 ∧ ls[j]? = some (some w) ∧ ¬ (j + 1 = i ∧ za_isL w)))
    (h' : lv_has lc' nL ((i, za_cv ad v) :: (za_lv ad ls).filter (fun q => !(q.1 == i) && (!(q.1 == i + 1) && !(q.1 + 1 == i && q.2.category == 2))))) : za_lo ad nL l1 lc' := by
  refine ⟨hl.trans h.1, h'.1, h'.2.1, fun j w hj => ?_⟩
  rw [za_n_eq] at hj
  rcases hs j w hj with ⟨rfl, rfl⟩ | ⟨h1, h0, h2, h3⟩
  · exact h'.2.2 _ List.mem_cons_self
  · refine h'.2.2 (j, za_cv ad w) (List.mem_cons_of_mem _ (List.mem_filter.mpr ⟨za_lv_mem h2, ?_⟩))
    have h4 : ¬ (j + 1 = i ∧ (za_cv ad w).category = 2) := fun q => h3 ⟨q.1, za_cat2 q.2⟩
    simp only [Bool.and_eq_true, Bool.not_eq_true', beq_eq_false_iff_ne, Bool.and_eq_false_iff]
    refine ⟨h1, h0, ?_⟩
    by_cases e : j + 1 = i
    · exact Or.inr (fun q => h4 ⟨e, q⟩)
    · exact Or.inl e
theorem za_okc.st1 {cn : Nat → Nat} {ls l1 : za_C} {i : Nat} {v : za_V} (h : za_okc cn ls) (hv : za_ok cn v) (hs : ∀ (j : Nat) (w : za_V), l1[j]? = some (some w) → (j = i ∧ w = v) ∨ (j ≠ i ∧ ls[j]? = some (some w) ∧ ¬ (j + 1 = i ∧ za_isL w))) : za_okc cn l1 := by
  intro j w hj
  rw [za_n_eq] at hj
  rcases hs j w hj with ⟨rfl, rfl⟩ | ⟨-, h2, -⟩
  · exact hv
  · exact h j w (by rw [za_n_eq]; exact h2)
theorem za_okc.st2 {cn : Nat → Nat} {ls l1 : za_C} {i : Nat} {v : za_V} (h : za_okc cn ls) (hv : za_ok cn v) (hs : ∀ (j : Nat) (w : za_V), l1[j]? = some (some w) → (j = i ∧ w = v) ∨ (j ≠ i ∧ j ≠ i + 1 ∧ ls[j]? = some (some w) ∧ ¬ (j + 1 = i ∧ za_isL w))) : za_okc cn l1 := by
  intro j w hj
  rw [za_n_eq] at hj
  rcases hs j w hj with ⟨rfl, rfl⟩ | ⟨-, -, h2, -⟩
  · exact hv
  · exact h j w (by rw [za_n_eq]; exact h2)
