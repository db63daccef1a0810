/-! loops upwards, in general -/
theorem up_i {N : Nat} (hN : N < 2 ^ 31) {i : Nat} (hi : i < N) : ¬ nI N ≤ nI i := nI_ge hi hN
theorem up_N {N : Nat} (hN : N < 2 ^ 31) : nI N ≤ nI N := nI_le (Nat.le_refl N) hN
/-- the first i below N with P, or -9 -/
def lst (P : Nat → Prop) (N : Nat) (r : Int32) : Prop := (∃ m, m < N ∧ P m ∧ (∀ j, j < m → ¬ P j) ∧ r = nI m) ∨ (r = -9 ∧ ∀ m, m < N → ¬ P m)
theorem lst_eq {P Q : Nat → Prop} {N : Nat} {r r' : Int32} (hPQ : ∀ m, m < N → (P m ↔ Q m)) (h : lst P N r) (h' : lst Q N r') : r = r' := by
  rcases h with ⟨m, h1, h2, h3, h4⟩ | ⟨h1, h2⟩ <;> rcases h' with ⟨m', g1, g2, g3, g4⟩ | ⟨g1, g2⟩
  · have : m = m' := by
      rcases Nat.lt_trichotomy m m' with z | z | z
      · exact absurd ((hPQ m h1).mp h2) (g3 m z)
      · exact z
      · exact absurd ((hPQ m' g1).mpr g2) (h3 m' z)
    rw [h4, g4, this]
  · exact absurd ((hPQ m h1).mp h2) (g2 m h1)
  · exact absurd ((hPQ m' g1).mpr g2) (h2 m' g1)
  · rw [h1, g1]
theorem lst_iff {P Q : Nat → Prop} {N : Nat} {r : Int32} (hPQ : ∀ m, m < N → (P m ↔ Q m)) (h : lst P N r) : lst Q N r := by
  rcases h with ⟨m, h1, h2, h3, h4⟩ | ⟨h1, h2⟩
  · exact Or.inl ⟨m, h1, (hPQ m h1).mp h2, fun j hj q => h3 j hj ((hPQ j (by omega)).mpr q), h4⟩
  · exact Or.inr ⟨h1, fun m hm q => h2 m hm ((hPQ m hm).mpr q)⟩
theorem nI_ne9 {m : Nat} (h : m < 2 ^ 31) : nI m ≠ -9 := fun q => nI_pos h (by rw [q]; decide)
theorem lst_none {P : Nat → Prop} {N : Nat} {r : Int32} (hN : N ≤ 2 ^ 31) (h : lst P N r) : r = -9 ↔ ∀ m, m < N → ¬ P m := by
  rcases h with ⟨m, h1, h2, h3, h4⟩ | ⟨h1, h2⟩
  · exact ⟨fun q => absurd (h4.symm.trans q) (nI_ne9 (by omega)), fun q => absurd h2 (q m h1)⟩
  · exact ⟨fun _ => h2, fun _ => h1⟩
theorem lst_loop {g : Nat → Int32 → Option Int32} {N : Nat} {P : Nat → Prop} (hs : ∀ n i, i < N → (P i → g (n + 1) (nI i) = some (nI i)) ∧ (¬ P i → g (n + 1) (nI i) = g n (nI i + 1))) (he : ∀ n, g (n + 1) (nI N) = some (-9)) : ∀ n i, i ≤ N → N - i < n → (∀ j, j < i → ¬ P j) → ∃ r, g n (nI i) = some r ∧ lst P N r := by
  intro n
  induction n with
  | zero => intro i _ h; omega
  | succ n ih =>
    intro i hi hn hj
    by_cases hlt : i < N
    · by_cases hp : P i
      · exact ⟨nI i, (hs n i hlt).1 hp, Or.inl ⟨i, hlt, hp, hj, rfl⟩⟩
      · rw [(hs n i hlt).2 hp, nI_1]
        refine ih (i + 1) hlt (by omega) (fun j hj2 => ?_)
        by_cases e : j = i
        · rw [e]; exact hp
        · exact hj j (by omega)
    · have : i = N := by omega
      subst this
      exact ⟨-9, he n, Or.inr ⟨rfl, hj⟩⟩
theorem bits_loop {g : Nat → Int32 → Int32 → Option Int32} {N : Nat} {P : Nat → Nat → Prop} (hs : ∀ n i acc, i < N → ∃ acc', g (n + 1) acc (nI i) = g n acc' (nI i + 1) ∧ ∀ k, tb acc' k = true ↔ tb acc k = true ∨ P i k) (he : ∀ n acc, g (n + 1) acc (nI N) = some acc) : ∀ n i acc, i ≤ N → N - i < n → (∀ k, tb acc k = true ↔ ∃ i', i' < i ∧ P i' k) → ∃ x, g n acc (nI i) = some x ∧ ∀ k, tb x k = true ↔ ∃ i', i' < N ∧ P i' k := by
  intro n
  induction n with
  | zero => intro i acc _ h; omega
  | succ n ih =>
    intro i acc hi hn ha
    by_cases hlt : i < N
    · obtain ⟨acc', h1, h2⟩ := hs n i acc hlt
      rw [h1, nI_1]
      refine ih (i + 1) acc' hlt (by omega) (fun k => ?_)
      rw [h2 k, ha k, ex_succ]
    · have : i = N := by omega
      subst this
      exact ⟨acc, he n acc, ha⟩
theorem tb_none {P : Nat → Nat → Prop} (k : Nat) : tb 0 k = true ↔ ∃ i', i' < 0 ∧ P i' k := by
  rw [tb_zero]
  exact ⟨fun h => (by cases h), fun ⟨_, h, _⟩ => absurd h (Nat.not_lt_zero _)⟩
theorem bits0 {g : Nat → Int32 → Int32 → Option Int32} {N : Nat} {P : Nat → Nat → Prop} (hs : ∀ n i acc, i < N → ∃ acc', g (n + 1) acc (nI i) = g n acc' (nI i + 1) ∧ ∀ k, tb acc' k = true ↔ tb acc k = true ∨ P i k) (he : ∀ n acc, g (n + 1) acc (nI N) = some acc) (hN : N < 5000) : ∃ x, g 5000 0 0 = some x ∧ ∀ k, tb x k = true ↔ ∃ i', i' < N ∧ P i' k :=
  bits_loop hs he 5000 0 0 (Nat.zero_le _) hN tb_none
theorem lst0 {g : Nat → Int32 → Option Int32} {N : Nat} {P : Nat → Prop} (hs : ∀ n i, i < N → (P i → g (n + 1) (nI i) = some (nI i)) ∧ (¬ P i → g (n + 1) (nI i) = g n (nI i + 1))) (he : ∀ n, g (n + 1) (nI N) = some (-9)) (hN : N < 5000) : ∃ r, g 5000 0 = some r ∧ lst P N r :=
  lst_loop hs he 5000 0 (Nat.zero_le _) hN (fun j hj => absurd hj (Nat.not_lt_zero j))
theorem or_loop {g : Nat → Int32 → Int32 → Option Int32} {N : Nat} {P : Nat → Prop} (hs : ∀ n i, i < N → g (n + 1) 1 (nI i) = g n 1 (nI i + 1) ∧ (P i → g (n + 1) 0 (nI i) = g n 1 (nI i + 1)) ∧ (¬ P i → g (n + 1) 0 (nI i) = g n 0 (nI i + 1))) (he : ∀ n y, g (n + 1) y (nI N) = rb y) : ∀ n i y, i ≤ N → N - i < n → isb y (∃ i', i' < i ∧ P i') → ∃ r, g n y (nI i) = some r ∧ isb r (∃ i', i' < N ∧ P i') := by
  intro n
  induction n with
  | zero => intro i y _ h; omega
  | succ n ih =>
    intro i y hi hn hy
    by_cases hlt : i < N
    · obtain ⟨h1, h2, h3⟩ := hs n i hlt
      rcases hy with ⟨rfl, hp⟩ | ⟨rfl, hp⟩
      · rw [h1, nI_1]
        exact ih (i + 1) 1 hlt (by omega) (isb_t (ex_succ.mpr (Or.inl hp)))
      · by_cases hq : P i
        · rw [h2 hq, nI_1]
          exact ih (i + 1) 1 hlt (by omega) (isb_t (ex_succ.mpr (Or.inr hq)))
        · rw [h3 hq, nI_1]
          exact ih (i + 1) 0 hlt (by omega) (isb_f (fun q => (ex_succ.mp q).elim hp hq))
    · have : i = N := by omega
      subst this
      rw [he, isb_rb hy]
      exact ⟨y, rfl, hy⟩
theorem or0 {g : Nat → Int32 → Int32 → Option Int32} {N : Nat} {P : Nat → Prop} (hs : ∀ n i, i < N → g (n + 1) 1 (nI i) = g n 1 (nI i + 1) ∧ (P i → g (n + 1) 0 (nI i) = g n 1 (nI i + 1)) ∧ (¬ P i → g (n + 1) 0 (nI i) = g n 0 (nI i + 1))) (he : ∀ n y, g (n + 1) y (nI N) = rb y) (hN : N < 5000) : ∃ r, g 5000 0 0 = some r ∧ isb r (∃ i', i' < N ∧ P i') :=
  or_loop hs he 5000 0 0 (Nat.zero_le _) hN (isb_f ex_zero)
theorem all_succ {P : Nat → Prop} {i : Nat} : (∀ t, t < i + 1 → P t) ↔ (∀ t, t < i → P t) ∧ P i := by
  constructor
  · exact fun h => ⟨fun t ht => h t (by omega), h i (by omega)⟩
  · rintro ⟨h1, h2⟩ t ht
    by_cases e : t = i
    · rw [e]; exact h2
    · exact h1 t (by omega)
theorem and_loop {g : Nat → Int32 → Int32 → Option Int32} {N : Nat} {P : Nat → Prop} (hs : ∀ n i, i < N → g (n + 1) 0 (nI i) = g n 0 (nI i + 1) ∧ (P i → g (n + 1) 1 (nI i) = g n 1 (nI i + 1)) ∧ (¬ P i → g (n + 1) 1 (nI i) = g n 0 (nI i + 1))) (he : ∀ n y, g (n + 1) y (nI N) = rb y) : ∀ n i y, i ≤ N → N - i < n → isb y (∀ i', i' < i → P i') → ∃ r, g n y (nI i) = some r ∧ isb r (∀ i', i' < N → P i') := by
  intro n
  induction n with
  | zero => intro i y _ h; omega
  | succ n ih =>
    intro i y hi hn hy
    by_cases hlt : i < N
    · obtain ⟨h1, h2, h3⟩ := hs n i hlt
      rcases hy with ⟨rfl, hp⟩ | ⟨rfl, hp⟩
      · by_cases hq : P i
        · rw [h2 hq, nI_1]
          exact ih (i + 1) 1 hlt (by omega) (isb_t (all_succ.mpr ⟨hp, hq⟩))
        · rw [h3 hq, nI_1]
          exact ih (i + 1) 0 hlt (by omega) (isb_f (fun q => hq (all_succ.mp q).2))
      · rw [h1, nI_1]
        exact ih (i + 1) 0 hlt (by omega) (isb_f (fun q => hp (all_succ.mp q).1))
    · have : i = N := by omega
      subst this
      rw [he, isb_rb hy]
      exact ⟨y, rfl, hy⟩
theorem and0 {g : Nat → Int32 → Int32 → Option Int32} {N : Nat} {P : Nat → Prop} (hs : ∀ n i, i < N → g (n + 1) 0 (nI i) = g n 0 (nI i + 1) ∧ (P i → g (n + 1) 1 (nI i) = g n 1 (nI i + 1)) ∧ (¬ P i → g (n + 1) 1 (nI i) = g n 0 (nI i + 1))) (he : ∀ n y, g (n + 1) y (nI N) = rb y) (hN : N < 5000) : ∃ r, g 5000 1 0 = some r ∧ isb r (∀ i', i' < N → P i') :=
  and_loop hs he 5000 0 1 (Nat.zero_le _) hN (isb_t (fun i' h => absurd h (Nat.not_lt_zero i')))
/-- a search that ends early: the first i with not P ends with e1, the end with e2 -/
theorem all_loop {g : Nat → Int32 → Option Int32} {N : Nat} {P : Nat → Prop} {e1 e2 : Int32} (hs : ∀ n i, i < N → (P i → g (n + 1) (nI i) = g n (nI i + 1)) ∧ (¬ P i → g (n + 1) (nI i) = some e1)) (he : ∀ n, g (n + 1) (nI N) = some e2) : ∀ n i, i ≤ N → N - i < n → ∃ r, g n (nI i) = some r ∧ ((r = e2 ∧ ∀ t, i ≤ t → t < N → P t) ∨ (r = e1 ∧ ∃ t, i ≤ t ∧ t < N ∧ ¬ P t)) := by
  intro n
  induction n with
  | zero => intro i _ h; omega
  | succ n ih =>
    intro i hi hn
    by_cases hlt : i < N
    · obtain ⟨h1, h2⟩ := hs n i hlt
      by_cases hq : P i
      · rw [h1 hq, nI_1]
        obtain ⟨r, h3, h4⟩ := ih (i + 1) hlt (by omega)
        refine ⟨r, h3, ?_⟩
        rcases h4 with ⟨h5, h6⟩ | ⟨h5, t, h6, h7, h8⟩
        · exact Or.inl ⟨h5, fun t ht1 ht2 => by
            by_cases e : t = i
            · rw [e]; exact hq
            · exact h6 t (by omega) ht2⟩
        · exact Or.inr ⟨h5, t, by omega, h7, h8⟩
      · exact ⟨e1, h2 hq, Or.inr ⟨rfl, i, Nat.le_refl i, hlt, hq⟩⟩
    · have : i = N := by omega
      subst this
      exact ⟨e2, he n, Or.inl ⟨rfl, fun t h1 h2 => absurd h2 (by omega)⟩⟩
