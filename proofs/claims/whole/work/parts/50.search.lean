/-! the least of the sets with the fewest members, among those that are valid -/
def MinR (V : Nat → Prop) (C : Nat → Nat) (b : Nat) : Prop := V b ∧ ∀ i, V i → C b ≤ C i ∧ (i < b → C b < C i)
theorem MinR_uniq {V V' : Nat → Prop} {C : Nat → Nat} {b b' : Nat} (hVV : ∀ i, V i ↔ V' i) (h : MinR V C b) (h' : MinR V' C b') : b = b' := by
  have h1 := h.2 b' ((hVV b').mpr h'.1)
  have h2 := h'.2 b ((hVV b).mp h.1)
  rcases Nat.lt_trichotomy b b' with z | z | z
  · have := h2.2 z
    omega
  · exact z
  · have := h1.2 z
    omega
theorem min_from {α : Type} {K : Int32 → Option α} {g : Nat → Int32 → Int32 → Option α} {V : Nat → Prop} {C : Nat → Nat} {N D : Nat} (hN : N < 5000) (hD : V D) (hV : ∀ i, V i → i < N) (hT : ∀ i, V i → C D ≤ C i → i = D) (hs : ∀ n i b, i < N → V b → (V i ∧ C i < C b → g (n + 1) (nI b) (nI i) = g n (nI i) (nI i + 1)) ∧ (¬ (V i ∧ C i < C b) → g (n + 1) (nI b) (nI i) = g n (nI b) (nI i + 1))) (he : ∀ n b, g (n + 1) (nI b) (nI N) = K (nI b)) : ∃ b, g 5000 (nI D) 0 = K (nI b) ∧ MinR V C b := by
  have key : ∀ n i b, i ≤ N → N - i < n → V b → (∀ j, j < i → V j → C b ≤ C j) → (b = D ∨ (b < i ∧ ∀ j, j < b → V j → C b < C j)) → ∃ b', g n (nI b) (nI i) = K (nI b') ∧ MinR V C b' := by
    intro n
    induction n with
    | zero => intro i b _ h; omega
    | succ n ih =>
      intro i b hi hn h1 h2 h3
      by_cases hlt : i < N
      · by_cases q : V i ∧ C i < C b
        · rw [(hs n i b hlt h1).1 q, nI_1]
          exact ih (i + 1) i (by omega) (by omega) q.1 (fun j hj hv => by
            by_cases e : j = i
            · rw [e]; exact Nat.le_refl _
            · have := h2 j (by omega) hv
              omega) (Or.inr ⟨by omega, fun j hj hv => by
              have := h2 j hj hv
              omega⟩)
        · rw [(hs n i b hlt h1).2 q, nI_1]
          exact ih (i + 1) b (by omega) (by omega) h1 (fun j hj hv => by
            by_cases e : j = i
            · subst e
              exact Nat.le_of_not_lt (fun z => q ⟨hv, z⟩)
            · exact h2 j (by omega) hv) (h3.elim Or.inl (fun z => Or.inr ⟨by omega, z.2⟩))
      · have : i = N := by omega
        subst this
        refine ⟨b, he n b, h1, fun j hv => ⟨h2 j (hV j hv) hv, fun hj => ?_⟩⟩
        rcases h3 with rfl | ⟨_, h3⟩
        · have h4 := h2 j (hV j hv) hv
          rcases Nat.lt_or_ge (C b) (C j) with z | z
          · exact z
          · have := hT j hv h4
            omega
        · exact h3 j hj hv
  exact key 5000 0 D (Nat.zero_le _) (by omega) hD (fun j hj => absurd hj (Nat.not_lt_zero j)) (Or.inl rfl)
theorem min_none {g : Nat → Int32 → Int32 → Option Int32} {V : Nat → Prop} {C : Nat → Nat} {N D : Nat} (hN : N < 5000) (hD : V D) (hV : ∀ i, V i → i < N) (h0 : ∀ n i, i < N → (V i → g (n + 1) (-9) (nI i) = g n (nI i) (nI i + 1)) ∧ (¬ V i → g (n + 1) (-9) (nI i) = g n (-9) (nI i + 1))) (hs : ∀ n i b, i < N → V b → (V i ∧ C i < C b → g (n + 1) (nI b) (nI i) = g n (nI i) (nI i + 1)) ∧ (¬ (V i ∧ C i < C b) → g (n + 1) (nI b) (nI i) = g n (nI b) (nI i + 1))) (he : ∀ n b, g (n + 1) (nI b) (nI N) = some (nI b)) : ∃ b, g 5000 (-9) 0 = some (nI b) ∧ MinR V C b := by
  have key : ∀ n i b, i ≤ N → N - i < n → V b → (∀ j, j < i → V j → C b ≤ C j ∧ (j < b → C b < C j)) → b < i → ∃ b', g n (nI b) (nI i) = some (nI b') ∧ MinR V C b' := by
    intro n
    induction n with
    | zero => intro i b _ h; omega
    | succ n ih =>
      intro i b hi hn h1 h2 h3
      by_cases hlt : i < N
      · by_cases q : V i ∧ C i < C b
        · rw [(hs n i b hlt h1).1 q, nI_1]
          exact ih (i + 1) i (by omega) (by omega) q.1 (fun j hj hv => by
            by_cases e : j = i
            · rw [e]; exact ⟨Nat.le_refl _, fun z => absurd z (Nat.lt_irrefl _)⟩
            · have := (h2 j (by omega) hv).1
              exact ⟨by omega, fun _ => by omega⟩) (by omega)
        · rw [(hs n i b hlt h1).2 q, nI_1]
          exact ih (i + 1) b (by omega) (by omega) h1 (fun j hj hv => by
            by_cases e : j = i
            · subst e
              exact ⟨Nat.le_of_not_lt (fun z => q ⟨hv, z⟩), fun z => absurd z (by omega)⟩
            · exact h2 j (by omega) hv) (by omega)
      · have : i = N := by omega
        subst this
        exact ⟨b, he n b, h1, fun j hv => h2 j (hV j hv) hv⟩
  have key0 : ∀ n i, i ≤ N → N - i < n → (∀ j, j < i → ¬ V j) → ∃ b', g n (-9) (nI i) = some (nI b') ∧ MinR V C b' := by
    intro n
    induction n with
    | zero => intro i _ h; omega
    | succ n ih =>
      intro i hi hn h1
      by_cases hlt : i < N
      · by_cases q : V i
        · rw [(h0 n i hlt).1 q, nI_1]
          exact key n (i + 1) i (by omega) (by omega) q (fun j hj hv => by
            by_cases e : j = i
            · rw [e]; exact ⟨Nat.le_refl _, fun z => absurd z (Nat.lt_irrefl _)⟩
            · exact absurd hv (h1 j (by omega))) (by omega)
        · rw [(h0 n i hlt).2 q, nI_1]
          exact ih (i + 1) (by omega) (by omega) (fun j hj => by
            by_cases e : j = i
            · rw [e]; exact q
            · exact h1 j (by omega))
      · exact absurd hD (h1 D (by have := hV D hD; omega))
  exact key0 5000 0 (Nat.zero_le _) (by omega) (fun j hj => absurd hj (Nat.not_lt_zero j))
/-- a set of small numbers is a small number -/
theorem small {x : Int32} {n : Nat} (hn : n ≤ 16) (h : ∀ k, tb x k = true → k < n) : ∃ a, a < 2 ^ n ∧ x = nI a := by
  have hx : x.toBitVec.toNat < 2 ^ n := by
    refine Nat.lt_pow_two_of_testBit _ (fun i hi => ?_)
    have : ¬ tb x i = true := fun q => absurd (h i q) (by omega)
    unfold tb at this
    rw [BitVec.getLsbD] at this
    exact Bool.eq_false_iff.mpr this
  refine ⟨x.toBitVec.toNat, hx, ?_⟩
  apply Int32.toBitVec_inj.mp
  rw [nI_bv, BitVec.ofNat_toNat, BitVec.setWidth_eq]
theorem lt_two {n a : Nat} (hn : n ≤ 16) (h : a < 2 ^ n) : a < 65536 := Nat.lt_of_lt_of_le h (Nat.pow_le_pow_right (by decide) hn)
theorem tb_small {a n : Nat} (hn : n ≤ 16) (h : a < 2 ^ n) {k : Nat} (hk : tb (nI a) k = true) : k < n := by
  have h2 := lt_two hn h
  rw [tb_nI (by omega)] at hk
  rcases Nat.lt_or_ge k n with g | g
  · exact g
  · rw [Nat.testBit_lt_two_pow (Nat.lt_of_lt_of_le h (Nat.pow_le_pow_right (by decide) g))] at hk
    cases hk
theorem sub_le {a b : Nat} (ha : a < 2 ^ 31) (hb : b < 2 ^ 31) (h : ∀ k, tb (nI a) k = true → tb (nI b) k = true) : a ≤ b := by
  have : a &&& b = a := by
    apply Nat.eq_of_testBit_eq
    intro i
    rw [Nat.testBit_and]
    have := h i
    rw [tb_nI ha, tb_nI hb] at this
    cases g : a.testBit i
    · rfl
    · rw [this g]
      rfl
  rw [← this]
  exact Nat.and_le_right
/-- a part of a set with as many members is the set -/
theorem sub_eq {a b : Nat} (ha : a < 65536) (hb : b < 65536) (h : ∀ k, tb (nI a) k = true → tb (nI b) k = true) (hc : cnt (nI b) 16 ≤ cnt (nI a) 16) : a = b := by
  have e : nI a = nI b := eq_bits (fun k => ⟨h k, fun hk => Classical.byContradiction (fun q => by
    have := cnt_lt h (N := 16) (k := k) (tb_small (n := 16) (by decide) hb hk) hk q
    omega)⟩)
  exact nI_inj (by omega) (by omega) e
