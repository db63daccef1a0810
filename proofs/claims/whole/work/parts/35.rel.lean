/-! the relation of the present state and of the past ones -/
def RM (s : Nat → Int32) (x : MS) : Prop := (∀ k, 467 ≤ k → s k = 0) ∧ ∃ nt nm nc, WFT s nt ∧ WFM s nt nm ∧ WFC s nt nm nc ∧ CT s nt x.1 x.2.1 x.2.2.1 ∧ CMt s nm x.2.2.2.1 x.2.2.2.2.1 x.2.2.2.2.2.1 x.2.2.2.2.2.2.1 x.2.2.2.2.2.2.2.1 x.2.2.2.2.2.2.2.2.1 ∧ CK s nc x.2.2.2.2.2.2.2.2.2.1 x.2.2.2.2.2.2.2.2.2.2.1 x.2.2.2.2.2.2.2.2.2.2.2.1 x.2.2.2.2.2.2.2.2.2.2.2.2.1 x.2.2.2.2.2.2.2.2.2.2.2.2.2.1 x.2.2.2.2.2.2.2.2.2.2.2.2.2.2.1 x.2.2.2.2.2.2.2.2.2.2.2.2.2.2.2.1 x.2.2.2.2.2.2.2.2.2.2.2.2.2.2.2.2.1 x.2.2.2.2.2.2.2.2.2.2.2.2.2.2.2.2.2.1 x.2.2.2.2.2.2.2.2.2.2.2.2.2.2.2.2.2.2.1 x.2.2.2.2.2.2.2.2.2.2.2.2.2.2.2.2.2.2.2.1
/-- p past states, the next place q -/
def HR (past : Nat → Int32) (p q : Nat) (hs : Nat → MS) : Prop := p ≤ 8 ∧ q < 8 ∧ ∀ j, j < p → ∃ sp : Nat → Int32, (∀ k, k < 467 → pst past j k = sp k) ∧ RM sp (hs ((q + 8 - p + j) % 8))
theorem hr_edit {past past' s : Nat → Int32} {p p' q : Nat} {hs hs' : Nat → MS} (h : HR past p q hs) (hp' : p' = (if p = 8 then 8 else p + 1)) (h1 : ∀ k, k < 467 → pst past' (p' - 1) k = s k) (h2 : ∀ j k, j + 1 < p' → k < 467 → pst past' j k = pst past (if p = 8 then j + 1 else j) k) (h3 : RM s (hs' q)) (h4 : ∀ k, k ≠ q → hs' k = hs k) : HR past' p' ((q + 1) % 8) hs' := by
  obtain ⟨a, b, c⟩ := h
  refine ⟨?_, by omega, fun j hj => ?_⟩
  · rw [hp']
    split <;> omega
  · by_cases e : j = p' - 1
    · refine ⟨s, fun k hk => by rw [e]; exact h1 k hk, ?_⟩
      have hq : ((q + 1) % 8 + 8 - p' + j) % 8 = q := by
        have : p' ≤ 8 := by rw [hp']; split <;> omega
        omega
      rw [hq]
      exact h3
    · by_cases e8 : p = 8
      · rw [if_pos e8] at hp'
        obtain ⟨sp, s1, s2⟩ := c (j + 1) (by omega)
        refine ⟨sp, fun k hk => ?_, ?_⟩
        · rw [h2 j k (by omega) hk, if_pos e8]
          exact s1 k hk
        · have hi : ((q + 1) % 8 + 8 - p' + j) % 8 = (q + 8 - p + (j + 1)) % 8 := by omega
          rw [hi, h4 _ (by omega)]
          exact s2
      · rw [if_neg e8] at hp'
        obtain ⟨sp, s1, s2⟩ := c j (by omega)
        refine ⟨sp, fun k hk => ?_, ?_⟩
        · rw [h2 j k (by omega) hk, if_neg e8]
          exact s1 k hk
        · have hi : ((q + 1) % 8 + 8 - p' + j) % 8 = (q + 8 - p + j) % 8 := by omega
          rw [hi, h4 _ (by omega)]
          exact s2
theorem hr_undo {past s s' : Nat → Int32} {p q : Nat} {hs : Nat → MS} {x : MS} (h : HR past (p + 1) q hs) (hs0 : RM s x) (h1 : ∀ k, k < 467 → s' k = pst past p k) (h2 : ∀ k, 467 ≤ k → s' k = s k) : RM s' (hs ((q + 7) % 8)) ∧ HR past p ((q + 7) % 8) hs := by
  obtain ⟨a, b, c⟩ := h
  constructor
  · obtain ⟨sp, s1, s2⟩ := c p (by omega)
    have hi : (q + 8 - (p + 1) + p) % 8 = (q + 7) % 8 := by omega
    rw [hi] at s2
    have e : s' = sp := by
      funext k
      by_cases g : k < 467
      · rw [h1 k g, s1 k g]
      · rw [h2 k (by omega), hs0.1 k (by omega), s2.1 k (by omega)]
    rw [e]
    exact s2
  · refine ⟨by omega, by omega, fun j hj => ?_⟩
    obtain ⟨sp, s1, s2⟩ := c j (by omega)
    have hi : (q + 8 - (p + 1) + j) % 8 = ((q + 7) % 8 + 8 - p + j) % 8 := by omega
    rw [hi] at s2
    exact ⟨sp, s1, s2⟩
theorem hr_new (past : Nat → Int32) (hs : Nat → MS) : HR past 0 0 hs := ⟨by decide, by decide, fun j h => absurd h (Nat.not_lt_zero j)⟩
theorem e_next {q : Nat} (hq : q < 8) : (nI q + 1) - (nI q + 1) / 8 * 8 = nI ((q + 1) % 8) := by
  rw [nI_1]
  exact pk_rem (a := q + 1) (d := 8) (by omega) (by decide) (by decide)
theorem e_prev {q : Nat} (hq : q < 8) : (nI q + 8 - 1) - (nI q + 8 - 1) / 8 * 8 = nI ((q + 7) % 8) := by
  have : nI q + 8 - 1 = nI (q + 7) := by
    rw [show nI q + 8 = nI (q + 8) from nI_add q 8]
    exact nI_pred (q + 7)
  rw [this]
  exact pk_rem (a := q + 7) (d := 8) (by omega) (by decide) (by decide)
theorem e_count {p : Nat} (hp : p ≤ 8) : (if (8 : Int32) < nI p + 1 then 8 else nI p + 1) = nI (if p = 8 then 8 else p + 1) := by
  rw [nI_1]
  by_cases e : p = 8
  · subst e
    rw [if_pos (show (8 : Int32) < nI (8 + 1) by decide), if_pos rfl]
    rfl
  · rw [if_neg (show ¬ (8 : Int32) < nI (p + 1) from nI_nlt (a := 8) (b := p + 1) (by omega) (by decide)), if_neg e]
