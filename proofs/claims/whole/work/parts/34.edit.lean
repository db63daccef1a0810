/-! more questions; the reference's edit and undo -/
section Q2
variable {s : Nat → Int32} {nt nm nc : Nat} {k_count k_fs : Int32} {k_st k_dy k_tg k_ac k_tc k_keys k_kinds k_vals k_tk : Nat → Int32}
theorem op_argumentCount (hk : WFC s nt nm nc) (hc : CK s nc k_count k_fs k_st k_dy k_tg k_ac k_tc k_keys k_kinds k_vals k_tk) (x : Int32) : ∃ r, fX8_argumentCount k_count k_ac x = some r ∧ fX9_argumentCount s x = some r := by
  have h8 := hk.1
  unfold fX8_argumentCount fX9_argumentCount
  obtain ⟨r1, hr1, hb1⟩ := e_isCall hk x
  obtain ⟨r2, hr2, hb2⟩ := e_kexists hk hc x
  rw [hr1, hr2, bn_s, bn_s]
  by_cases g : ∃ c, c < nc ∧ x = nI c
  · rw [if_neg (fun q => (isb_0 hb1).mp q g), if_neg (fun q => (isb_0 hb2).mp q g)]
    obtain ⟨c, hcn, rfl⟩ := g
    rw [e_at4, bn_s, rd_C (by omega) (by decide), rd_nI (by omega) (by decide), (hc.c c hcn).ac]
    exact ⟨_, rfl, rfl⟩
  · rw [if_pos ((isb_0 hb1).mpr g), if_pos ((isb_0 hb2).mpr g)]
    exact ⟨_, rfl, rfl⟩
theorem op_temporaryCount (hk : WFC s nt nm nc) (hc : CK s nc k_count k_fs k_st k_dy k_tg k_ac k_tc k_keys k_kinds k_vals k_tk) (x : Int32) : ∃ r, fX8_temporaryCount k_count k_tc x = some r ∧ fX9_temporaryCount s x = some r := by
  have h8 := hk.1
  unfold fX8_temporaryCount fX9_temporaryCount
  obtain ⟨r1, hr1, hb1⟩ := e_isCall hk x
  obtain ⟨r2, hr2, hb2⟩ := e_kexists hk hc x
  rw [hr1, hr2, bn_s, bn_s]
  by_cases g : ∃ c, c < nc ∧ x = nI c
  · rw [if_neg (fun q => (isb_0 hb1).mp q g), if_neg (fun q => (isb_0 hb2).mp q g)]
    obtain ⟨c, hcn, rfl⟩ := g
    rw [e_at20, bn_s, rd_C (by omega) (by decide), rd_nI (by omega) (by decide), (hc.c c hcn).tc]
    exact ⟨_, rfl, rfl⟩
  · rw [if_pos ((isb_0 hb1).mpr g), if_pos ((isb_0 hb2).mpr g)]
    exact ⟨_, rfl, rfl⟩
theorem op_argumentKind (hk : WFC s nt nm nc) (hc : CK s nc k_count k_fs k_st k_dy k_tg k_ac k_tc k_keys k_kinds k_vals k_tk) (x y : Int32) : ∃ r, fX8_argumentKind k_count k_ac k_kinds x y = some r ∧ fX9_argumentKind s x y = some r := by
  have h8 := hk.1
  unfold fX8_argumentKind fX9_argumentKind
  obtain ⟨r1, hr1, hb1⟩ := e_isArgument hk x y
  obtain ⟨r2, hr2, hb2⟩ := e_hasArgument hk hc x y
  rw [hr1, hr2, bn_s, bn_s]
  by_cases g : ∃ c i, c < nc ∧ x = nI c ∧ i < cA s c ∧ y = nI i
  · rw [if_neg (fun q => (isb_0 hb1).mp q g), if_neg (fun q => (isb_0 hb2).mp q g)]
    obtain ⟨c, i, hcn, rfl, hi, rfl⟩ := g
    have w5 := (hk.2.2 c hcn).ar'
    rw [o5, e_at rfl, bn_s, rd_C (by omega) (by omega), e_kkindOf hk hc hcn hi, bn_s]
    exact ⟨_, rfl, rfl⟩
  · rw [if_pos ((isb_0 hb1).mpr g), if_pos ((isb_0 hb2).mpr g)]
    exact ⟨_, rfl, rfl⟩
end Q2
section H1
variable {s : Nat → Int32}
theorem ixP (p k : Nat) : (467 : Int32) * nI p + nI k = nI (467 * p + k) := by
  show nI 467 * nI p + nI k = _
  rw [nI_mul, nI_add]
theorem edit_copy {p : Nat} (hp : p < 8) (past : Nat → Int32) (ch : Int32) : ∃ past', jX9_edit_56 s past (nI p) ch = some (past', nI (p + 1), ch) ∧ (∀ k, k < 467 → past' (467 * p + k) = s k) ∧ ∀ j, j < 467 * p → past' j = past j := by
  unfold jX9_edit_56
  obtain ⟨y, hy, h1, h2⟩ := inv_loop (g := fun n' (y : Nat → Int32) i => lX9_edit_58 s n' y (nI p) ch i) (N := 467) (fun i y => (∀ k, k < i → y (467 * p + k) = s k) ∧ ∀ j, j < 467 * p → y j = past j) (K := fun y => some (y, nI (p + 1), ch)) (fun n' i y hi hI => by
    obtain ⟨i1, i2⟩ := hI
    show ∃ y', lX9_edit_58 s (n' + 1) y (nI p) ch (nI i) = lX9_edit_58 s n' y' (nI p) ch (nI i + 1) ∧ (∀ k, k < i + 1 → y' (467 * p + k) = s k) ∧ ∀ j, j < 467 * p → y' j = past j
    rw [lX9_edit_58_s, if_neg (show ¬ (467 : Int32) ≤ nI i from up_i (N := 467) (by decide) hi), rd_nI hi (by decide), ixP, wr_nI (by omega) (by decide)]
    refine ⟨_, rfl, fun k hk => ?_, fun j hj => ?_⟩
    · by_cases e : k = i
      · subst e
        rw [upd_s]
      · rw [upd_n (by omega)]
        exact i1 k (by omega)
    · rw [upd_n (by omega)]
      exact i2 j hj) (fun n' y hI => by
    show lX9_edit_58 s (n' + 1) y (nI p) ch (nI 467) = some (y, nI (p + 1), ch)
    rw [lX9_edit_58_s, if_pos (by decide), nI_1]) 5000 0 past (Nat.zero_le _) (by omega) ⟨fun k h => absurd h (Nat.not_lt_zero k), fun _ _ => rfl⟩
  exact ⟨y, hy, h1, h2⟩
theorem edit_shift (past : Nat → Int32) (ch : Int32) : ∃ past', lX9_edit_17 s 5000 past (nI 8) ch 0 = jX9_edit_56 s past' (nI 7) ch ∧ ∀ j, j < 3269 → past' j = past (j + 467) := by
  obtain ⟨y, hy, h1, h2⟩ := inv_loop (g := fun n' (y : Nat → Int32) i => lX9_edit_17 s n' y (nI 8) ch i) (N := 3269) (fun i y => (∀ j, j < i → y j = past (j + 467)) ∧ ∀ j, i ≤ j → y j = past j) (K := fun y => jX9_edit_56 s y (nI 7) ch) (fun n' i y hi hI => by
    obtain ⟨i1, i2⟩ := hI
    show ∃ y', lX9_edit_17 s (n' + 1) y (nI 8) ch (nI i) = lX9_edit_17 s n' y' (nI 8) ch (nI i + 1) ∧ (∀ j, j < i + 1 → y' j = past (j + 467)) ∧ ∀ j, i + 1 ≤ j → y' j = past j
    rw [lX9_edit_17_s, if_neg (show ¬ (3269 : Int32) ≤ nI i from up_i (N := 3269) (by decide) hi), show nI i + 467 = nI (i + 467) from nI_add i 467, rd_nI (by omega) (by decide), wr_nI (by omega) (by decide)]
    refine ⟨_, rfl, fun j hj => ?_, fun j hj => ?_⟩
    · by_cases e : j = i
      · subst e
        rw [upd_s, i2 _ (by omega)]
      · rw [upd_n e]
        exact i1 j (by omega)
    · rw [upd_n (by omega)]
      exact i2 j (by omega)) (fun n' y hI => by
    show lX9_edit_17 s (n' + 1) y (nI 8) ch (nI 3269) = jX9_edit_56 s y (nI 7) ch
    rw [lX9_edit_17_s, if_pos (by decide)]
    rfl) 5000 0 past (Nat.zero_le _) (by omega) ⟨fun k h => absurd h (Nat.not_lt_zero k), fun _ _ => rfl⟩
  exact ⟨y, hy, h1⟩
/-- the j-th past state -/
def pst (past : Nat → Int32) (j k : Nat) : Int32 := past (467 * j + k)
theorem e_edit {p : Nat} (hp : p ≤ 8) (past : Nat → Int32) (ch : Int32) : ∃ past' p', fX9_edit s past (nI p) ch = some (past', nI p', -9) ∧ p' = (if p = 8 then 8 else p + 1) ∧ (∀ k, k < 467 → pst past' (p' - 1) k = s k) ∧ ∀ j k, j + 1 < p' → k < 467 → pst past' j k = pst past (if p = 8 then j + 1 else j) k := by
  unfold fX9_edit
  by_cases e : p = 8
  · subst e
    obtain ⟨p1, h1, h2⟩ := edit_shift (s := s) past (-9)
    obtain ⟨p2, h3, h4, h5⟩ := edit_copy (s := s) (p := 7) (by decide) p1 (-9)
    have h6 : lX9_edit_17 s 5000 past 8 (-9) 0 = some (p2, nI (7 + 1), -9) := h1.trans h3
    rw [show nI 8 = (8 : Int32) from rfl, if_pos rfl, h6]
    refine ⟨p2, 7 + 1, rfl, (if_pos rfl).symm, fun k hk => ?_, fun j k hj hk => ?_⟩
    · unfold pst
      rw [Nat.add_sub_cancel]
      exact h4 k hk
    · unfold pst
      rw [if_pos rfl, h5 _ (by omega), h2 _ (by omega), show 467 * (j + 1) + k = 467 * j + k + 467 by omega]
  · rw [if_neg (show ¬ nI p = (8 : Int32) from fun q => e (nI_inj (b := 8) (by omega) (by decide) q))]
    obtain ⟨p2, h3, h4, h5⟩ := edit_copy (s := s) (p := p) (by omega) past (-9)
    refine ⟨p2, p + 1, h3, by rw [if_neg e], h4, fun j k hj hk => ?_⟩
    rw [if_neg e]
    exact h5 _ (by omega)
theorem e_undo {p : Nat} (hp : p < 8) (past : Nat → Int32) (ch : Int32) : ∃ s', fX9_undo s past (nI (p + 1)) ch = some (nI p, s', nI p, -9) ∧ (∀ k, k < 467 → s' k = pst past p k) ∧ ∀ k, 467 ≤ k → s' k = s k := by
  unfold fX9_undo
  rw [if_neg (nI_ne0 (by omega) (by omega)), nI_pred]
  obtain ⟨y, hy, h1, h2⟩ := inv_loop (g := fun n' (y : Nat → Int32) i => lX9_undo_28 past n' y (nI p) (-9) i) (N := 467) (fun i y => (∀ k, k < i → y k = pst past p k) ∧ ∀ j, 467 ≤ j → y j = s j) (K := fun y => some (nI p, y, nI p, -9)) (fun n' i y hi hI => by
    obtain ⟨i1, i2⟩ := hI
    show ∃ y', lX9_undo_28 past (n' + 1) y (nI p) (-9) (nI i) = lX9_undo_28 past n' y' (nI p) (-9) (nI i + 1) ∧ (∀ k, k < i + 1 → y' k = pst past p k) ∧ ∀ j, 467 ≤ j → y' j = s j
    rw [lX9_undo_28_s, if_neg (show ¬ (467 : Int32) ≤ nI i from up_i (N := 467) (by decide) hi), ixP, rd_nI (by omega) (by decide), wr_nI hi (by decide)]
    refine ⟨_, rfl, fun k hk => ?_, fun j hj => ?_⟩
    · by_cases e : k = i
      · subst e
        rw [upd_s]
        rfl
      · rw [upd_n e]
        exact i1 k (by omega)
    · rw [upd_n (by omega)]
      exact i2 j hj) (fun n' y hI => by
    show lX9_undo_28 past (n' + 1) y (nI p) (-9) (nI 467) = some (nI p, y, nI p, -9)
    rw [lX9_undo_28_s, if_pos (by decide)]) 5000 0 s (Nat.zero_le _) (by omega) ⟨fun k h => absurd h (Nat.not_lt_zero k), fun _ _ => rfl⟩
  exact ⟨y, hy, h1, h2⟩
end H1
