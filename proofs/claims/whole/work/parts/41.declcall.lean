/-! declareCall -/
theorem bn10_s {α a0 a1 a2 a3 a4 a5 a6 a7 a8 a9 : Type} {x0 : a0} {x1 : a1} {x2 : a2} {x3 : a3} {x4 : a4} {x5 : a5} {x6 : a6} {x7 : a7} {x8 : a8} {x9 : a9} {k : a0 → a1 → a2 → a3 → a4 → a5 → a6 → a7 → a8 → a9 → Option α} : bn10 (some (x0, x1, x2, x3, x4, x5, x6, x7, x8, x9)) k = k x0 x1 x2 x3 x4 x5 x6 x7 x8 x9 := rfl
theorem e_isSignature (n a : Int32) : ∃ r, fX8_isSignature n a = some r ∧ isb r ((0 ≤ n ∧ n ≤ 5) ∧ (0 ≤ a ∧ a ≤ 5)) := by
  unfold fX8_isSignature
  by_cases g1 : n < 0
  · rw [if_pos g1]
    exact ⟨0, rfl, isb_f (fun q => Int32.not_le.mpr g1 q.1.1)⟩
  · rw [if_neg g1]
    by_cases g2 : 5 < n
    · rw [if_pos g2]
      exact ⟨0, rfl, isb_f (fun q => Int32.not_le.mpr g2 q.1.2)⟩
    · rw [if_neg g2]
      by_cases g3 : a < 0
      · rw [if_pos g3]
        exact ⟨0, rfl, isb_f (fun q => Int32.not_le.mpr g3 q.2.1)⟩
      · rw [if_neg g3]
        by_cases g4 : 5 < a
        · rw [if_pos g4]
          exact ⟨0, rfl, isb_f (fun q => Int32.not_le.mpr g4 q.2.2)⟩
        · rw [if_neg g4]
          exact ⟨1, rfl, isb_t ⟨⟨Int32.not_lt.mp g1, Int32.not_lt.mp g2⟩, Int32.not_lt.mp g3, Int32.not_lt.mp g4⟩⟩
section DC
variable {s : Nat → Int32} {nt nm nc : Nat} {t_count t_ifs : Int32} {t_sup : Nat → Int32} {m_count : Int32} {m_type m_name m_arity m_keys m_defs : Nat → Int32} {k_count k_fs : Int32} {k_st k_dy k_tg k_ac k_tc k_keys k_kinds k_vals k_tk k_nk k_nv : Nat → Int32}
/-- what a call's declaration makes of the state -/
def NC (s s' : Nat → Int32) (nc st dy g a : Nat) : Prop := (∀ j, j ≠ 234 → (j < 235 + 29 * nc ∨ 235 + 29 * nc + 29 ≤ j) → s' j = s j) ∧ s' 234 = nI (nc + 1) ∧ rC s' nc 0 = nI st ∧ rC s' nc 1 = nI dy ∧ rC s' nc 2 = nI g ∧ rC s' nc 3 = 0 ∧ rC s' nc 4 = nI a ∧ rC s' nc 20 = 0 ∧ (∀ i, i < 5 → rC s' nc (5 + i) = 0) ∧ (∀ i, i < 5 → rC s' nc (10 + i) = 0) ∧ (∀ i, i < a → rC s' nc (15 + i) = rM s g (3 + i))
theorem e_declCall9 (hk : WFC s nt nm nc) (hnc : nc < 8) (st dy : Nat) {g a : Nat} (hg : g < 16) (ha : a ≤ 5) (past : Nat → Int32) (p ch : Int32) : ∃ s', lX9_declareCall_110 5000 s past p ch (nI st) (nI dy) (nI a) (nI g) (nI nc) 0 = some (nI nc, s', past, p, ch) ∧ NC s s' nc st dy g a := by
  obtain ⟨y, hy, y1, y2⟩ := inv_loop (g := fun n' (y : Nat → Int32) i => lX9_declareCall_110 n' y past p ch (nI st) (nI dy) (nI a) (nI g) (nI nc) i) (N := 29) (fun i y => (∀ j, (j < 235 + 29 * nc ∨ 235 + 29 * nc + 29 ≤ j) → y j = s j) ∧ ∀ w, w < i → rC y nc w = 0) (K := fun y => lX9_declareCall_194 5000 (upd (upd (upd (upd y (235 + 29 * nc + 0) (nI st)) (235 + 29 * nc + 1) (nI dy)) (235 + 29 * nc + 2) (nI g)) (235 + 29 * nc + 4) (nI a)) past p ch (nI a) (nI g) (nI nc) 0) (fun n' i y hi hI => by
    obtain ⟨i1, i2⟩ := hI
    show ∃ y', lX9_declareCall_110 (n' + 1) y past p ch (nI st) (nI dy) (nI a) (nI g) (nI nc) (nI i) = lX9_declareCall_110 n' y' past p ch (nI st) (nI dy) (nI a) (nI g) (nI nc) (nI i + 1) ∧ (∀ j, (j < 235 + 29 * nc ∨ 235 + 29 * nc + 29 ≤ j) → y' j = s j) ∧ ∀ w, w < i + 1 → rC y' nc w = 0
    rw [lX9_declareCall_110_s, if_neg (show ¬ (29 : Int32) ≤ nI i from up_i (N := 29) (by decide) hi), e_at rfl, bn_s, wr_nI (by omega) (by decide)]
    refine ⟨_, rfl, fun j hj => ?_, fun w hw => ?_⟩
    · rw [upd_n (by omega)]
      exact i1 j hj
    · unfold rC
      by_cases e : w = i
      · subst e
        rw [upd_s]
      · rw [upd_n (by omega)]
        exact i2 w (by omega)) (fun n' y hI => by
    show lX9_declareCall_110 (n' + 1) y past p ch (nI st) (nI dy) (nI a) (nI g) (nI nc) (nI 29) = _
    rw [lX9_declareCall_110_s, if_pos (by decide), e_at0, bn_s, wr_nI (by omega) (by decide), e_at1, bn_s, wr_nI (by omega) (by decide), e_at2, bn_s, wr_nI (by omega) (by decide), e_at4, bn_s, wr_nI (by omega) (by decide)]) 5000 0 s (Nat.zero_le _) (by omega) ⟨fun j _ => rfl, fun w h => absurd h (Nat.not_lt_zero w)⟩
  have hy : lX9_declareCall_110 5000 s past p ch (nI st) (nI dy) (nI a) (nI g) (nI nc) 0 = lX9_declareCall_194 5000 (upd (upd (upd (upd y (235 + 29 * nc + 0) (nI st)) (235 + 29 * nc + 1) (nI dy)) (235 + 29 * nc + 2) (nI g)) (235 + 29 * nc + 4) (nI a)) past p ch (nI a) (nI g) (nI nc) 0 := hy
  rw [hy]
  generalize hu : upd (upd (upd (upd y (235 + 29 * nc + 0) (nI st)) (235 + 29 * nc + 1) (nI dy)) (235 + 29 * nc + 2) (nI g)) (235 + 29 * nc + 4) (nI a) = u
  have u1 : ∀ j, (j < 235 + 29 * nc ∨ 235 + 29 * nc + 29 ≤ j) → u j = s j := fun j hj => by
    rw [← hu, upd_n (by omega), upd_n (by omega), upd_n (by omega), upd_n (by omega)]
    exact y1 j hj
  have u2 : ∀ w, w < 29 → w ≠ 0 → w ≠ 1 → w ≠ 2 → w ≠ 4 → rC u nc w = 0 := fun w h h0 h1 h2 h4 => by
    rw [← hu]
    unfold rC
    rw [upd_n (by omega), upd_n (by omega), upd_n (by omega), upd_n (by omega)]
    exact y2 w h
  have c0 : rC u nc 0 = nI st := by
    rw [← hu]
    unfold rC
    rw [upd_n (by omega), upd_n (by omega), upd_n (by omega), upd_s]
  have c1 : rC u nc 1 = nI dy := by
    rw [← hu]
    unfold rC
    rw [upd_n (by omega), upd_n (by omega), upd_s]
  have c2 : rC u nc 2 = nI g := by
    rw [← hu]
    unfold rC
    rw [upd_n (by omega), upd_s]
  have c4 : rC u nc 4 = nI a := by
    rw [← hu]
    unfold rC
    rw [upd_s]
  clear hu hy
  obtain ⟨v, hv, v1, v2⟩ := inv_loop (g := fun n' (v : Nat → Int32) i => lX9_declareCall_194 n' v past p ch (nI a) (nI g) (nI nc) i) (N := a) (fun i v => (∀ j, (j < 235 + 29 * nc + 15 ∨ 235 + 29 * nc + 20 ≤ j) → v j = u j) ∧ ∀ w, w < i → rC v nc (15 + w) = rM s g (3 + w)) (K := fun v => some (nI nc, upd v 234 (nI (nc + 1)), past, p, ch)) (fun n' i v hi hI => by
    obtain ⟨i1, i2⟩ := hI
    show ∃ v', lX9_declareCall_194 (n' + 1) v past p ch (nI a) (nI g) (nI nc) (nI i) = lX9_declareCall_194 n' v' past p ch (nI a) (nI g) (nI nc) (nI i + 1) ∧ (∀ j, (j < 235 + 29 * nc + 15 ∨ 235 + 29 * nc + 20 ≤ j) → v' j = u j) ∧ ∀ w, w < i + 1 → rC v' nc (15 + w) = rM s g (3 + w)
    rw [lX9_declareCall_194_s, if_neg (up_i (by omega) hi), o15, e_at rfl, bn_s, o3, e_of (w := 3 + i) hg (by omega) rfl, bn_s, wr_nI (by omega) (by decide)]
    refine ⟨_, rfl, fun j hj => ?_, fun w hw => ?_⟩
    · rw [upd_n (by omega)]
      exact i1 j hj
    · unfold rC
      by_cases e : w = i
      · subst e
        rw [upd_s]
        unfold rM
        rw [i1 _ (by omega), u1 _ (by omega)]
      · rw [upd_n (by omega)]
        exact i2 w (by omega)) (fun n' v hI => by
    obtain ⟨i1, i2⟩ := hI
    show lX9_declareCall_194 (n' + 1) v past p ch (nI a) (nI g) (nI nc) (nI a) = some (nI nc, upd v 234 (nI (nc + 1)), past, p, ch)
    rw [lX9_declareCall_194_s, if_pos (up_N (by omega)), rd_l234, i1 234 (by omega), u1 234 (by omega), hk.2.1, nI_1, show (234 : Int32) = nI 234 from rfl, wr_nI (by decide) (by decide)]) 5000 0 u (Nat.zero_le _) (by omega) ⟨fun j _ => rfl, fun w h => absurd h (Nat.not_lt_zero w)⟩
  refine ⟨_, hv, fun j h1 h2 => ?_, upd_s, ?_, ?_, ?_, ?_, ?_, ?_, fun i hi => ?_, fun i hi => ?_, fun i hi => ?_⟩
  · rw [upd_n h1, v1 j (by omega), u1 j h2]
  · unfold rC
    rw [upd_n (by omega), v1 _ (by omega)]
    exact c0
  · unfold rC
    rw [upd_n (by omega), v1 _ (by omega)]
    exact c1
  · unfold rC
    rw [upd_n (by omega), v1 _ (by omega)]
    exact c2
  · unfold rC
    rw [upd_n (by omega), v1 _ (by omega)]
    exact u2 3 (by omega) (by omega) (by omega) (by omega) (by omega)
  · unfold rC
    rw [upd_n (by omega), v1 _ (by omega)]
    exact c4
  · unfold rC
    rw [upd_n (by omega), v1 _ (by omega)]
    exact u2 20 (by omega) (by omega) (by omega) (by omega) (by omega)
  · unfold rC
    rw [upd_n (by omega), v1 _ (by omega)]
    exact u2 (5 + i) (by omega) (by omega) (by omega) (by omega) (by omega)
  · unfold rC
    rw [upd_n (by omega), v1 _ (by omega)]
    exact u2 (10 + i) (by omega) (by omega) (by omega) (by omega) (by omega)
  · unfold rC
    rw [upd_n (by omega)]
    exact v2 i hi
theorem e_declCall8 (hm : WFM s nt nm) (cm : CMt s nm m_count m_type m_name m_arity m_keys m_defs) (hnc : nc < 8) (st dy : Nat) {g : Nat} (hg : g < nm) : ∃ keys' kinds' vals', fX0_add (nI nc) k_st k_dy k_tg k_ac k_tc k_keys k_kinds k_vals m_arity m_keys (nI st) (nI dy) (nI g) = some (nI nc, nI (nc + 1), upd k_st nc (nI st), upd k_dy nc (nI dy), upd k_tg nc (nI g), upd k_ac nc (nI (nA s g)), upd k_tc nc 0, keys', kinds', vals') ∧ (∀ j, j < nc * 5 → keys' j = k_keys j ∧ kinds' j = k_kinds j ∧ vals' j = k_vals j) ∧ ∀ i, i < nA s g → keys' (nc * 5 + i) = rM s g (3 + i) ∧ kinds' (nc * 5 + i) = 0 ∧ vals' (nc * 5 + i) = 0 := by
  have h16 := hm.1
  obtain ⟨-, -, hA, hA5, -⟩ := hm.2.2 g hg
  have hAr : m_arity g = nI (nA s g) := (cm.2 g hg).2.2.1.trans hA
  unfold fX0_add
  rw [wr_nI hnc (by decide), wr_nI hnc (by decide), wr_nI hnc (by decide), rd_nI (by omega) (by decide), hAr, wr_nI hnc (by decide), wr_nI hnc (by decide)]
  obtain ⟨y, hy, y1, y2⟩ := inv_loop (g := fun n' (y : (Nat → Int32) × (Nat → Int32) × (Nat → Int32)) i => lX0_add_55 m_arity m_keys n' (nI nc) (upd k_st nc (nI st)) (upd k_dy nc (nI dy)) (upd k_tg nc (nI g)) (upd k_ac nc (nI (nA s g))) (upd k_tc nc 0) y.1 y.2.1 y.2.2 (nI g) (nI nc) i) (N := nA s g) (fun i y => (∀ j, j < nc * 5 → y.1 j = k_keys j ∧ y.2.1 j = k_kinds j ∧ y.2.2 j = k_vals j) ∧ ∀ w, w < i → y.1 (nc * 5 + w) = rM s g (3 + w) ∧ y.2.1 (nc * 5 + w) = 0 ∧ y.2.2 (nc * 5 + w) = 0) (K := fun y => some (nI nc, nI (nc + 1), upd k_st nc (nI st), upd k_dy nc (nI dy), upd k_tg nc (nI g), upd k_ac nc (nI (nA s g)), upd k_tc nc 0, y.1, y.2.1, y.2.2)) (fun n' i y hi hI => by
    obtain ⟨i1, i2⟩ := hI
    obtain ⟨ya, yb, yc⟩ := y
    show ∃ y' : (Nat → Int32) × (Nat → Int32) × (Nat → Int32), lX0_add_55 m_arity m_keys (n' + 1) (nI nc) (upd k_st nc (nI st)) (upd k_dy nc (nI dy)) (upd k_tg nc (nI g)) (upd k_ac nc (nI (nA s g))) (upd k_tc nc 0) ya yb yc (nI g) (nI nc) (nI i) = lX0_add_55 m_arity m_keys n' (nI nc) (upd k_st nc (nI st)) (upd k_dy nc (nI dy)) (upd k_tg nc (nI g)) (upd k_ac nc (nI (nA s g))) (upd k_tc nc 0) y'.1 y'.2.1 y'.2.2 (nI g) (nI nc) (nI i + 1) ∧ (∀ j, j < nc * 5 → y'.1 j = k_keys j ∧ y'.2.1 j = k_kinds j ∧ y'.2.2 j = k_vals j) ∧ ∀ w, w < i + 1 → y'.1 (nc * 5 + w) = rM s g (3 + w) ∧ y'.2.1 (nc * 5 + w) = 0 ∧ y'.2.2 (nc * 5 + w) = 0
    rw [lX0_add_55_s, rd_nI (by omega) (by decide), hAr, if_neg (up_i (by omega) hi), e_keyOf hm cm hg hi, bn_s, ix5, wr_nI (by omega) (by decide)]
    unfold fX0_putArgument
    rw [ix5, wr_nI (by omega) (by decide), wr_nI (by omega) (by decide)]
    refine ⟨(upd ya (nc * 5 + i) (rM s g (3 + i)), upd yb (nc * 5 + i) 0, upd yc (nc * 5 + i) 0), rfl, fun j hj => ?_, fun w hw => ?_⟩
    · show upd ya (nc * 5 + i) (rM s g (3 + i)) j = k_keys j ∧ upd yb (nc * 5 + i) 0 j = k_kinds j ∧ upd yc (nc * 5 + i) 0 j = k_vals j
      rw [upd_n (by omega), upd_n (by omega), upd_n (by omega)]
      exact i1 j hj
    · show upd ya (nc * 5 + i) (rM s g (3 + i)) (nc * 5 + w) = _ ∧ upd yb (nc * 5 + i) 0 (nc * 5 + w) = 0 ∧ upd yc (nc * 5 + i) 0 (nc * 5 + w) = 0
      by_cases e : w = i
      · subst e
        rw [upd_s, upd_s, upd_s]
        exact ⟨rfl, rfl, rfl⟩
      · rw [upd_n (by omega), upd_n (by omega), upd_n (by omega)]
        exact i2 w (by omega)) (fun n' y hI => by
    show lX0_add_55 m_arity m_keys (n' + 1) (nI nc) (upd k_st nc (nI st)) (upd k_dy nc (nI dy)) (upd k_tg nc (nI g)) (upd k_ac nc (nI (nA s g))) (upd k_tc nc 0) y.1 y.2.1 y.2.2 (nI g) (nI nc) (nI (nA s g)) = _
    rw [lX0_add_55_s, rd_nI (by omega) (by decide), hAr, if_pos (up_N (by omega)), nI_1]) 5000 0 (k_keys, k_kinds, k_vals) (Nat.zero_le _) (by omega) ⟨fun j _ => ⟨rfl, rfl, rfl⟩, fun w h => absurd h (Nat.not_lt_zero w)⟩
  exact ⟨y.1, y.2.1, y.2.2, hy, y1, y2⟩
end DC
