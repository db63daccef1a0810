/-! runs of calls: class and reference agree -/
/-- the counter after j temporaries, after i arguments; what an argument evaluates to -/
def tcn (s : Nat → Int32) (c : Nat) : Nat → Int32
  | 0 => 0
  | j + 1 => if rC s c (21 + j) = 2 then tcn s c j + 1 else tcn s c j
def acn (s : Nat → Int32) (c : Nat) : Nat → Int32
  | 0 => tcn s c (cN s c)
  | i + 1 => if rC s c (5 + i) = 2 then acn s c i + 1 else acn s c i
def avl (s : Nat → Int32) (c i : Nat) : Int32 := if rC s c (5 + i) = 0 then rC s c (10 + i) else if rC s c (5 + i) = 3 then tcn s c (Nn (rC s c (10 + i))) else acn s c i
theorem Nn_nI {j : Nat} (h : j < 2 ^ 31) : Nn (nI j) = j := nI_clamp h
section E1
variable {s : Nat → Int32} {nt nm nc : Nat} {m_count : Int32} {m_type m_name m_arity m_keys m_defs : Nat → Int32} {k_count k_fs : Int32} {k_st k_dy k_tg k_ac k_tc k_keys k_kinds k_vals k_tk : Nat → Int32}
theorem e_zargs (hk : WFC s nt nm nc) {c : Nat} (hcn : c < nc) (zh zv : Nat → Int32) (hzh : ∀ j, j < cN s c → zh j = tcn s c j) : ∃ zv', lX9_evaluateAll_56 s 5000 (acn s c 0) zh zv (nI c) 0 = some (acn s c (cA s c), zh, zv') ∧ ∀ i, i < cA s c → zv' i = avl s c i := by
  have h8 := hk.1
  have W := hk.2.2 c hcn
  have w5 := W.ar'
  have w6 := W.tn'
  obtain ⟨⟨y1, y2⟩, hy, h1, h2⟩ := inv_loop (g := fun n' (y : Int32 × (Nat → Int32)) i => lX9_evaluateAll_56 s n' y.1 zh y.2 (nI c) i) (N := cA s c) (fun i y => y.1 = acn s c i ∧ ∀ j, j < i → y.2 j = avl s c j) (K := fun y => some (y.1, zh, y.2)) (fun n' i y hi hI => by
    obtain ⟨i1, i2⟩ := hI
    obtain ⟨y1, y2⟩ := y
    have i1 : y1 = acn s c i := i1
    have i2 : ∀ j, j < i → y2 j = avl s c j := i2
    subst i1
    have step : ∀ (v ct : Int32), v = avl s c i → ct = acn s c (i + 1) → ∃ y' : Int32 × (Nat → Int32), (wr 5 y2 (nI i) v fun g11 => lX9_evaluateAll_56 s n' ct zh g11 (nI c) (nI i + 1)) = lX9_evaluateAll_56 s n' y'.1 zh y'.2 (nI c) (nI i + 1) ∧ y'.1 = acn s c (i + 1) ∧ ∀ j, j < i + 1 → y'.2 j = avl s c j := by
      intro v ct hv hct
      rw [wr_nI (by omega) (by decide)]
      refine ⟨(ct, upd y2 i v), rfl, hct, fun j hj => ?_⟩
      by_cases e : j = i
      · subst e
        show upd y2 j v j = _
        rw [upd_s, hv]
      · show upd y2 i v j = _
        rw [upd_n e]
        exact i2 j (by omega)
    show ∃ y' : Int32 × (Nat → Int32), lX9_evaluateAll_56 s (n' + 1) (acn s c i) zh y2 (nI c) (nI i) = lX9_evaluateAll_56 s n' y'.1 zh y'.2 (nI c) (nI i + 1) ∧ y'.1 = acn s c (i + 1) ∧ ∀ j, j < i + 1 → y'.2 j = avl s c j
    rw [lX9_evaluateAll_56_s, e_at4, bn_s, rd_C (by omega) (by decide), W.ar, if_neg (up_i (by omega) hi), o5, e_at rfl, bn_s, rd_C (by omega) (by omega), o10, e_at rfl, bn_s, rd_C (by omega) (by omega)]
    unfold fX9_evaluate
    have hA : acn s c (i + 1) = if rC s c (5 + i) = 2 then acn s c i + 1 else acn s c i := rfl
    rcases W.kd i hi with k | k | k | ⟨k, t, ht, hv⟩
    · rw [if_neg (by rw [k]; decide), if_neg (by rw [k]; decide), if_neg (by rw [k]; decide), bn2_s]
      refine step _ _ ?_ ?_
      · unfold avl; rw [if_pos k]
      · rw [hA, if_neg (by rw [k]; decide)]
    · rw [if_pos k, bn2_s]
      refine step _ _ ?_ ?_
      · unfold avl; rw [if_neg (by rw [k]; decide), if_neg (by rw [k]; decide)]
      · rw [hA, if_neg (by rw [k]; decide)]
    · rw [if_neg (by rw [k]; decide), if_pos k, bn2_s]
      refine step _ _ ?_ ?_
      · unfold avl; rw [if_neg (by rw [k]; decide), if_neg (by rw [k]; decide)]
        exact Int32.add_sub_cancel _ _
      · rw [hA, if_pos k]
    · rw [if_neg (by rw [k]; decide), if_neg (by rw [k]; decide), if_pos k, hv, rd_nI (by omega) (by decide), bn2_s]
      refine step _ _ ?_ ?_
      · unfold avl; rw [if_neg (by rw [k]; decide), if_pos k, hv, Nn_nI (by omega), hzh t ht]
      · rw [hA, if_neg (by rw [k]; decide)]) (fun n' y hI => by
    show lX9_evaluateAll_56 s (n' + 1) y.1 zh y.2 (nI c) (nI (cA s c)) = some (y.1, zh, y.2)
    rw [lX9_evaluateAll_56_s, e_at4, bn_s, rd_C (by omega) (by decide), W.ar, if_pos (up_N (by omega))]) 5000 0 (acn s c 0, zv) (Nat.zero_le _) (by omega) ⟨rfl, fun j h => absurd h (Nat.not_lt_zero j)⟩
  have h1 : y1 = acn s c (cA s c) := h1
  subst h1
  exact ⟨y2, hy, h2⟩
theorem e_evaluateAll (hk : WFC s nt nm nc) {c : Nat} (hcn : c < nc) (zc : Int32) (zh zv : Nat → Int32) : ∃ zh' zv', fX9_evaluateAll s zc zh zv (nI c) = some (acn s c (cA s c), zh', zv') ∧ ∀ i, i < cA s c → zv' i = avl s c i := by
  have h8 := hk.1
  have W := hk.2.2 c hcn
  have w6 := W.tn'
  unfold fX9_evaluateAll
  obtain ⟨⟨y1, y2⟩, hy, h1, h2⟩ := inv_loop (g := fun n' (y : Int32 × (Nat → Int32)) i => lX9_evaluateAll_7 s n' y.1 y.2 zv (nI c) i) (N := cN s c) (fun i y => y.1 = tcn s c i ∧ ∀ j, j < i → y.2 j = tcn s c j) (K := fun y => lX9_evaluateAll_56 s 5000 y.1 y.2 zv (nI c) 0) (fun n' i y hi hI => by
    obtain ⟨i1, i2⟩ := hI
    obtain ⟨y1, y2⟩ := y
    have i1 : y1 = tcn s c i := i1
    have i2 : ∀ j, j < i → y2 j = tcn s c j := i2
    subst i1
    have step : ∀ (v ct : Int32), v = tcn s c i → ct = tcn s c (i + 1) → ∃ y' : Int32 × (Nat → Int32), (wr 8 y2 (nI i) v fun g11 => lX9_evaluateAll_7 s n' ct g11 zv (nI c) (nI i + 1)) = lX9_evaluateAll_7 s n' y'.1 y'.2 zv (nI c) (nI i + 1) ∧ y'.1 = tcn s c (i + 1) ∧ ∀ j, j < i + 1 → y'.2 j = tcn s c j := by
      intro v ct hv hct
      rw [wr_nI (by omega) (by decide)]
      refine ⟨(ct, upd y2 i v), rfl, hct, fun j hj => ?_⟩
      by_cases e : j = i
      · subst e
        show upd y2 j v j = _
        rw [upd_s, hv]
      · show upd y2 i v j = _
        rw [upd_n e]
        exact i2 j (by omega)
    show ∃ y' : Int32 × (Nat → Int32), lX9_evaluateAll_7 s (n' + 1) (tcn s c i) y2 zv (nI c) (nI i) = lX9_evaluateAll_7 s n' y'.1 y'.2 zv (nI c) (nI i + 1) ∧ y'.1 = tcn s c (i + 1) ∧ ∀ j, j < i + 1 → y'.2 j = tcn s c j
    rw [lX9_evaluateAll_7_s, e_at20, bn_s, rd_C (by omega) (by decide), W.tn, if_neg (up_i (by omega) hi), o21, e_at rfl, bn_s, rd_C (by omega) (by omega)]
    unfold fX9_evaluate
    have hA : tcn s c (i + 1) = if rC s c (21 + i) = 2 then tcn s c i + 1 else tcn s c i := rfl
    rcases W.tk i hi with k | k
    · rw [if_pos k, bn2_s]
      exact step _ _ rfl (by rw [hA, if_neg (by rw [k]; decide)])
    · rw [if_neg (by rw [k]; decide), if_pos k, bn2_s]
      exact step _ _ (Int32.add_sub_cancel _ _) (by rw [hA, if_pos k])) (fun n' y hI => by
    show lX9_evaluateAll_7 s (n' + 1) y.1 y.2 zv (nI c) (nI (cN s c)) = lX9_evaluateAll_56 s 5000 y.1 y.2 zv (nI c) 0
    rw [lX9_evaluateAll_7_s, e_at20, bn_s, rd_C (by omega) (by decide), W.tn, if_pos (up_N (by omega))]) 5000 0 (0, zh) (Nat.zero_le _) (by omega) ⟨rfl, fun j h => absurd h (Nat.not_lt_zero j)⟩
  have h1 : y1 = acn s c 0 := h1
  subst h1
  obtain ⟨zv', q1, q2⟩ := e_zargs hk hcn y2 zv h2
  exact ⟨y2, zv', hy.trans q1, q2⟩
theorem e_eargs (hk : WFC s nt nm nc) (hc : CK s nc k_count k_fs k_st k_dy k_tg k_ac k_tc k_keys k_kinds k_vals k_tk) {c : Nat} (hcn : c < nc) (zh zv : Nat → Int32) (hzh : ∀ j, j < cN s c → zh j = tcn s c j) : ∃ zv', lX2_evaluate_41 k_ac k_tc k_kinds k_vals k_tk 5000 (acn s c 0) zh zv (nI c) 0 = some (acn s c (cA s c), zh, zv') ∧ ∀ i, i < cA s c → zv' i = avl s c i := by
  have h8 := hk.1
  have W := hk.2.2 c hcn
  have w5 := W.ar'
  have w6 := W.tn'
  obtain ⟨⟨y1, y2⟩, hy, h1, h2⟩ := inv_loop (g := fun n' (y : Int32 × (Nat → Int32)) i => lX2_evaluate_41 k_ac k_tc k_kinds k_vals k_tk n' y.1 zh y.2 (nI c) i) (N := cA s c) (fun i y => y.1 = acn s c i ∧ ∀ j, j < i → y.2 j = avl s c j) (K := fun y => some (y.1, zh, y.2)) (fun n' i y hi hI => by
    obtain ⟨i1, i2⟩ := hI
    obtain ⟨y1, y2⟩ := y
    have i1 : y1 = acn s c i := i1
    have i2 : ∀ j, j < i → y2 j = avl s c j := i2
    subst i1
    have step : ∀ (v ct : Int32), v = avl s c i → ct = acn s c (i + 1) → ∃ y' : Int32 × (Nat → Int32), (wr 5 y2 (nI i) v fun g11 => lX2_evaluate_41 k_ac k_tc k_kinds k_vals k_tk n' ct zh g11 (nI c) (nI i + 1)) = lX2_evaluate_41 k_ac k_tc k_kinds k_vals k_tk n' y'.1 zh y'.2 (nI c) (nI i + 1) ∧ y'.1 = acn s c (i + 1) ∧ ∀ j, j < i + 1 → y'.2 j = avl s c j := by
      intro v ct hv hct
      rw [wr_nI (by omega) (by decide)]
      refine ⟨(ct, upd y2 i v), rfl, hct, fun j hj => ?_⟩
      by_cases e : j = i
      · subst e
        show upd y2 j v j = _
        rw [upd_s, hv]
      · show upd y2 i v j = _
        rw [upd_n e]
        exact i2 j (by omega)
    show ∃ y' : Int32 × (Nat → Int32), lX2_evaluate_41 k_ac k_tc k_kinds k_vals k_tk (n' + 1) (acn s c i) zh y2 (nI c) (nI i) = lX2_evaluate_41 k_ac k_tc k_kinds k_vals k_tk n' y'.1 zh y'.2 (nI c) (nI i + 1) ∧ y'.1 = acn s c (i + 1) ∧ ∀ j, j < i + 1 → y'.2 j = avl s c j
    rw [lX2_evaluate_41_s, rd_nI (by omega) (by decide), (hc.c c hcn).ac, W.ar, if_neg (up_i (by omega) hi), e_kkindOf hk hc hcn hi, bn_s, e_kvalueOf hk hc hcn hi, bn_s]
    unfold fX2_valueOf fX2_readOrTick
    have hA : acn s c (i + 1) = if rC s c (5 + i) = 2 then acn s c i + 1 else acn s c i := rfl
    rcases W.kd i hi with k | k | k | ⟨k, t, ht, hv⟩
    · rw [if_pos k, bn2_s]
      refine step _ _ ?_ ?_
      · unfold avl; rw [if_pos k]
      · rw [hA, if_neg (by rw [k]; decide)]
    · rw [if_neg (by rw [k]; decide), if_neg (by rw [k]; decide), if_neg (by rw [k]; decide), bn2_s, bn2_s]
      refine step _ _ ?_ ?_
      · unfold avl; rw [if_neg (by rw [k]; decide), if_neg (by rw [k]; decide)]
      · rw [hA, if_neg (by rw [k]; decide)]
    · rw [if_neg (by rw [k]; decide), if_neg (by rw [k]; decide), if_pos k, bn2_s, bn2_s]
      refine step _ _ ?_ ?_
      · unfold avl; rw [if_neg (by rw [k]; decide), if_neg (by rw [k]; decide)]
      · rw [hA, if_pos k]
    · rw [if_neg (by rw [k]; decide), if_pos k, hv, rd_nI (by omega) (by decide), bn2_s]
      refine step _ _ ?_ ?_
      · unfold avl; rw [if_neg (by rw [k]; decide), if_pos k, hv, Nn_nI (by omega), hzh t ht]
      · rw [hA, if_neg (by rw [k]; decide)]) (fun n' y hI => by
    show lX2_evaluate_41 k_ac k_tc k_kinds k_vals k_tk (n' + 1) y.1 zh y.2 (nI c) (nI (cA s c)) = some (y.1, zh, y.2)
    rw [lX2_evaluate_41_s, rd_nI (by omega) (by decide), (hc.c c hcn).ac, W.ar, if_pos (up_N (by omega))]) 5000 0 (acn s c 0, zv) (Nat.zero_le _) (by omega) ⟨rfl, fun j h => absurd h (Nat.not_lt_zero j)⟩
  have h1 : y1 = acn s c (cA s c) := h1
  subst h1
  exact ⟨y2, hy, h2⟩
theorem e_evaluate (hk : WFC s nt nm nc) (hc : CK s nc k_count k_fs k_st k_dy k_tg k_ac k_tc k_keys k_kinds k_vals k_tk) {c : Nat} (hcn : c < nc) (zc : Int32) (zh zv : Nat → Int32) : ∃ zh' zv', fX2_evaluate zc zh zv k_ac k_tc k_kinds k_vals k_tk (nI c) = some (acn s c (cA s c), zh', zv') ∧ ∀ i, i < cA s c → zv' i = avl s c i := by
  have h8 := hk.1
  have W := hk.2.2 c hcn
  have w6 := W.tn'
  unfold fX2_evaluate
  obtain ⟨⟨y1, y2⟩, hy, h1, h2⟩ := inv_loop (g := fun n' (y : Int32 × (Nat → Int32)) i => lX2_evaluate_7 k_ac k_tc k_kinds k_vals k_tk n' y.1 y.2 zv (nI c) i) (N := cN s c) (fun i y => y.1 = tcn s c i ∧ ∀ j, j < i → y.2 j = tcn s c j) (K := fun y => lX2_evaluate_41 k_ac k_tc k_kinds k_vals k_tk 5000 y.1 y.2 zv (nI c) 0) (fun n' i y hi hI => by
    obtain ⟨i1, i2⟩ := hI
    obtain ⟨y1, y2⟩ := y
    have i1 : y1 = tcn s c i := i1
    have i2 : ∀ j, j < i → y2 j = tcn s c j := i2
    subst i1
    have step : ∀ (v ct : Int32), v = tcn s c i → ct = tcn s c (i + 1) → ∃ y' : Int32 × (Nat → Int32), (wr 8 y2 (nI i) v fun g11 => lX2_evaluate_7 k_ac k_tc k_kinds k_vals k_tk n' ct g11 zv (nI c) (nI i + 1)) = lX2_evaluate_7 k_ac k_tc k_kinds k_vals k_tk n' y'.1 y'.2 zv (nI c) (nI i + 1) ∧ y'.1 = tcn s c (i + 1) ∧ ∀ j, j < i + 1 → y'.2 j = tcn s c j := by
      intro v ct hv hct
      rw [wr_nI (by omega) (by decide)]
      refine ⟨(ct, upd y2 i v), rfl, hct, fun j hj => ?_⟩
      by_cases e : j = i
      · subst e
        show upd y2 j v j = _
        rw [upd_s, hv]
      · show upd y2 i v j = _
        rw [upd_n e]
        exact i2 j (by omega)
    show ∃ y' : Int32 × (Nat → Int32), lX2_evaluate_7 k_ac k_tc k_kinds k_vals k_tk (n' + 1) (tcn s c i) y2 zv (nI c) (nI i) = lX2_evaluate_7 k_ac k_tc k_kinds k_vals k_tk n' y'.1 y'.2 zv (nI c) (nI i + 1) ∧ y'.1 = tcn s c (i + 1) ∧ ∀ j, j < i + 1 → y'.2 j = tcn s c j
    rw [lX2_evaluate_7_s, rd_nI (by omega) (by decide), (hc.c c hcn).tc, W.tn, if_neg (up_i (by omega) hi), e_ktempOf hk hc hcn hi, bn_s]
    unfold fX2_readOrTick
    have hA : tcn s c (i + 1) = if rC s c (21 + i) = 2 then tcn s c i + 1 else tcn s c i := rfl
    rcases W.tk i hi with k | k
    · rw [if_neg (by rw [k]; decide), bn2_s]
      exact step _ _ rfl (by rw [hA, if_neg (by rw [k]; decide)])
    · rw [if_pos k, bn2_s]
      exact step _ _ rfl (by rw [hA, if_pos k])) (fun n' y hI => by
    show lX2_evaluate_7 k_ac k_tc k_kinds k_vals k_tk (n' + 1) y.1 y.2 zv (nI c) (nI (cN s c)) = lX2_evaluate_41 k_ac k_tc k_kinds k_vals k_tk 5000 y.1 y.2 zv (nI c) 0
    rw [lX2_evaluate_7_s, rd_nI (by omega) (by decide), (hc.c c hcn).tc, W.tn, if_pos (up_N (by omega))]) 5000 0 (0, zh) (Nat.zero_le _) (by omega) ⟨rfl, fun j h => absurd h (Nat.not_lt_zero j)⟩
  have h1 : y1 = acn s c 0 := h1
  subst h1
  obtain ⟨zv', q1, q2⟩ := e_eargs hk hc hcn y2 zv h2
  exact ⟨y2, zv', hy.trans q1, q2⟩
end E1
