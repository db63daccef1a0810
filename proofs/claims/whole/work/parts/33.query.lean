/-! the questions: class and reference answer alike -/
/-- the value for a key, of the first n arguments -/
def rcvF (s : Nat → Int32) (c : Nat) (key d : Int32) : Nat → Int32
  | 0 => d
  | n + 1 => if rC s c (15 + n) = key then avl s c n else rcvF s c key d n
def smF (s : Nat → Int32) (c m : Nat) : Nat → Int32
  | 0 => 1000 * rM s m 0
  | p + 1 => smF s c m p + ((rM s m (3 + p) + 1) * rcvF s c (rM s m (3 + p)) (rM s m (8 + p)) (cA s c))
section Q1
variable {s : Nat → Int32} {nt nm nc : Nat} {t_count t_ifs : Int32} {t_sup : Nat → Int32} {m_count : Int32} {m_type m_name m_arity m_keys m_defs : Nat → Int32} {k_count k_fs : Int32} {k_st k_dy k_tg k_ac k_tc k_keys k_kinds k_vals k_tk : Nat → Int32}
theorem rcvF_none {c : Nat} {key d : Int32} : ∀ n, (∀ i, i < n → rC s c (15 + i) ≠ key) → rcvF s c key d n = d := by
  intro n
  induction n with
  | zero => intro _; rfl
  | succ n ih =>
    intro h
    show (if rC s c (15 + n) = key then avl s c n else rcvF s c key d n) = d
    rw [if_neg (h n (Nat.lt_succ_self n))]
    exact ih (fun i hi => h i (by omega))
theorem rcvF_hit {c : Nat} {key d : Int32} {i : Nat} : ∀ n, (∀ i j, i < j → j < n → rC s c (15 + i) ≠ rC s c (15 + j)) → i < n → rC s c (15 + i) = key → rcvF s c key d n = avl s c i := by
  intro n
  induction n with
  | zero => intro _ h; omega
  | succ n ih =>
    intro hd hi hk
    show (if rC s c (15 + n) = key then avl s c n else rcvF s c key d n) = avl s c i
    by_cases e : i = n
    · subst e
      rw [if_pos hk]
    · rw [if_neg (fun q => hd i n (by omega) (Nat.lt_succ_self n) (hk.trans q.symm))]
      exact ih (fun a b h1 h2 => hd a b h1 (by omega)) (by omega) hk
theorem e_valueFor (hm : WFM s nt nm) (hk : WFC s nt nm nc) {c m p : Nat} (hcn : c < nc) (hmm : m < nm) (hp : p < nA s m) {zv : Nat → Int32} (hzv : ∀ i, i < cA s c → zv i = avl s c i) : fX9_valueFor s zv (nI c) (nI m) (nI p) = some (rcvF s c (rM s m (3 + p)) (rM s m (8 + p)) (cA s c)) := by
  have h8 := hk.1
  have h16 := hm.1
  have W := hk.2.2 c hcn
  have w5 := W.ar'
  have a5 := (hm.2.2 m hmm).2.2.2.1
  unfold fX9_valueFor
  rw [o8, e_of (w := 8 + p) (by omega) (by omega) rfl, bn_s]
  obtain ⟨y, hy, h1⟩ := inv_loop (g := fun n' y i => lX9_valueFor_14 s zv n' (nI c) (nI m) (nI p) y i) (N := cA s c) (fun i y => y = rcvF s c (rM s m (3 + p)) (rM s m (8 + p)) i) (K := some) (fun n' i y hi hI => by
    show ∃ y', lX9_valueFor_14 s zv (n' + 1) (nI c) (nI m) (nI p) y (nI i) = lX9_valueFor_14 s zv n' (nI c) (nI m) (nI p) y' (nI i + 1) ∧ y' = rcvF s c (rM s m (3 + p)) (rM s m (8 + p)) (i + 1)
    have hI : y = rcvF s c (rM s m (3 + p)) (rM s m (8 + p)) i := hI
    have hr : rcvF s c (rM s m (3 + p)) (rM s m (8 + p)) (i + 1) = if rC s c (15 + i) = rM s m (3 + p) then avl s c i else rcvF s c (rM s m (3 + p)) (rM s m (8 + p)) i := rfl
    rw [lX9_valueFor_14_s, e_at4, bn_s, rd_C (by omega) (by decide), W.ar, if_neg (up_i (by omega) hi), o15, e_at rfl, bn_s, rd_C (by omega) (by omega), o3, e_of (w := 3 + p) (by omega) (by omega) rfl, bn_s]
    unfold jX9_valueFor_68
    by_cases g : rC s c (15 + i) = rM s m (3 + p)
    · rw [if_pos g, rd_nI (by omega) (by decide), hzv i hi]
      exact ⟨_, rfl, by rw [hr, if_pos g]⟩
    · rw [if_neg g]
      exact ⟨_, rfl, by rw [hr, if_neg g]; exact hI⟩) (fun n' y hI => by
    show lX9_valueFor_14 s zv (n' + 1) (nI c) (nI m) (nI p) y (nI (cA s c)) = some y
    rw [lX9_valueFor_14_s, e_at4, bn_s, rd_C (by omega) (by decide), W.ar, if_pos (up_N (by omega))]) 5000 0 (rM s m (8 + p)) (Nat.zero_le _) (by omega) rfl
  have h1 : y = rcvF s c (rM s m (3 + p)) (rM s m (8 + p)) (cA s c) := h1
  rw [← h1]
  exact hy
theorem e_received (hk : WFC s nt nm nc) (hc : CK s nc k_count k_fs k_st k_dy k_tg k_ac k_tc k_keys k_kinds k_vals k_tk) {c : Nat} (hcn : c < nc) (key d : Int32) {zv : Nat → Int32} (hzv : ∀ i, i < cA s c → zv i = avl s c i) : fX2_received zv k_ac k_keys (nI c) key d = some (rcvF s c key d (cA s c)) := by
  have h8 := hk.1
  have W := hk.2.2 c hcn
  have w5 := W.ar'
  unfold fX2_received
  have key' : ∀ n i, i ≤ cA s c → cA s c - i < n → (∀ j, j < i → rC s c (15 + j) ≠ key) → lX2_received_3 zv k_ac k_keys n (nI c) key d (nI i) = some (rcvF s c key d (cA s c)) := by
    intro n
    induction n with
    | zero => intro i _ h; omega
    | succ n ih =>
      intro i hi hn hj
      rw [lX2_received_3_s, rd_nI (by omega) (by decide), (hc.c c hcn).ac, W.ar]
      by_cases hlt : i < cA s c
      · rw [if_neg (up_i (by omega) hlt), e_kkeyOf hk hc hcn hlt, bn_s]
        by_cases g : rC s c (15 + i) = key
        · rw [if_pos g, rd_nI (by omega) (by decide), hzv i hlt, rcvF_hit _ W.ky hlt g]
        · rw [if_neg g, nI_1]
          exact ih (i + 1) hlt (by omega) (fun j hj2 => by
            by_cases e : j = i
            · rw [e]; exact g
            · exact hj j (by omega))
      · have e : i = cA s c := by omega
        rw [e] at hj ⊢
        rw [if_pos (up_N (by omega)), rcvF_none _ hj]
  exact key' 5000 0 (Nat.zero_le _) (by omega) (fun j h => absurd h (Nat.not_lt_zero j))
theorem e_resultOf (hm : WFM s nt nm) (hk : WFC s nt nm nc) (hd : CMt s nm m_count m_type m_name m_arity m_keys m_defs) (hc : CK s nc k_count k_fs k_st k_dy k_tg k_ac k_tc k_keys k_kinds k_vals k_tk) {c m : Nat} (hcn : c < nc) (hmm : m < nm) {zv : Nat → Int32} (hzv : ∀ i, i < cA s c → zv i = avl s c i) : fX2_resultOf zv m_type m_arity m_keys m_defs k_ac k_keys (nI m) (nI c) = some (smF s c m (nA s m)) := by
  have h8 := hk.1
  have h16 := hm.1
  have M := hd.2 m hmm
  obtain ⟨_, _, wa, a5, _⟩ := hm.2.2 m hmm
  unfold fX2_resultOf
  rw [rd_nI (by omega) (by decide), M.1]
  obtain ⟨y, hy, h1⟩ := inv_loop (g := fun n' y i => lX2_resultOf_15 zv m_type m_arity m_keys m_defs k_ac k_keys n' (nI m) (nI c) y i) (N := nA s m) (fun i y => y = smF s c m i) (K := some) (fun n' i y hi hI => by
    have hI : y = smF s c m i := hI
    subst hI
    show ∃ y', lX2_resultOf_15 zv m_type m_arity m_keys m_defs k_ac k_keys (n' + 1) (nI m) (nI c) (smF s c m i) (nI i) = lX2_resultOf_15 zv m_type m_arity m_keys m_defs k_ac k_keys n' (nI m) (nI c) y' (nI i + 1) ∧ y' = smF s c m (i + 1)
    rw [lX2_resultOf_15_s, rd_nI (by omega) (by decide), M.2.2.1, wa, if_neg (up_i (by omega) hi), e_keyOf hm hd hmm hi, bn_s, e_defaultOf hm hd hmm hi, bn_s, e_received hk hc hcn _ _ hzv, bn_s]
    exact ⟨_, rfl, rfl⟩) (fun n' y hI => by
    show lX2_resultOf_15 zv m_type m_arity m_keys m_defs k_ac k_keys (n' + 1) (nI m) (nI c) y (nI (nA s m)) = some y
    rw [lX2_resultOf_15_s, rd_nI (by omega) (by decide), M.2.2.1, wa, if_pos (up_N (by omega))]) 5000 0 (1000 * rM s m 0) (Nat.zero_le _) (by omega) rfl
  have h1 : y = smF s c m (nA s m) := h1
  rw [← h1]
  exact hy
theorem e_runSum (hm : WFM s nt nm) (hk : WFC s nt nm nc) {c m : Nat} (hcn : c < nc) (hmm : m < nm) {zc : Int32} {zh zv : Nat → Int32} (hzv : ∀ i, i < cA s c → zv i = avl s c i) : lX9_run_46 s 5000 zc zh zv (nI c) (nI m) (1000 * rM s m 0) 0 = some (smF s c m (nA s m), zc, zh, zv) := by
  have h8 := hk.1
  have h16 := hm.1
  obtain ⟨_, _, wa, a5, _⟩ := hm.2.2 m hmm
  obtain ⟨y, hy, h1⟩ := inv_loop (g := fun n' y i => lX9_run_46 s n' zc zh zv (nI c) (nI m) y i) (N := nA s m) (fun i y => y = smF s c m i) (K := fun y => some (y, zc, zh, zv)) (fun n' i y hi hI => by
    have hI : y = smF s c m i := hI
    subst hI
    show ∃ y', lX9_run_46 s (n' + 1) zc zh zv (nI c) (nI m) (smF s c m i) (nI i) = lX9_run_46 s n' zc zh zv (nI c) (nI m) y' (nI i + 1) ∧ y' = smF s c m (i + 1)
    rw [lX9_run_46_s, e_of2 (by omega), bn_s, wa, if_neg (up_i (by omega) hi), o3, e_of (w := 3 + i) (by omega) (by omega) rfl, bn_s, e_valueFor hm hk hcn hmm hi hzv, bn_s]
    exact ⟨_, rfl, rfl⟩) (fun n' y hI => by
    show lX9_run_46 s (n' + 1) zc zh zv (nI c) (nI m) y (nI (nA s m)) = some (y, zc, zh, zv)
    rw [lX9_run_46_s, e_of2 (by omega), bn_s, wa, if_pos (up_N (by omega))]) 5000 0 (1000 * rM s m 0) (Nat.zero_le _) (by omega) rfl
  have h1 : y = smF s c m (nA s m) := h1
  rw [← h1]
  exact hy
theorem bn3_s {α β γ δ : Type} {a : α} {b : β} {c : γ} {k : α → β → γ → Option δ} : bn3 (some (a, b, c)) k = k a b c := rfl
theorem op_run (hw : WFT s nt) (hm : WFM s nt nm) (hk : WFC s nt nm nc) (ct : CT s nt t_count t_ifs t_sup) (hd : CMt s nm m_count m_type m_name m_arity m_keys m_defs) (hc : CK s nc k_count k_fs k_st k_dy k_tg k_ac k_tc k_keys k_kinds k_vals k_tk) (ec : Int32) (et ea : Nat → Int32) (zc : Int32) (zh zv : Nat → Int32) (x : Int32) : ∃ r ec' et' ea' zc' zh' zv', fX8_run t_count t_ifs t_sup m_count m_type m_name m_arity m_keys m_defs k_count k_dy k_tg k_ac k_tc k_keys k_kinds k_vals k_tk ec et ea x = some (r, ec', et', ea') ∧ fX9_run s zc zh zv x = some (r, zc', zh', zv') := by
  have h8 := hk.1
  unfold fX8_run fX9_run jX9_run_18
  obtain ⟨r1, hr1, hb1⟩ := e_isCall hk x
  obtain ⟨r2, hr2, hb2⟩ := e_kexists hk hc x
  rw [hr1, hr2, bn_s, bn_s]
  by_cases g : ∃ c, c < nc ∧ x = nI c
  · rw [if_neg (fun q => (isb_0 hb1).mp q g), if_neg (fun q => (isb_0 hb2).mp q g)]
    obtain ⟨c, hcn, rfl⟩ := g
    have W := hk.2.2 c hcn
    have K := hc.c c hcn
    obtain ⟨d1, hd1, D1⟩ := e_dispatched hw hm (c := c) (by omega) W.dy' W.dc W.tg' W.dy W.tg
    obtain ⟨d2, hd2, D2⟩ := e_executedBy hw hm ct hd (k_dyn := k_dy) (k_target := k_tg) (c := c) (by omega) W.dy' W.tg' (K.dy.trans W.dy) (K.tg.trans W.tg)
    have := DR_uniq D1 D2
    subst this
    rw [hd1, hd2, bn_s, bn_s]
    by_cases g2 : d1 = -9
    · rw [if_pos g2, if_pos g2]
      exact ⟨0, _, _, _, _, _, _, rfl, rfl⟩
    · rw [if_neg g2, if_neg g2]
      rcases DR_cases D1 with q | ⟨m, hmm, _, rfl⟩
      · exact absurd q g2
      · have h16 := hm.1
        obtain ⟨zh', zv', e1, e2⟩ := e_evaluateAll hk hcn zc zh zv
        obtain ⟨et', ea', f1, f2⟩ := e_evaluate hk hc hcn ec et ea
        rw [e1, f1, bn3_s, bn3_s, e_resultOf hm hk hd hc hcn hmm f2, bn_s, e_of0 (by omega), bn_s, e_runSum hm hk hcn hmm e2]
        exact ⟨_, _, _, _, _, _, _, rfl, rfl⟩
  · rw [if_pos ((isb_0 hb1).mpr g), if_pos ((isb_0 hb2).mpr g), if_pos rfl]
    exact ⟨0, _, _, _, _, _, _, rfl, rfl⟩
theorem op_ticks (hk : WFC s nt nm nc) (hc : CK s nc k_count k_fs k_st k_dy k_tg k_ac k_tc k_keys k_kinds k_vals k_tk) (ec : Int32) (et ea : Nat → Int32) (zc : Int32) (zh zv : Nat → Int32) (x : Int32) : ∃ r ec' et' ea' zc' zh' zv', fX8_ticks k_count k_ac k_tc k_kinds k_vals k_tk ec et ea x = some (r, ec', et', ea') ∧ fX9_ticks s zc zh zv x = some (r, zc', zh', zv') := by
  unfold fX8_ticks fX9_ticks
  obtain ⟨r1, hr1, hb1⟩ := e_isCall hk x
  obtain ⟨r2, hr2, hb2⟩ := e_kexists hk hc x
  rw [hr1, hr2, bn_s, bn_s]
  by_cases g : ∃ c, c < nc ∧ x = nI c
  · rw [if_neg (fun q => (isb_0 hb1).mp q g), if_neg (fun q => (isb_0 hb2).mp q g)]
    obtain ⟨c, hcn, rfl⟩ := g
    obtain ⟨zh', zv', e1, e2⟩ := e_evaluateAll hk hcn zc zh zv
    obtain ⟨et', ea', f1, f2⟩ := e_evaluate hk hc hcn ec et ea
    rw [e1, f1, bn3_s, bn3_s]
    exact ⟨_, _, _, _, _, _, _, rfl, rfl⟩
  · rw [if_pos ((isb_0 hb1).mpr g), if_pos ((isb_0 hb2).mpr g)]
    exact ⟨-1, _, _, _, _, _, _, rfl, rfl⟩
theorem op_dispatch (hw : WFT s nt) (hm : WFM s nt nm) (hk : WFC s nt nm nc) (ct : CT s nt t_count t_ifs t_sup) (hd : CMt s nm m_count m_type m_name m_arity m_keys m_defs) (hc : CK s nc k_count k_fs k_st k_dy k_tg k_ac k_tc k_keys k_kinds k_vals k_tk) (x : Int32) : ∃ r, fX8_dispatch t_count t_ifs t_sup m_count m_type m_name m_arity k_count k_dy k_tg x = some r ∧ fX9_dispatch s x = some r := by
  have h8 := hk.1
  unfold fX8_dispatch fX9_dispatch
  obtain ⟨r1, hr1, hb1⟩ := e_isCall hk x
  obtain ⟨r2, hr2, hb2⟩ := e_kexists hk hc x
  rw [hr1, hr2, bn_s, bn_s]
  by_cases g : ∃ c, c < nc ∧ x = nI c
  · rw [if_neg (fun q => (isb_0 hb1).mp q g), if_neg (fun q => (isb_0 hb2).mp q g)]
    obtain ⟨c, hcn, rfl⟩ := g
    have W := hk.2.2 c hcn
    have K := hc.c c hcn
    obtain ⟨d1, hd1, D1⟩ := e_dispatched hw hm (c := c) (by omega) W.dy' W.dc W.tg' W.dy W.tg
    obtain ⟨d2, hd2, D2⟩ := e_executedBy hw hm ct hd (k_dyn := k_dy) (k_target := k_tg) (c := c) (by omega) W.dy' W.tg' (K.dy.trans W.dy) (K.tg.trans W.tg)
    have := DR_uniq D1 D2
    subst this
    rw [hd1, hd2, bn_s]
    exact ⟨_, rfl, rfl⟩
  · rw [if_pos ((isb_0 hb1).mpr g), if_pos ((isb_0 hb2).mpr g)]
    exact ⟨_, rfl, rfl⟩
theorem op_typeCount (hw : WFT s nt) (ct : CT s nt t_count t_ifs t_sup) : ∃ r, fX8_typeCount t_count = some r ∧ fX9_typeCount s = some r := by
  unfold fX8_typeCount fX9_typeCount
  rw [rd_l0, hw.2.1, ct.1]
  exact ⟨_, rfl, rfl⟩
theorem op_isSubtype (hw : WFT s nt) (ct : CT s nt t_count t_ifs t_sup) (x y : Int32) : ∃ r, fX8_isSubtype t_count t_sup x y = some r ∧ fX9_isSubtype s x y = some r := by
  have h8 := hw.1
  unfold fX8_isSubtype fX9_isSubtype
  obtain ⟨r1, hr1, hb1⟩ := e_isType hw x
  obtain ⟨r2, hr2, hb2⟩ := e_texists hw ct x
  rw [hr1, hr2, bn_s, bn_s]
  by_cases g : ∃ t, t < nt ∧ x = nI t
  · rw [if_neg (fun q => (isb_0 hb1).mp q g), if_neg (fun q => (isb_0 hb2).mp q g)]
    obtain ⟨r3, hr3, hb3⟩ := e_isType hw y
    obtain ⟨r4, hr4, hb4⟩ := e_texists hw ct y
    rw [hr3, hr4, bn_s, bn_s]
    by_cases g2 : ∃ t, t < nt ∧ y = nI t
    · rw [if_neg (fun q => (isb_0 hb3).mp q g2), if_neg (fun q => (isb_0 hb4).mp q g2)]
      obtain ⟨a, ha, rfl⟩ := g
      obtain ⟨b, hb, rfl⟩ := g2
      obtain ⟨i, hi, ib⟩ := e_inherits hw ct ha hb
      obtain ⟨u, hu, ub⟩ := e_supers hw ha
      obtain ⟨v, hv, vb⟩ := e_has u (k := b) (by omega)
      rw [hi, hu, bn_s, bn_s, hv, bn_s, isb_eq ib (isb_iff vb (ub b))]
      by_cases z : v = 0
      · rw [if_pos z]
        exact ⟨_, rfl, rfl⟩
      · rw [if_neg z]
        exact ⟨_, rfl, rfl⟩
    · rw [if_pos ((isb_0 hb3).mpr g2), if_pos ((isb_0 hb4).mpr g2)]
      exact ⟨_, rfl, rfl⟩
  · rw [if_pos ((isb_0 hb1).mpr g), if_pos ((isb_0 hb2).mpr g)]
    exact ⟨_, rfl, rfl⟩
theorem op_family (hw : WFT s nt) (hm : WFM s nt nm) (ct : CT s nt t_count t_ifs t_sup) (hd : CMt s nm m_count m_type m_name m_arity m_keys m_defs) (x : Int32) : ∃ r, fX8_family t_count t_sup m_count m_type m_name m_arity x = some r ∧ fX9_family s x = some r := by
  unfold fX8_family fX9_family
  obtain ⟨r1, hr1, hb1⟩ := e_isMethod hm x
  obtain ⟨r2, hr2, hb2⟩ := e_mexists hm hd x
  rw [hr1, hr2, bn_s, bn_s]
  by_cases g : ∃ m, m < nm ∧ x = nI m
  · rw [if_neg (fun q => (isb_0 hb1).mp q g), if_neg (fun q => (isb_0 hb2).mp q g)]
    obtain ⟨m, hmm, rfl⟩ := g
    obtain ⟨u, hu, ub⟩ := e_family hw hm hmm
    obtain ⟨v, hv, vb⟩ := e_cfamily hw hm ct hd hmm
    have : u = v := eq_bits (fun k => (ub k).trans (vb k).symm)
    subst this
    rw [hu, hv, bn_s]
    exact ⟨_, rfl, rfl⟩
  · rw [if_pos ((isb_0 hb1).mpr g), if_pos ((isb_0 hb2).mpr g)]
    exact ⟨_, rfl, rfl⟩
theorem op_parameterCount (hm : WFM s nt nm) (hd : CMt s nm m_count m_type m_name m_arity m_keys m_defs) (x : Int32) : ∃ r, fX8_parameterCount m_count m_arity x = some r ∧ fX9_parameterCount s x = some r := by
  have h16 := hm.1
  unfold fX8_parameterCount fX9_parameterCount
  obtain ⟨r1, hr1, hb1⟩ := e_isMethod hm x
  obtain ⟨r2, hr2, hb2⟩ := e_mexists hm hd x
  rw [hr1, hr2, bn_s, bn_s]
  by_cases g : ∃ m, m < nm ∧ x = nI m
  · rw [if_neg (fun q => (isb_0 hb1).mp q g), if_neg (fun q => (isb_0 hb2).mp q g)]
    obtain ⟨m, hmm, rfl⟩ := g
    rw [rd_nI (by omega) (by decide), e_of2 (by omega), bn_s, (hd.2 m hmm).2.2.1]
    exact ⟨_, rfl, rfl⟩
  · rw [if_pos ((isb_0 hb1).mpr g), if_pos ((isb_0 hb2).mpr g)]
    exact ⟨_, rfl, rfl⟩
theorem op_parameterKey (hm : WFM s nt nm) (hd : CMt s nm m_count m_type m_name m_arity m_keys m_defs) (x y : Int32) : ∃ r, fX8_parameterKey m_count m_arity m_keys x y = some r ∧ fX9_parameterKey s x y = some r := by
  have h16 := hm.1
  unfold fX8_parameterKey fX9_parameterKey
  obtain ⟨r1, hr1, hb1⟩ := e_isMethod hm x
  obtain ⟨r2, hr2, hb2⟩ := e_mexists hm hd x
  rw [hr1, hr2, bn_s, bn_s]
  by_cases g : ∃ m, m < nm ∧ x = nI m
  · rw [if_neg (fun q => (isb_0 hb1).mp q g), if_neg (fun q => (isb_0 hb2).mp q g)]
    obtain ⟨m, hmm, rfl⟩ := g
    obtain ⟨_, _, wa, a5, _⟩ := hm.2.2 m hmm
    rw [e_of2 (by omega), bn_s, wa]
    obtain ⟨r3, hr3, hb3⟩ := e_in y 0 (nI (nA s m) - 1)
    have hb3 := isb_iff hb3 (in_idx (by omega))
    rw [hr3, bn_s]
    rcases pk_ix y (n := nA s m) (by omega) with h | h | ⟨j, hj, rfl⟩
    · rw [if_pos h, if_pos ((isb_0 hb3).mpr (fun ⟨j, hj, e⟩ => by rw [e] at h; exact nI_pos (by omega) h))]
      exact ⟨_, rfl, rfl⟩
    · rw [if_pos ((isb_0 hb3).mpr (fun ⟨j, hj, e⟩ => by rw [e] at h; exact nI_ge hj (by omega) h))]
      by_cases h0 : y < 0
      · rw [if_pos h0]
        exact ⟨_, rfl, rfl⟩
      · rw [if_neg h0, rd_nI (by omega) (by decide), (hd.2 m hmm).2.2.1, wa, if_neg (Int32.not_lt.mpr h)]
        exact ⟨_, rfl, rfl⟩
    · rw [if_neg (fun q => (isb_0 hb3).mp q ⟨j, hj, rfl⟩), if_neg (nI_pos (by omega)), rd_nI (by omega) (by decide), (hd.2 m hmm).2.2.1, wa, if_pos (nI_lt hj (by omega)), e_keyOf hm hd hmm hj, bn_s, o3, e_of (w := 3 + j) (by omega) (by omega) rfl, bn_s]
      exact ⟨_, rfl, rfl⟩
  · rw [if_pos ((isb_0 hb1).mpr g), if_pos ((isb_0 hb2).mpr g)]
    exact ⟨_, rfl, rfl⟩
end Q1
