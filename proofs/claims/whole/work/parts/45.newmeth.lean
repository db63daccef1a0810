/-! declareMethod: the new state -/
section NM
variable {s s' : Nat → Int32} {nt nm nc : Nat} {t_count t_ifs : Int32} {t_sup : Nat → Int32} {m_count : Int32} {m_type m_name m_arity m_keys m_defs : Nat → Int32}
/-- the keys and defaults that the new method takes over -/
def PT (s : Nat → Int32) (nm a : Nat) (pat : Int32) (kf df : Nat → Int32) : Prop := (pat = -9 ∧ ∀ i, kf i = nI i ∧ df i = 0) ∨ ∃ l, l < nm ∧ pat = nI l ∧ nA s l = a ∧ ∀ i, kf i = rM s l (3 + i) ∧ df i = rM s l (8 + i)
def NMt (s s' : Nat → Int32) (nm ty : Nat) (n : Int32) (a : Nat) (kf df : Nat → Int32) : Prop := (∀ j, j ≠ 25 → (j < 26 + 13 * nm ∨ 26 + 13 * nm + 13 ≤ j) → s' j = s j) ∧ s' 25 = nI (nm + 1) ∧ rM s' nm 0 = nI ty ∧ rM s' nm 1 = n ∧ rM s' nm 2 = nI a ∧ ∀ i, i < 5 → rM s' nm (3 + i) = kf i ∧ rM s' nm (8 + i) = df i
theorem e_declMeth9 (hnm : nm < 16) (h25 : s 25 = nI nm) (ty : Nat) (n : Int32) {a : Nat} {pat set : Int32} {kf df : Nat → Int32} (hp : PT s nm a pat kf df) (hset : set = 0 ↔ pat = -9) (hlow : ∀ l, l < nm → pat = nI l → fX9_lowest set = some (nI l)) (past : Nat → Int32) (p ch : Int32) : ∃ s', lX9_declareMethod_128 5000 (upd (upd (upd s (26 + 13 * nm + 0) (nI ty)) (26 + 13 * nm + 1) n) (26 + 13 * nm + 2) (nI a)) past p ch set (nI nm) (26 + 13 * nI nm) 0 = some (nI nm, s', past, p, ch) ∧ NMt s s' nm ty n a kf df := by
  have i3 : ∀ i, (((26 : Int32) + 13 * nI nm) + 3) + nI i = nI (26 + 13 * nm + (3 + i)) := fun i => by
    rw [show ((26 : Int32) + 13 * nI nm) + 3 = nI (26 + 13 * nm + 3) from ixM nm 3, nI_add, Nat.add_assoc]
  have i8 : ∀ i, (((26 : Int32) + 13 * nI nm) + 8) + nI i = nI (26 + 13 * nm + (8 + i)) := fun i => by
    rw [show ((26 : Int32) + 13 * nI nm) + 8 = nI (26 + 13 * nm + 8) from ixM nm 8, nI_add, Nat.add_assoc]
  generalize hu : upd (upd (upd s (26 + 13 * nm + 0) (nI ty)) (26 + 13 * nm + 1) n) (26 + 13 * nm + 2) (nI a) = u
  have u1 : ∀ j, (j < 26 + 13 * nm ∨ 26 + 13 * nm + 13 ≤ j) → u j = s j := fun j hj => by
    rw [← hu, upd_n (by omega), upd_n (by omega), upd_n (by omega)]
  have c0 : rM u nm 0 = nI ty := by
    rw [← hu]
    unfold rM
    rw [upd_n (by omega), upd_n (by omega), upd_s]
  have c1 : rM u nm 1 = n := by
    rw [← hu]
    unfold rM
    rw [upd_n (by omega), upd_s]
  have c2 : rM u nm 2 = nI a := by
    rw [← hu]
    unfold rM
    rw [upd_s]
  clear hu
  obtain ⟨v, hv, v1, v2⟩ := inv_loop (g := fun n' (v : Nat → Int32) i => lX9_declareMethod_128 n' v past p ch set (nI nm) (26 + 13 * nI nm) i) (N := 5) (fun i v => (∀ j, (j < 26 + 13 * nm + 3 ∨ 26 + 13 * nm + 13 ≤ j) → v j = u j) ∧ ∀ w, w < i → rM v nm (3 + w) = kf w ∧ rM v nm (8 + w) = df w) (K := fun v => some (nI nm, upd v 25 (nI (nm + 1)), past, p, ch)) (fun n' i v hi hI => by
    obtain ⟨i1, i2⟩ := hI
    show ∃ v', lX9_declareMethod_128 (n' + 1) v past p ch set (nI nm) (26 + 13 * nI nm) (nI i) = lX9_declareMethod_128 n' v' past p ch set (nI nm) (26 + 13 * nI nm) (nI i + 1) ∧ (∀ j, (j < 26 + 13 * nm + 3 ∨ 26 + 13 * nm + 13 ≤ j) → v' j = u j) ∧ ∀ w, w < i + 1 → rM v' nm (3 + w) = kf w ∧ rM v' nm (8 + w) = df w
    have post : (∀ j, (j < 26 + 13 * nm + 3 ∨ 26 + 13 * nm + 13 ≤ j) → upd (upd v (26 + 13 * nm + (3 + i)) (kf i)) (26 + 13 * nm + (8 + i)) (df i) j = u j) ∧ ∀ w, w < i + 1 → rM (upd (upd v (26 + 13 * nm + (3 + i)) (kf i)) (26 + 13 * nm + (8 + i)) (df i)) nm (3 + w) = kf w ∧ rM (upd (upd v (26 + 13 * nm + (3 + i)) (kf i)) (26 + 13 * nm + (8 + i)) (df i)) nm (8 + w) = df w := by
      refine ⟨fun j hj => ?_, fun w hw => ?_⟩
      · rw [upd_n (by omega), upd_n (by omega)]
        exact i1 j hj
      · unfold rM
        by_cases e : w = i
        · subst e
          rw [upd_s, upd_n (by omega), upd_s]
          exact ⟨rfl, rfl⟩
        · rw [upd_n (by omega), upd_n (by omega), upd_n (by omega), upd_n (by omega)]
          exact i2 w (by omega)
    refine ⟨upd (upd v (26 + 13 * nm + (3 + i)) (kf i)) (26 + 13 * nm + (8 + i)) (df i), ?_, post⟩
    rw [lX9_declareMethod_128_s, if_neg (show ¬ (5 : Int32) ≤ nI i from up_i (N := 5) (by decide) hi)]
    unfold jX9_declareMethod_169 jX9_declareMethod_206
    rcases hp with ⟨q1, q2⟩ | ⟨l, hl, q1, -, q2⟩
    · rw [if_pos (hset.mpr q1), i3, wr_nI (by omega) (by decide), if_pos (hset.mpr q1), i8, wr_nI (by omega) (by decide), (q2 i).1, (q2 i).2]
    · have hne : ¬ set = 0 := fun z => nI_ne9 (m := l) (by omega) (q1.symm.trans (hset.mp z))
      have hr : ∀ w, w < 13 → rM v l w = rM s l w := fun w hw => by
        unfold rM
        rw [i1 _ (by omega), u1 _ (by omega)]
      have hr2 : ∀ w x, w < 13 → rM (upd v (26 + 13 * nm + (3 + i)) x) l w = rM s l w := fun w x hw => by
        rw [← hr w hw]
        unfold rM
        rw [upd_n (by omega)]
      rw [if_neg hne, hlow l hl q1, bn_s, o3, e_of (w := 3 + i) (by omega) (by omega) rfl, bn_s, i3, wr_nI (by omega) (by decide), if_neg hne, bn_s, o8, e_of (w := 8 + i) (by omega) (by omega) rfl, bn_s, i8, wr_nI (by omega) (by decide), hr (3 + i) (by omega), hr2 (8 + i) _ (by omega), (q2 i).1, (q2 i).2]) (fun n' v hI => by
    obtain ⟨i1, i2⟩ := hI
    show lX9_declareMethod_128 (n' + 1) v past p ch set (nI nm) (26 + 13 * nI nm) (nI 5) = some (nI nm, upd v 25 (nI (nm + 1)), past, p, ch)
    rw [lX9_declareMethod_128_s, if_pos (by decide), rd_l25, i1 25 (by omega), u1 25 (by omega), h25, nI_1, show (25 : Int32) = nI 25 from rfl, wr_nI (by decide) (by decide)]) 5000 0 u (Nat.zero_le _) (by omega) ⟨fun j _ => rfl, fun w h => absurd h (Nat.not_lt_zero w)⟩
  refine ⟨_, hv, fun j h1 h2 => ?_, upd_s, ?_, ?_, ?_, fun i hi => ?_⟩
  · rw [upd_n h1, v1 j (by omega), u1 j h2]
  · unfold rM
    rw [upd_n (by omega), v1 _ (by omega)]
    exact c0
  · unfold rM
    rw [upd_n (by omega), v1 _ (by omega)]
    exact c1
  · unfold rM
    rw [upd_n (by omega), v1 _ (by omega)]
    exact c2
  · unfold rM
    rw [upd_n (by omega), upd_n (by omega)]
    exact v2 i hi
theorem e_declMeth8 (hm : WFM s nt nm) (cm : CMt s nm m_count m_type m_name m_arity m_keys m_defs) (hnm : nm < 16) (ty : Nat) (n : Int32) {a : Nat} (ha : a ≤ 5) {pat : Int32} {kf df : Nat → Int32} (hp : PT s nm a pat kf df) : ∃ keys' defs', fX5_add (nI nm) m_type m_name m_arity m_keys m_defs (nI ty) n (nI a) pat = some (nI nm, nI (nm + 1), upd m_type nm (nI ty), upd m_name nm n, upd m_arity nm (nI a), keys', defs') ∧ (∀ j, j < nm * 5 → keys' j = m_keys j ∧ defs' j = m_defs j) ∧ ∀ i, i < a → keys' (nm * 5 + i) = kf i ∧ defs' (nm * 5 + i) = df i := by
  unfold fX5_add
  rw [wr_nI hnm (by decide), wr_nI hnm (by decide), wr_nI hnm (by decide)]
  obtain ⟨y, hy, y1, y2⟩ := inv_loop (g := fun n' (y : (Nat → Int32) × (Nat → Int32)) i => lX5_add_33 n' (nI nm) (upd m_type nm (nI ty)) (upd m_name nm n) (upd m_arity nm (nI a)) y.1 y.2 (nI a) pat (nI nm) i) (N := a) (fun i y => (∀ j, j < nm * 5 → y.1 j = m_keys j ∧ y.2 j = m_defs j) ∧ ∀ w, w < i → y.1 (nm * 5 + w) = kf w ∧ y.2 (nm * 5 + w) = df w) (K := fun y => some (nI nm, nI (nm + 1), upd m_type nm (nI ty), upd m_name nm n, upd m_arity nm (nI a), y.1, y.2)) (fun n' i y hi hI => by
    obtain ⟨i1, i2⟩ := hI
    obtain ⟨ya, yb⟩ := y
    have i1 : ∀ j, j < nm * 5 → ya j = m_keys j ∧ yb j = m_defs j := i1
    have i2 : ∀ w, w < i → ya (nm * 5 + w) = kf w ∧ yb (nm * 5 + w) = df w := i2
    show ∃ y' : (Nat → Int32) × (Nat → Int32), lX5_add_33 (n' + 1) (nI nm) (upd m_type nm (nI ty)) (upd m_name nm n) (upd m_arity nm (nI a)) ya yb (nI a) pat (nI nm) (nI i) = lX5_add_33 n' (nI nm) (upd m_type nm (nI ty)) (upd m_name nm n) (upd m_arity nm (nI a)) y'.1 y'.2 (nI a) pat (nI nm) (nI i + 1) ∧ (∀ j, j < nm * 5 → y'.1 j = m_keys j ∧ y'.2 j = m_defs j) ∧ ∀ w, w < i + 1 → y'.1 (nm * 5 + w) = kf w ∧ y'.2 (nm * 5 + w) = df w
    have post : (∀ j, j < nm * 5 → upd ya (nm * 5 + i) (kf i) j = m_keys j ∧ upd yb (nm * 5 + i) (df i) j = m_defs j) ∧ ∀ w, w < i + 1 → upd ya (nm * 5 + i) (kf i) (nm * 5 + w) = kf w ∧ upd yb (nm * 5 + i) (df i) (nm * 5 + w) = df w := by
      refine ⟨fun j hj => ?_, fun w hw => ?_⟩
      · rw [upd_n (by omega), upd_n (by omega)]
        exact i1 j hj
      · by_cases e : w = i
        · subst e
          rw [upd_s, upd_s]
          exact ⟨rfl, rfl⟩
        · rw [upd_n (by omega), upd_n (by omega)]
          exact i2 w (by omega)
    refine ⟨(upd ya (nm * 5 + i) (kf i), upd yb (nm * 5 + i) (df i)), ?_, post⟩
    rw [lX5_add_33_s, if_neg (up_i (by omega) hi)]
    unfold jX5_add_59 jX5_add_87 fX5_putParameter
    rcases hp with ⟨q1, q2⟩ | ⟨l, hl, q1, hla, q2⟩
    · rw [if_pos q1, if_pos q1, ix5, wr_nI (by omega) (by decide), wr_nI (by omega) (by decide), (q2 i).1, (q2 i).2]
      rfl
    · have hne : ¬ pat = -9 := fun z => nI_ne9 (m := l) (by omega) (q1.symm.trans z)
      have cl := (cm.2 l hl).2.2.2 i (by omega)
      have ek : fX5_keyOf ya pat (nI i) = some (rM s l (3 + i)) := by
        unfold fX5_keyOf
        rw [q1, ix5, rd_nI (by omega) (by decide), (i1 (l * 5 + i) (by omega)).1, cl.1]
      have ed : fX5_defaultOf yb pat (nI i) = some (rM s l (8 + i)) := by
        unfold fX5_defaultOf
        rw [q1, ix5, rd_nI (by omega) (by decide), (i1 (l * 5 + i) (by omega)).2, cl.2]
      rw [if_neg hne, ek, bn_s, if_neg hne, ed, bn_s, ix5, wr_nI (by omega) (by decide), wr_nI (by omega) (by decide), (q2 i).1, (q2 i).2]
      rfl) (fun n' y hI => by
    show lX5_add_33 (n' + 1) (nI nm) (upd m_type nm (nI ty)) (upd m_name nm n) (upd m_arity nm (nI a)) y.1 y.2 (nI a) pat (nI nm) (nI a) = _
    rw [lX5_add_33_s, if_pos (up_N (by omega)), nI_1]) 5000 0 (m_keys, m_defs) (Nat.zero_le _) (by omega) ⟨fun j _ => ⟨rfl, rfl⟩, fun w h => absurd h (Nat.not_lt_zero w)⟩
  exact ⟨y.1, y.2, hy, y1, y2⟩
theorem nm_rM {ty a m w : Nat} {n : Int32} {kf df : Nat → Int32} (h : NMt s s' nm ty n a kf df) (hm : m < nm) (hw : w < 13) : rM s' m w = rM s m w := h.1 _ (by omega) (by omega)
theorem pt_keys (hm : WFM s nt nm) {a : Nat} (ha : a ≤ 5) {pat : Int32} {kf df : Nat → Int32} (hp : PT s nm a pat kf df) : (∀ i, i < a → kf i = nI (Nn (kf i)) ∧ Nn (kf i) < 10) ∧ ∀ i j, i < j → j < a → Nn (kf i) ≠ Nn (kf j) := by
  rcases hp with ⟨q1, q2⟩ | ⟨l, hl, q1, hla, q2⟩
  · have e : ∀ i, i < a → Nn (kf i) = i := fun i hi => by rw [(q2 i).1, Nn_nI (by omega)]
    exact ⟨fun i hi => ⟨by rw [e i hi]; exact (q2 i).1, by rw [e i hi]; omega⟩, fun i j hij hj => by rw [e i (by omega), e j hj]; omega⟩
  · obtain ⟨-, -, -, -, hK, hKd⟩ := hm.2.2 l hl
    have e : ∀ i, Nn (kf i) = nK s l i := fun i => by rw [(q2 i).1]; rfl
    exact ⟨fun i hi => by rw [e i, (q2 i).1]; exact hK i (by omega), fun i j hij hj => by rw [e i, e j]; exact hKd i j hij (by omega)⟩
theorem nm_WFM (hw : WFT s nt) (hm : WFM s nt nm) (hnm : nm < 16) {ty a : Nat} (hty : ty < nt) (ha : a ≤ 5) {n pat : Int32} {kf df : Nat → Int32} (hp : PT s nm a pat kf df) (h : NMt s s' nm ty n a kf df) : WFM s' nt (nm + 1) := by
  have n8 := hw.1
  refine ⟨hnm, h.2.1, fun m hmm => ?_⟩
  by_cases e : m = nm
  · subst e
    obtain ⟨-, -, n0, n1, n2, n3⟩ := h
    obtain ⟨pk1, pk2⟩ := pt_keys hm ha hp
    have e0 : nT s' m = ty := by unfold nT; rw [n0, Nn_nI (by omega)]
    have e2 : nA s' m = a := by unfold nA; rw [n2, Nn_nI (by omega)]
    have eK : ∀ i, i < a → nK s' m i = Nn (kf i) := fun i hi => by unfold nK; rw [(n3 i (by omega)).1]
    rw [e0, e2, n0, n2]
    refine ⟨rfl, hty, rfl, ha, fun i hi => ?_, fun i j hij hj => ?_⟩
    · rw [eK i hi, (n3 i (by omega)).1]
      exact pk1 i hi
    · rw [eK i (by omega), eK j hj]
      exact pk2 i j hij hj
  · have hm' : m < nm := by omega
    obtain ⟨w1, w2, w3, w4, w5, w6⟩ := hm.2.2 m hm'
    have eT : nT s' m = nT s m := by unfold nT; rw [nm_rM h hm' (by decide)]
    have eA : nA s' m = nA s m := by unfold nA; rw [nm_rM h hm' (by decide)]
    have eK : ∀ i, i < nA s m → nK s' m i = nK s m i := fun i hi => by unfold nK; rw [nm_rM h hm' (by omega)]
    rw [nm_rM h hm' (by decide), nm_rM h hm' (by decide), eT, eA]
    refine ⟨w1, w2, w3, w4, fun i hi => ?_, fun i j hij hj => ?_⟩
    · rw [nm_rM h hm' (by omega), eK i hi]
      exact w5 i hi
    · rw [eK i (by omega), eK j hj]
      exact w6 i j hij hj
theorem nm_CMt (hm : WFM s nt nm) (cm : CMt s nm m_count m_type m_name m_arity m_keys m_defs) {ty a : Nat} (ha : a ≤ 5) {n : Int32} {kf df : Nat → Int32} (h : NMt s s' nm ty n a kf df) {keys' defs' : Nat → Int32} (h1 : ∀ j, j < nm * 5 → keys' j = m_keys j ∧ defs' j = m_defs j) (h2 : ∀ i, i < a → keys' (nm * 5 + i) = kf i ∧ defs' (nm * 5 + i) = df i) : CMt s' (nm + 1) (nI (nm + 1)) (upd m_type nm (nI ty)) (upd m_name nm n) (upd m_arity nm (nI a)) keys' defs' := by
  refine ⟨rfl, fun m hmm => ?_⟩
  by_cases e : m = nm
  · subst e
    obtain ⟨-, -, n0, n1, n2, n3⟩ := h
    have e2 : nA s' m = a := by unfold nA; rw [n2, Nn_nI (by omega)]
    rw [upd_s, upd_s, upd_s, n0, n1, n2, e2]
    refine ⟨rfl, rfl, rfl, fun i hi => ?_⟩
    rw [(n3 i (by omega)).1, (n3 i (by omega)).2]
    exact h2 i hi
  · have hm' : m < nm := by omega
    obtain ⟨w1, w2, w3, w4, w5, w6⟩ := hm.2.2 m hm'
    obtain ⟨c1, c2, c3, c4⟩ := cm.2 m hm'
    have eA : nA s' m = nA s m := by unfold nA; rw [nm_rM h hm' (by decide)]
    rw [upd_n e, upd_n e, upd_n e, nm_rM h hm' (by decide), nm_rM h hm' (by decide), nm_rM h hm' (by decide), eA]
    refine ⟨c1, c2, c3, fun i hi => ?_⟩
    rw [nm_rM h hm' (by omega), nm_rM h hm' (by omega), (h1 _ (by omega)).1, (h1 _ (by omega)).2]
    exact c4 i hi
theorem nm_WFC (hw : WFT s nt) (hk : WFC s nt nm nc) (hnm : nm < 16) {ty a : Nat} {n : Int32} {kf df : Nat → Int32} (h : NMt s s' nm ty n a kf df) : WFC s' nt (nm + 1) nc := by
  have n8 := hw.1
  have h8 := hk.1
  refine ⟨hk.1, (h.1 234 (by omega) (by omega)).trans hk.2.1, fun c hc => ?_⟩
  have W := hk.2.2 c hc
  have d' := W.dy'
  have t' := W.tg'
  refine WFC1_frame W (fun w hw => h.1 _ (by omega) (by omega)) (Nat.le_refl _) (by omega) (h.1 _ (by omega) (by omega)) (fun _ => ?_) (fun hh => ?_)
  · unfold nA
    rw [nm_rM h t' (by decide)]
  · have e : nT s' (cG s c) = nT s (cG s c) := by
      unfold nT
      rw [nm_rM h t' (by decide)]
    rw [e]
    exact (up_frame hw (fun j hj => h.1 j (by omega) (by omega)) W.st').mpr hh
end NM
