/-! setArgument: class and reference -/
theorem bn4_s {α β γ δ ε : Type} {a : α} {b : β} {c : γ} {d : δ} {k : α → β → γ → δ → Option ε} : bn4 (some (a, b, c, d)) k = k a b c d := rfl
section S1
variable {s : Nat → Int32} {t_count t_ifs : Int32} {t_sup : Nat → Int32} {m_count : Int32} {m_type m_name m_arity m_keys m_defs : Nat → Int32} {k_count k_fs : Int32} {k_st k_dy k_tg k_ac k_tc k_keys k_kinds k_vals k_tk k_nk k_nv : Nat → Int32}
theorem op_setArgument {past : Nat → Int32} {p q : Nat} {hs : Nat → MS} (d_open ch : Int32) (R : RMc s t_count t_ifs t_sup m_count m_type m_name m_arity m_keys m_defs k_count k_fs k_st k_dy k_tg k_ac k_tc k_keys k_kinds k_vals k_tk) (H : HR past p q hs) (x1 x2 x3 x4 : Int32) :
    (∃ r, fX8_setArgument t_count t_ifs t_sup m_count m_type m_name m_arity m_keys m_defs k_count k_fs k_st k_dy k_tg k_ac k_tc k_keys k_kinds k_vals k_tk k_nk k_nv d_open (nI p) (nI q) hs x1 x2 x3 x4 = some (r, k_kinds, k_vals, d_open, nI p, nI q, hs) ∧ fX9_setArgument s past (nI p) ch x1 x2 x3 x4 = some (r, s, past, nI p, ch)) ∨
    (∃ r kinds' vals' hs' s' past' p' q', fX8_setArgument t_count t_ifs t_sup m_count m_type m_name m_arity m_keys m_defs k_count k_fs k_st k_dy k_tg k_ac k_tc k_keys k_kinds k_vals k_tk k_nk k_nv d_open (nI p) (nI q) hs x1 x2 x3 x4 = some (r, kinds', vals', 0, nI p', nI q', hs') ∧ fX9_setArgument s past (nI p) ch x1 x2 x3 x4 = some (r, s', past', nI p', -9) ∧ RMc s' t_count t_ifs t_sup m_count m_type m_name m_arity m_keys m_defs k_count k_fs k_st k_dy k_tg k_ac k_tc k_keys kinds' vals' k_tk ∧ HR past' p' q' hs') := by
  obtain ⟨z0, nt, nm, nc, hw, hm, hk, ct, cm, ck⟩ := id R
  have h8 := hk.1
  unfold fX8_setArgument fX9_setArgument jX9_setArgument_30
  obtain ⟨r1, hr1, hb1⟩ := e_isArgument hk x1 x2
  obtain ⟨r2, hr2, hb2⟩ := e_hasArgument hk ck x1 x2
  rw [hr1, hr2, bn_s, bn_s]
  by_cases g : ∃ c i, c < nc ∧ x1 = nI c ∧ i < cA s c ∧ x2 = nI i
  · rw [if_neg (fun q => (isb_0 hb1).mp q g), if_neg (fun q => (isb_0 hb2).mp q g)]
    obtain ⟨c, i, hcn, rfl, hi, rfl⟩ := g
    have W := hk.2.2 c hcn
    have w5 := W.ar'
    obtain ⟨r3, hr3, hb3⟩ := e_isExpression x3 x4
    obtain ⟨r4, hr4, hb4⟩ := e_in x3 0 2
    obtain ⟨r5, hr5, hb5⟩ := e_in x4 (if x3 = 0 then -99 else 0) (if x3 = 0 then 99 else 0)
    have e012 : (0 ≤ x3 ∧ x3 ≤ 2) ↔ (x3 = 0 ∨ x3 = 1 ∨ x3 = 2) := by
      constructor
      · rintro ⟨a, b⟩
        obtain ⟨j, hj, rfl⟩ := nI_of2 (M := 2) (n := 2) (by decide) (Int32.not_lt.mpr a) b
        rcases (by omega : j = 0 ∨ j = 1 ∨ j = 2) with rfl | rfl | rfl
        · exact Or.inl rfl
        · exact Or.inr (Or.inl rfl)
        · exact Or.inr (Or.inr rfl)
      · rintro (rfl | rfl | rfl) <;> decide
    have e5 : ((if x3 = 0 then -99 else 0) ≤ x4 ∧ x4 ≤ (if x3 = 0 then 99 else 0)) ↔ (x3 = 0 ∧ -99 ≤ x4 ∧ x4 ≤ 99) ∨ (x3 ≠ 0 ∧ x4 = 0) := by
      by_cases z : x3 = 0
      · rw [if_pos z, if_pos z]
        exact ⟨fun h => Or.inl ⟨z, h⟩, fun h => h.elim (fun q => q.2) (fun q => absurd z q.1)⟩
      · rw [if_neg z, if_neg z]
        exact ⟨fun h => Or.inr ⟨z, Int32.le_antisymm h.2 h.1⟩, fun h => h.elim (fun q => absurd q.1 z) (fun q => by rw [q.2]; decide)⟩
    have hif : (if x3 = 0 then (if x3 = 0 then jX9_setArgument_40 s past (nI p) ch (nI c) (nI i) x3 x4 x4 (-99) 99 else jX9_setArgument_40 s past (nI p) ch (nI c) (nI i) x3 x4 x4 (-99) 0) else (if x3 = 0 then jX9_setArgument_40 s past (nI p) ch (nI c) (nI i) x3 x4 x4 0 99 else jX9_setArgument_40 s past (nI p) ch (nI c) (nI i) x3 x4 x4 0 0)) = jX9_setArgument_40 s past (nI p) ch (nI c) (nI i) x3 x4 x4 (if x3 = 0 then -99 else 0) (if x3 = 0 then 99 else 0) := by
      by_cases z : x3 = 0
      · rw [if_pos z, if_pos z, if_pos z, if_pos z]
      · rw [if_neg z, if_neg z, if_neg z, if_neg z]
    rw [hr3, hr4, bn_s, bn_s, hif]
    unfold jX9_setArgument_40
    rw [hr5, bn_s]
    by_cases ge : (x3 = 0 ∧ -99 ≤ x4 ∧ x4 ≤ 99) ∨ ((x3 = 1 ∨ x3 = 2) ∧ x4 = 0)
    · have g4 : 0 ≤ x3 ∧ x3 ≤ 2 := e012.mpr (ge.elim (fun q => Or.inl q.1) (fun q => Or.inr q.1))
      have g5 : (if x3 = 0 then -99 else 0) ≤ x4 ∧ x4 ≤ (if x3 = 0 then 99 else 0) := e5.mpr (ge.elim (fun q => Or.inl q) (fun q => Or.inr ⟨by rcases q.1 with z | z <;> (rw [z]; decide), q.2⟩))
      rw [if_neg (fun q => (isb_0 hb3).mp q ge), if_neg (fun q => (isb_0 hb4).mp q g4), if_neg (fun q => (isb_0 hb5).mp q g5), e_kkindOf hk ck hcn hi, bn_s, o5, o10, e_at rfl, e_at rfl, bn_s, rd_C (by omega) (by omega)]
      obtain ⟨r6, hr6, hb6⟩ := e_isFrozen hk hcn
      obtain ⟨r7, hr7, hb7⟩ := e_kisFrozen hk ck hcn
      rw [hr6, hr7, bn_s, bn_s]
      by_cases g6 : rC s c 3 = 1
      · rw [if_neg (fun q => (isb_0 hb6).mp q g6), if_neg (fun q => (isb_0 hb7).mp q g6)]
        exact Or.inl ⟨_, rfl, rfl⟩
      · rw [if_pos ((isb_0 hb6).mpr g6), if_pos ((isb_0 hb7).mpr g6)]
        by_cases g7 : rC s c (5 + i) = 3
        · rw [if_pos g7, if_pos g7]
          exact Or.inl ⟨_, rfl, rfl⟩
        · rw [if_neg g7, if_neg g7]
          obtain ⟨hs', hbe, hR, hO⟩ := e_beginEdit (t_count := t_count) (t_ifs := t_ifs) (t_sup := t_sup) (m_count := m_count) (m_type := m_type) (m_name := m_name) (m_arity := m_arity) (m_keys := m_keys) (m_defs := m_defs) (k_count := k_count) (k_fs := k_fs) (k_st := k_st) (k_dy := k_dy) (k_tg := k_tg) (k_ac := k_ac) (k_tc := k_tc) (k_keys := k_keys) (k_kinds := k_kinds) (k_vals := k_vals) (k_tk := k_tk) (k_nk := k_nk) (k_nv := k_nv) H.1 H.2.1 d_open hs
          obtain ⟨past', p', h1, h2, h3, h4⟩ := e_edit (s := s) H.1 past ch
          rw [hbe, ← h2, h1]
          refine Or.inr ⟨rC s c (5 + i), upd k_kinds (c * 5 + i) x3, upd k_vals (c * 5 + i) x4, hs', sArg s c i x3 x4, past', p', (q + 1) % 8, ?_, ?_, ?_, hr_edit H h2 h3 h4 (hR s R) hO⟩
          · rw [bn4_s]
            unfold fX0_putArgument
            rw [ix5, wr_nI (by omega) (by decide), wr_nI (by omega) (by decide)]
            rfl
          · rw [bn3_s, bn_s, wr_nI (by omega) (by decide), bn_s, wr_nI (by omega) (by decide)]
            rfl
          · exact ⟨fun k hk' => (sArg_o (by omega) (by omega)).trans (z0 k hk'), nt, nm, nc, WFT_frame hw (fun j h => sArg_o (by omega) (by omega)), WFM_frame hm (fun j h1 h2 => sArg_o (by omega) (by omega)), sArg_WFC hw hm hk hcn hi (e012.mp g4), CT_frame hw (fun j h => sArg_o (by omega) (by omega)) ct, CMt_frame hm (fun j h1 h2 => sArg_o (by omega) (by omega)) cm, sArg_CK hk ck hcn hi⟩
    · rw [if_pos ((isb_0 hb3).mpr ge)]
      by_cases g4 : 0 ≤ x3 ∧ x3 ≤ 2
      · rw [if_neg (fun q => (isb_0 hb4).mp q g4), if_pos ((isb_0 hb5).mpr (fun q => ge ?_))]
        · exact Or.inl ⟨_, rfl, rfl⟩
        · rcases e5.mp q with z | z
          · exact Or.inl z
          · exact Or.inr ⟨(e012.mp g4).resolve_left z.1, z.2⟩
      · rw [if_pos ((isb_0 hb4).mpr g4)]
        exact Or.inl ⟨_, rfl, rfl⟩
  · rw [if_pos ((isb_0 hb1).mpr g), if_pos ((isb_0 hb2).mpr g)]
    exact Or.inl ⟨_, rfl, rfl⟩
end S1
