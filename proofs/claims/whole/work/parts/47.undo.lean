/-! undo -/
section UD
variable {s : Nat → Int32} {t_count t_ifs : Int32} {t_sup : Nat → Int32} {m_count : Int32} {m_type m_name m_arity m_keys m_defs : Nat → Int32} {k_count k_fs : Int32} {k_st k_dy k_tg k_ac k_tc k_keys k_kinds k_vals k_tk k_nk k_nv : Nat → Int32}
theorem op_undo {past : Nat → Int32} {p q : Nat} {hs : Nat → MS} (d_open ch : Int32) (R : RMc s t_count t_ifs t_sup m_count m_type m_name m_arity m_keys m_defs k_count k_fs k_st k_dy k_tg k_ac k_tc k_keys k_kinds k_vals k_tk) (H : HR past p q hs) :
    (∃ r, fX8_undo t_count t_ifs t_sup m_count m_type m_name m_arity m_keys m_defs k_count k_fs k_st k_dy k_tg k_ac k_tc k_keys k_kinds k_vals k_tk k_nk k_nv d_open (nI p) (nI q) hs = some (r, t_count, t_ifs, t_sup, m_count, m_type, m_name, m_arity, m_keys, m_defs, k_count, k_fs, k_st, k_dy, k_tg, k_ac, k_tc, k_keys, k_kinds, k_vals, k_tk, d_open, nI p, nI q) ∧ fX9_undo s past (nI p) ch = some (r, s, nI p, ch)) ∨
    (∃ r b1 b2 b3 b4 b5 b6 b7 b8 b9 b10 b11 b12 b13 b14 b15 b16 b17 b18 b19 b20 s' p' q', fX8_undo t_count t_ifs t_sup m_count m_type m_name m_arity m_keys m_defs k_count k_fs k_st k_dy k_tg k_ac k_tc k_keys k_kinds k_vals k_tk k_nk k_nv d_open (nI p) (nI q) hs = some (r, b1, b2, b3, b4, b5, b6, b7, b8, b9, b10, b11, b12, b13, b14, b15, b16, b17, b18, b19, b20, 0, nI p', nI q') ∧ fX9_undo s past (nI p) ch = some (r, s', nI p', -9) ∧ RMc s' b1 b2 b3 b4 b5 b6 b7 b8 b9 b10 b11 b12 b13 b14 b15 b16 b17 b18 b19 b20 ∧ HR past p' q' hs) := by
  cases p with
  | zero =>
    refine Or.inl ⟨-2, ?_, ?_⟩
    · unfold fX8_undo
      rw [if_pos (show nI 0 = (0 : Int32) from rfl)]
    · unfold fX9_undo
      rw [if_pos (show nI 0 = (0 : Int32) from rfl)]
  | succ p =>
    have hp8 := H.1
    have hq8 := H.2.1
    obtain ⟨s', h1, h2, h3⟩ := e_undo (s := s) (p := p) (by omega) past ch
    obtain ⟨h4, h5⟩ := hr_undo H (RM_mk (n1 := k_nk) (n2 := k_nv).mpr R) h2 h3
    have e8 : fX3_goBack (nI (p + 1)) (nI q) hs t_count t_ifs t_sup m_count m_type m_name m_arity m_keys m_defs k_count k_fs k_st k_dy k_tg k_ac k_tc k_keys k_kinds k_vals k_tk k_nk k_nv = (match hs ((q + 7) % 8) with | (b1, b2, b3, b4, b5, b6, b7, b8, b9, b10, b11, b12, b13, b14, b15, b16, b17, b18, b19, b20, _, _) => some (nI p, nI p, nI ((q + 7) % 8), b1, b2, b3, b4, b5, b6, b7, b8, b9, b10, b11, b12, b13, b14, b15, b16, b17, b18, b19, b20)) := by
      unfold fX3_goBack
      rw [e_prev hq8, if_pos (inb_nI (by omega) (by decide)), nI_clamp (by omega), nI_pred]
    revert h4 e8
    generalize hs ((q + 7) % 8) = y
    obtain ⟨b1, b2, b3, b4, b5, b6, b7, b8, b9, b10, b11, b12, b13, b14, b15, b16, b17, b18, b19, b20, b21, b22⟩ := y
    intro h4 e8
    refine Or.inr ⟨nI p, b1, b2, b3, b4, b5, b6, b7, b8, b9, b10, b11, b12, b13, b14, b15, b16, b17, b18, b19, b20, s', p, (q + 7) % 8, ?_, h1, RM_mk.mp h4, h5⟩
    unfold fX8_undo fX1_close
    rw [if_neg (nI_ne0 (by omega) (by omega)), bn_s, e8]
    rfl
end UD
