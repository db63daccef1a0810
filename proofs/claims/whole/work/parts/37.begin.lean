/-! the class's start of an edit -/
def RMc (s : Nat → Int32) (t_count t_ifs : Int32) (t_sup : Nat → Int32) (m_count : Int32) (m_type m_name m_arity m_keys m_defs : Nat → Int32) (k_count k_fs : Int32) (k_st k_dy k_tg k_ac k_tc k_keys k_kinds k_vals k_tk : Nat → Int32) : Prop := (∀ k, 467 ≤ k → s k = 0) ∧ ∃ nt nm nc, WFT s nt ∧ WFM s nt nm ∧ WFC s nt nm nc ∧ CT s nt t_count t_ifs t_sup ∧ CMt s nm m_count m_type m_name m_arity m_keys m_defs ∧ CK s nc k_count k_fs k_st k_dy k_tg k_ac k_tc k_keys k_kinds k_vals k_tk
section B1
variable {t_count t_ifs : Int32} {t_sup : Nat → Int32} {m_count : Int32} {m_type m_name m_arity m_keys m_defs : Nat → Int32} {k_count k_fs : Int32} {k_st k_dy k_tg k_ac k_tc k_keys k_kinds k_vals k_tk k_nk k_nv : Nat → Int32}
theorem RM_mk {s : Nat → Int32} {n1 n2 : Nat → Int32} : RM s (t_count, t_ifs, t_sup, m_count, m_type, m_name, m_arity, m_keys, m_defs, k_count, k_fs, k_st, k_dy, k_tg, k_ac, k_tc, k_keys, k_kinds, k_vals, k_tk, n1, n2) ↔ RMc s t_count t_ifs t_sup m_count m_type m_name m_arity m_keys m_defs k_count k_fs k_st k_dy k_tg k_ac k_tc k_keys k_kinds k_vals k_tk := Iff.rfl
theorem e_beginEdit {p q : Nat} (hp : p ≤ 8) (hq : q < 8) (d_open : Int32) (hs : Nat → MS) : ∃ hs', fX8_beginEdit t_count t_ifs t_sup m_count m_type m_name m_arity m_keys m_defs k_count k_fs k_st k_dy k_tg k_ac k_tc k_keys k_kinds k_vals k_tk k_nk k_nv d_open (nI p) (nI q) hs = some (0, nI (if p = 8 then 8 else p + 1), nI ((q + 1) % 8), hs') ∧ (∀ s, RMc s t_count t_ifs t_sup m_count m_type m_name m_arity m_keys m_defs k_count k_fs k_st k_dy k_tg k_ac k_tc k_keys k_kinds k_vals k_tk → RM s (hs' q)) ∧ ∀ k, k ≠ q → hs' k = hs k := by
  unfold fX8_beginEdit fX3_remember fX1_close
  rw [if_pos (inb_nI hq (by decide)), bn3_s, bn_s, e_count hp, e_next hq]
  refine ⟨_, rfl, fun s h => ?_, fun k hk => ?_⟩
  · rw [nI_clamp (by omega), if_pos rfl]
    exact RM_mk.mpr h
  · show (if k = (nI q).toNatClampNeg then _ else hs k) = hs k
    rw [nI_clamp (by omega), if_neg hk]
end B1
