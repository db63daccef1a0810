/-! declareMethod: class and reference -/
theorem bn7_s {α a0 a1 a2 a3 a4 a5 a6 : Type} {x0 : a0} {x1 : a1} {x2 : a2} {x3 : a3} {x4 : a4} {x5 : a5} {x6 : a6} {k : a0 → a1 → a2 → a3 → a4 → a5 → a6 → Option α} : bn7 (some (x0, x1, x2, x3, x4, x5, x6)) k = k x0 x1 x2 x3 x4 x5 x6 := rfl
section OM
variable {s : Nat → Int32} {nt nm nc : Nat} {t_count t_ifs : Int32} {t_sup : Nat → Int32} {m_count : Int32} {m_type m_name m_arity m_keys m_defs : Nat → Int32} {k_count k_fs : Int32} {k_st k_dy k_tg k_ac k_tc k_keys k_kinds k_vals k_tk k_nk k_nv : Nat → Int32}
theorem op_declareMethod {past : Nat → Int32} {p q : Nat} {hs : Nat → MS} (d_open ch : Int32) (R : RMc s t_count t_ifs t_sup m_count m_type m_name m_arity m_keys m_defs k_count k_fs k_st k_dy k_tg k_ac k_tc k_keys k_kinds k_vals k_tk) (H : HR past p q hs) (x1 x2 x3 : Int32) :
    (∃ r, fX8_declareMethod t_count t_ifs t_sup m_count m_type m_name m_arity m_keys m_defs k_count k_fs k_st k_dy k_tg k_ac k_tc k_keys k_kinds k_vals k_tk k_nk k_nv d_open (nI p) (nI q) hs x1 x2 x3 = some (r, m_count, m_type, m_name, m_arity, m_keys, m_defs, d_open, nI p, nI q, hs) ∧ fX9_declareMethod s past (nI p) ch x1 x2 x3 = some (r, s, past, nI p, ch)) ∨
    (∃ r n' ty' na' ar' keys' defs' hs' s' past' p' q', fX8_declareMethod t_count t_ifs t_sup m_count m_type m_name m_arity m_keys m_defs k_count k_fs k_st k_dy k_tg k_ac k_tc k_keys k_kinds k_vals k_tk k_nk k_nv d_open (nI p) (nI q) hs x1 x2 x3 = some (r, n', ty', na', ar', keys', defs', 0, nI p', nI q', hs') ∧ fX9_declareMethod s past (nI p) ch x1 x2 x3 = some (r, s', past', nI p', -9) ∧ RMc s' t_count t_ifs t_sup n' ty' na' ar' keys' defs' k_count k_fs k_st k_dy k_tg k_ac k_tc k_keys k_kinds k_vals k_tk ∧ HR past' p' q' hs') := by
  obtain ⟨z0, nt, nm, nc, hw, hm, hk, ct, cm, ck⟩ := id R
  have h8 := hk.1
  have n8 := hw.1
  have h16 := hm.1
  unfold fX8_declareMethod fX9_declareMethod
  obtain ⟨r1, hr1, hb1⟩ := e_texists hw ct x1
  obtain ⟨r2, hr2, hb2⟩ := e_isType hw x1
  rw [hr1, hr2, bn_s, bn_s]
  by_cases g1 : ∃ t, t < nt ∧ x1 = nI t
  · rw [if_neg (fun q => (isb_0 hb1).mp q g1), if_neg (fun q => (isb_0 hb2).mp q g1)]
    obtain ⟨ty, hty, rfl⟩ := g1
    obtain ⟨r5, hr5, hb5⟩ := e_isSignature x2 x3
    obtain ⟨r6, hr6, hb6⟩ := e_in x2 0 5
    obtain ⟨r7, hr7, hb7⟩ := e_in x3 0 5
    rw [hr5, hr6, bn_s, bn_s]
    by_cases g3 : 0 ≤ x2 ∧ x2 ≤ 5
    · rw [if_neg (fun q => (isb_0 hb6).mp q g3), hr7, bn_s]
      by_cases g4 : 0 ≤ x3 ∧ x3 ≤ 5
      · rw [if_neg (fun q => (isb_0 hb5).mp q ⟨g3, g4⟩), if_neg (fun q => (isb_0 hb7).mp q g4), e_bit, bn_s]
        obtain ⟨a, ha5, rfl⟩ := nI_of2 (M := 5) (n := 5) (by decide) (Int32.not_lt.mpr g4.1) g4.2
        obtain ⟨cs, hcs, csb⟩ := e_connectedWith hw ct (1 <<< (nI ty &&& 31))
        obtain ⟨x, hx, hxb⟩ := e_withSignature hw hm cm x2 (nI a) cs
        obtain ⟨y, hy, hyb⟩ := e_relatives hw hm hty x2 (nI a)
        have hyb' : ∀ k, tb y k = true ↔ k < nm ∧ sg s k x2 (nI a) ∧ conn s nt ty (nT s k) := fun k => by rw [hyb k, ex_self (P := fun k => sg s k x2 (nI a) ∧ conn s nt ty (nT s k))]
        have e : x = y := eq_bits (fun k => by
          rw [hxb k, ex_self (P := fun k => sg s k x2 (nI a) ∧ tb cs (nT s k) = true), hyb' k, csb]
          constructor
          · rintro ⟨q1, q2, j, q3, q4⟩
            rw [tb_bitt (by omega)] at q3
            subst q3
            exact ⟨q1, q2, q4⟩
          · rintro ⟨q1, q2, q4⟩
            exact ⟨q1, q2, ty, (tb_bitt (by omega) ty).mpr rfl, q4⟩)
        subst e
        obtain ⟨rd1, hd1, hdl⟩ := e_cdeclaredBy hw hm cm hty x2 (nI a)
        obtain ⟨rd2, hd2, hdb⟩ := e_declares hm hw hty x2 (nI a)
        rw [hcs, bn_s, hx, bn_s, hd1, bn_s, hy, bn_s, hd2, bn_s]
        by_cases g5 : ∃ m, m < nm ∧ (nT s m = ty ∧ sg s m x2 (nI a))
        · rw [if_neg (fun q => by obtain ⟨m, q1, q2⟩ := g5; exact (lst_none (by omega) hdl).mp q m q1 q2), if_neg (fun q => (isb_0 hdb).mp q g5)]
          exact Or.inl ⟨_, rfl, rfl⟩
        · rw [if_pos ((lst_none (by omega) hdl).mpr (fun m q1 q2 => g5 ⟨m, q1, q2⟩)), if_pos ((isb_0 hdb).mpr g5)]
          obtain ⟨r8, hr8, hb8⟩ := e_agree hm cm x (fun c d hc hd htc htd => ((hyb' c).mp htc).2.1.2.trans ((hyb' d).mp htd).2.1.2.symm)
          obtain ⟨r9, hr9, hb9⟩ := e_haveOneList hw hm x (fun k hk => ((hyb' k).mp hk).1)
          have e89 := isb_eq hb8 hb9
          subst e89
          rw [hr8, hr9, bn_s, bn_s]
          by_cases g6 : r8 = 0
          · rw [if_pos g6, if_pos g6]
            exact Or.inl ⟨_, rfl, rfl⟩
          · rw [if_neg g6, if_neg g6, rd_l25, hm.2.1, cm.1]
            by_cases g8 : nm = 16
            · subst g8
              rw [if_neg (show ¬ nI 16 < (16 : Int32) by decide), if_pos (show nI 16 = (16 : Int32) from rfl)]
              exact Or.inl ⟨_, rfl, rfl⟩
            · have hnm : nm < 16 := by omega
              rw [if_pos (show nI nm < (16 : Int32) from nI_lt (b := 16) hnm (by decide)), if_neg (show ¬ nI nm = (16 : Int32) from fun q => g8 (nI_inj (b := 16) (by omega) (by decide) q))]
              obtain ⟨hs', hbe, hR, hO⟩ := e_beginEdit (t_count := t_count) (t_ifs := t_ifs) (t_sup := t_sup) (m_count := nI nm) (m_type := m_type) (m_name := m_name) (m_arity := m_arity) (m_keys := m_keys) (m_defs := m_defs) (k_count := k_count) (k_fs := k_fs) (k_st := k_st) (k_dy := k_dy) (k_tg := k_tg) (k_ac := k_ac) (k_tc := k_tc) (k_keys := k_keys) (k_kinds := k_kinds) (k_vals := k_vals) (k_tk := k_tk) (k_nk := k_nk) (k_nv := k_nv) H.1 H.2.1 d_open hs
              obtain ⟨past', p', h1, h2, h3, h4⟩ := e_edit (s := s) H.1 past ch
              obtain ⟨pat, hpat, hpl⟩ := e_smallest hm cm x
              rw [cm.1] at hpat
              have R' := R
              rw [cm.1] at R'
              obtain ⟨kf, df, hp, hset, hlow⟩ : ∃ kf df, PT s nm a pat kf df ∧ (x = 0 ↔ pat = -9) ∧ ∀ l, l < nm → pat = nI l → fX9_lowest x = some (nI l) := by
                rcases hpl with ⟨l, hl, htl, hmin, rfl⟩ | ⟨rfl, hno⟩
                · refine ⟨fun i => rM s l (3 + i), fun i => rM s l (8 + i), Or.inr ⟨l, hl, rfl, ?_, fun i => ⟨rfl, rfl⟩⟩, ⟨fun z => absurd htl (nz_iff.mp z l), fun z => absurd z (nI_ne9 (by omega))⟩, fun l' _ e => ?_⟩
                  · unfold nA
                    rw [((hyb' l).mp htl).2.1.2, Nn_nI (by omega)]
                  · obtain ⟨j, hj, hjk, hjt, hjm⟩ := e_lowest x (k := l) (by omega) htl
                    rw [hj, ← e]
                    rcases Nat.lt_trichotomy j l with z | z | z
                    · exact absurd hjt (hmin j z)
                    · rw [z]
                    · omega
                · exact ⟨fun i => nI i, fun i => 0, Or.inl ⟨rfl, fun i => ⟨rfl, rfl⟩⟩, ⟨fun _ => rfl, fun _ => nz_iff.mpr (fun k hk => hno k ((hyb' k).mp hk).1 hk)⟩, fun l hl e => absurd e.symm (nI_ne9 (by omega))⟩
              obtain ⟨s', q1, q2⟩ := e_declMeth9 hnm hm.2.1 ty x2 (a := a) hp hset hlow past' (nI p') (-9)
              obtain ⟨keys', defs', q3, q4, q5⟩ := e_declMeth8 hm cm hnm ty x2 ha5 hp
              rw [hbe, ← h2, h1, bn4_s, bn3_s, hpat, bn_s, q3, bn7_s]
              refine Or.inr ⟨nI nm, _, _, _, _, keys', defs', hs', s', past', p', (q + 1) % 8, rfl, ?_, ?_, hr_edit H h2 h3 h4 (hR s R') hO⟩
              · have i0 : (26 : Int32) + 13 * nI nm = nI (26 + 13 * nm + 0) := by
                  show nI 26 + nI 13 * nI nm = nI (26 + 13 * nm)
                  rw [nI_mul, nI_add]
                have i1 : ((26 : Int32) + 13 * nI nm) + 1 = nI (26 + 13 * nm + 1) := ixM nm 1
                have i2 : ((26 : Int32) + 13 * nI nm) + 2 = nI (26 + 13 * nm + 2) := ixM nm 2
                rw [rd_l25, hm.2.1, i1, i2]
                have w0 : ∀ (k : (Nat → Int32) → Option (Int32 × (Nat → Int32) × (Nat → Int32) × Int32 × Int32)), wr 467 s (26 + 13 * nI nm) (nI ty) k = k (upd s (26 + 13 * nm + 0) (nI ty)) := fun k => by
                  rw [i0, wr_nI (by omega) (by decide)]
                rw [w0, wr_nI (by omega) (by decide), wr_nI (by omega) (by decide)]
                exact q1
              · exact ⟨fun k hk' => (q2.1 k (by omega) (by omega)).trans (z0 k hk'), nt, nm + 1, nc, WFT_frame hw (fun j h => q2.1 j (by omega) (by omega)), nm_WFM hw hm hnm hty ha5 hp q2, nm_WFC hw hk hnm q2, CT_frame hw (fun j h => q2.1 j (by omega) (by omega)) ct, nm_CMt hm cm ha5 q2 q4 q5, CK_frame hk ck (fun c w hc hw => q2.1 _ (by omega) (by omega))⟩
      · rw [if_pos ((isb_0 hb5).mpr (fun q => g4 q.2)), if_pos ((isb_0 hb7).mpr g4)]
        exact Or.inl ⟨_, rfl, rfl⟩
    · rw [if_pos ((isb_0 hb5).mpr (fun q => g3 q.1)), if_pos ((isb_0 hb6).mpr g3)]
      exact Or.inl ⟨_, rfl, rfl⟩
  · rw [if_pos ((isb_0 hb1).mpr g1), if_pos ((isb_0 hb2).mpr g1)]
    exact Or.inl ⟨_, rfl, rfl⟩
end OM
