/-! declareType: class and reference -/
section OT
variable {s : Nat → Int32} {nt nm nc : Nat} {t_count t_ifs : Int32} {t_sup : Nat → Int32} {m_count : Int32} {m_type m_name m_arity m_keys m_defs : Nat → Int32} {k_count k_fs : Int32} {k_st k_dy k_tg k_ac k_tc k_keys k_kinds k_vals k_tk k_nk k_nv : Nat → Int32}
def dT9 (s past : Nat → Int32) (p ch y1 y2 y3 v : Int32) : Option (Int32 × (Nat → Int32) × (Nat → Int32) × Int32 × Int32) :=
  bn (fX9_areAtOdds s v) fun v3 =>
  if v3 = 0 then (
    rd 467 s 0 fun v5 =>
    if v5 = 8 then (
      some ((-3), s, past, p, ch))
    else (
      bn3 (fX9_edit s past p ch) fun g7 g8 g9 =>
      rd 467 s 0 fun v10 =>
      wr 467 s (1 + (3 * v10)) y1 fun g11 =>
      wr 467 g11 ((1 + (3 * v10)) + 1) y2 fun g12 =>
      wr 467 g12 ((1 + (3 * v10)) + 2) y3 fun g13 =>
      rd 467 g13 0 fun v14 =>
      wr 467 g13 0 (v14 + 1) fun g15 =>
      rd 467 g15 0 fun v16 =>
      some (v16 - 1, g15, g7, g8, g9)))
  else (
    some ((-2), s, past, p, ch))
theorem dT9_eq {past : Nat → Int32} {p ch y1 y2 y3 s1 s2 : Int32} : jX9_declareType_67 s past p ch y1 y2 y3 s1 s2 = bn (fX9_closed s (s1 ||| s2)) fun v => dT9 s past p ch y1 y2 y3 v := rfl
theorem or_0 (x : Int32) : x ||| 0 = x := eq_bits (fun k => by rw [tb_or, tb_zero, Bool.or_false])
theorem e_inh (hw : WFT s nt) (ct : CT s nt t_count t_ifs t_sup) {x1 x2 x3 : Int32} (ok : okT s nt x1 x2 x3) (past : Nat → Int32) (p ch : Int32) : ∃ v, fX7_inheritedFrom t_count t_sup x2 x3 = some v ∧ jX9_declareType_54 s past p ch x1 x2 x3 = dT9 s past p ch x1 x2 x3 v ∧ ∀ k, tb v k = true ↔ inh s nt x2 x3 k := by
  have n8 := hw.1
  obtain ⟨o1, o2, o3⟩ := ok
  unfold jX9_declareType_54
  rcases o3 with rfl | ⟨q1, pp, hp, rfl, q3⟩
  · obtain ⟨v, hv, hvb⟩ := e_inheritedFrom0 hw ct x3
    obtain ⟨v', hv', hvb'⟩ := e_closed hw x3 (fun k hk => (o2 k hk).1)
    have h3 : ∀ k, tb v k = true ↔ inh s nt (-1) x3 k := by
      intro k
      rw [hvb k]
      constructor
      · rintro ⟨i, hi, h1, h2⟩
        exact ⟨i, Or.inr h1, h2⟩
      · rintro ⟨i, h1 | h1, h2⟩
        · exact absurd h1.2.symm (fun q => nI_pos (n := i) (by omega) (by rw [q]; decide))
        · exact ⟨i, (o2 i h1).1, h1, h2⟩
    have e : v' = v := eq_bits (fun k => by
      rw [hvb' k, h3 k]
      constructor
      · rintro ⟨i, h1, h2⟩
        exact ⟨i, Or.inr h1, h2⟩
      · rintro ⟨i, h1 | h1, h2⟩
        · exact absurd h1.2.symm (fun q => nI_pos (n := i) (by omega) (by rw [q]; decide))
        · exact ⟨i, h1, h2⟩)
    subst e
    refine ⟨v', hv, ?_, h3⟩
    rw [if_neg (by decide), dT9_eq, or_0, hv', bn_s]
  · obtain ⟨v, hv, hvb⟩ := e_inheritedFrom1 hw ct hp x3
    have hn : ∀ k, tb (x3 ||| (1 <<< (nI pp &&& 31))) k = true ↔ tb x3 k = true ∨ k = pp := fun k => by rw [tb_ort, tb_bitt (by omega)]
    obtain ⟨v', hv', hvb'⟩ := e_closed hw (x3 ||| (1 <<< (nI pp &&& 31))) (fun k hk => ((hn k).mp hk).elim (fun z => (o2 k z).1) (fun z => by rw [z]; exact hp))
    have h3 : ∀ k, tb v k = true ↔ inh s nt (nI pp) x3 k := by
      intro k
      rw [hvb k]
      constructor
      · rintro (h1 | ⟨i, hi, h1, h2⟩)
        · exact ⟨pp, Or.inl ⟨hp, rfl⟩, h1⟩
        · exact ⟨i, Or.inr h1, h2⟩
      · rintro ⟨i, h1 | h1, h2⟩
        · have := nI_inj (a := pp) (b := i) (by omega) (by omega) h1.2
          subst this
          exact Or.inl h2
        · exact Or.inr ⟨i, (o2 i h1).1, h1, h2⟩
    have e : v' = v := eq_bits (fun k => by
      rw [hvb' k, h3 k]
      constructor
      · rintro ⟨i, h1, h2⟩
        rcases (hn i).mp h1 with h1 | rfl
        · exact ⟨i, Or.inr h1, h2⟩
        · exact ⟨i, Or.inl ⟨hp, rfl⟩, h2⟩
      · rintro ⟨i, h1 | h1, h2⟩
        · have := nI_inj (a := pp) (b := i) (by omega) (by omega) h1.2
          subst this
          exact ⟨pp, (hn pp).mpr (Or.inr rfl), h2⟩
        · exact ⟨i, (hn i).mpr (Or.inl h1), h2⟩)
    subst e
    refine ⟨v', hv, ?_, h3⟩
    rw [if_pos (nI_pos' (by omega)), dT9_eq, hv', bn_s]
theorem op_declareType {past : Nat → Int32} {p q : Nat} {hs : Nat → MS} (d_open ch : Int32) (R : RMc s t_count t_ifs t_sup m_count m_type m_name m_arity m_keys m_defs k_count k_fs k_st k_dy k_tg k_ac k_tc k_keys k_kinds k_vals k_tk) (H : HR past p q hs) (x1 x2 x3 : Int32) :
    (∃ r, fX8_declareType t_count t_ifs t_sup m_count m_type m_name m_arity m_keys m_defs k_count k_fs k_st k_dy k_tg k_ac k_tc k_keys k_kinds k_vals k_tk k_nk k_nv d_open (nI p) (nI q) hs x1 x2 x3 = some (r, t_count, t_ifs, t_sup, d_open, nI p, nI q, hs) ∧ fX9_declareType s past (nI p) ch x1 x2 x3 = some (r, s, past, nI p, ch)) ∨
    (∃ r n' ifs' sup' hs' s' past' p' q', fX8_declareType t_count t_ifs t_sup m_count m_type m_name m_arity m_keys m_defs k_count k_fs k_st k_dy k_tg k_ac k_tc k_keys k_kinds k_vals k_tk k_nk k_nv d_open (nI p) (nI q) hs x1 x2 x3 = some (r, n', ifs', sup', 0, nI p', nI q', hs') ∧ fX9_declareType s past (nI p) ch x1 x2 x3 = some (r, s', past', nI p', -9) ∧ RMc s' n' ifs' sup' m_count m_type m_name m_arity m_keys m_defs k_count k_fs k_st k_dy k_tg k_ac k_tc k_keys k_kinds k_vals k_tk ∧ HR past' p' q' hs') := by
  obtain ⟨z0, nt, nm, nc, hw, hm, hk, ct, cm, ck⟩ := id R
  have h8 := hk.1
  have n8 := hw.1
  have h16 := hm.1
  have e01 : (0 ≤ x1 ∧ x1 ≤ 1) ↔ (x1 = 0 ∨ x1 = 1) := by
    constructor
    · rintro ⟨a, b⟩
      obtain ⟨j, hj, rfl⟩ := nI_of2 (M := 1) (n := 1) (by decide) (Int32.not_lt.mpr a) b
      rcases (by omega : j = 0 ∨ j = 1) with rfl | rfl
      · exact Or.inl rfl
      · exact Or.inr rfl
    · rintro (rfl | rfl) <;> decide
  obtain ⟨ai, hai, haib⟩ := e_allInterfaces hw
  obtain ⟨r1, hr1, hb1⟩ := e_in x1 0 1
  obtain ⟨r2, hr2, hb2⟩ := e_allowsSuperclass hw ct x1 x2
  obtain ⟨r3, hr3, hb3⟩ := e_areInterfaces ct x3
  have hsub : (x3 &&& (ai ^^^ (-1))) = 0 ↔ ∀ k, tb x3 k = true → k < nt ∧ s (1 + 3 * k) = 1 := by
    rw [andn_eq0]
    exact ⟨fun h k hk => (haib k).mp (h k hk), fun h k hk => (haib k).mpr (h k hk)⟩
  by_cases ok : okT s nt x1 x2 x3
  · obtain ⟨v, hv1, hv2, hv3⟩ := e_inh hw ct ok past (nI p) ch
    have c9 : fX9_declareType s past (nI p) ch x1 x2 x3 = dT9 s past (nI p) ch x1 x2 x3 v := by
      unfold fX9_declareType
      rw [hr1, bn_s, if_neg (fun q => (isb_0 hb1).mp q (e01.mpr ok.1)), if_neg (fun q => by have := (ok.2.1 31 (tb_neg q)).1; omega), hai, bn_s, if_pos (hsub.mpr ok.2.1), hv2]
      rcases ok.2.2 with g | ⟨g1, t, ht, rfl, g3⟩
      · rw [if_pos g]
      · rw [if_neg (fun q => nI_pos (n := t) (by omega) (by rw [q]; decide)), if_neg (by rw [g1]; decide)]
        obtain ⟨r4, hr4, hb4⟩ := e_isType hw (nI t)
        obtain ⟨r5, hr5, hb5⟩ := e_isInterface (s := s) (t := t) (by omega)
        rw [hr4, bn_s, if_neg (fun q => (isb_0 hb4).mp q ⟨t, ht, rfl⟩), hr5, bn_s, if_pos ((isb_0 hb5).mpr (by rw [g3]; decide))]
    rw [c9]
    unfold fX8_declareType dT9
    rw [hr2, bn_s, if_neg (fun q => (isb_0 hb2).mp q (by
      rcases ok.2.2 with g | ⟨g1, t, ht, g2, g3⟩
      · exact Or.inl ⟨g, ok.1⟩
      · exact Or.inr ⟨by rw [g2]; exact fun q => nI_pos (n := t) (by omega) (by rw [q]; decide), g1, t, ht, g2, g3⟩)), hr3, bn_s, if_neg (fun q => (isb_0 hb3).mp q ok.2.1), hv1, bn_s]
    obtain ⟨r6, hr6, hb6⟩ := e_disagreeWithin hw hm cm v
    obtain ⟨r7, hr7, hb7⟩ := e_areAtOdds hw hm v
    have e67 := isb_eq hb7 hb6
    subst e67
    rw [hr6, hr7, bn_s, bn_s]
    by_cases g : r7 = 0
    · rw [if_pos g, if_pos g, rd_l0, hw.2.1, ct.1]
      by_cases g8 : nt = 8
      · subst g8
        rw [if_neg (show ¬ nI 8 < (8 : Int32) by decide), if_pos (show nI 8 = (8 : Int32) from rfl)]
        exact Or.inl ⟨_, rfl, rfl⟩
      · have hnt : nt < 8 := by omega
        rw [if_pos (show nI nt < (8 : Int32) from nI_lt (b := 8) hnt (by decide)), if_neg (show ¬ nI nt = (8 : Int32) from fun q => g8 (nI_inj (b := 8) (by omega) (by decide) q))]
        obtain ⟨hs', hbe, hR, hO⟩ := e_beginEdit (t_count := nI nt) (t_ifs := t_ifs) (t_sup := t_sup) (m_count := m_count) (m_type := m_type) (m_name := m_name) (m_arity := m_arity) (m_keys := m_keys) (m_defs := m_defs) (k_count := k_count) (k_fs := k_fs) (k_st := k_st) (k_dy := k_dy) (k_tg := k_tg) (k_ac := k_ac) (k_tc := k_tc) (k_keys := k_keys) (k_kinds := k_kinds) (k_vals := k_vals) (k_tk := k_tk) (k_nk := k_nk) (k_nv := k_nv) H.1 H.2.1 d_open hs
        obtain ⟨past', p', h1, h2, h3, h4⟩ := e_edit (s := s) H.1 past ch
        have R' := R
        rw [ct.1] at R'
        rw [hbe, ← h2, h1]
        have ft : ∀ j, 25 ≤ j → nTy s nt x1 x2 x3 j = s j := fun j hj => nTy_o (by omega) (by omega)
        refine Or.inr ⟨nI nt, nI (nt + 1), if x1 = 1 then t_ifs ||| (1 <<< (nI nt &&& 31)) else t_ifs, upd t_sup nt (v ||| (1 <<< (nI nt &&& 31))), hs', nTy s nt x1 x2 x3, past', p', (q + 1) % 8, ?_, ?_, ?_, hr_edit H h2 h3 h4 (hR s R') hO⟩
        · rw [bn4_s]
          unfold fX7_add jX7_add_35
          rw [e_bit, bn_s, wr_nI hnt (by decide), nI_1]
          by_cases g1 : x1 = 1
          · rw [if_pos g1, if_pos g1]
            rfl
          · rw [if_neg g1, if_neg g1]
            rfl
        · have k2 : ∀ (u : Nat → Int32), u 0 = nI (nt + 1) → (rd 467 u 0 fun v16 => some (v16 - 1, u, past', nI p', (-9 : Int32))) = some (nI nt, u, past', nI p', -9) := fun u hu => by
            rw [rd_l0, hu, nI_pred]
          rw [bn3_s, rd_l0, hw.2.1, ixT, wr_nI (by omega) (by decide), show nI (1 + 3 * nt) + 1 = nI (1 + 3 * nt + 1) from nI_1 _, wr_nI (by omega) (by decide), show nI (1 + 3 * nt) + 2 = nI (1 + 3 * nt + 2) from nI_add _ 2, wr_nI (by omega) (by decide), rd_l0, upd_n (by omega), upd_n (by omega), upd_n (by omega), hw.2.1, nI_1, show (0 : Int32) = nI 0 from rfl, wr_nI (by decide) (by decide)]
          exact k2 _ upd_s
        · refine ⟨fun k hk' => (ft k (by omega)).trans (z0 k hk'), nt + 1, nm, nc, nTy_WFT hw hnt ok, WFM_mono (WFM_frame hm (fun j h1 h2 => ft j h1)) (by omega), nTy_WFC hw hm hk hnt, nTy_CT hw hnt ok ct hv3, CMt_frame hm (fun j h1 h2 => ft j h1) cm, CK_frame hk ck (fun c w hc hw => ft _ (by omega))⟩
    · rw [if_neg g, if_neg g]
      exact Or.inl ⟨_, rfl, rfl⟩
  · refine Or.inl ⟨-1, ?_, ?_⟩
    · unfold fX8_declareType
      rw [hr2, bn_s]
      by_cases g : (x2 = -1 ∧ (x1 = 0 ∨ x1 = 1)) ∨ (x2 ≠ -1 ∧ x1 = 0 ∧ ∃ t, t < nt ∧ x2 = nI t ∧ s (1 + 3 * t) = 0)
      · rw [if_neg (fun q => (isb_0 hb2).mp q g), hr3, bn_s, if_pos ((isb_0 hb3).mpr (fun q => ok ?_))]
        rcases g with g | g
        · exact ⟨g.2, q, Or.inl g.1⟩
        · exact ⟨Or.inl g.2.1, q, Or.inr g.2⟩
      · rw [if_pos ((isb_0 hb2).mpr g)]
    · unfold fX9_declareType
      rw [hr1, bn_s]
      by_cases g1 : x1 = 0 ∨ x1 = 1
      · rw [if_neg (fun q => (isb_0 hb1).mp q (e01.mpr g1))]
        by_cases g2 : x3 < 0
        · rw [if_pos g2]
        · rw [if_neg g2, hai, bn_s]
          by_cases g3 : ∀ k, tb x3 k = true → k < nt ∧ s (1 + 3 * k) = 1
          · rw [if_pos (hsub.mpr g3), if_neg (fun q => ok ⟨g1, g3, Or.inl q⟩)]
            by_cases g4 : x1 = 1
            · rw [if_pos g4]
            · rw [if_neg g4]
              obtain ⟨r4, hr4, hb4⟩ := e_isType hw x2
              rw [hr4, bn_s]
              by_cases g5 : ∃ t, t < nt ∧ x2 = nI t
              · rw [if_neg (fun q => (isb_0 hb4).mp q g5)]
                obtain ⟨t, ht, rfl⟩ := g5
                obtain ⟨r5, hr5, hb5⟩ := e_isInterface (s := s) (t := t) (by omega)
                rw [hr5, bn_s, if_neg (fun q => ok ⟨g1, g3, Or.inr ⟨g1.resolve_right g4, t, ht, rfl, ((hw.2.2 t ht).1).resolve_right ((isb_0 hb5).mp q)⟩⟩)]
              · rw [if_pos ((isb_0 hb4).mpr g5)]
          · rw [if_neg (fun q => g3 (hsub.mp q))]
      · rw [if_pos ((isb_0 hb1).mpr (fun q => g1 (e01.mp q)))]
end OT
