/-! declareCall: class and reference -/
section OC
variable {s s' : Nat → Int32} {nt nm nc : Nat} {t_count t_ifs : Int32} {t_sup : Nat → Int32} {m_count : Int32} {m_type m_name m_arity m_keys m_defs : Nat → Int32} {k_count k_fs : Int32} {k_st k_dy k_tg k_ac k_tc k_keys k_kinds k_vals k_tk k_nk k_nv : Nat → Int32}
theorem nc_rC {st dy g a c w : Nat} (h : NC s s' nc st dy g a) (hc : c < nc) (hw : w < 29) : rC s' c w = rC s c w := h.1 _ (by omega) (by omega)
theorem nc_WFC (hw : WFT s nt) (hm : WFM s nt nm) (hk : WFC s nt nm nc) (hnc : nc < 8) {st dy g : Nat} (hst : st < nt) (hdy : dy < nt) (hd : s (1 + 3 * dy) = 0) (hg : g < nm) (hup : up s st (nT s g)) (h : NC s s' nc st dy g (nA s g)) : WFC s' nt nm (nc + 1) := by
  have n8 := hw.1
  have h16 := hm.1
  obtain ⟨-, -, hA, hA5, hK, hKd⟩ := hm.2.2 g hg
  have fm : FM s s' := fun j h1 h2 => h.1 j (by omega) (by omega)
  have ft : FT s s' := fun j h1 => h.1 j (by omega) (by omega)
  have hAm : ∀ m, m < nm → nA s' m = nA s m := fun m hm => by unfold nA; rw [rM_frame fm (by omega) (by decide)]
  have hU : ∀ g, g < nm → ∀ {a : Nat}, a < nt → up s a (nT s g) → up s' a (nT s' g) := fun g hg a ha h => by
    have e : nT s' g = nT s g := by unfold nT; rw [rM_frame fm (by omega) (by decide)]
    rw [e]
    exact (up_frame hw ft ha).mpr h
  refine ⟨hnc, h.2.1, fun c hc => ?_⟩
  by_cases e : c = nc
  · subst e
    obtain ⟨-, -, n0, n1, n2, n3, n4, n20, n5, n10, n15⟩ := h
    have e0 : cS s' c = st := by unfold cS; rw [n0, Nn_nI (by omega)]
    have e1 : cD s' c = dy := by unfold cD; rw [n1, Nn_nI (by omega)]
    have e2 : cG s' c = g := by unfold cG; rw [n2, Nn_nI (by omega)]
    have e4 : cA s' c = nA s g := by unfold cA; rw [n4, Nn_nI (by omega)]
    have e20 : cN s' c = 0 := by unfold cN; rw [n20]; rfl
    unfold WFC1
    rw [e0, e1, e2, e4, e20, n0, n1, n2, n3, n4, n20, ft (1 + 3 * dy) (by omega), hAm g hg]
    refine ⟨rfl, hst, rfl, hdy, hd, rfl, hg, Or.inl rfl, rfl, hA5, rfl, by omega, fun j hj => Or.inl (n5 j (by omega)), fun j hj => absurd hj (Nat.not_lt_zero j), fun i j hij hj => ?_, fun _ => rfl, hU g hg hst hup⟩
    rw [n15 i (by omega), n15 j hj, (hK i (by omega)).1, (hK j hj).1]
    intro q
    exact hKd i j hij hj (nI_inj (by have := (hK i (by omega)).2; omega) (by have := (hK j hj).2; omega) q)
  · have W' := hk.2.2 c (by omega)
    have d' := W'.dy'
    exact WFC1_frame W' (fun w hw => nc_rC h (by omega) hw) (Nat.le_refl _) (Nat.le_refl _) (ft _ (by omega)) (fun _ => hAm _ W'.tg') (hU _ W'.tg' W'.st')
theorem nc_CK (hk : WFC s nt nm nc) (hnc : nc < 8) {st dy g : Nat} (hA5 : nA s g ≤ 5) (h : NC s s' nc st dy g (nA s g)) (hc : CK s nc k_count k_fs k_st k_dy k_tg k_ac k_tc k_keys k_kinds k_vals k_tk) {keys' kinds' vals' : Nat → Int32} (h1 : ∀ j, j < nc * 5 → keys' j = k_keys j ∧ kinds' j = k_kinds j ∧ vals' j = k_vals j) (h2 : ∀ i, i < nA s g → keys' (nc * 5 + i) = rM s g (3 + i) ∧ kinds' (nc * 5 + i) = 0 ∧ vals' (nc * 5 + i) = 0) : CK s' (nc + 1) (nI (nc + 1)) k_fs (upd k_st nc (nI st)) (upd k_dy nc (nI dy)) (upd k_tg nc (nI g)) (upd k_ac nc (nI (nA s g))) (upd k_tc nc 0) keys' kinds' vals' k_tk := by
  refine ⟨rfl, fun j => ?_, fun c hcc => ?_⟩
  · rw [hc.fs j]
    constructor
    · rintro ⟨q1, q2⟩
      exact ⟨by omega, by rw [nc_rC h q1 (by decide)]; exact q2⟩
    · rintro ⟨q1, q2⟩
      by_cases e : j = nc
      · subst e
        rw [h.2.2.2.2.2.1] at q2
        exact absurd q2 (by decide)
      · rw [nc_rC h (by omega) (by decide)] at q2
        exact ⟨by omega, q2⟩
  · by_cases e : c = nc
    · subst e
      obtain ⟨-, -, n0, n1, n2, n3, n4, n20, n5, n10, n15⟩ := h
      have e4 : cA s' c = nA s g := by unfold cA; rw [n4, Nn_nI (by omega)]
      have e20 : cN s' c = 0 := by unfold cN; rw [n20]; rfl
      unfold CK1
      rw [e4, e20, n0, n1, n2, n4, n20, upd_s, upd_s, upd_s, upd_s, upd_s]
      refine ⟨rfl, rfl, rfl, rfl, rfl, fun i hi => ?_, fun i hi => ?_, fun i hi => ?_, fun j hj => absurd hj (Nat.not_lt_zero j)⟩
      · rw [n15 i hi, (h2 i hi).1]
      · rw [n5 i (by omega), (h2 i hi).2.1]
      · rw [n10 i (by omega), (h2 i hi).2.2]
    · have W' := hk.2.2 c (by omega)
      have K' := hc.c c (by omega)
      have a5 := W'.ar'
      have f : ∀ w, w < 29 → rC s' c w = rC s c w := fun w hw => nc_rC h (by omega) hw
      have K2 := CK1_frame (s' := s') W' K' f
      have e4 : cA s' c = cA s c := by unfold cA; rw [f 4 (by decide)]
      have lt : ∀ i, i < cA s c → c * 5 + i < nc * 5 := fun i hi => by omega
      unfold CK1 at K2 ⊢
      rw [e4] at K2 ⊢
      rw [upd_n e, upd_n e, upd_n e, upd_n e, upd_n e]
      obtain ⟨k1, k2, k3, k4, k5, k6, k7, k8, k9⟩ := K2
      exact ⟨k1, k2, k3, k4, k5, fun i hi => by rw [(h1 _ (lt i hi)).1]; exact k6 i hi, fun i hi => by rw [(h1 _ (lt i hi)).2.1]; exact k7 i hi, fun i hi => by rw [(h1 _ (lt i hi)).2.2]; exact k8 i hi, k9⟩
theorem op_declareCall {past : Nat → Int32} {p q : Nat} {hs : Nat → MS} (d_open ch : Int32) (R : RMc s t_count t_ifs t_sup m_count m_type m_name m_arity m_keys m_defs k_count k_fs k_st k_dy k_tg k_ac k_tc k_keys k_kinds k_vals k_tk) (H : HR past p q hs) (x1 x2 x3 x4 : Int32) :
    (∃ r, fX8_declareCall t_count t_ifs t_sup m_count m_type m_name m_arity m_keys m_defs k_count k_fs k_st k_dy k_tg k_ac k_tc k_keys k_kinds k_vals k_tk k_nk k_nv d_open (nI p) (nI q) hs x1 x2 x3 x4 = some (r, k_count, k_st, k_dy, k_tg, k_ac, k_tc, k_keys, k_kinds, k_vals, d_open, nI p, nI q, hs) ∧ fX9_declareCall s past (nI p) ch x1 x2 x3 x4 = some (r, s, past, nI p, ch)) ∨
    (∃ r n' st' dy' tg' ac' tc' keys' kinds' vals' hs' s' past' p' q', fX8_declareCall t_count t_ifs t_sup m_count m_type m_name m_arity m_keys m_defs k_count k_fs k_st k_dy k_tg k_ac k_tc k_keys k_kinds k_vals k_tk k_nk k_nv d_open (nI p) (nI q) hs x1 x2 x3 x4 = some (r, n', st', dy', tg', ac', tc', keys', kinds', vals', 0, nI p', nI q', hs') ∧ fX9_declareCall s past (nI p) ch x1 x2 x3 x4 = some (r, s', past', nI p', -9) ∧ RMc s' t_count t_ifs t_sup m_count m_type m_name m_arity m_keys m_defs n' k_fs st' dy' tg' ac' tc' keys' kinds' vals' k_tk ∧ HR past' p' q' hs') := by
  obtain ⟨z0, nt, nm, nc, hw, hm, hk, ct, cm, ck⟩ := id R
  have h8 := hk.1
  have n8 := hw.1
  have h16 := hm.1
  unfold fX8_declareCall fX9_declareCall
  obtain ⟨r1, hr1, hb1⟩ := e_texists hw ct x1
  obtain ⟨r2, hr2, hb2⟩ := e_isType hw x1
  rw [hr1, hr2, bn_s, bn_s]
  by_cases g1 : ∃ t, t < nt ∧ x1 = nI t
  · rw [if_neg (fun q => (isb_0 hb1).mp q g1), if_neg (fun q => (isb_0 hb2).mp q g1)]
    obtain ⟨r3, hr3, hb3⟩ := e_texists hw ct x2
    obtain ⟨r4, hr4, hb4⟩ := e_isType hw x2
    rw [hr3, hr4, bn_s, bn_s]
    by_cases g2 : ∃ t, t < nt ∧ x2 = nI t
    · rw [if_neg (fun q => (isb_0 hb3).mp q g2), if_neg (fun q => (isb_0 hb4).mp q g2)]
      obtain ⟨st, hst, rfl⟩ := g1
      obtain ⟨dy, hdy, rfl⟩ := g2
      obtain ⟨r5, hr5, hb5⟩ := e_isSignature x3 x4
      obtain ⟨r6, hr6, hb6⟩ := e_in x3 0 5
      obtain ⟨r7, hr7, hb7⟩ := e_in x4 0 5
      rw [hr5, hr6, bn_s, bn_s]
      by_cases g3 : 0 ≤ x3 ∧ x3 ≤ 5
      · rw [if_neg (fun q => (isb_0 hb6).mp q g3), hr7, bn_s]
        by_cases g4 : 0 ≤ x4 ∧ x4 ≤ 5
        · rw [if_neg (fun q => (isb_0 hb5).mp q ⟨g3, g4⟩), if_neg (fun q => (isb_0 hb7).mp q g4)]
          obtain ⟨tg, ht1, ht2⟩ := e_targetFor hw hm ct cm hst x3 x4
          obtain ⟨tg', ht3, ht4⟩ := e_targetOf hw hm hst x3 x4
          have e := lst_eq (fun _ _ => Iff.rfl) ht4 ht2
          subst e
          rw [ht1, ht3, bn_s, bn_s]
          obtain ⟨r8, hr8, hb8⟩ := e_isClass hw ct (nI dy)
          obtain ⟨r9, hr9, hb9⟩ := e_isInterface (s := s) (t := dy) (by omega)
          rw [hr8, hr9, bn_s, bn_s]
          by_cases g5 : s (1 + 3 * dy) = 1
          · rw [if_neg (fun q => (isb_0 hb9).mp q g5), if_pos ((isb_0 hb8).mpr (fun ⟨t, q1, q2, q3⟩ => by
              have := nI_inj (a := dy) (b := t) (by omega) (by omega) q2
              subst this
              rw [g5] at q3
              exact absurd q3 (by decide)))]
            exact Or.inl ⟨_, rfl, rfl⟩
          · have hd0 : s (1 + 3 * dy) = 0 := ((hw.2.2 dy hdy).1).resolve_right g5
            rw [if_pos ((isb_0 hb9).mpr g5), if_neg (fun q => (isb_0 hb8).mp q ⟨dy, hdy, rfl, hd0⟩)]
            obtain ⟨ra, hra, hba⟩ := e_inherits hw ct hdy hst
            obtain ⟨x, hx, hxb⟩ := e_supers hw hdy
            obtain ⟨rb', hrb, hbb⟩ := e_has x (k := st) (by omega)
            rw [hra, hx, bn_s, bn_s, hrb, bn_s]
            by_cases g6 : up s dy st
            · rw [if_neg (fun q => (isb_0 hba).mp q g6), if_neg (fun q => (isb_0 hbb).mp q ((hxb st).mpr g6))]
              by_cases g7 : tg' = -9
              · rw [if_pos g7, if_pos g7]
                exact Or.inl ⟨_, rfl, rfl⟩
              · rw [if_neg g7, if_neg g7, rd_l234' hk, ck.n]
                by_cases g8 : nc = 8
                · subst g8
                  rw [if_neg (show ¬ nI 8 < (8 : Int32) by decide), if_pos (show nI 8 = (8 : Int32) from rfl)]
                  exact Or.inl ⟨_, rfl, rfl⟩
                · have hnc : nc < 8 := by omega
                  rw [if_pos (show nI nc < (8 : Int32) from nI_lt (b := 8) hnc (by decide)), if_neg (show ¬ nI nc = (8 : Int32) from fun q => g8 (nI_inj (b := 8) (by omega) (by decide) q))]
                  rcases ht4 with ⟨g, hg, ⟨hsg, hup⟩, -, rfl⟩ | ⟨q, -⟩
                  · obtain ⟨hs', hbe, hR, hO⟩ := e_beginEdit (t_count := t_count) (t_ifs := t_ifs) (t_sup := t_sup) (m_count := m_count) (m_type := m_type) (m_name := m_name) (m_arity := m_arity) (m_keys := m_keys) (m_defs := m_defs) (k_count := nI nc) (k_fs := k_fs) (k_st := k_st) (k_dy := k_dy) (k_tg := k_tg) (k_ac := k_ac) (k_tc := k_tc) (k_keys := k_keys) (k_kinds := k_kinds) (k_vals := k_vals) (k_tk := k_tk) (k_nk := k_nk) (k_nv := k_nv) H.1 H.2.1 d_open hs
                    obtain ⟨past', p', h1, h2, h3, h4⟩ := e_edit (s := s) H.1 past ch
                    obtain ⟨-, -, hA, hA5, -⟩ := hm.2.2 g hg
                    have hx4 : x4 = nI (nA s g) := hsg.2.symm.trans hA
                    obtain ⟨s', q1, q2⟩ := e_declCall9 hk hnc st dy (g := g) (a := nA s g) (by omega) hA5 past' (nI p') (-9)
                    obtain ⟨keys', kinds', vals', q3, q4, q5⟩ := e_declCall8 (k_st := k_st) (k_dy := k_dy) (k_tg := k_tg) (k_ac := k_ac) (k_tc := k_tc) (k_keys := k_keys) (k_kinds := k_kinds) (k_vals := k_vals) hm cm hnc st dy hg
                    rw [hbe, ← h2, h1, bn4_s, bn3_s, rd_l234' hk, hx4, q1, q3, bn10_s]
                    have R' := R
                    rw [ck.n] at R'
                    refine Or.inr ⟨_, _, _, _, _, _, _, keys', kinds', vals', hs', s', past', p', (q + 1) % 8, rfl, rfl, ?_, hr_edit H h2 h3 h4 (hR s R') hO⟩
                    exact ⟨fun k hk' => (q2.1 k (by omega) (by omega)).trans (z0 k hk'), nt, nm, nc + 1, WFT_frame hw (fun j h => q2.1 j (by omega) (by omega)), WFM_frame hm (fun j h1 h2 => q2.1 j (by omega) (by omega)), nc_WFC hw hm hk hnc hst hdy hd0 hg hup q2, CT_frame hw (fun j h => q2.1 j (by omega) (by omega)) ct, CMt_frame hm (fun j h1 h2 => q2.1 j (by omega) (by omega)) cm, nc_CK hk hnc hA5 q2 ck q4 q5⟩
                  · exact absurd q g7
            · rw [if_pos ((isb_0 hba).mpr g6), if_pos ((isb_0 hbb).mpr (fun q => g6 ((hxb st).mp q)))]
              exact Or.inl ⟨_, rfl, rfl⟩
        · rw [if_pos ((isb_0 hb5).mpr (fun q => g4 q.2)), if_pos ((isb_0 hb7).mpr g4)]
          exact Or.inl ⟨_, rfl, rfl⟩
      · rw [if_pos ((isb_0 hb5).mpr (fun q => g3 q.1)), if_pos ((isb_0 hb6).mpr g3)]
        exact Or.inl ⟨_, rfl, rfl⟩
    · rw [if_pos ((isb_0 hb3).mpr g2), if_pos ((isb_0 hb4).mpr g2)]
      exact Or.inl ⟨_, rfl, rfl⟩
  · rw [if_pos ((isb_0 hb1).mpr g1), if_pos ((isb_0 hb2).mpr g1)]
    exact Or.inl ⟨_, rfl, rfl⟩
end OC
