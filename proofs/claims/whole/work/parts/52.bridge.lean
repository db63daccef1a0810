/-! bridgeTypes -/
section BR
variable {s : Nat → Int32} {nt nm nc m e : Nat} {t_count t_ifs : Int32} {t_sup : Nat → Int32} {m_count : Int32} {m_type m_name m_arity m_keys m_defs : Nat → Int32} {k_count k_fs : Int32} {k_st k_dy k_tg k_ac k_tc k_keys k_kinds k_vals k_tk k_nk k_nv : Nat → Int32} {d_method d_family d_old d_kept d_count d_used : Int32} {d_src d_keys d_defs : Nat → Int32} {ch en : Int32} {kp ek ed : Nat → Int32}
/-- these types may get the bridges -/
def VB (s : Nat → Int32) (nt nm nc m d i : Nat) : Prop := i < 256 ∧ (∀ k, tb (nI i) k = true → tb (nI d) k = true) ∧ srv s nt nm nc m (nI i)
theorem VB_all (hm : WFM s nt nm) (hk : WFC s nt nm nc) {d : Nat} (hd : d < 256) (hdb : ∀ k, tb (nI d) k = true ↔ ∃ o, o < nm ∧ (fam s nt nm m o ∧ k = nT s o)) : VB s nt nm nc m d d := by
  refine ⟨hd, fun _ h => h, fun c hc _ hcc => ?_⟩
  have W := hk.2.2 c hc
  exact ⟨nT s (cG s c), W.ts, (hdb _).mpr ⟨cG s c, W.tg', hcc, rfl⟩⟩
theorem VB_le {d i : Nat} (hd : d < 256) (h : VB s nt nm nc m d i) : i ≤ d := sub_le (by have := h.1; omega) (by omega) h.2.1
theorem VB_top {d i : Nat} (hd : d < 256) (h : VB s nt nm nc m d i) (hc : cnt (nI d) 16 ≤ cnt (nI i) 16) : i = d := sub_eq (by have := h.1; omega) (by omega) h.2.1 hc
theorem e_bridges9 (hw : WFT s nt) (hm : WFM s nt nm) (hk : WFC s nt nm nc) (hmm : m < nm) {d : Nat} (hd : d < 256) (hdb : ∀ k, tb (nI d) k = true ↔ ∃ o, o < nm ∧ (fam s nt nm m o ∧ k = nT s o)) : ∃ b, lX9_bridgeTypes_22 s (nI m) 5000 (nI d) (-9) 0 = some (nI b) ∧ MinR (VB s nt nm nc m d) (fun i => cnt (nI i) 16) b := by
  refine min_none (g := fun n' b i => lX9_bridgeTypes_22 s (nI m) n' (nI d) b i) (V := VB s nt nm nc m d) (N := d + 1) (D := d) (by omega) (VB_all hm hk hd hdb) (fun i h => by have := VB_le hd h; omega) (fun n' i hi => ?_) (fun n' i b hi hb => ?_) (fun n' b => ?_)
  · show (_ → lX9_bridgeTypes_22 s (nI m) (n' + 1) (nI d) (-9) (nI i) = lX9_bridgeTypes_22 s (nI m) n' (nI d) (nI i) (nI i + 1)) ∧ (_ → lX9_bridgeTypes_22 s (nI m) (n' + 1) (nI d) (-9) (nI i) = lX9_bridgeTypes_22 s (nI m) n' (nI d) (-9) (nI i + 1))
    rw [lX9_bridgeTypes_22_s, if_neg (nI_nlt (a := d) (b := i) (by omega) (by omega))]
    unfold jX9_bridgeTypes_52 jX9_bridgeTypes_56 jX9_bridgeTypes_57 jX9_bridgeTypes_76 jX9_bridgeTypes_77
    by_cases g1 : ∀ k, tb (nI i) k = true → tb (nI d) k = true
    · rw [if_pos (andn_eq0.mpr g1), if_pos rfl, if_neg (by decide)]
      obtain ⟨r, hr, hb⟩ := e_areSufficient hw hm hk hmm (nI i)
      rw [hr, bn_s]
      by_cases g2 : srv s nt nm nc m (nI i)
      · rw [if_neg (fun q => (isb_0 hb).mp q g2)]
        exact ⟨fun _ => rfl, fun h => absurd ⟨by omega, g1, g2⟩ h⟩
      · rw [if_pos ((isb_0 hb).mpr g2)]
        exact ⟨fun h => absurd h.2.2 g2, fun _ => rfl⟩
    · rw [if_neg (fun q => g1 (andn_eq0.mp q)), if_pos rfl]
      exact ⟨fun h => absurd h.2.1 g1, fun _ => rfl⟩
  · show (_ → lX9_bridgeTypes_22 s (nI m) (n' + 1) (nI d) (nI b) (nI i) = lX9_bridgeTypes_22 s (nI m) n' (nI d) (nI i) (nI i + 1)) ∧ (_ → lX9_bridgeTypes_22 s (nI m) (n' + 1) (nI d) (nI b) (nI i) = lX9_bridgeTypes_22 s (nI m) n' (nI d) (nI b) (nI i + 1))
    have hb256 := hb.1
    rw [lX9_bridgeTypes_22_s, if_neg (nI_nlt (a := d) (b := i) (by omega) (by omega))]
    unfold jX9_bridgeTypes_52 jX9_bridgeTypes_56 jX9_bridgeTypes_57 jX9_bridgeTypes_76 jX9_bridgeTypes_77
    by_cases g1 : ∀ k, tb (nI i) k = true → tb (nI d) k = true
    · have c1 := cnt_le_N (nI i) 16
      have c2 := cnt_le_N (nI b) 16
      rw [if_pos (andn_eq0.mpr g1), if_neg (nI_ne9 (by omega)), e_ones, bn_s, e_ones, bn_s]
      by_cases g3 : cnt (nI i) 16 < cnt (nI b) 16
      · rw [if_neg (nI_ge g3 (by omega)), if_neg (by decide)]
        obtain ⟨r, hr, hbb⟩ := e_areSufficient hw hm hk hmm (nI i)
        rw [hr, bn_s]
        by_cases g2 : srv s nt nm nc m (nI i)
        · rw [if_neg (fun q => (isb_0 hbb).mp q g2)]
          exact ⟨fun _ => rfl, fun h => absurd ⟨⟨by omega, g1, g2⟩, g3⟩ h⟩
        · rw [if_pos ((isb_0 hbb).mpr g2)]
          exact ⟨fun h => absurd h.1.2.2 g2, fun _ => rfl⟩
      · rw [if_pos (nI_le (by omega) (by omega)), if_pos rfl]
        exact ⟨fun h => absurd h.2 g3, fun _ => rfl⟩
    · rw [if_neg (fun q => g1 (andn_eq0.mp q)), if_pos rfl]
      exact ⟨fun h => absurd h.1.2.1 g1, fun _ => rfl⟩
  · show lX9_bridgeTypes_22 s (nI m) (n' + 1) (nI d) (nI b) (nI (d + 1)) = some (nI b)
    rw [lX9_bridgeTypes_22_s, if_pos (nI_lt (by omega) (by omega))]
theorem e_bridges8 (hw : WFT s nt) (hm : WFM s nt nm) (hk : WFC s nt nm nc) (ct : CT s nt t_count t_ifs t_sup) (ck : CK s nc k_count k_fs k_st k_dy k_tg k_ac k_tc k_keys k_kinds k_vals k_tk) {d : Nat} (hd : d < 256) (hdb : ∀ k, tb (nI d) k = true ↔ ∃ o, o < nm ∧ (fam s nt nm m o ∧ k = nT s o)) {fr : Int32} (hfr : ∀ k, tb fr k = true ↔ k < nc ∧ rC s k 3 = 1 ∧ cnc s nt nm m k) : ∃ b, lX6_bridgesFor_32 t_sup m_count m_type k_count k_fs k_st k_tg 5000 fr (nI d) (nI d) 0 = some (nI b) ∧ MinR (VB s nt nm nc m d) (fun i => cnt (nI i) 16) b := by
  have h256 : fX8_bit 8 = some (nI 256) := by decide
  refine min_from (K := some) (g := fun n' b i => lX6_bridgesFor_32 t_sup m_count m_type k_count k_fs k_st k_tg n' fr (nI d) b i) (V := VB s nt nm nc m d) (N := 256) (D := d) (by omega) (VB_all hm hk hd hdb) (fun i h => h.1) (fun i h hc => VB_top hd h hc) (fun n' i b hi hb => ?_) (fun n' b => ?_)
  · show (_ → lX6_bridgesFor_32 t_sup m_count m_type k_count k_fs k_st k_tg (n' + 1) fr (nI d) (nI b) (nI i) = lX6_bridgesFor_32 t_sup m_count m_type k_count k_fs k_st k_tg n' fr (nI d) (nI i) (nI i + 1)) ∧ (_ → lX6_bridgesFor_32 t_sup m_count m_type k_count k_fs k_st k_tg (n' + 1) fr (nI d) (nI b) (nI i) = lX6_bridgesFor_32 t_sup m_count m_type k_count k_fs k_st k_tg n' fr (nI d) (nI b) (nI i + 1))
    have hb256 := hb.1
    have c1 := cnt_le_N (nI i) 16
    have c2 := cnt_le_N (nI b) 16
    have b1 : fJ6_bitCount_0f7a4 (nI i) = some (nI (cnt (nI i) 16)) := e_bitCount (fun k hk => tb_small (n := 16) (by decide) (by omega) hk)
    have b2 : fJ6_bitCount_0f7a4 (nI b) = some (nI (cnt (nI b) 16)) := e_bitCount (fun k hk => tb_small (n := 16) (by decide) (by omega) hk)
    rw [lX6_bridgesFor_32_s, h256, bn_s, if_neg (nI_ge hi (by omega))]
    unfold jX6_bridgesFor_56 jX6_bridgesFor_76
    rw [b1, b2, bn_s, bn_s]
    by_cases g1 : ∀ k, tb (nI i) k = true → tb (nI d) k = true
    · rw [if_pos (andn_eq0.mpr g1)]
      by_cases g3 : cnt (nI i) 16 < cnt (nI b) 16
      · rw [if_neg (nI_ge g3 (by omega)), if_neg (by decide), if_neg (by decide)]
        obtain ⟨r, hr, hbb⟩ := e_bridgesServe hw hm hk ct ck (nI i) hfr
        rw [hr, bn_s]
        by_cases g2 : srv s nt nm nc m (nI i)
        · rw [if_neg (fun q => (isb_0 hbb).mp q g2)]
          exact ⟨fun _ => rfl, fun h => absurd ⟨⟨by omega, g1, g2⟩, g3⟩ h⟩
        · rw [if_pos ((isb_0 hbb).mpr g2)]
          exact ⟨fun h => absurd h.1.2.2 g2, fun _ => rfl⟩
      · rw [if_pos (nI_le (by omega) (by omega)), if_pos rfl]
        exact ⟨fun h => absurd h.2 g3, fun _ => rfl⟩
    · rw [if_neg (fun q => g1 (andn_eq0.mp q)), bn_s, bn_s]
      refine ⟨fun h => absurd h.1.2.1 g1, fun _ => ?_⟩
      by_cases g3 : cnt (nI i) 16 < cnt (nI b) 16
      · rw [if_neg (nI_ge g3 (by omega)), if_pos rfl]
      · rw [if_pos (nI_le (by omega) (by omega)), if_pos rfl]
  · show lX6_bridgesFor_32 t_sup m_count m_type k_count k_fs k_st k_tg (n' + 1) fr (nI d) (nI b) (nI 256) = some (nI b)
    rw [lX6_bridgesFor_32_s, h256, bn_s, if_pos (up_N (by omega))]
theorem op_bridgeTypes (d_open : Int32) (hw : WFT s nt) (hm : WFM s nt nm) (hk : WFC s nt nm nc) (ct : CT s nt t_count t_ifs t_sup) (cm : CMt s nm m_count m_type m_name m_arity m_keys m_defs) (ck : CK s nc k_count k_fs k_st k_dy k_tg k_ac k_tc k_keys k_kinds k_vals k_tk) (D : DL s d_open d_method d_family d_old d_kept d_count d_used d_src d_keys d_defs ch en kp ek ed) : ∃ r, fX8_bridgeTypes t_sup m_count m_type k_count k_fs k_st k_tg d_open d_family = some r ∧ fX9_bridgeTypes s ch = some r := by
  have n8 := hw.1
  have h16 := hm.1
  unfold fX8_bridgeTypes fX9_bridgeTypes
  rcases D with ⟨D1, D2⟩ | ⟨D1, nt', nm', m, e, hw', hm', O⟩
  · rw [if_pos D1, if_pos D2]
    exact ⟨_, rfl, rfl⟩
  · have e1 := WFT_uniq hw' hw
    subst e1
    have e2 := WFM_uniq hm' hm
    subst e2
    have hmm := O.mm
    obtain ⟨x, hx, hxb⟩ := e_declaringTypes hw hm hmm
    obtain ⟨y, hy, hyb⟩ := e_famTypes hw hm cm hmm O.fm
    have e3 : y = x := eq_bits (fun k => (hyb k).trans (hxb k).symm)
    subst e3
    obtain ⟨d, hd, rfl⟩ := small (x := y) (n := 8) (by decide) (fun k hk => by
      obtain ⟨o, h1, -, h3⟩ := (hxb k).mp hk
      have := (hm.2.2 o h1).2.1
      omega)
    obtain ⟨w, hww, hwb⟩ := e_withTargetIn hm hk ck d_family
    have hfr : ∀ k, tb (w &&& k_fs) k = true ↔ k < nc ∧ rC s k 3 = 1 ∧ cnc s nt' nm' m k := fun k => by
      rw [tb_andt, hwb k, ck.fs k, O.fm]
      exact ⟨fun h => ⟨h.1.1, h.2.2, h.1.2⟩, fun h => ⟨⟨h.1, h.2.2⟩, h.1, h.2.1⟩⟩
    obtain ⟨b, hb1, hb2⟩ := e_bridges8 (m_count := m_count) (m_type := m_type) hw hm hk ct ck hd hxb hfr
    obtain ⟨b', hb3, hb4⟩ := e_bridges9 hw hm hk hmm hd hxb
    have e4 := MinR_uniq (fun _ => Iff.rfl) hb2 hb4
    subst e4
    rw [D1, if_neg (by decide), O.hch, if_neg (nI_ne9 (by omega)), hx, bn_s, hb3]
    unfold fX6_bridgesFor
    rw [hww, bn_s, hy, bn_s, hb1]
    exact ⟨_, rfl, rfl⟩
end BR
