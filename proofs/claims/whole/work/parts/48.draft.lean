/-! the draft -/
def DE (s : Nat → Int32) (m e : Nat) (d_src d_keys d_defs kp ek ed : Nat → Int32) : Prop := (∀ i, i < e → d_keys i = ek i ∧ d_defs i = ed i ∧ ek i = nI (Nn (ek i)) ∧ Nn (ek i) < 10) ∧ (∀ i, i < e → (d_src i = -1 ∧ kp i = -9 ∧ ∀ j, j < nA s m → rM s m (3 + j) ≠ ek i) ∨ ∃ j, j < nA s m ∧ d_src i = nI j ∧ kp i = nI j ∧ ek i = rM s m (3 + j) ∧ ed i = rM s m (8 + j)) ∧ ∀ i j, i < j → j < e → ek i ≠ ek j
def taken (s : Nat → Int32) (m e : Nat) (ek : Nat → Int32) (x : Int32) : Prop := (∃ i, i < nA s m ∧ rM s m (3 + i) = x) ∨ ∃ i, i < e ∧ ek i = x
def DO (s : Nat → Int32) (nt nm m e : Nat) (d_method d_family d_old d_kept d_count d_used : Int32) (d_src d_keys d_defs : Nat → Int32) (ch en : Int32) (kp ek ed : Nat → Int32) : Prop := m < nm ∧ e ≤ 5 ∧ ch = nI m ∧ d_method = nI m ∧ d_old = nI (nA s m) ∧ d_count = nI e ∧ en = nI e ∧ (∀ k, tb d_family k = true ↔ fam s nt nm m k) ∧ (∀ k, tb d_kept k = true ↔ k < nA s m ∧ ∃ i, i < e ∧ kp i = nI k) ∧ (∀ k, k < 32 → (tb d_used k = true ↔ taken s m e ek (nI k))) ∧ DE s m e d_src d_keys d_defs kp ek ed
def DL (s : Nat → Int32) (d_open d_method d_family d_old d_kept d_count d_used : Int32) (d_src d_keys d_defs : Nat → Int32) (ch en : Int32) (kp ek ed : Nat → Int32) : Prop := (d_open = 0 ∧ ch = -9) ∨ (d_open = 1 ∧ ∃ nt nm m e, WFT s nt ∧ WFM s nt nm ∧ DO s nt nm m e d_method d_family d_old d_kept d_count d_used d_src d_keys d_defs ch en kp ek ed)
section DD
variable {s : Nat → Int32} {nt nm m e : Nat} {d_method d_family d_old d_kept d_count d_used : Int32} {d_src d_keys d_defs : Nat → Int32} {ch en : Int32} {kp ek ed : Nat → Int32} {t_count t_ifs : Int32} {t_sup : Nat → Int32} {m_count : Int32} {m_type m_name m_arity m_keys m_defs : Nat → Int32}
theorem WFT_uniq {nt' : Nat} (h : WFT s nt) (h' : WFT s nt') : nt = nt' := by
  have a := h.1
  have b := h'.1
  exact nI_inj (by omega) (by omega) (h.2.1.symm.trans h'.2.1)
theorem WFM_uniq {nt' nm' : Nat} (h : WFM s nt nm) (h' : WFM s nt' nm') : nm = nm' := by
  have a := h.1
  have b := h'.1
  exact nI_inj (by omega) (by omega) (h.2.1.symm.trans h'.2.1)
theorem DO.mm (D : DO s nt nm m e d_method d_family d_old d_kept d_count d_used d_src d_keys d_defs ch en kp ek ed) : m < nm := D.1
theorem DO.e5 (D : DO s nt nm m e d_method d_family d_old d_kept d_count d_used d_src d_keys d_defs ch en kp ek ed) : e ≤ 5 := D.2.1
theorem DO.hch (D : DO s nt nm m e d_method d_family d_old d_kept d_count d_used d_src d_keys d_defs ch en kp ek ed) : ch = nI m := D.2.2.1
theorem DO.dm (D : DO s nt nm m e d_method d_family d_old d_kept d_count d_used d_src d_keys d_defs ch en kp ek ed) : d_method = nI m := D.2.2.2.1
theorem DO.od (D : DO s nt nm m e d_method d_family d_old d_kept d_count d_used d_src d_keys d_defs ch en kp ek ed) : d_old = nI (nA s m) := D.2.2.2.2.1
theorem DO.ct (D : DO s nt nm m e d_method d_family d_old d_kept d_count d_used d_src d_keys d_defs ch en kp ek ed) : d_count = nI e := D.2.2.2.2.2.1
theorem DO.hen (D : DO s nt nm m e d_method d_family d_old d_kept d_count d_used d_src d_keys d_defs ch en kp ek ed) : en = nI e := D.2.2.2.2.2.2.1
theorem DO.fm (D : DO s nt nm m e d_method d_family d_old d_kept d_count d_used d_src d_keys d_defs ch en kp ek ed) : ∀ k, tb d_family k = true ↔ fam s nt nm m k := D.2.2.2.2.2.2.2.1
theorem DO.kt (D : DO s nt nm m e d_method d_family d_old d_kept d_count d_used d_src d_keys d_defs ch en kp ek ed) : ∀ k, tb d_kept k = true ↔ k < nA s m ∧ ∃ i, i < e ∧ kp i = nI k := D.2.2.2.2.2.2.2.2.1
theorem DO.us (D : DO s nt nm m e d_method d_family d_old d_kept d_count d_used d_src d_keys d_defs ch en kp ek ed) : ∀ k, k < 32 → (tb d_used k = true ↔ taken s m e ek (nI k)) := D.2.2.2.2.2.2.2.2.2.1
theorem DO.de (D : DO s nt nm m e d_method d_family d_old d_kept d_count d_used d_src d_keys d_defs ch en kp ek ed) : DE s m e d_src d_keys d_defs kp ek ed := D.2.2.2.2.2.2.2.2.2.2
theorem e_keySetOf (hm : WFM s nt nm) (cm : CMt s nm m_count m_type m_name m_arity m_keys m_defs) (hmm : m < nm) : ∃ x, fX5_keySetOf m_arity m_keys (nI m) = some x ∧ ∀ k, tb x k = true ↔ ∃ i, i < nA s m ∧ k = nK s m i := by
  have h16 := hm.1
  obtain ⟨w1, w2, w3, w4, w5, w6⟩ := hm.2.2 m hmm
  have hAr : m_arity m = nI (nA s m) := (cm.2 m hmm).2.2.1.trans w3
  unfold fX5_keySetOf
  refine bits0 (g := fun n' acc i => lX5_keySetOf_4 m_arity m_keys n' (nI m) acc i) (N := nA s m) (P := fun i k => k = nK s m i) (fun n' i acc hi => ?_) (fun n' acc => ?_) (by omega)
  · show ∃ acc', lX5_keySetOf_4 m_arity m_keys (n' + 1) (nI m) acc (nI i) = lX5_keySetOf_4 m_arity m_keys n' (nI m) acc' (nI i + 1) ∧ _
    rw [lX5_keySetOf_4_s, rd_nI (by omega) (by decide), hAr, if_neg (up_i (by omega) hi), e_keyOf hm cm hmm hi, bn_s, (w5 i hi).1, e_bit, bn_s]
    refine ⟨_, rfl, fun k => ?_⟩
    rw [tb_ort, tb_bitt (by have := (w5 i hi).2; omega)]
  · show lX5_keySetOf_4 m_arity m_keys (n' + 1) (nI m) acc (nI (nA s m)) = some acc
    rw [lX5_keySetOf_4_s, rd_nI (by omega) (by decide), hAr, if_pos (up_N (by omega))]
theorem op_startChange (d_open : Int32) (hw : WFT s nt) (hm : WFM s nt nm) (ct : CT s nt t_count t_ifs t_sup) (cm : CMt s nm m_count m_type m_name m_arity m_keys m_defs) (D : DL s d_open d_method d_family d_old d_kept d_count d_used d_src d_keys d_defs ch en kp ek ed) (x : Int32) :
    ∃ r o1 o2 o3 o4 o5 o6 o7 ch' en', fX8_startChange t_count t_sup m_count m_type m_name m_arity m_keys d_open d_method d_family d_old d_kept d_count d_used x = some (r, o1, o2, o3, o4, o5, o6, o7) ∧ fX9_startChange s ch en x = some (r, ch', en') ∧ DL s o1 o2 o3 o4 o5 o6 o7 d_src d_keys d_defs ch' en' kp ek ed := by
  have h16 := hm.1
  unfold fX8_startChange fX9_startChange
  obtain ⟨r1, hr1, hb1⟩ := e_mexists hm cm x
  obtain ⟨r2, hr2, hb2⟩ := e_isMethod hm x
  rw [hr1, hr2, bn_s, bn_s]
  by_cases g : ∃ m, m < nm ∧ x = nI m
  · rw [if_neg (fun q => (isb_0 hb1).mp q g), if_neg (fun q => (isb_0 hb2).mp q g)]
    obtain ⟨m, hmm, rfl⟩ := g
    obtain ⟨w1, w2, w3, w4, w5, w6⟩ := hm.2.2 m hmm
    obtain ⟨f, hf, hfb⟩ := e_cfamily hw hm ct cm hmm
    obtain ⟨f', hf', hfb'⟩ := e_family hw hm hmm
    have e : f' = f := eq_bits (fun k => (hfb' k).trans (hfb k).symm)
    subst e
    obtain ⟨ks, hks, hkb⟩ := e_keySetOf hm cm hmm
    have hAr : m_arity m = nI (nA s m) := (cm.2 m hmm).2.2.1.trans w3
    rw [hf, hf', bn_s, bn_s, e_ones, bn_s]
    unfold fX1_start
    rw [rd_nI (by omega) (by decide), hAr, hks, bn_s, bn7_s, e_bitCount (fun k hk => by have := fam_lt hmm ((hfb k).mp hk); omega), bn_s]
    refine ⟨_, _, _, _, _, _, _, _, _, _, rfl, rfl, Or.inr ⟨rfl, nt, nm, m, 0, hw, hm, hmm, by omega, rfl, rfl, rfl, rfl, rfl, hfb, fun k => ?_, fun k hk => ?_, ?_, ?_, ?_⟩⟩
    · rw [tb_zero]
      exact ⟨fun h => (by cases h), fun ⟨_, i, hi, _⟩ => absurd hi (Nat.not_lt_zero i)⟩
    · rw [hkb k]
      constructor
      · rintro ⟨i, hi, rfl⟩
        exact Or.inl ⟨i, hi, (w5 i hi).1⟩
      · rintro (⟨i, hi, h⟩ | ⟨i, hi, _⟩)
        · rw [(w5 i hi).1] at h
          exact ⟨i, hi, (nI_inj (by have := (w5 i hi).2; omega) (by omega) h).symm⟩
        · exact absurd hi (Nat.not_lt_zero i)
    · exact fun i hi => absurd hi (Nat.not_lt_zero i)
    · exact fun i hi => absurd hi (Nat.not_lt_zero i)
    · exact fun i j _ hj => absurd hj (Nat.not_lt_zero j)
  · rw [if_pos ((isb_0 hb1).mpr g), if_pos ((isb_0 hb2).mpr g)]
    exact ⟨_, _, _, _, _, _, _, _, _, _, rfl, rfl, D⟩
theorem e_entryOf {e : Nat} (he : e ≤ 5) (kp : Nat → Int32) (x : Int32) : ∃ r, fX9_entryOf (nI e) kp x = some r ∧ lst (fun i => kp i = x) e r := by
  unfold fX9_entryOf
  refine lst0 (g := fun n' i => lX9_entryOf_2 (nI e) kp n' x i) (N := e) (P := fun i => kp i = x) (fun n' i hi => ?_) (fun n' => ?_) (by omega)
  · show (kp i = x → lX9_entryOf_2 (nI e) kp (n' + 1) x (nI i) = some (nI i)) ∧ (¬ kp i = x → lX9_entryOf_2 (nI e) kp (n' + 1) x (nI i) = lX9_entryOf_2 (nI e) kp n' x (nI i + 1))
    rw [lX9_entryOf_2_s, if_neg (up_i (by omega) hi), rd_nI (by omega) (by decide)]
    exact ⟨fun h => if_pos h, fun h => if_neg h⟩
  · show lX9_entryOf_2 (nI e) kp (n' + 1) x (nI e) = some (-9)
    rw [lX9_entryOf_2_s, if_pos (up_N (by omega))]
theorem op_keepParameter (d_open : Int32) (hw : WFT s nt) (hm : WFM s nt nm) (cm : CMt s nm m_count m_type m_name m_arity m_keys m_defs) (D : DL s d_open d_method d_family d_old d_kept d_count d_used d_src d_keys d_defs ch en kp ek ed) (x : Int32) :
    ∃ r o1 o2 f1 f2 f3 en' f4 f5 f6, fX8_keepParameter m_keys m_defs d_open d_method d_old d_kept d_count d_src d_keys d_defs x = some (r, o1, o2, f1, f2, f3) ∧ fX9_keepParameter s ch en kp ek ed x = some (r, en', f4, f5, f6) ∧ DL s d_open d_method d_family d_old o1 o2 d_used f1 f2 f3 ch en' f4 f5 f6 := by
  have h16 := hm.1
  unfold fX8_keepParameter fX9_keepParameter
  rcases id D with ⟨D1, D2⟩ | ⟨D1, nt', nm', m, e, hw', hm', O⟩
  · rw [if_pos D1, if_pos D2]
    exact ⟨_, _, _, _, _, _, _, _, _, _, rfl, rfl, D⟩
  · have e1 := WFT_uniq hw' hw
    subst e1
    have e2 := WFM_uniq hm' hm
    subst e2
    have hmm := O.mm
    have he5 := O.e5
    obtain ⟨w1, w2, w3, w4, w5, w6⟩ := hm.2.2 m hmm
    rw [D1, if_neg (by decide), O.hch, if_neg (nI_ne9 (by omega)), e_of2 (by omega), bn_s, w3, O.od, O.dm, O.ct, O.hen]
    obtain ⟨r4, hr4, hb4⟩ := e_in x 0 (nI (nA s m) - 1)
    have hb5 := isb_iff hb4 (in_idx (by omega))
    rw [hr4, bn_s]
    have D' := D
    rw [D1, O.od, O.dm, O.ct, O.hch, O.hen] at D'
    rcases pk_ix x (n := nA s m) (by omega) with h | h | ⟨j, hj, rfl⟩
    · rw [if_pos h, if_pos ((isb_0 hb5).mpr (fun ⟨t, ht, z⟩ => by rw [z] at h; exact nI_pos (by omega) h))]
      exact ⟨_, _, _, _, _, _, _, _, _, _, rfl, rfl, D'⟩
    · rw [if_pos ((isb_0 hb5).mpr (fun ⟨t, ht, z⟩ => by rw [z] at h; exact nI_ge ht (by omega) h)), if_neg (show ¬ x < nI (nA s m) from Int32.not_lt.mpr h)]
      by_cases g : x < 0
      · rw [if_pos g]
        exact ⟨_, _, _, _, _, _, _, _, _, _, rfl, rfl, D'⟩
      · rw [if_neg g]
        exact ⟨_, _, _, _, _, _, _, _, _, _, rfl, rfl, D'⟩
    · rw [if_neg (nI_pos (by omega)), if_pos (nI_lt hj (by omega)), if_neg (fun q => (isb_0 hb5).mp q ⟨j, hj, rfl⟩)]
      obtain ⟨r6, hr6, hb6⟩ := e_contains d_kept (k := j) (by omega)
      obtain ⟨r7, hr7, hl7⟩ := e_entryOf he5 kp (nI j)
      rw [hr6, bn_s, hr7, bn_s]
      by_cases g6 : ∃ i, i < e ∧ kp i = nI j
      · rw [if_neg (fun q => (isb_0 hb6).mp q ((O.kt j).mpr ⟨hj, g6⟩)), if_neg (fun q => by obtain ⟨i, hi, q2⟩ := g6; exact (lst_none (by omega) hl7).mp q i hi q2)]
        exact ⟨_, _, _, _, _, _, _, _, _, _, rfl, rfl, D'⟩
      · rw [if_pos ((isb_0 hb6).mpr (fun q => g6 ((O.kt j).mp q).2)), if_pos ((lst_none (by omega) hl7).mpr (fun i hi q => g6 ⟨i, hi, q⟩))]
        by_cases g8 : e = 5
        · subst g8
          rw [if_neg (show ¬ nI 5 < (5 : Int32) by decide), if_pos (show nI 5 = (5 : Int32) from rfl)]
          exact ⟨_, _, _, _, _, _, _, _, _, _, rfl, rfl, D'⟩
        · have hlt : e < 5 := by omega
          rw [if_pos (show nI e < (5 : Int32) from nI_lt (b := 5) hlt (by decide)), if_neg (show ¬ nI e = (5 : Int32) from fun q => g8 (nI_inj (b := 5) (by omega) (by decide) q))]
          unfold fX1_keep fX1_append
          rw [e_bit, bn_s, e_keyOf hm cm hmm hj, bn_s, e_defaultOf hm cm hmm hj, bn_s, wr_nI hlt (by decide), wr_nI hlt (by decide), wr_nI hlt (by decide), bn4_s, wr_nI hlt (by decide), o3, e_of (w := 3 + j) (by omega) (by omega) rfl, bn_s, wr_nI hlt (by decide), o8, e_of (w := 8 + j) (by omega) (by omega) rfl, bn_s, wr_nI hlt (by decide), nI_1]
          obtain ⟨E1, E2, E3⟩ := O.de
          refine ⟨nI (e + 1), d_kept ||| (1 <<< (nI j &&& 31)), nI (e + 1), upd d_src e (nI j), upd d_keys e (rM s m (3 + j)), upd d_defs e (rM s m (8 + j)), nI (e + 1), upd kp e (nI j), upd ek e (rM s m (3 + j)), upd ed e (rM s m (8 + j)), rfl, rfl, Or.inr ⟨rfl, nt', nm', m, e + 1, hw, hm, hmm, by omega, rfl, rfl, rfl, rfl, rfl, O.fm, fun k => ?_, fun k hk => ?_, fun i hi => ?_, fun i hi => ?_, fun i i' hii hi' => ?_⟩⟩
          · rw [tb_ort, tb_bitt (by omega), O.kt k]
            constructor
            · rintro (⟨h1, i, h2, h3⟩ | rfl)
              · exact ⟨h1, i, by omega, by rw [upd_n (by omega)]; exact h3⟩
              · exact ⟨hj, e, by omega, upd_s⟩
            · rintro ⟨h1, i, h2, h3⟩
              by_cases z : i = e
              · subst z
                rw [upd_s] at h3
                exact Or.inr (nI_inj (by omega) (by omega) h3).symm
              · rw [upd_n z] at h3
                exact Or.inl ⟨h1, i, by omega, h3⟩
          · rw [O.us k hk]
            constructor
            · rintro (h | ⟨i, h2, h3⟩)
              · exact Or.inl h
              · exact Or.inr ⟨i, by omega, by rw [upd_n (by omega)]; exact h3⟩
            · rintro (h | ⟨i, h2, h3⟩)
              · exact Or.inl h
              · by_cases z : i = e
                · subst z
                  rw [upd_s] at h3
                  exact Or.inl ⟨j, hj, h3⟩
                · rw [upd_n z] at h3
                  exact Or.inr ⟨i, by omega, h3⟩
          · by_cases z : i = e
            · subst z
              rw [upd_s, upd_s, upd_s, upd_s]
              exact ⟨rfl, rfl, w5 j hj⟩
            · rw [upd_n z, upd_n z, upd_n z, upd_n z]
              exact E1 i (by omega)
          · by_cases z : i = e
            · subst z
              rw [upd_s, upd_s, upd_s, upd_s]
              exact Or.inr ⟨j, hj, rfl, rfl, rfl, rfl⟩
            · rw [upd_n z, upd_n z, upd_n z, upd_n z]
              exact E2 i (by omega)
          · rw [upd_n (by omega)]
            by_cases z : i' = e
            · subst z
              rw [upd_s]
              rcases E2 i (by omega) with ⟨-, -, q⟩ | ⟨j', q1, q2, q3, q4, -⟩
              · exact (q j hj).symm
              · rw [q4]
                intro q
                have jj : j' ≠ j := fun z => g6 ⟨i, by omega, by rw [q3, z]⟩
                rw [(w5 j' q1).1, (w5 j hj).1] at q
                have q := nI_inj (by have := (w5 j' q1).2; omega) (by have := (w5 j hj).2; omega) q
                rcases Nat.lt_or_gt_of_ne jj with z | z
                · exact w6 j' j z hj q
                · exact w6 j j' z q1 q.symm
            · rw [upd_n z]
              exact E3 i i' hii (by omega)
end DD
