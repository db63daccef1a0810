/-! dispatch, the class -/
section D2
variable {s : Nat → Int32} {nt nm : Nat} {t_count t_ifs : Int32} {t_sup : Nat → Int32} {m_count : Int32} {m_type m_name m_arity m_keys m_defs : Nat → Int32}
theorem e_dispatched (hw : WFT s nt) (hm : WFM s nt nm) {c d g : Nat} (hc8 : c < 8) (hd : d < nt) (hdc : s (1 + 3 * d) = 0) (hg : g < nm) (h1 : rC s c 1 = nI d) (h2 : rC s c 2 = nI g) : ∃ r, fX9_dispatched s (nI c) = some r ∧ DR s nt nm (rM s g 1) (rM s g 2) d r := by
  have h8 := hw.1
  unfold fX9_dispatched fX9_at
  rw [bn_s, show (235 : Int32) + 29 * nI c + 2 = nI (235 + 29 * c + 2) from ixC c 2, rd_nI (by omega) (by decide), bn_s, show (235 : Int32) + 29 * nI c + 1 = nI (235 + 29 * c + 1) from ixC c 1, rd_nI (by omega) (by decide)]
  rw [show s (235 + 29 * c + 2) = nI g from h2, show s (235 + 29 * c + 1) = nI d from h1]
  exact disp_cls hw hm hd hg 5000 d hd (by omega) ⟨up_rfl d, hdc⟩ (fun u hu _ => hu.1) (fun u hlt hu => by
    have := up_le hw hd hu.1
    omega)
def CR (s : Nat → Int32) (nt nm : Nat) (chain n a : Int32) (r : Int32) : Prop := (∃ t, t < nt ∧ tb chain t = true ∧ (∃ m, m < nm ∧ Pd s n a t m) ∧ lst (Pd s n a t) nm r ∧ ∀ u, t < u → u < nt → tb chain u = true → ∀ m, m < nm → ¬ Pd s n a u m) ∨ (r = -9 ∧ ∀ u, u < nt → tb chain u = true → ∀ m, m < nm → ¬ Pd s n a u m)
theorem e_classMethod (hw : WFT s nt) (hm : WFM s nt nm) (hc : CT s nt t_count t_ifs t_sup) (hd : CMt s nm m_count m_type m_name m_arity m_keys m_defs) (chain n a : Int32) (hnt : 0 < nt) : ∃ r, fX6_classMethod t_count m_count m_type m_name m_arity chain n a = some r ∧ CR s nt nm chain n a r := by
  have h8 := hw.1
  have h16 := hm.1
  unfold fX6_classMethod
  have key : ∀ j n', j ≤ nt → j < n' → (∀ u, j ≤ u → u < nt → tb chain u = true → ∀ m, m < nm → ¬ Pd s n a u m) → ∃ r, lX6_classMethod_11 t_count m_count m_type m_name m_arity n' chain n a (nI j + (-1)) = some r ∧ CR s nt nm chain n a r := by
    intro j
    induction j with
    | zero =>
      intro n' _ hn hno
      obtain ⟨n', rfl⟩ : ∃ q, n' = q + 1 := ⟨n' - 1, by omega⟩
      rw [lX6_classMethod_11_s, if_pos (by decide)]
      exact ⟨-9, rfl, Or.inr ⟨rfl, fun u => hno u (Nat.zero_le u)⟩⟩
    | succ j ih =>
      intro n' hj hn hno
      obtain ⟨n', rfl⟩ : ∃ q, n' = q + 1 := ⟨n' - 1, by omega⟩
      rw [pk_m1, lX6_classMethod_11_s, if_neg (nI_pos (by omega))]
      unfold jX6_classMethod_41
      obtain ⟨r1, hr1, hb1⟩ := e_contains chain (k := j) (by omega)
      rw [hr1, bn_s]
      by_cases g1 : tb chain j = true
      · rw [if_neg (fun q => (isb_0 hb1).mp q g1)]
        obtain ⟨r2, hr2, hl⟩ := e_cdeclaredBy hw hm hd (ty := j) (by omega) n a
        have hl' : lst (Pd s n a j) nm r2 := hl
        rw [hr2, bn_s]
        by_cases g2 : r2 = -9
        · rw [if_pos g2]
          refine ih n' (by omega) (by omega) (fun u hu hun ht => ?_)
          by_cases e : u = j
          · subst e
            exact (lst_none (by omega) hl').mp g2
          · exact hno u (by omega) hun ht
        · rw [if_neg g2]
          refine ⟨r2, rfl, Or.inl ⟨j, by omega, g1, ?_, hl', fun u hu => hno u hu⟩⟩
          exact Classical.byContradiction (fun q => g2 ((lst_none (by omega) hl').mpr (fun k k1 k2 => q ⟨k, k1, k2⟩)))
      · rw [if_pos ((isb_0 hb1).mpr g1), if_pos rfl]
        refine ih n' (by omega) (by omega) (fun u hu hun ht => ?_)
        by_cases e : u = j
        · subst e
          exact absurd ht g1
        · exact hno u (by omega) hun ht
  have e : t_count - 1 = nI nt + (-1) := by
    rw [hc.1]
    obtain ⟨q, rfl⟩ : ∃ q, nt = q + 1 := ⟨nt - 1, by omega⟩
    rw [nI_pred, pk_m1]
  rw [e]
  exact key nt 5000 (Nat.le_refl nt) (by omega) (fun u h1 h2 => absurd h2 (by omega))
theorem e_hasSubtypeIn (hw : WFT s nt) (hc : CT s nt t_count t_ifs t_sup) (set : Int32) {t : Nat} (ht : t < nt) : ∃ r, fX6_hasSubtypeIn t_count t_sup set (nI t) = some r ∧ isb r (∃ o, o < nt ∧ tb set o = true ∧ up s o t) := by
  have h8 := hw.1
  unfold fX6_hasSubtypeIn
  obtain ⟨r, hr, h⟩ := all_loop (g := fun n' i => lX6_hasSubtypeIn_2 t_count t_sup n' set (nI t) i) (N := nt) (P := fun o => ¬ (tb set o = true ∧ up s o t)) (e1 := 1) (e2 := 0) (fun n' i hi => by
    show (_ → lX6_hasSubtypeIn_2 t_count t_sup (n' + 1) set (nI t) (nI i) = lX6_hasSubtypeIn_2 t_count t_sup n' set (nI t) (nI i + 1)) ∧ (_ → lX6_hasSubtypeIn_2 t_count t_sup (n' + 1) set (nI t) (nI i) = some 1)
    rw [lX6_hasSubtypeIn_2_s, if_neg (by rw [hc.1]; exact up_i (by omega) hi)]
    obtain ⟨r, hr, hb⟩ := e_contains set (k := i) (by omega)
    rw [hr, bn_s]
    by_cases g : tb set i = true
    · rw [if_neg (fun q => (isb_0 hb).mp q g)]
      obtain ⟨r2, hr2, hb2⟩ := e_inherits hw hc hi ht
      rw [hr2, bn_s]
      by_cases g2 : up s i t
      · rw [if_neg (fun q => (isb_0 hb2).mp q g2)]
        exact ⟨fun h => absurd ⟨g, g2⟩ h, fun _ => rfl⟩
      · rw [if_pos ((isb_0 hb2).mpr g2)]
        exact ⟨fun _ => rfl, fun h => absurd (fun q => g2 q.2) h⟩
    · rw [if_pos ((isb_0 hb).mpr g)]
      exact ⟨fun _ => rfl, fun h => absurd (fun q => g q.1) h⟩) (fun n' => by
    show lX6_hasSubtypeIn_2 t_count t_sup (n' + 1) set (nI t) (nI nt) = some 0
    rw [lX6_hasSubtypeIn_2_s, if_pos (by rw [hc.1]; exact up_N (by omega))]) 5000 0 (Nat.zero_le _) (by omega)
  refine ⟨r, hr, ?_⟩
  rcases h with ⟨h1, h2⟩ | ⟨h1, o, _, h2, h3⟩
  · exact Or.inr ⟨h1, fun ⟨o, ho, q⟩ => h2 o (Nat.zero_le o) ho q⟩
  · exact Or.inl ⟨h1, o, h2, Classical.byContradiction h3⟩
theorem e_interfaceMethod (hw : WFT s nt) (hm : WFM s nt nm) (hc : CT s nt t_count t_ifs t_sup) (hd : CMt s nm m_count m_type m_name m_arity m_keys m_defs) {d : Nat} (hdt : d < nt) (n a : Int32) : ∃ r, fX6_interfaceMethod t_count t_sup m_count m_type m_name m_arity (t_sup d &&& t_ifs) n a = some r ∧ IR s nt nm n a d r := by
  have h8 := hw.1
  have h16 := hm.1
  unfold fX6_interfaceMethod
  obtain ⟨x, hx, hxb⟩ := e_withSignature hw hm hd n a (t_sup d &&& t_ifs)
  rw [hx, bn_s]
  obtain ⟨cd, hcd, cdb⟩ := e_typesOf hw hm hd x
  rw [hcd, bn_s]
  have cand : ∀ t, tb cd t = true ↔ s (1 + 3 * t) = 1 ∧ up s d t ∧ ∃ m, m < nm ∧ Pd s n a t m := by
    intro t
    rw [cdb t]
    constructor
    · rintro ⟨m, hmm, q1, rfl⟩
      obtain ⟨m', _, rfl, q3, q4⟩ := (hxb m).mp q1
      rw [tb_andt, hc.2.1 d hdt, hc.2.2] at q4
      exact ⟨q4.2.2, q4.1, m, hmm, rfl, q3⟩
    · rintro ⟨q1, q2, m, hmm, rfl, q3⟩
      refine ⟨m, hmm, (hxb m).mpr ⟨m, hmm, rfl, q3, ?_⟩, rfl⟩
      rw [tb_andt, hc.2.1 d hdt, hc.2.2]
      exact ⟨q2, (hm.2.2 m hmm).2.1, q1⟩
  refine find_loop (g := fun n' i => lX6_interfaceMethod_22 t_count t_sup m_count m_type m_name m_arity n' n a cd i) (N := nt) (P := okI s nt nm n a d) (Q := fun t r => lst (Pd s n a t) nm r) (fun n' i hi => ?_) (fun n' => ?_) 5000 0 (Nat.zero_le _) (by omega) (fun j h => absurd h (Nat.not_lt_zero j))
  · show (_ → ∃ r, lX6_interfaceMethod_22 t_count t_sup m_count m_type m_name m_arity (n' + 1) n a cd (nI i) = some r ∧ lst (Pd s n a i) nm r) ∧ (_ → lX6_interfaceMethod_22 t_count t_sup m_count m_type m_name m_arity (n' + 1) n a cd (nI i) = lX6_interfaceMethod_22 t_count t_sup m_count m_type m_name m_arity n' n a cd (nI i + 1))
    rw [lX6_interfaceMethod_22_s, if_neg (by rw [hc.1]; exact up_i (by omega) hi)]
    obtain ⟨r1, hr1, hb1⟩ := e_contains cd (k := i) (by omega)
    rw [hr1, bn_s]
    by_cases g1 : tb cd i = true
    · rw [if_neg (fun q => (isb_0 hb1).mp q g1), e_bit, bn_s]
      obtain ⟨r2, hr2, hb2⟩ := e_hasSubtypeIn hw hc (cd &&& ((1 <<< (nI i &&& 31)) ^^^ (-1))) hi
      rw [hr2, bn_s]
      have e2 : (∃ o, o < nt ∧ tb (cd &&& ((1 <<< (nI i &&& 31)) ^^^ (-1))) o = true ∧ up s o i) ↔ ∃ u, u < nt ∧ (u ≠ i ∧ s (1 + 3 * u) = 1 ∧ up s d u ∧ ∃ m, m < nm ∧ Pd s n a u m) ∧ up s u i := by
        constructor
        · rintro ⟨o, h1, h2, h3⟩
          rw [tb_andn, tb_bitt (by omega), cand] at h2
          exact ⟨o, h1, ⟨h2.2, h2.1⟩, h3⟩
        · rintro ⟨o, h1, h2, h3⟩
          refine ⟨o, h1, ?_, h3⟩
          rw [tb_andn, tb_bitt (by omega), cand]
          exact ⟨h2.2, h2.1⟩
      by_cases g2 : ∃ u, u < nt ∧ (u ≠ i ∧ s (1 + 3 * u) = 1 ∧ up s d u ∧ ∃ m, m < nm ∧ Pd s n a u m) ∧ up s u i
      · rw [if_neg (fun q => (isb_0 hb2).mp q (e2.mpr g2))]
        exact ⟨fun h => absurd g2 h.2, fun _ => rfl⟩
      · rw [if_pos ((isb_0 hb2).mpr (fun q => g2 (e2.mp q)))]
        obtain ⟨r3, hr3, hl⟩ := e_cdeclaredBy hw hm hd hi n a
        rw [hr3, bn_s]
        exact ⟨fun _ => ⟨r3, rfl, hl⟩, fun h => absurd ⟨(cand i).mp g1, g2⟩ h⟩
    · rw [if_pos ((isb_0 hb1).mpr g1)]
      exact ⟨fun h => absurd ((cand i).mpr h.1) g1, fun _ => rfl⟩
  · show lX6_interfaceMethod_22 t_count t_sup m_count m_type m_name m_arity (n' + 1) n a cd (nI nt) = some (-9)
    rw [lX6_interfaceMethod_22_s, if_pos (by rw [hc.1]; exact up_N (by omega))]
theorem e_executedBy (hw : WFT s nt) (hm : WFM s nt nm) (hc : CT s nt t_count t_ifs t_sup) (hd : CMt s nm m_count m_type m_name m_arity m_keys m_defs) {k_dyn k_target : Nat → Int32} {c d g : Nat} (hc8 : c < 8) (hdt : d < nt) (hg : g < nm) (h1 : k_dyn c = nI d) (h2 : k_target c = nI g) : ∃ r, fX6_executedBy t_count t_ifs t_sup m_count m_type m_name m_arity k_dyn k_target (nI c) = some r ∧ DR s nt nm (rM s g 1) (rM s g 2) d r := by
  have h8 := hw.1
  have h16 := hm.1
  obtain ⟨c1, c2, c3, -⟩ := hd.2 g hg
  unfold fX6_executedBy
  rw [rd_nI (by omega) (by decide), h2, rd_nI (by omega) (by decide), c2, rd_nI (by omega) (by decide), h2, rd_nI (by omega) (by decide), c3, rd_nI (by omega) (by decide), h1, rd_nI (by omega) (by decide)]
  obtain ⟨r, hr, hcr⟩ := e_classMethod hw hm hc hd (t_sup d &&& (t_ifs ^^^ (-1))) (rM s g 1) (rM s g 2) (by omega)
  rw [hr, bn_s]
  have ch : ∀ t, t < nt → (tb (t_sup d &&& (t_ifs ^^^ (-1))) t = true ↔ cls s d t) := by
    intro t ht
    rw [tb_andn, hc.2.1 d hdt, hc.2.2]
    constructor
    · rintro ⟨q1, q2⟩
      exact ⟨q1, (hw.2.2 t ht).1.resolve_right (fun z => q2 ⟨ht, z⟩)⟩
    · rintro ⟨q1, q2⟩
      exact ⟨q1, fun z => by rw [q2] at z; exact absurd z.2 (by decide)⟩
  have lt : ∀ u, cls s d u → u < nt := fun u hu => by
    have := up_le hw hdt hu.1
    omega
  rcases hcr with ⟨t, t1, t2, t3, t4, t5⟩ | ⟨q1, q2⟩
  · obtain ⟨m, m1, m2⟩ := t3
    have hne : r ≠ -9 := fun q => (lst_none (by omega) t4).mp q m m1 m2
    rw [if_neg hne]
    exact ⟨r, rfl, Or.inl ⟨t, (ch t t1).mp t2, ⟨m, m1, m2⟩, t4, fun u hu hcu => t5 u hu (lt u hcu) ((ch u (lt u hcu)).mpr hcu)⟩⟩
  · rw [if_pos q1]
    obtain ⟨r2, hr2, hir⟩ := e_interfaceMethod hw hm hc hd hdt (rM s g 1) (rM s g 2)
    rw [hr2, bn_s]
    exact ⟨r2, rfl, Or.inr ⟨fun u hu => q2 u (lt u hu) ((ch u (lt u hu)).mpr hu), hir⟩⟩
end D2
