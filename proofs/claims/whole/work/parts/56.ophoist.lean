/-! hoistedArguments -/
theorem bn5_s {α a0 a1 a2 a3 a4 : Type} {x0 : a0} {x1 : a1} {x2 : a2} {x3 : a3} {x4 : a4} {k : a0 → a1 → a2 → a3 → a4 → Option α} : bn5 (some (x0, x1, x2, x3, x4)) k = k x0 x1 x2 x3 x4 := rfl
section HO
variable {c n e : Nat} {kp kd d_src k_ac k_kinds g_kinds g_pos : Nat → Int32} {g_count g_kept d_kept : Int32}
/-- the largest set that may be hoisted -/
theorem VH_all (hn : n ≤ 5) {x : Int32} (hx : ∀ i, tb x i = true ↔ i < n ∧ (kd i = 2 ∨ (kd i = 1 ∧ keptI e kp i))) : ∃ D, x = nI D ∧ VH n e kp kd D ∧ D < 32 ∧ ∀ i, VH n e kp kd i → cnt (nI D) 16 ≤ cnt (nI i) 16 → i = D := by
  obtain ⟨D, hD, rfl⟩ := small (x := x) (n := n) (by omega) (fun k hk => ((hx k).mp hk).1)
  have h32 := (two_n hn).2
  refine ⟨D, rfl, ⟨hD, fun i hi => ⟨⟨fun h => ?_, fun h _ => (hx i).mpr ⟨hi, Or.inl h⟩, fun h h2 h3 => ?_⟩, fun j hj hc hei hej => Or.inl ?_⟩⟩, by omega, fun i h hc => sub_eq (by have := h.1; omega) (by omega) (fun k hk => (hx k).mpr ?_) hc⟩
  · exact ((hx i).mp h).2.elim Or.inr (fun q => Or.inl q.1)
  · exact ((hx i).mp h3).2.elim (fun q => by rw [h] at q; exact absurd q (by decide)) (fun q => h2 q.2)
  · rw [hx j]
    refine ⟨by omega, ?_⟩
    rcases hc.2.1 with q | q
    · refine Or.inr ⟨q, ?_⟩
      rcases hej with z | z
      · exact ((hx j).mp z).2.elim (fun w => by rw [q] at w; exact absurd w (by decide)) (fun w => w.2)
      · exact z
    · exact Or.inl q
  · have hkn := tb_small (a := i) (n := n) (by omega) h.1 hk
    obtain ⟨⟨u1, u2, u3⟩, -⟩ := h.2 k hkn
    refine ⟨hkn, (u1 hk).elim (fun q => Or.inr ⟨q, Classical.byContradiction (fun z => u3 q z hk)⟩) Or.inl⟩
theorem e_choose (hc : c < 8) (hn : n ≤ 5) (he : e ≤ 5) (hu : KU e kp) (hac : k_ac c = nI n) (hkd : ∀ i, i < n → k_kinds (c * 5 + i) = kd i) (hsrc : ∀ y, y < e → (d_src y = -1 ∧ kp y = -9) ∨ ∃ j, j < n ∧ d_src y = nI j ∧ kp y = nI j) (hkt : ∀ k, tb d_kept k = true ↔ k < n ∧ keptI e kp k) : ∃ b o1 o2 o3 o4, fX4_choose g_count g_kept g_kinds g_pos k_ac k_kinds d_kept (nI e) d_src (nI c) = some (nI b, o1, o2, o3, o4) ∧ MinR (VH n e kp kd) (fun i => cnt (nI i) 16) b := by
  unfold fX4_choose
  obtain ⟨kinds, pos, h1, h2, h3⟩ := e_look (g_count := g_count) (g_kept := g_kept) (g_kinds := g_kinds) (g_pos := g_pos) (d_kept := d_kept) hc hn he hu hac hkd hsrc
  obtain ⟨x2, h4, h5⟩ := e_ofKind hn h2 2
  obtain ⟨x1, h6, h7⟩ := e_ofKind hn h2 1
  rw [h1, bn4_s, h4, bn_s, bn_s, h6, bn_s]
  have hx : ∀ i, tb (x2 ||| (x1 &&& d_kept)) i = true ↔ i < n ∧ (kd i = 2 ∨ (kd i = 1 ∧ keptI e kp i)) := fun i => by
    rw [tb_ort, tb_andt, h5 i, h7 i, hkt i]
    constructor
    · rintro (⟨q1, q2⟩ | ⟨⟨q1, q2⟩, -, q3⟩)
      · exact ⟨q1, Or.inl q2⟩
      · exact ⟨q1, Or.inr ⟨q2, q3⟩⟩
    · rintro ⟨q1, q2 | ⟨q2, q3⟩⟩
      · exact Or.inl ⟨q1, q2⟩
      · exact Or.inr ⟨⟨q1, q2⟩, q1, q3⟩
  obtain ⟨D, hxD, hD, hD32, hT⟩ := VH_all hn hx
  rw [hxD]
  have hal : ∀ k, tb (nI D) k = true ↔ k < n ∧ (kd k = 2 ∨ (kd k = 1 ∧ keptI e kp k)) := fun k => by rw [← hxD, hx k]
  have hrq : ∀ k, tb (x2 &&& (d_kept ^^^ (-1))) k = true ↔ k < n ∧ kd k = 2 ∧ ¬ keptI e kp k := fun k => by
    rw [tb_andn, h5 k, hkt k]
    exact ⟨fun h => ⟨h.1.1, h.1.2, fun q => h.2 ⟨h.1.1, q⟩⟩, fun h => ⟨⟨h.1, h.2.1⟩, fun q => h.2.2 q.2⟩⟩
  generalize x2 &&& (d_kept ^^^ (-1)) = rq at hrq
  have h32 : fX8_bit 5 = some (nI 32) := by decide
  have t2 := (two_n hn).2
  obtain ⟨b, hb1, hb2⟩ := min_from (K := fun b => some (b, nI n, d_kept, kinds, pos)) (g := fun n' b i => lX4_choose_46 k_ac k_kinds d_kept (nI e) d_src n' (nI n) d_kept kinds pos rq (nI D) b i) (V := VH n e kp kd) (C := fun i => cnt (nI i) 16) (N := 32) (D := D) (by omega) hD (fun i h => by have := h.1; omega) hT (fun n' i b hi hb => by
    show (_ → lX4_choose_46 k_ac k_kinds d_kept (nI e) d_src (n' + 1) (nI n) d_kept kinds pos rq (nI D) (nI b) (nI i) = lX4_choose_46 k_ac k_kinds d_kept (nI e) d_src n' (nI n) d_kept kinds pos rq (nI D) (nI i) (nI i + 1)) ∧ (_ → lX4_choose_46 k_ac k_kinds d_kept (nI e) d_src (n' + 1) (nI n) d_kept kinds pos rq (nI D) (nI b) (nI i) = lX4_choose_46 k_ac k_kinds d_kept (nI e) d_src n' (nI n) d_kept kinds pos rq (nI D) (nI b) (nI i + 1))
    have hb1 := hb.1
    have c1 := cnt_le_N (nI i) 16
    have c2 := cnt_le_N (nI b) 16
    have b1 : fJ6_bitCount_0f7a4 (nI i) = some (nI (cnt (nI i) 16)) := e_bitCount (fun k hk => tb_small (n := 16) (by decide) (by omega) hk)
    have b2 : fJ6_bitCount_0f7a4 (nI b) = some (nI (cnt (nI b) 16)) := e_bitCount (fun k hk => tb_small (n := 16) (by decide) (by omega) hk)
    rw [lX4_choose_46_s, h32, bn_s, if_neg (nI_ge hi (by omega))]
    unfold jX4_choose_79 jX4_choose_80 jX4_choose_100
    rw [b1, b2]
    by_cases g1 : ∀ k, tb rq k = true → tb (nI i) k = true
    · rw [if_pos (andn_eq0.mpr g1)]
      by_cases g2 : ∀ k, tb (nI i) k = true → tb (nI D) k = true
      · rw [if_pos (andn_eq0.mpr g2), bn_s, bn_s]
        have hVo : VH n e kp kd i ↔ ∀ l, l < n → ∀ j, j < l → PR (nI i) e kp kd j l := by
          constructor
          · exact fun h l hl => (h.2 l hl).2
          · intro h
            have hi2 : i < 2 ^ n := by
              obtain ⟨a, ha, q⟩ := small (x := nI i) (n := n) (by omega) (fun k hk => ((hal k).mp (g2 k hk)).1)
              have := nI_inj (by omega) (by omega) q
              omega
            refine ⟨hi2, fun l hl => ⟨⟨fun q => ?_, fun q q2 => g1 l ((hrq l).mpr ⟨hl, q, q2⟩), fun q q2 q3 => ?_⟩, h l hl⟩⟩
            · exact ((hal l).mp (g2 l q)).2.elim Or.inr (fun z => Or.inl z.1)
            · exact ((hal l).mp (g2 l q3)).2.elim (fun z => by rw [q] at z; exact absurd z (by decide)) (fun z => q2 z.2)
        by_cases g3 : cnt (nI i) 16 < cnt (nI b) 16
        · rw [if_neg (nI_ge g3 (by omega)), if_neg (by decide), if_neg (by decide)]
          obtain ⟨r, hr, hbb⟩ := e_keepsOrder hn he hu h2 h3 hkt (nI i)
          rw [hr, bn_s]
          by_cases g4 : ∀ l, l < n → ∀ j, j < l → PR (nI i) e kp kd j l
          · rw [if_neg (fun q => (isb_0 hbb).mp q g4)]
            exact ⟨fun _ => rfl, fun h => absurd ⟨hVo.mpr g4, g3⟩ h⟩
          · rw [if_pos ((isb_0 hbb).mpr g4)]
            exact ⟨fun h => absurd (hVo.mp h.1) g4, fun _ => rfl⟩
        · rw [if_pos (nI_le (by omega) (by omega)), if_neg (by decide), if_pos rfl]
          exact ⟨fun h => absurd h.2 g3, fun _ => rfl⟩
      · rw [if_neg (fun q => g2 (andn_eq0.mp q)), bn_s, bn_s]
        refine ⟨fun h => absurd (fun k hk => ?_) g2, fun _ => ?_⟩
        · have hkn := tb_small (a := i) (n := n) (by omega) h.1.1 hk
          obtain ⟨⟨u1, u2, u3⟩, -⟩ := h.1.2 k hkn
          exact (hal k).mpr ⟨hkn, (u1 hk).elim (fun q => Or.inr ⟨q, Classical.byContradiction (fun z => u3 q z hk)⟩) Or.inl⟩
        · split <;> rfl
    · rw [if_neg (fun q => g1 (andn_eq0.mp q)), bn_s, bn_s]
      refine ⟨fun h => absurd (fun k hk => ?_) g1, fun _ => ?_⟩
      · obtain ⟨q1, q2, q3⟩ := (hrq k).mp hk
        exact (h.1.2 k q1).1.2.1 q2 q3
      · split <;> rfl) (fun n' b => by
    show lX4_choose_46 k_ac k_kinds d_kept (nI e) d_src (n' + 1) (nI n) d_kept kinds pos rq (nI D) (nI b) (nI 32) = some (nI b, nI n, d_kept, kinds, pos)
    rw [lX4_choose_46_s, h32, bn_s, if_pos (up_N (by omega))])
  exact ⟨b, _, _, _, _, hb1, hb2⟩
end HO
section HP
variable {s : Nat → Int32} {nt nm nc m e : Nat} {t_count t_ifs : Int32} {t_sup : Nat → Int32} {m_count : Int32} {m_type m_name m_arity m_keys m_defs : Nat → Int32} {k_count k_fs : Int32} {k_st k_dy k_tg k_ac k_tc k_keys k_kinds k_vals k_tk k_nk k_nv : Nat → Int32} {d_method d_family d_old d_kept d_count d_used : Int32} {d_src d_keys d_defs : Nat → Int32} {ch en : Int32} {kp ek ed : Nat → Int32} {g_kinds g_pos : Nat → Int32} {g_count g_kept : Int32}
theorem DO.ku (hm : WFM s nt nm) (D : DO s nt nm m e d_method d_family d_old d_kept d_count d_used d_src d_keys d_defs ch en kp ek ed) : KU e kp := by
  intro y z i hy hz hi h1 h2
  have w5 := (hm.2.2 m D.mm).2.2.2.1
  obtain ⟨E1, E2, E3⟩ := D.de
  rcases E2 y hy with ⟨-, q, -⟩ | ⟨j, q1, q2, q3, q4, -⟩
  · rw [q] at h1
    exact absurd h1.symm (nI_ne9 (by omega))
  · rcases E2 z hz with ⟨-, q, -⟩ | ⟨j', w1, w2, w3, w4, -⟩
    · rw [q] at h2
      exact absurd h2.symm (nI_ne9 (by omega))
    · have hj : nI j = nI j' := q3.symm.trans (h1.trans (h2.symm.trans w3))
      have e : ek y = ek z := by
        rw [q4, w4]
        rw [nI_inj (by omega) (by omega) hj]
      rcases Nat.lt_trichotomy y z with w | w | w
      · exact absurd e (E3 y z w hz)
      · exact w
      · exact absurd e.symm (E3 z y w hy)
end HP
