/-! hoistedArguments: class and reference -/
section HQ
variable {s : Nat → Int32} {nt nm nc m e : Nat} {t_count t_ifs : Int32} {t_sup : Nat → Int32} {m_count : Int32} {m_type m_name m_arity m_keys m_defs : Nat → Int32} {k_count k_fs : Int32} {k_st k_dy k_tg k_ac k_tc k_keys k_kinds k_vals k_tk k_nk k_nv : Nat → Int32} {d_method d_family d_old d_kept d_count d_used : Int32} {d_src d_keys d_defs : Nat → Int32} {ch en : Int32} {kp ek ed : Nat → Int32} {g_kinds g_pos : Nat → Int32} {g_count g_kept : Int32}
theorem cnc_arity (hm : WFM s nt nm) (hk : WFC s nt nm nc) {c : Nat} (hc : c < nc) (hf : ¬ rC s c 3 = 1) (hcc : cnc s nt nm m c) : cA s c = nA s m := by
  have W := hk.2.2 c hc
  rw [W.ut (W.fr.resolve_right hf)]
  unfold nA
  rw [(fam_sg hcc).2]
theorem hoist_eq (hm : WFM s nt nm) (hk : WFC s nt nm nc) (ck : CK s nc k_count k_fs k_st k_dy k_tg k_ac k_tc k_keys k_kinds k_vals k_tk) (D : DO s nt nm m e d_method d_family d_old d_kept d_count d_used d_src d_keys d_defs ch en kp ek ed) {c : Nat} (hc : c < nc) (hf : ¬ rC s c 3 = 1) (hcc : cnc s nt nm m c) : ∃ b, VH (nA s m) e kp (fun i => rC s c (5 + i)) b ∧ (∀ g_count g_kept g_kinds g_pos, ∃ o1 o2 o3 o4, fX4_choose g_count g_kept g_kinds g_pos k_ac k_kinds d_kept d_count d_src (nI c) = some (nI b, o1, o2, o3, o4)) ∧ ∀ s' : Nat → Int32, (∀ w, w < 29 → rC s' c w = rC s c w) → fX9_hoistedOf s' en kp (nI c) = some (nI b) := by
  have h8 := hk.1
  have hmm := D.mm
  have W := hk.2.2 c hc
  have K := ck.c c hc
  have hA := cnc_arity hm hk hc hf hcc
  have w5 := (hm.2.2 m hmm).2.2.2.1
  have he := D.e5
  have hu := D.ku hm
  obtain ⟨E1, E2, E3⟩ := D.de
  have go : ∀ g_count g_kept g_kinds g_pos, ∃ b o1 o2 o3 o4, fX4_choose g_count g_kept g_kinds g_pos k_ac k_kinds d_kept (nI e) d_src (nI c) = some (nI b, o1, o2, o3, o4) ∧ MinR (VH (nA s m) e kp (fun i => rC s c (5 + i))) (fun i => cnt (nI i) 16) b := fun g_count g_kept g_kinds g_pos => e_choose (c := c) (by omega) w5 he hu (by rw [K.ac, W.ar, hA]) (fun i hi => K.kd i (by omega)) (fun y hy => (E2 y hy).elim (fun q => Or.inl ⟨q.1, q.2.1⟩) (fun ⟨j, q1, q2, q3, _⟩ => Or.inr ⟨j, q1, q2, q3⟩)) (fun k => D.kt k)
  obtain ⟨b, _, _, _, _, -, hb2⟩ := go 0 0 (fun _ => 0) (fun _ => 0)
  refine ⟨b, hb2.1, fun gc gk gs gp => ?_, fun s' hs' => ?_⟩
  · obtain ⟨b', o1, o2, o3, o4, hb3, hb4⟩ := go gc gk gs gp
    have := MinR_uniq (fun _ => Iff.rfl) hb4 hb2
    subst this
    rw [D.ct]
    exact ⟨o1, o2, o3, o4, hb3⟩
  · obtain ⟨b', hb3, hb4⟩ := e_hoistedOf (s := s') (c := c) (n := nA s m) (e := e) (kp := kp) (kd := fun i => rC s c (5 + i)) (by omega) w5 he hu (by rw [hs' 4 (by decide), W.ar, hA]) (fun i hi => hs' (5 + i) (by omega)) hb2.1
    have := MinR_uniq (fun _ => Iff.rfl) hb4 hb2
    subst this
    rw [D.hen]
    exact hb3
theorem e_rewritten (hm : WFM s nt nm) (hk : WFC s nt nm nc) (ck : CK s nc k_count k_fs k_st k_dy k_tg k_ac k_tc k_keys k_kinds k_vals k_tk) {f : Int32} (hf : ∀ k, tb f k = true ↔ fam s nt nm m k) : ∃ x, fX8_rewrittenCalls k_count k_fs k_tg f = some x ∧ ∀ c, tb x c = true ↔ c < nc ∧ ¬ rC s c 3 = 1 ∧ cnc s nt nm m c := by
  unfold fX8_rewrittenCalls
  obtain ⟨w, hw, hb⟩ := e_withTargetIn hm hk ck f
  rw [hw, bn_s]
  refine ⟨_, rfl, fun c => ?_⟩
  rw [tb_andn, hb c, ck.fs c, hf]
  constructor
  · rintro ⟨⟨h1, h2⟩, h3⟩
    exact ⟨h1, fun q => h3 ⟨h1, q⟩, h2⟩
  · rintro ⟨h1, h2, h3⟩
    exact ⟨⟨h1, h3⟩, fun q => h2 q.2⟩
theorem op_hoistedArguments (d_open : Int32) (hw : WFT s nt) (hm : WFM s nt nm) (hk : WFC s nt nm nc) (ck : CK s nc k_count k_fs k_st k_dy k_tg k_ac k_tc k_keys k_kinds k_vals k_tk) (D : DL s d_open d_method d_family d_old d_kept d_count d_used d_src d_keys d_defs ch en kp ek ed) (x : Int32) : ∃ r o1 o2 o3 o4, fX8_hoistedArguments k_count k_fs k_tg k_ac k_kinds d_open d_family d_kept d_count d_src g_count g_kept g_kinds g_pos x = some (r, o1, o2, o3, o4) ∧ fX9_hoistedArguments s ch en kp x = some r := by
  have h8 := hk.1
  have h16 := hm.1
  unfold fX8_hoistedArguments fX9_hoistedArguments
  obtain ⟨r1, hr1, hb1⟩ := e_isCall hk x
  obtain ⟨r2, hr2, hb2⟩ := e_kexists hk ck x
  rw [hr1, hr2, bn_s, bn_s]
  by_cases g : ∃ c, c < nc ∧ x = nI c
  · rw [if_neg (fun q => (isb_0 hb1).mp q g), if_neg (fun q => (isb_0 hb2).mp q g)]
    obtain ⟨c, hc, rfl⟩ := g
    rcases id D with ⟨D1, D2⟩ | ⟨D1, nt', nm', m, e, hw', hm', O⟩
    · rw [if_pos D1, if_pos D2]
      exact ⟨_, _, _, _, _, rfl, rfl⟩
    · have e1 := WFT_uniq hw' hw
      subst e1
      have e2 := WFM_uniq hm' hm
      subst e2
      have hmm := O.mm
      have hch := O.hch
      obtain ⟨w, hw1, hwb⟩ := e_rewritten hm hk ck O.fm
      obtain ⟨r3, hr3, hb3⟩ := e_contains w (k := c) (by omega)
      obtain ⟨r4, hr4, hb4⟩ := e_isFrozen hk hc
      obtain ⟨r5, hr5, hb5⟩ := e_isConcerned hw hm hk hmm hc
      rw [D1, if_neg (by decide), if_neg (show ¬ ch = -9 by rw [hch]; exact nI_ne9 (by omega)), hw1, bn_s, hr3, bn_s, hr4, bn_s]
      by_cases g1 : rC s c 3 = 1
      · rw [if_neg (fun q => (isb_0 hb4).mp q g1), if_pos ((isb_0 hb3).mpr (fun q => ((hwb c).mp q).2.1 g1))]
        exact ⟨_, _, _, _, _, rfl, rfl⟩
      · rw [if_pos ((isb_0 hb4).mpr g1), hch, hr5, bn_s]
        by_cases g2 : cnc s nt' nm' m c
        · obtain ⟨b, -, hb6, hb7⟩ := hoist_eq hm hk ck O hc g1 g2
          obtain ⟨o1, o2, o3, o4, hb8⟩ := hb6 g_count g_kept g_kinds g_pos
          rw [if_neg (fun q => (isb_0 hb5).mp q g2), if_neg (fun q => (isb_0 hb3).mp q ((hwb c).mpr ⟨hc, g1, g2⟩)), hb7 s (fun _ _ => rfl), hb8, bn5_s, bn_s]
          exact ⟨_, _, _, _, _, rfl, rfl⟩
        · rw [if_pos ((isb_0 hb5).mpr g2), if_pos ((isb_0 hb3).mpr (fun q => g2 ((hwb c).mp q).2.2))]
          exact ⟨_, _, _, _, _, rfl, rfl⟩
  · rw [if_pos ((isb_0 hb1).mpr g), if_pos ((isb_0 hb2).mpr g)]
    exact ⟨_, _, _, _, _, rfl, rfl⟩
end HQ
