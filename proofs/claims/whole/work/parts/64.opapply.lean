/-! applyChange: class and reference -/
section OA
variable {s : Nat → Int32} {t_count t_ifs : Int32} {t_sup : Nat → Int32} {m_count : Int32} {m_type m_name m_arity m_keys m_defs : Nat → Int32} {k_count k_fs : Int32} {k_st k_dy k_tg k_ac k_tc k_keys k_kinds k_vals k_tk k_nk k_nv : Nat → Int32} {d_method d_family d_old d_kept d_count d_used : Int32} {d_src d_keys d_defs : Nat → Int32} {ch en : Int32} {kp ek ed : Nat → Int32}
theorem e_remember {p q : Nat} (hp : p ≤ 8) (hq : q < 8) (hs : Nat → MS) : ∃ hs', fX3_remember (nI p) (nI q) hs t_count t_ifs t_sup m_count m_type m_name m_arity m_keys m_defs k_count k_fs k_st k_dy k_tg k_ac k_tc k_keys k_kinds k_vals k_tk k_nk k_nv = some (nI (if p = 8 then 8 else p + 1), nI ((q + 1) % 8), hs') ∧ (∀ s, RMc s t_count t_ifs t_sup m_count m_type m_name m_arity m_keys m_defs k_count k_fs k_st k_dy k_tg k_ac k_tc k_keys k_kinds k_vals k_tk → RM s (hs' q)) ∧ ∀ k, k ≠ q → hs' k = hs k := by
  unfold fX3_remember
  rw [if_pos (inb_nI hq (by decide)), e_count hp, e_next hq]
  refine ⟨_, rfl, fun s h => ?_, fun k hk => ?_⟩
  · rw [nI_clamp (by omega), if_pos rfl]
    exact RM_mk.mpr h
  · show (if k = (nI q).toNatClampNeg then _ else hs k) = hs k
    rw [nI_clamp (by omega), if_neg hk]
theorem op_applyChange {past : Nat → Int32} {p q : Nat} {hs : Nat → MS} (d_open : Int32) (R : RMc s t_count t_ifs t_sup m_count m_type m_name m_arity m_keys m_defs k_count k_fs k_st k_dy k_tg k_ac k_tc k_keys k_kinds k_vals k_tk) (H : HR past p q hs) (D : DL s d_open d_method d_family d_old d_kept d_count d_used d_src d_keys d_defs ch en kp ek ed) (xh : Nat → Int32) (g1 g2 : Int32) (g3 g4 kz nz : Nat → Int32) :
    (∃ r x' o1 o2 o3 o4, fX8_applyChange xh t_count t_ifs t_sup m_count m_type m_name m_arity m_keys m_defs k_count k_fs k_st k_dy k_tg k_ac k_tc k_keys k_kinds k_vals k_tk k_nk k_nv d_open d_method d_family d_old d_kept d_count d_src d_keys d_defs (nI p) (nI q) hs g1 g2 g3 g4 = some (r, x', m_arity, m_keys, m_defs, k_ac, k_tc, k_keys, k_kinds, k_vals, k_tk, k_nk, k_nv, d_open, nI p, nI q, hs, o1, o2, o3, o4) ∧ fX9_applyChange s past (nI p) ch en kp ek ed kz nz = some (r, s, past, nI p, ch, kz, nz)) ∨
    (∃ r x' ar my df ac tc ky K V T nk nv hs' o1 o2 o3 o4 s' past' p' q' kz' nz', fX8_applyChange xh t_count t_ifs t_sup m_count m_type m_name m_arity m_keys m_defs k_count k_fs k_st k_dy k_tg k_ac k_tc k_keys k_kinds k_vals k_tk k_nk k_nv d_open d_method d_family d_old d_kept d_count d_src d_keys d_defs (nI p) (nI q) hs g1 g2 g3 g4 = some (r, x', ar, my, df, ac, tc, ky, K, V, T, nk, nv, 0, nI p', nI q', hs', o1, o2, o3, o4) ∧ fX9_applyChange s past (nI p) ch en kp ek ed kz nz = some (r, s', past', nI p', -9, kz', nz') ∧ RMc s' t_count t_ifs t_sup m_count m_type m_name ar my df k_count k_fs k_st k_dy k_tg ac tc ky K V T ∧ HR past' p' q' hs') := by
  obtain ⟨z0, nt, nm, nc, hw, hm, hk, ct, cm, ck⟩ := id R
  have h8 := hk.1
  have n8 := hw.1
  have h16 := hm.1
  unfold fX8_applyChange fX9_applyChange
  rcases id D with ⟨D1, D2⟩ | ⟨D1, nt', nm', m, e, hw', hm', O⟩
  · rw [if_pos D1, if_pos D2]
    exact Or.inl ⟨_, _, _, _, _, _, rfl, rfl⟩
  · have e1 := WFT_uniq hw' hw
    subst e1
    have e2 := WFM_uniq hm' hm
    subst e2
    have hmm := O.mm
    have he := O.e5
    have hch := O.hch
    have hen := O.hen
    have w5 := (hm.2.2 m hmm).2.2.2.1
    have hne : ¬ ch = -9 := by rw [hch]; exact nI_ne9 (by omega)
    have hop : ¬ d_open = 0 := by rw [D1]; decide
    obtain ⟨c1, hc1, hl1⟩ := e_clash hw hm hmm e
    obtain ⟨c2, hc2, hl2⟩ := e_clashOf hw hm ct cm O
    have e3 := lst_eq (fun _ _ => Iff.rfl) hl1 hl2
    subst e3
    rw [if_neg hop, if_neg hne, hc2, hch, hen, hc1, bn_s, bn_s]
    by_cases gc : c1 = -9
    · rw [if_pos gc, if_pos gc]
      obtain ⟨r3, hr3, hb3⟩ := e_breaksFrozen hm hk ck O
      obtain ⟨r4, hr4, hb4⟩ := e_isBarred hw hm hk hmm he ek
      have e4 := isb_eq hb3 hb4
      subst e4
      rw [hr3, hr4, bn_s, bn_s]
      by_cases gb : r3 = 0
      · rw [if_pos gb, if_pos gb]
        obtain ⟨E1, E2, E3⟩ := O.de
        obtain ⟨hb, Hb⟩ : ∃ hb : Nat → Nat, ∀ c, c < nc → ¬ rC s c 3 = 1 → cnc s nt' nm' m c → VH (nA s m) e kp (fun i => rC s c (5 + i)) (hb c) ∧ (∀ g1 g2 g3 g4, ∃ o1 o2 o3 o4, fX4_choose g1 g2 g3 g4 k_ac k_kinds d_kept d_count d_src (nI c) = some (nI (hb c), o1, o2, o3, o4)) ∧ ∀ s' : Nat → Int32, (∀ w, w < 29 → rC s' c w = rC s c w) → fX9_hoistedOf s' (nI e) kp (nI c) = some (nI (hb c)) := by
          have ex : ∀ c, ∃ b, c < nc → ¬ rC s c 3 = 1 → cnc s nt' nm' m c → VH (nA s m) e kp (fun i => rC s c (5 + i)) b ∧ (∀ g1 g2 g3 g4, ∃ o1 o2 o3 o4, fX4_choose g1 g2 g3 g4 k_ac k_kinds d_kept d_count d_src (nI c) = some (nI b, o1, o2, o3, o4)) ∧ ∀ s' : Nat → Int32, (∀ w, w < 29 → rC s' c w = rC s c w) → fX9_hoistedOf s' (nI e) kp (nI c) = some (nI b) := fun c => by
            by_cases q1 : c < nc ∧ ¬ rC s c 3 = 1 ∧ cnc s nt' nm' m c
            · obtain ⟨b, b1, b2, b3⟩ := hoist_eq hm hk ck O q1.1 q1.2.1 q1.2.2
              exact ⟨b, fun _ _ _ => ⟨b1, b2, by rw [← hen]; exact b3⟩⟩
            · exact ⟨0, fun a1 a2 a3 => absurd ⟨a1, a2, a3⟩ q1⟩
          exact ⟨fun c => Classical.choose (ex c), fun c => Classical.choose_spec (ex c)⟩
        have t2 := (two_n w5).2
        obtain ⟨Rw, hRw, hRb⟩ := e_rewritten hm hk ck O.fm
        obtain ⟨r5, x', o1, o2, o3, o4, hr5, hb5, hx'⟩ := e_chooseHoisted (nt := nt') (nm := nm') (m := m) (d_kept := d_kept) (d_count := d_count) (d_src := d_src) hk ck hRb (hb := hb) (fun c q1 q2 q3 => by have := (Hb c q1 q2 q3).1.1; omega) (fun c q1 q2 q3 => (Hb c q1 q2 q3).2.1) g1 g2 g3 g4 xh
        obtain ⟨r6, hr6, hb6⟩ := e_hasRoom (e := e) (kp := kp) hw hm hk hmm (hb := hb) (fun c q1 q2 q3 => (Hb c q1 q2 q3).2.2 s (fun _ _ => rfl))
        have e5 := isb_eq hb5 hb6
        subst e5
        rw [hRw, bn_s, hr5, bn6_s, hr6, bn_s]
        by_cases gr : ROOM s nt' nm' nc m hb
        · rw [if_neg (fun q => (isb_0 hb5).mp q gr), if_neg (fun q => (isb_0 hb5).mp q gr)]
          have hx' := hx' gr
          obtain ⟨f, hf, hfb⟩ := e_family hw hm hmm
          obtain ⟨hs', hbe, hR', hO⟩ := e_remember (t_count := t_count) (t_ifs := t_ifs) (t_sup := t_sup) (m_count := m_count) (m_type := m_type) (m_name := m_name) (m_arity := m_arity) (m_keys := m_keys) (m_defs := m_defs) (k_count := k_count) (k_fs := k_fs) (k_st := k_st) (k_dy := k_dy) (k_tg := k_tg) (k_ac := k_ac) (k_tc := k_tc) (k_keys := k_keys) (k_kinds := k_kinds) (k_vals := k_vals) (k_tk := k_tk) (k_nk := k_nk) (k_nv := k_nv) H.1 H.2.1 hs
          obtain ⟨past', p', h1, h2, h3, h4⟩ := e_edit (s := s) H.1 past (nI m)
          have hkp : ∀ x, x < e → kp x = -9 ∨ ∃ j, j < nA s m ∧ kp x = nI j := fun x hx => (E2 x hx).elim (fun z => Or.inl z.2.1) (fun ⟨j, z1, _, z3, _⟩ => Or.inr ⟨j, z1, z3⟩)
          have hsrc : ∀ x, x < e → (d_src x = -1 ∧ kp x = -9) ∨ ∃ j, j < nA s m ∧ d_src x = nI j ∧ kp x = nI j := fun x hx => (E2 x hx).elim (fun z => Or.inl ⟨z.1, z.2.1⟩) (fun ⟨j, z1, z2, z3, _⟩ => Or.inr ⟨j, z1, z2, z3⟩)
          have HB0 : ∀ c, c < nc → ¬ rC s c 3 = 1 → cnc s nt' nm' m c → cN s c + cnt (nI (hb c)) (nA s m) ≤ 8 := fun c q1 q2 q3 => by
            have a1 := gr c q1 q2 q3
            have a2 := (Hb c q1 q2 q3).1.1
            have a3 := cnt_top (x := nI (hb c)) (N := nA s m) (M := 16) (fun k hk => tb_small (by omega) a2 hk) (by omega)
            omega
          have HB : HBd s nt' nm' nc m (nA s m) e kp hb := fun c q1 q2 q3 => ⟨(Hb c q1 q2 q3).1.1, HB0 c q1 q2 q3, cnc_arity hm hk q1 q2 q3, (Hb c q1 q2 q3).2.2⟩
          obtain ⟨u, kz', nz', f1, u1, u2, u3⟩ := ref_rewrite_all (ek := ek) (ed := ed) hm hk w5 he HB hkp hfb hRb past' (nI p') (nI m) kz nz
          obtain ⟨u', f2, v1, v2, v3, v4⟩ := ref_change_all (s := u) h16 ((u1 25 (by omega)).trans hm.2.1) he ek ed f kp past' (nI p') (nI m) (nI (cnt Rw nc)) kz' nz'
          obtain ⟨ac, tc, ky, K, V, T, nk, nv, f3, y1, y2⟩ := cls_rewrite_all (ek := ek) (ed := ed) hk ck w5 he HB hsrc (fun x hx => ⟨(E1 x hx).1, (E1 x hx).2.1⟩) hRb hx' k_nk k_nv
          obtain ⟨ar, my, df, f4, x1, x2⟩ := cls_change_all (f := d_family) h16 cm.1 he (fun x hx => ⟨(E1 x hx).1, (E1 x hx).2.1⟩) m_arity m_keys m_defs
          have hct := O.ct
          rw [hbe, ← h2, h1, bn3_s, bn3_s, hf, bn_s, f1, f2, hct, f3, bn8_s, f4, bn3_s]
          unfold fX1_close
          rw [bn_s, e_bitCount (fun k hk' => by have := ((hRb k).mp hk').1; omega), bn_s, cnt_top (N := nc) (fun k hk' => ((hRb k).mp hk').1) (by omega)]
          have HB2 : ∀ c, c < nc → rwc s nt' nm' m c → cN s c + cnt (nI (hb c)) (nA s m) ≤ 8 ∧ cA s c = nA s m ∧ ∀ i, i < nA s m → tb (nI (hb c)) i = true → cn (rC s c (5 + i)) := fun c q1 q2 => ⟨HB0 c q1 q2.1 q2.2, cnc_arity hm hk q1 q2.1 q2.2, fun i hi ht => ((Hb c q1 q2.1 q2.2).1.2 i hi).1.1 ht⟩
          have A : AS s u' nt' nm' nc m (nA s m) e hb kp ek ed := by
            refine ⟨fun j hj => (v1 j (Or.inl hj)).trans (u1 j (by omega)), fun o ho => ?_, fun o ho hfo => v3 o ho ((hfb o).mpr hfo), fun o ho hfo w hw => ?_, (v1 234 (by omega)).trans (u1 234 (by omega)), fun c hc hr => ?_, fun c hc hr w hw => ?_⟩
            · have a0 : rM u o 0 = rM s o 0 := u1 _ (by omega)
              have a1 : rM u o 1 = rM s o 1 := u1 _ (by omega)
              rw [(v2 o ho).1, (v2 o ho).2, a0, a1]
              exact ⟨rfl, rfl⟩
            · have a0 : rM u o w = rM s o w := u1 _ (by omega)
              rw [v4 o ho (fun z => hfo ((hfb o).mp z)) w hw, a0]
            · have q := u2 c hc ((hRb c).mpr ⟨hc, hr.1, hr.2⟩)
              have B2 := HB0 c hc hr.1 hr.2
              have eq : ∀ w, w < 29 → rC u' c w = rC u c w := fun w hw => v1 _ (by omega)
              obtain ⟨q1, q2, q3, q4, q5, q6⟩ := q
              have t8 := (hk.2.2 c hc).tn'
              refine ⟨fun w hw => by rw [eq w (by omega)]; exact q1 w hw, by rw [eq 4 (by decide)]; exact q2, by rw [eq 20 (by decide)]; exact q3, fun x hx => ?_, fun j hj => by rw [eq _ (by omega)]; exact q5 j hj, fun i' hi' ht' => ?_⟩
              · rw [eq (5 + x) (by omega), eq (10 + x) (by omega), eq (15 + x) (by omega)]
                exact q4 x hx
              · have m2 := cnt_mono (nI (hb c)) (i := i' + 1) (n := nA s m) hi'
                rw [cnt_s ht'] at m2
                rw [eq _ (by omega)]
                exact q6 i' hi' ht'
            · have eq : rC u' c w = rC u c w := v1 _ (by omega)
              rw [eq]
              exact u3 c hc (fun z => hr ((hRb c).mp z).2) w hw
          refine Or.inr ⟨_, x', ar, my, df, ac, tc, ky, K, V, T, nk, nv, hs', o1, o2, o3, o4, u', past', p', (q + 1) % 8, kz', nz', rfl, rfl, ?_, hr_edit H h2 h3 h4 (hR' s R) hO⟩
          have ft : FT s u' := fun j hj => A.1 j (by omega)
          exact ⟨fun k hk' => ((v1 k (by omega)).trans (u1 k (by omega))).trans (z0 k hk'), nt', nm', nc, WFT_frame hw ft, as_WFM hm he (fun i hi => (E1 i hi).2.2) E3 A, as_WFC hw hm hk he w5 E3 hkp HB2 A, CT_frame hw ft ct, as_CMt hm cm he A (fun o ho hfo => x1 o ho ((O.fm o).mpr hfo)) (fun o ho hfo => x2 o ho (fun z => hfo ((O.fm o).mp z))), as_CK hk ck he HB2 A (fun c hc hr => y1 c hc ((hRb c).mpr ⟨hc, hr.1, hr.2⟩)) (fun c hc hr => y2 c hc (fun z => hr ((hRb c).mp z).2))⟩
        · rw [if_pos ((isb_0 hb5).mpr gr), if_pos ((isb_0 hb5).mpr gr)]
          exact Or.inl ⟨_, _, _, _, _, _, rfl, rfl⟩
      · rw [if_neg gb, if_neg gb]
        exact Or.inl ⟨_, _, _, _, _, _, rfl, rfl⟩
    · rw [if_neg gc, if_neg gc]
      exact Or.inl ⟨_, _, _, _, _, _, rfl, rfl⟩
end OA
