/-! clashes and concerned calls -/
section CL
variable {s : Nat → Int32} {nt nm nc m e : Nat} {t_count t_ifs : Int32} {t_sup : Nat → Int32} {m_count : Int32} {m_type m_name m_arity m_keys m_defs : Nat → Int32} {k_count k_fs : Int32} {k_st k_dy k_tg k_ac k_tc k_keys k_kinds k_vals k_tk k_nk k_nv : Nat → Int32} {d_method d_family d_old d_kept d_count d_used : Int32} {d_src d_keys d_defs : Nat → Int32} {ch en : Int32} {kp ek ed : Nat → Int32}
def CLP (s : Nat → Int32) (nt nm m e u : Nat) : Prop := ¬ fam s nt nm m u ∧ sg s u (rM s m 1) (nI e) ∧ ∃ o, o < nm ∧ (fam s nt nm m o ∧ conn s nt (nT s u) (nT s o))
theorem e_clashes (hw : WFT s nt) (hm : WFM s nt nm) (hmm : m < nm) {f : Int32} (hf : ∀ k, tb f k = true ↔ fam s nt nm m k) {u : Nat} (hu : u < nm) : ∃ r, fX9_clashes s (nI m) (nI e) (nI u) f = some r ∧ isb r (CLP s nt nm m e u) := by
  have h8 := hw.1
  have h16 := hm.1
  obtain ⟨wu, wu2, -⟩ := hm.2.2 u hu
  unfold fX9_clashes
  obtain ⟨r1, hr1, hb1⟩ := e_has f (k := u) (by omega)
  rw [hr1, bn_s]
  by_cases g1 : tb f u = true
  · rw [if_neg (fun q => (isb_0 hb1).mp q g1)]
    exact ⟨0, rfl, isb_f (fun q => q.1 ((hf u).mp g1))⟩
  · rw [if_pos ((isb_0 hb1).mpr g1), e_of1 (by omega), bn_s]
    obtain ⟨r2, hr2, hb2⟩ := e_isNamed (s := s) (m := u) (by omega) (rM s m 1) (nI e)
    rw [hr2, bn_s]
    by_cases g2 : sg s u (rM s m 1) (nI e)
    · rw [if_neg (fun q => (isb_0 hb2).mp q g2)]
      obtain ⟨y, hy, hyb⟩ := or0 (g := fun n' y i => lX9_clashes_36 s (nI m) (nI e) n' (nI u) f y i) (N := nm) (P := fun o => fam s nt nm m o ∧ conn s nt (nT s u) (nT s o)) (fun n' i hi => by
        show lX9_clashes_36 s (nI m) (nI e) (n' + 1) (nI u) f 1 (nI i) = lX9_clashes_36 s (nI m) (nI e) n' (nI u) f 1 (nI i + 1) ∧ (_ → lX9_clashes_36 s (nI m) (nI e) (n' + 1) (nI u) f 0 (nI i) = lX9_clashes_36 s (nI m) (nI e) n' (nI u) f 1 (nI i + 1)) ∧ (_ → lX9_clashes_36 s (nI m) (nI e) (n' + 1) (nI u) f 0 (nI i) = lX9_clashes_36 s (nI m) (nI e) n' (nI u) f 0 (nI i + 1))
        obtain ⟨wi, wi2, -⟩ := hm.2.2 i hi
        rw [lX9_clashes_36_s, lX9_clashes_36_s, rd_l25, rd_l25, hm.2.1, if_neg (up_i (by omega) hi), if_neg (up_i (by omega) hi), if_neg (by decide), if_pos rfl]
        unfold jX9_clashes_81 jX9_clashes_85 jX9_clashes_86
        refine ⟨rfl, ?_⟩
        obtain ⟨r3, hr3, hb3⟩ := e_has f (k := i) (by omega)
        rw [hr3, bn_s]
        by_cases g3 : tb f i = true
        · rw [if_neg (fun q => (isb_0 hb3).mp q g3), e_of0 (by omega), bn_s, e_of0 (by omega), bn_s, wu, wi]
          obtain ⟨r4, hr4, hb4⟩ := e_areConnected hw (a := nT s u) (b := nT s i) (by omega) (by omega)
          rw [hr4, bn_s]
          by_cases g4 : conn s nt (nT s u) (nT s i)
          · rw [if_neg (fun q => (isb_0 hb4).mp q g4)]
            exact ⟨fun _ => rfl, fun h => absurd ⟨(hf i).mp g3, g4⟩ h⟩
          · rw [if_pos ((isb_0 hb4).mpr g4)]
            exact ⟨fun h => absurd h.2 g4, fun _ => rfl⟩
        · rw [if_pos ((isb_0 hb3).mpr g3)]
          exact ⟨fun h => absurd ((hf i).mpr h.1) g3, fun _ => rfl⟩) (fun n' y => by
        show lX9_clashes_36 s (nI m) (nI e) (n' + 1) (nI u) f y (nI nm) = rb y
        rw [lX9_clashes_36_s, rd_l25, hm.2.1, if_pos (up_N (by omega))]) (by omega)
      exact ⟨y, hy, isb_iff hyb ⟨fun h => ⟨fun q => g1 ((hf u).mpr q), g2, h⟩, fun h => h.2.2⟩⟩
    · rw [if_pos ((isb_0 hb2).mpr g2)]
      exact ⟨0, rfl, isb_f (fun q => g2 q.2.1)⟩
theorem e_clash (hw : WFT s nt) (hm : WFM s nt nm) (hmm : m < nm) (e : Nat) : ∃ r, fX9_clash s (nI m) (nI e) = some r ∧ lst (CLP s nt nm m e) nm r := by
  have h16 := hm.1
  obtain ⟨f, hf, hfb⟩ := e_family hw hm hmm
  unfold fX9_clash
  rw [hf, bn_s]
  refine lst0 (g := fun n' i => lX9_clash_11 s (nI m) (nI e) n' f i) (N := nm) (P := CLP s nt nm m e) (fun n' i hi => ?_) (fun n' => ?_) (by omega)
  · show (_ → lX9_clash_11 s (nI m) (nI e) (n' + 1) f (nI i) = some (nI i)) ∧ (_ → lX9_clash_11 s (nI m) (nI e) (n' + 1) f (nI i) = lX9_clash_11 s (nI m) (nI e) n' f (nI i + 1))
    rw [lX9_clash_11_s, rd_l25, hm.2.1, if_neg (up_i (by omega) hi)]
    obtain ⟨r, hr, hb⟩ := e_clashes (e := e) hw hm hmm hfb hi
    rw [hr, bn_s]
    exact ⟨fun h => if_neg (fun q => (isb_0 hb).mp q h), fun h => if_pos ((isb_0 hb).mpr h)⟩
  · show lX9_clash_11 s (nI m) (nI e) (n' + 1) f (nI nm) = some (-9)
    rw [lX9_clash_11_s, rd_l25, hm.2.1, if_pos (up_N (by omega))]
theorem e_famTypes (hw : WFT s nt) (hm : WFM s nt nm) (cm : CMt s nm m_count m_type m_name m_arity m_keys m_defs) (hmm : m < nm) {f : Int32} (hf : ∀ k, tb f k = true ↔ fam s nt nm m k) : ∃ x, fX5_typesOf m_count m_type f = some x ∧ ∀ k, tb x k = true ↔ ∃ o, o < nm ∧ (fam s nt nm m o ∧ k = nT s o) := by
  obtain ⟨x, hx, hb⟩ := e_typesOf hw hm cm f
  refine ⟨x, hx, fun k => ?_⟩
  rw [hb k]
  constructor
  · rintro ⟨o, h1, h2, h3⟩
    exact ⟨o, h1, (hf o).mp h2, h3⟩
  · rintro ⟨o, h1, h2, h3⟩
    exact ⟨o, h1, (hf o).mpr h2, h3⟩
theorem e_clashOf (hw : WFT s nt) (hm : WFM s nt nm) (ct : CT s nt t_count t_ifs t_sup) (cm : CMt s nm m_count m_type m_name m_arity m_keys m_defs) (D : DO s nt nm m e d_method d_family d_old d_kept d_count d_used d_src d_keys d_defs ch en kp ek ed) : ∃ r, fX6_clashOf t_count t_sup m_count m_type m_name m_arity d_method d_family d_count = some r ∧ lst (CLP s nt nm m e) nm r := by
  have h8 := hw.1
  have h16 := hm.1
  have hmm := D.mm
  unfold fX6_clashOf
  obtain ⟨ts, hts, htb⟩ := e_famTypes hw hm cm hmm D.fm
  obtain ⟨cs, hcs, hcb⟩ := e_connectedWith hw ct ts
  rw [hts, bn_s, hcs, bn_s, D.dm, rd_nI (by omega) (by decide), (cm.2 m hmm).2.1, D.ct]
  obtain ⟨x, hx, hxb⟩ := e_withSignature hw hm cm (rM s m 1) (nI e) cs
  rw [hx, bn_s]
  obtain ⟨r, hr, hl⟩ := e_smallest hm cm (x &&& (d_family ^^^ (-1)))
  rw [hr, bn_s]
  refine ⟨r, rfl, lst_iff (fun u hu => ?_) hl⟩
  rw [tb_andn, hxb u, ex_self (P := fun u => sg s u (rM s m 1) (nI e) ∧ tb cs (nT s u) = true), hcb, D.fm u]
  constructor
  · rintro ⟨⟨-, h1, j, h2, h3⟩, h4⟩
    obtain ⟨o, h5, h6, rfl⟩ := (htb j).mp h2
    exact ⟨h4, h1, o, h5, h6, conn_symm h3⟩
  · rintro ⟨h4, h1, o, h5, h6, h3⟩
    exact ⟨⟨hu, h1, nT s o, (htb _).mpr ⟨o, h5, h6, rfl⟩, conn_symm h3⟩, h4⟩
theorem op_clashingMethod (d_open : Int32) (hw : WFT s nt) (hm : WFM s nt nm) (ct : CT s nt t_count t_ifs t_sup) (cm : CMt s nm m_count m_type m_name m_arity m_keys m_defs) (D : DL s d_open d_method d_family d_old d_kept d_count d_used d_src d_keys d_defs ch en kp ek ed) : ∃ r, fX8_clashingMethod t_count t_sup m_count m_type m_name m_arity d_open d_method d_family d_count = some r ∧ fX9_clashingMethod s ch en = some r := by
  have h16 := hm.1
  unfold fX8_clashingMethod fX9_clashingMethod
  rcases D with ⟨D1, D2⟩ | ⟨D1, nt', nm', m, e, hw', hm', O⟩
  · rw [if_pos D1, if_pos D2]
    exact ⟨_, rfl, rfl⟩
  · have e1 := WFT_uniq hw' hw
    subst e1
    have e2 := WFM_uniq hm' hm
    subst e2
    have hmm := O.mm
    obtain ⟨r1, hr1, hl1⟩ := e_clash hw hm hmm e
    obtain ⟨r2, hr2, hl2⟩ := e_clashOf hw hm ct cm O
    have e3 := lst_eq (fun _ _ => Iff.rfl) hl1 hl2
    subst e3
    rw [D1, if_neg (by decide), O.hch, O.hen, if_neg (nI_ne9 (by omega)), hr1, hr2, bn_s]
    exact ⟨r1, rfl, rfl⟩
/-- the call's target belongs to the family -/
def cnc (s : Nat → Int32) (nt nm m c : Nat) : Prop := fam s nt nm m (cG s c)
theorem e_isConcerned (hw : WFT s nt) (hm : WFM s nt nm) (hk : WFC s nt nm nc) (hmm : m < nm) {c : Nat} (hc : c < nc) : ∃ r, fX9_isConcerned s (nI m) (nI c) = some r ∧ isb r (cnc s nt nm m c) := by
  have h8 := hk.1
  have h16 := hm.1
  have W := hk.2.2 c hc
  have t' := W.tg'
  unfold fX9_isConcerned
  obtain ⟨f, hf, hfb⟩ := e_family hw hm hmm
  rw [hf, bn_s, e_at2, bn_s, rd_C (by omega) (by decide), W.tg]
  obtain ⟨r, hr, hb⟩ := e_has f (k := cG s c) (by omega)
  rw [hr, bn_s]
  exact ⟨r, isb_rb hb, isb_iff hb (hfb _)⟩
/-- a frozen call of the family is served by one of the types -/
def srv (s : Nat → Int32) (nt nm nc m : Nat) (x : Int32) : Prop := ∀ c, c < nc → rC s c 3 = 1 → cnc s nt nm m c → ∃ k, up s (cS s c) k ∧ tb x k = true
theorem e_areSufficient (hw : WFT s nt) (hm : WFM s nt nm) (hk : WFC s nt nm nc) (hmm : m < nm) (x : Int32) : ∃ r, fX9_areSufficient s (nI m) x = some r ∧ isb r (srv s nt nm nc m x) := by
  have h8 := hk.1
  have n8 := hw.1
  have h16 := hm.1
  unfold fX9_areSufficient
  refine and0 (g := fun n' y i => lX9_areSufficient_4 s (nI m) n' x y i) (N := nc) (P := fun c => rC s c 3 = 1 → cnc s nt nm m c → ∃ k, up s (cS s c) k ∧ tb x k = true) (fun n' i hi => ?_) (fun n' y => ?_) (by omega)
  · show lX9_areSufficient_4 s (nI m) (n' + 1) x 0 (nI i) = lX9_areSufficient_4 s (nI m) n' x 0 (nI i + 1) ∧ (_ → lX9_areSufficient_4 s (nI m) (n' + 1) x 1 (nI i) = lX9_areSufficient_4 s (nI m) n' x 1 (nI i + 1)) ∧ (_ → lX9_areSufficient_4 s (nI m) (n' + 1) x 1 (nI i) = lX9_areSufficient_4 s (nI m) n' x 0 (nI i + 1))
    have W := hk.2.2 i hi
    have s' := W.st'
    rw [lX9_areSufficient_4_s, lX9_areSufficient_4_s, rd_l234' hk, rd_l234' hk, if_neg (up_i (by omega) hi), if_neg (up_i (by omega) hi), if_pos rfl, if_neg (by decide)]
    unfold jX9_areSufficient_49 jX9_areSufficient_45 jX9_areSufficient_50
    refine ⟨rfl, ?_⟩
    obtain ⟨r1, hr1, hb1⟩ := e_isFrozen hk hi
    rw [hr1, bn_s]
    by_cases g1 : rC s i 3 = 1
    · rw [if_neg (fun q => (isb_0 hb1).mp q g1)]
      obtain ⟨r2, hr2, hb2⟩ := e_isConcerned hw hm hk hmm hi
      rw [hr2, bn_s]
      by_cases g2 : cnc s nt nm m i
      · rw [if_neg (fun q => (isb_0 hb2).mp q g2)]
        unfold fX9_isServed
        obtain ⟨y, hy, hyb⟩ := e_supers hw s'
        rw [e_at0, bn_s, rd_C (by omega) (by decide), W.st, hy, bn_s]
        by_cases g3 : (y &&& x) = 0
        · rw [if_pos g3]
          refine ⟨fun h => ?_, fun _ => rfl⟩
          obtain ⟨k, h1, h2⟩ := h g1 g2
          exact absurd ⟨(hyb k).mpr h1, h2⟩ (and_eq0.mp g3 k)
        · rw [if_neg g3]
          refine ⟨fun _ => rfl, fun h => absurd (fun _ _ => ?_) h⟩
          exact Classical.byContradiction (fun hn => g3 (and_eq0.mpr (fun k hk => hn ⟨k, (hyb k).mp hk.1, hk.2⟩)))
      · rw [if_pos ((isb_0 hb2).mpr g2)]
        exact ⟨fun _ => rfl, fun h => absurd (fun _ q => absurd q g2) h⟩
    · rw [if_pos ((isb_0 hb1).mpr g1)]
      exact ⟨fun _ => rfl, fun h => absurd (fun q => absurd q g1) h⟩
  · show lX9_areSufficient_4 s (nI m) (n' + 1) x y (nI nc) = rb y
    rw [lX9_areSufficient_4_s, rd_l234' hk, if_pos (up_N (by omega))]
theorem e_declaringTypes (hw : WFT s nt) (hm : WFM s nt nm) (hmm : m < nm) : ∃ x, fX9_declaringTypes s (nI m) = some x ∧ ∀ k, tb x k = true ↔ ∃ o, o < nm ∧ (fam s nt nm m o ∧ k = nT s o) := by
  have h8 := hw.1
  have h16 := hm.1
  obtain ⟨f, hf, hfb⟩ := e_family hw hm hmm
  unfold fX9_declaringTypes
  rw [hf, bn_s]
  refine bits0 (g := fun n' acc i => lX9_declaringTypes_13 s (nI m) n' f acc i) (N := nm) (P := fun o k => fam s nt nm m o ∧ k = nT s o) (fun n' i acc hi => ?_) (fun n' acc => ?_) (by omega)
  · show ∃ acc', lX9_declaringTypes_13 s (nI m) (n' + 1) f acc (nI i) = lX9_declaringTypes_13 s (nI m) n' f acc' (nI i + 1) ∧ _
    obtain ⟨wi, wi2, -⟩ := hm.2.2 i hi
    rw [lX9_declaringTypes_13_s, rd_l25, hm.2.1, if_neg (up_i (by omega) hi)]
    unfold jX9_declaringTypes_45
    obtain ⟨r, hr, hb⟩ := e_has f (k := i) (by omega)
    rw [hr, bn_s]
    by_cases g : tb f i = true
    · rw [if_neg (fun q => (isb_0 hb).mp q g), e_of0 (by omega), bn_s, wi]
      refine ⟨_, rfl, fun k => ?_⟩
      rw [tb_ort, tb_bitt (by omega)]
      exact ⟨fun h => h.elim Or.inl (fun e => Or.inr ⟨(hfb i).mp g, e⟩), fun h => h.elim Or.inl (fun e => Or.inr e.2)⟩
    · rw [if_pos ((isb_0 hb).mpr g)]
      refine ⟨_, rfl, fun k => ?_⟩
      rw [tb_ort, tb_zero]
      exact ⟨fun h => h.elim Or.inl (fun e => by cases e), fun h => h.elim Or.inl (fun e => absurd ((hfb i).mpr e.1) g)⟩
  · show lX9_declaringTypes_13 s (nI m) (n' + 1) f acc (nI nm) = some acc
    rw [lX9_declaringTypes_13_s, rd_l25, hm.2.1, if_pos (up_N (by omega))]
theorem e_bridgesServe (hw : WFT s nt) (hm : WFM s nt nm) (hk : WFC s nt nm nc) (ct : CT s nt t_count t_ifs t_sup) (ck : CK s nc k_count k_fs k_st k_dy k_tg k_ac k_tc k_keys k_kinds k_vals k_tk) (x : Int32) {fr : Int32} (hfr : ∀ k, tb fr k = true ↔ k < nc ∧ rC s k 3 = 1 ∧ cnc s nt nm m k) : ∃ r, fX6_bridgesServe t_sup k_count k_st x fr = some r ∧ isb r (srv s nt nm nc m x) := by
  have h8 := hk.1
  have n8 := hw.1
  unfold fX6_bridgesServe
  obtain ⟨r, hr, h⟩ := all_loop (g := fun n' i => lX6_bridgesServe_2 t_sup k_count k_st n' x fr i) (N := nc) (P := fun c => rC s c 3 = 1 → cnc s nt nm m c → ∃ k, up s (cS s c) k ∧ tb x k = true) (e1 := 0) (e2 := 1) (fun n' i hi => by
    show (_ → lX6_bridgesServe_2 t_sup k_count k_st (n' + 1) x fr (nI i) = lX6_bridgesServe_2 t_sup k_count k_st n' x fr (nI i + 1)) ∧ (_ → lX6_bridgesServe_2 t_sup k_count k_st (n' + 1) x fr (nI i) = some 0)
    have W := hk.2.2 i hi
    have s' := W.st'
    have hn : k_count = nI nc := ck.n
    rw [lX6_bridgesServe_2_s, if_neg (by rw [hn]; exact up_i (by omega) hi), rd_nI (by omega) (by decide), (ck.c i hi).st, W.st, rd_nI (by omega) (by decide)]
    unfold jX6_bridgesServe_40
    obtain ⟨r1, hr1, hb1⟩ := e_contains fr (k := i) (by omega)
    rw [hr1, bn_s]
    by_cases g : tb fr i = true
    · obtain ⟨-, q1, q2⟩ := (hfr i).mp g
      by_cases g3 : (t_sup (cS s i) &&& x) = 0
      · rw [if_pos g3, if_neg (fun q => (isb_0 hb1).mp q g), if_pos rfl]
        refine ⟨fun h => ?_, fun _ => rfl⟩
        obtain ⟨k, h1, h2⟩ := h q1 q2
        exact absurd ⟨(ct.2.1 _ s' k).mpr h1, h2⟩ (and_eq0.mp g3 k)
      · rw [if_neg g3, bn_s, if_neg (fun q => (isb_0 hb1).mp q g), if_neg (by decide)]
        refine ⟨fun _ => rfl, fun h => absurd (fun _ _ => ?_) h⟩
        exact Classical.byContradiction (fun hn => g3 (and_eq0.mpr (fun k hk => hn ⟨k, (ct.2.1 _ s' k).mp hk.1, hk.2⟩)))
    · have e : (if (t_sup (cS s i) &&& x) = 0 then (if r1 = 0 then lX6_bridgesServe_2 t_sup k_count k_st n' x fr (nI i + 1) else if (0 : Int32) = 0 then some 0 else lX6_bridgesServe_2 t_sup k_count k_st n' x fr (nI i + 1)) else (if r1 = 0 then lX6_bridgesServe_2 t_sup k_count k_st n' x fr (nI i + 1) else if (1 : Int32) = 0 then some 0 else lX6_bridgesServe_2 t_sup k_count k_st n' x fr (nI i + 1))) = lX6_bridgesServe_2 t_sup k_count k_st n' x fr (nI i + 1) := by
        rw [if_pos ((isb_0 hb1).mpr g), if_pos ((isb_0 hb1).mpr g)]
        split <;> rfl
      exact ⟨fun _ => e, fun h => absurd (fun q1 q2 => absurd ((hfr i).mpr ⟨hi, q1, q2⟩) g) h⟩) (fun n' => by
    have hn : k_count = nI nc := ck.n
    show lX6_bridgesServe_2 t_sup k_count k_st (n' + 1) x fr (nI nc) = some 1
    rw [lX6_bridgesServe_2_s, if_pos (by rw [hn]; exact up_N (by omega))]) 5000 0 (Nat.zero_le _) (by omega)
  refine ⟨r, hr, ?_⟩
  rcases h with ⟨h1, h2⟩ | ⟨h1, t, h4, h2, h3⟩
  · exact Or.inl ⟨h1, fun c hc => h2 c (Nat.zero_le c) hc⟩
  · exact Or.inr ⟨h1, fun q => h3 (q t h2)⟩
end CL
