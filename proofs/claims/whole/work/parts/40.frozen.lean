/-! setFrozen -/
def sFr (s : Nat → Int32) (c : Nat) (x : Int32) : Nat → Int32 := upd s (235 + 29 * c + 3) x
section FZ
variable {s : Nat → Int32} {nt nm nc : Nat} {t_count t_ifs : Int32} {t_sup : Nat → Int32} {m_count : Int32} {m_type m_name m_arity m_keys m_defs : Nat → Int32} {k_count k_fs : Int32} {k_st k_dy k_tg k_ac k_tc k_keys k_kinds k_vals k_tk k_nk k_nv : Nat → Int32}
theorem sFr_o {c j : Nat} {x : Int32} (h1 : j ≠ 235 + 29 * c + 3) : sFr s c x j = s j := upd_n h1
theorem sFr_C {c c' w : Nat} {x : Int32} (hw : w < 29) (h : c' ≠ c ∨ w ≠ 3) : rC (sFr s c x) c' w = rC s c' w := by
  unfold rC
  exact sFr_o (by omega)
theorem sFr_x {c : Nat} {x : Int32} : rC (sFr s c x) c 3 = x := upd_s
theorem sFr_WFC (hw : WFT s nt) (hm : WFM s nt nm) (hk : WFC s nt nm nc) {c : Nat} {x : Int32} (hcn : c < nc) (hx : x = 0 ∨ x = 1) (hu : x = 0 → utd s c) : WFC (sFr s c x) nt nm nc := by
  have h8 := hk.1
  have n8 := hw.1
  have h16 := hm.1
  have W := hk.2.2 c hcn
  have w5 := W.ar'
  have w8 := W.tn'
  have fm : FM s (sFr s c x) := fun j h1 h2 => sFr_o (by omega)
  have ft : FT s (sFr s c x) := fun j h1 => sFr_o (by omega)
  have hA : ∀ m, m < nm → nA (sFr s c x) m = nA s m := fun m hm => by unfold nA; rw [rM_frame fm (by omega) (by decide)]
  have hU : ∀ c', WFC1 s nt nm c' → up s (cS s c') (nT s (cG s c')) → up (sFr s c x) (cS s c') (nT (sFr s c x) (cG s c')) := fun c' W' h => by
    have t' := W'.tg'
    have e : nT (sFr s c x) (cG s c') = nT s (cG s c') := by unfold nT; rw [rM_frame fm (by omega) (by decide)]
    rw [e]
    exact (up_frame hw ft W'.st').mpr h
  refine ⟨hk.1, (sFr_o (by omega)).trans hk.2.1, fun c' hc' => ?_⟩
  have W' := hk.2.2 c' hc'
  have d' := W'.dy'
  by_cases e : c' = c
  · subst e
    have f : ∀ w, w < 29 → w ≠ 3 → rC (sFr s c' x) c' w = rC s c' w := fun w h1 h2 => sFr_C h1 (Or.inr h2)
    have e0 : cS (sFr s c' x) c' = cS s c' := by unfold cS; rw [f 0 (by decide) (by decide)]
    have e1 : cD (sFr s c' x) c' = cD s c' := by unfold cD; rw [f 1 (by decide) (by decide)]
    have e2 : cG (sFr s c' x) c' = cG s c' := by unfold cG; rw [f 2 (by decide) (by decide)]
    have e4 : cA (sFr s c' x) c' = cA s c' := by unfold cA; rw [f 4 (by decide) (by decide)]
    have e20 : cN (sFr s c' x) c' = cN s c' := by unfold cN; rw [f 20 (by decide) (by decide)]
    unfold WFC1
    rw [e0, e1, e2, e4, e20, f 0 (by decide) (by decide), f 1 (by decide) (by decide), f 2 (by decide) (by decide), sFr_x, f 4 (by decide) (by decide), f 20 (by decide) (by decide), ft (1 + 3 * cD s c') (by omega), hA _ W'.tg']
    refine ⟨W.st, W.st', W.dy, W.dy', W.dc, W.tg, W.tg', hx, W.ar, W.ar', W.tn, W.tn', fun j hj => ?_, fun j hj => ?_, fun a b hab hb => ?_, fun h => ?_, hU _ W' W.ts⟩
    · rw [f (5 + j) (by omega) (by omega), f (10 + j) (by omega) (by omega)]
      exact W.kd j hj
    · rw [f (21 + j) (by omega) (by omega)]
      exact W.tk j hj
    · rw [f (15 + a) (by omega) (by omega), f (15 + b) (by omega) (by omega)]
      exact W.ky a b hab hb
    · unfold nA cA
      rw [(hu h).1]
  · exact WFC1_frame W' (fun w hw => sFr_C hw (Or.inl e)) (Nat.le_refl _) (Nat.le_refl _) (ft _ (by omega)) (fun _ => hA _ W'.tg') (hU _ W')
theorem sFr_CK (hk : WFC s nt nm nc) (hc : CK s nc k_count k_fs k_st k_dy k_tg k_ac k_tc k_keys k_kinds k_vals k_tk) {c : Nat} {x : Int32} (hcn : c < nc) (hx : x = 0 ∨ x = 1) (hne : rC s c 3 ≠ x) : CK (sFr s c x) nc k_count (k_fs ^^^ (1 <<< (nI c &&& 31))) k_st k_dy k_tg k_ac k_tc k_keys k_kinds k_vals k_tk := by
  have h8 := hk.1
  have W := hk.2.2 c hcn
  refine ⟨hc.n, fun j => ?_, fun c' hc' => ?_⟩
  · rw [tb_xor, tb_bit (by omega)]
    by_cases e : j = c
    · subst e
      rw [sFr_x]
      have h1 := hc.fs j
      rcases hx with rfl | rfl
      · have h2 : rC s j 3 = 1 := W.fr.resolve_left hne
        have h3 : tb k_fs j = true := h1.mpr ⟨hcn, h2⟩
        rw [h3]
        simp
      · have h2 : ¬ tb k_fs j = true := fun q => hne (h1.mp q).2
        have h3 : tb k_fs j = false := Bool.eq_false_iff.mpr h2
        rw [h3]
        simp [hcn]
    · rw [decide_eq_false e, Bool.xor_false, hc.fs j]
      constructor
      · rintro ⟨h1, h2⟩
        exact ⟨h1, by rw [sFr_C (by decide) (Or.inl e)]; exact h2⟩
      · rintro ⟨h1, h2⟩
        exact ⟨h1, by rw [sFr_C (by decide) (Or.inl e)] at h2; exact h2⟩
  · have W' := hk.2.2 c' hc'
    have K' := hc.c c' hc'
    have a5 := W'.ar'
    have a8 := W'.tn'
    have f : ∀ w, w < 29 → w ≠ 3 → rC (sFr s c x) c' w = rC s c' w := fun w h1 h2 => sFr_C h1 (Or.inr h2)
    have e4 : cA (sFr s c x) c' = cA s c' := by unfold cA; rw [f 4 (by decide) (by decide)]
    have e20 : cN (sFr s c x) c' = cN s c' := by unfold cN; rw [f 20 (by decide) (by decide)]
    unfold CK1
    rw [e4, e20, f 0 (by decide) (by omega), f 1 (by decide) (by omega), f 2 (by decide) (by omega), f 4 (by decide) (by omega), f 20 (by decide) (by omega)]
    refine ⟨K'.st, K'.dy, K'.tg, K'.ac, K'.tc, fun j hj => ?_, fun j hj => ?_, fun j hj => ?_, fun j hj => ?_⟩
    · rw [f (15 + j) (by omega) (by omega)]; exact K'.ky j hj
    · rw [f (5 + j) (by omega) (by omega)]; exact K'.kd j hj
    · rw [f (10 + j) (by omega) (by omega)]; exact K'.vl j hj
    · rw [f (21 + j) (by omega) (by omega)]; exact K'.tk j hj
theorem e_sumFrozen (hk : WFC s nt nm nc) {f : Int32} (hf : ∀ k, tb f k = true ↔ k < nc ∧ rC s k 3 = 1) (past : Nat → Int32) (p ch : Int32) : lX9_setFrozen_70 5000 s past p ch 0 0 = some (nI (cnt f nc), s, past, p, ch) := by
  have h8 := hk.1
  obtain ⟨y, hy, rfl⟩ := inv_loop (g := fun n' y i => lX9_setFrozen_70 n' s past p ch y i) (N := nc) (fun i y => y = nI (cnt f i)) (K := fun y => some (y, s, past, p, ch)) (fun n' i y hi hI => by
    show ∃ y', lX9_setFrozen_70 (n' + 1) s past p ch y (nI i) = lX9_setFrozen_70 n' s past p ch y' (nI i + 1) ∧ y' = nI (cnt f (i + 1))
    have hI : y = nI (cnt f i) := hI
    subst hI
    rw [lX9_setFrozen_70_s, rd_l234' hk, if_neg (up_i (by omega) hi), e_at3, bn_s, rd_C (by omega) (by decide)]
    refine ⟨_, rfl, ?_⟩
    show nI (cnt f i) + _ = nI (cnt f i + (if tb f i = true then 1 else 0))
    rw [← nI_add]
    rcases (hk.2.2 i hi).fr with g | g
    · rw [if_neg (fun q => by rw [((hf i).mp q).2] at g; exact absurd g (by decide)), g]
      rfl
    · rw [if_pos ((hf i).mpr ⟨hi, g⟩), g]
      rfl) (fun n' y hI => by
    show lX9_setFrozen_70 (n' + 1) s past p ch y (nI nc) = some (y, s, past, p, ch)
    rw [lX9_setFrozen_70_s, rd_l234' hk, if_pos (up_N (by omega))]) 5000 0 0 (Nat.zero_le _) (by omega) rfl
  exact hy
theorem op_setFrozen {past : Nat → Int32} {p q : Nat} {hs : Nat → MS} (d_open ch : Int32) (R : RMc s t_count t_ifs t_sup m_count m_type m_name m_arity m_keys m_defs k_count k_fs k_st k_dy k_tg k_ac k_tc k_keys k_kinds k_vals k_tk) (H : HR past p q hs) (x1 x2 : Int32) :
    (∃ r, fX8_setFrozen t_count t_ifs t_sup m_count m_type m_name m_arity m_keys m_defs k_count k_fs k_st k_dy k_tg k_ac k_tc k_keys k_kinds k_vals k_tk k_nk k_nv d_open (nI p) (nI q) hs x1 x2 = some (r, k_fs, d_open, nI p, nI q, hs) ∧ fX9_setFrozen s past (nI p) ch x1 x2 = some (r, s, past, nI p, ch)) ∨
    (∃ r fs' hs' s' past' p' q', fX8_setFrozen t_count t_ifs t_sup m_count m_type m_name m_arity m_keys m_defs k_count k_fs k_st k_dy k_tg k_ac k_tc k_keys k_kinds k_vals k_tk k_nk k_nv d_open (nI p) (nI q) hs x1 x2 = some (r, fs', 0, nI p', nI q', hs') ∧ fX9_setFrozen s past (nI p) ch x1 x2 = some (r, s', past', nI p', -9) ∧ RMc s' t_count t_ifs t_sup m_count m_type m_name m_arity m_keys m_defs k_count fs' k_st k_dy k_tg k_ac k_tc k_keys k_kinds k_vals k_tk ∧ HR past' p' q' hs') := by
  obtain ⟨z0, nt, nm, nc, hw, hm, hk, ct, cm, ck⟩ := id R
  have h8 := hk.1
  unfold fX8_setFrozen fX9_setFrozen
  obtain ⟨r1, hr1, hb1⟩ := e_isCall hk x1
  obtain ⟨r2, hr2, hb2⟩ := e_kexists hk ck x1
  rw [hr1, hr2, bn_s, bn_s]
  by_cases g : ∃ c, c < nc ∧ x1 = nI c
  · rw [if_neg (fun q => (isb_0 hb1).mp q g), if_neg (fun q => (isb_0 hb2).mp q g)]
    obtain ⟨c, hcn, rfl⟩ := g
    have W := hk.2.2 c hcn
    obtain ⟨r4, hr4, hb4⟩ := e_in x2 0 1
    rw [hr4, bn_s]
    have e01 : (0 ≤ x2 ∧ x2 ≤ 1) ↔ (x2 = 0 ∨ x2 = 1) := by
      constructor
      · rintro ⟨a, b⟩
        obtain ⟨j, hj, rfl⟩ := nI_of2 (M := 1) (n := 1) (by decide) (Int32.not_lt.mpr a) b
        rcases (by omega : j = 0 ∨ j = 1) with rfl | rfl
        · exact Or.inl rfl
        · exact Or.inr rfl
      · rintro (rfl | rfl) <;> decide
    -- the edit itself
    have fin : (x2 = 0 ∨ x2 = 1) → rC s c 3 ≠ x2 → (x2 = 0 → utd s c) → ∃ r fs' hs' s' past' p' q', jX8_setFrozen_72 t_count t_ifs t_sup m_count m_type m_name m_arity m_keys m_defs k_count k_st k_dy k_tg k_ac k_tc k_keys k_kinds k_vals k_tk k_nk k_nv k_fs d_open (nI p) (nI q) hs (nI c) = some (r, fs', 0, nI p', nI q', hs') ∧ jX9_setFrozen_49 s past (nI p) ch (nI c) x2 = some (r, s', past', nI p', -9) ∧ RMc s' t_count t_ifs t_sup m_count m_type m_name m_arity m_keys m_defs k_count fs' k_st k_dy k_tg k_ac k_tc k_keys k_kinds k_vals k_tk ∧ HR past' p' q' hs' := by
      intro hx hne hu
      obtain ⟨hs', hbe, hR, hO⟩ := e_beginEdit (t_count := t_count) (t_ifs := t_ifs) (t_sup := t_sup) (m_count := m_count) (m_type := m_type) (m_name := m_name) (m_arity := m_arity) (m_keys := m_keys) (m_defs := m_defs) (k_count := k_count) (k_fs := k_fs) (k_st := k_st) (k_dy := k_dy) (k_tg := k_tg) (k_ac := k_ac) (k_tc := k_tc) (k_keys := k_keys) (k_kinds := k_kinds) (k_vals := k_vals) (k_tk := k_tk) (k_nk := k_nk) (k_nv := k_nv) H.1 H.2.1 d_open hs
      obtain ⟨past', p', h1, h2, h3, h4⟩ := e_edit (s := s) H.1 past ch
      unfold jX8_setFrozen_72 jX9_setFrozen_49
      rw [hbe, ← h2, h1]
      have hWC := sFr_WFC hw hm hk hcn hx hu
      have hCK := sFr_CK hk ck hcn hx hne
      refine ⟨nI (cnt (k_fs ^^^ (1 <<< (nI c &&& 31))) nc), k_fs ^^^ (1 <<< (nI c &&& 31)), hs', sFr s c x2, past', p', (q + 1) % 8, ?_, ?_, ?_, hr_edit H h2 h3 h4 (hR s R) hO⟩
      · rw [bn4_s, e_bit, bn_s, e_bitCount (fun k hk' => by have := ((hCK.fs k).mp hk').1; omega), bn_s, cnt_top (N := nc) (fun k hk' => ((hCK.fs k).mp hk').1) (by omega)]
      · rw [bn3_s, e_at3, bn_s, wr_nI (by omega) (by decide)]
        exact e_sumFrozen hWC hCK.fs past' _ _
      · exact ⟨fun k hk' => (sFr_o (by omega)).trans (z0 k hk'), nt, nm, nc, WFT_frame hw (fun j h => sFr_o (by omega)), WFM_frame hm (fun j h1 h2 => sFr_o (by omega)), hWC, CT_frame hw (fun j h => sFr_o (by omega)) ct, CMt_frame hm (fun j h1 h2 => sFr_o (by omega)) cm, hCK⟩
    by_cases g4 : x2 = 0 ∨ x2 = 1
    · have hne4 : ¬ r4 = 0 := fun q => (isb_0 hb4).mp q (e01.mpr g4)
      rw [if_neg hne4, e_at3, bn_s, rd_C (by omega) (by decide)]
      have cls : (if x2 = 0 then jX8_setFrozen_27 t_count t_ifs t_sup m_count m_type m_name m_arity m_keys m_defs k_count k_st k_dy k_tg k_ac k_tc k_keys k_kinds k_vals k_tk k_nk k_nv k_fs d_open (nI p) (nI q) hs (nI c) x2 else if x2 = 1 then jX8_setFrozen_27 t_count t_ifs t_sup m_count m_type m_name m_arity m_keys m_defs k_count k_st k_dy k_tg k_ac k_tc k_keys k_kinds k_vals k_tk k_nk k_nv k_fs d_open (nI p) (nI q) hs (nI c) x2 else some (-1, k_fs, d_open, nI p, nI q, hs)) = jX8_setFrozen_37 t_count t_ifs t_sup m_count m_type m_name m_arity m_keys m_defs k_count k_st k_dy k_tg k_ac k_tc k_keys k_kinds k_vals k_tk k_nk k_nv k_fs d_open (nI p) (nI q) hs (nI c) x2 := by
        rcases g4 with rfl | rfl
        · rw [if_pos rfl]
          unfold jX8_setFrozen_27
          rw [if_neg (by decide)]
        · rw [if_neg (by decide), if_pos rfl]
          unfold jX8_setFrozen_27
          rw [if_pos rfl]
      rw [cls]
      unfold jX8_setFrozen_37
      obtain ⟨r7, hr7, hb7⟩ := e_kisFrozen hk ck hcn
      rw [hr7, bn_s]
      have e7 : r7 = rC s c 3 := by
        rcases W.fr with z | z
        · rw [z]
          exact (isb_0 hb7).mpr (by rw [z]; decide)
        · rw [z]
          exact (isb_1 hb7).mpr z
      rw [e7]
      by_cases g5 : rC s c 3 = x2
      · rw [if_pos g5, if_pos g5]
        exact Or.inl ⟨_, rfl, rfl⟩
      · rw [if_neg g5, if_neg g5]
        by_cases g6 : x2 = 0
        · rw [if_pos g6, if_pos g6]
          obtain ⟨r8, hr8, hb8⟩ := e_isUpToDate hm hk hcn
          obtain ⟨r9, hr9, hb9⟩ := e_fitsTarget hm hk cm ck hcn
          rw [hr8, hr9, bn_s, bn_s]
          by_cases g7 : utd s c
          · rw [if_neg (fun q => (isb_0 hb8).mp q g7), if_neg (fun q => (isb_0 hb9).mp q g7)]
            exact Or.inr (fin g4 g5 (fun _ => g7))
          · rw [if_pos ((isb_0 hb8).mpr g7), if_pos ((isb_0 hb9).mpr g7)]
            exact Or.inl ⟨_, rfl, rfl⟩
        · rw [if_neg g6, if_neg g6]
          exact Or.inr (fin g4 g5 (fun h => absurd h g6))
    · rw [if_pos ((isb_0 hb4).mpr (fun q => g4 (e01.mp q))), if_neg (fun q => g4 (Or.inl q)), if_neg (fun q => g4 (Or.inr q))]
      exact Or.inl ⟨_, rfl, rfl⟩
  · rw [if_pos ((isb_0 hb1).mpr g), if_pos ((isb_0 hb2).mpr g)]
    exact Or.inl ⟨_, rfl, rfl⟩
end FZ
