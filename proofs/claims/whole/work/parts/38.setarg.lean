/-! setArgument -/
theorem e_isExpression (k v : Int32) : ∃ r, fX8_isExpression k v = some r ∧ isb r ((k = 0 ∧ -99 ≤ v ∧ v ≤ 99) ∨ ((k = 1 ∨ k = 2) ∧ v = 0)) := by
  unfold fX8_isExpression fX8_isValue jX8_isExpression_21
  by_cases g0 : k = 0
  · subst g0
    rw [if_pos rfl]
    by_cases g1 : v < -99
    · rw [if_pos g1, bn_s]
      exact ⟨0, rfl, isb_f (fun q => q.elim (fun z => absurd z.2.1 (Int32.not_le.mpr g1)) (fun z => z.1.elim (fun e => absurd e (by decide)) (fun e => absurd e (by decide))))⟩
    · rw [if_neg g1]
      by_cases g2 : 99 < v
      · rw [if_pos g2, bn_s]
        exact ⟨0, rfl, isb_f (fun q => q.elim (fun z => absurd z.2.2 (Int32.not_le.mpr g2)) (fun z => z.1.elim (fun e => absurd e (by decide)) (fun e => absurd e (by decide))))⟩
      · rw [if_neg g2, bn_s]
        exact ⟨1, rfl, isb_t (Or.inl ⟨rfl, Int32.not_lt.mp g1, Int32.not_lt.mp g2⟩)⟩
  · rw [if_neg g0]
    by_cases g1 : k = 1
    · rw [if_pos g1]
      by_cases g3 : v = 0
      · rw [if_pos g3]
        exact ⟨1, rfl, isb_t (Or.inr ⟨Or.inl g1, g3⟩)⟩
      · rw [if_neg g3]
        exact ⟨0, rfl, isb_f (fun q => q.elim (fun z => g0 z.1) (fun z => g3 z.2))⟩
    · rw [if_neg g1]
      by_cases g2 : k = 2
      · rw [if_pos g2]
        by_cases g3 : v = 0
        · rw [if_pos g3]
          exact ⟨1, rfl, isb_t (Or.inr ⟨Or.inr g2, g3⟩)⟩
        · rw [if_neg g3]
          exact ⟨0, rfl, isb_f (fun q => q.elim (fun z => g0 z.1) (fun z => g3 z.2))⟩
      · rw [if_neg g2]
        exact ⟨0, rfl, isb_f (fun q => q.elim (fun z => g0 z.1) (fun z => z.1.elim g1 g2))⟩
/-- writing one argument: the reference's state -/
def sArg (s : Nat → Int32) (c i : Nat) (k v : Int32) : Nat → Int32 := upd (upd s (235 + 29 * c + (5 + i)) k) (235 + 29 * c + (10 + i)) v
section G1
variable {s : Nat → Int32} {nt nm nc : Nat} {k_count k_fs : Int32} {k_st k_dy k_tg k_ac k_tc k_keys k_kinds k_vals k_tk : Nat → Int32}
theorem sArg_o {c i j : Nat} {k v : Int32} (h1 : j ≠ 235 + 29 * c + (5 + i)) (h2 : j ≠ 235 + 29 * c + (10 + i)) : sArg s c i k v j = s j := by
  unfold sArg
  rw [upd_n h2, upd_n h1]
theorem sArg_C {c i c' w : Nat} {k v : Int32} (hi : i < 5) (hw : w < 29) (h : c' ≠ c ∨ (w ≠ 5 + i ∧ w ≠ 10 + i)) : rC (sArg s c i k v) c' w = rC s c' w := by
  unfold rC
  exact sArg_o (by omega) (by omega)
theorem sArg_k {c i : Nat} {k v : Int32} (hi : i < 5) : rC (sArg s c i k v) c (5 + i) = k := by
  unfold rC sArg
  rw [upd_n (by omega), upd_s]
theorem sArg_v {c i : Nat} {k v : Int32} : rC (sArg s c i k v) c (10 + i) = v := by
  unfold rC sArg
  rw [upd_s]
theorem sArg_WFC (hw : WFT s nt) (hm : WFM s nt nm) (hk : WFC s nt nm nc) {c i : Nat} {k v : Int32} (hcn : c < nc) (hi : i < cA s c) (hkv : k = 0 ∨ k = 1 ∨ k = 2) : WFC (sArg s c i k v) nt nm nc := by
  have h8 := hk.1
  have n8 := hw.1
  have h16 := hm.1
  have W := hk.2.2 c hcn
  have w5 := W.ar'
  have w8 := W.tn'
  have fm : FM s (sArg s c i k v) := fun j h1 h2 => sArg_o (by omega) (by omega)
  have ft : FT s (sArg s c i k v) := fun j h1 => sArg_o (by omega) (by omega)
  have hA : ∀ m, m < nm → nA (sArg s c i k v) m = nA s m := fun m hm => by unfold nA; rw [rM_frame fm (by omega) (by decide)]
  have hU : ∀ c', WFC1 s nt nm c' → up s (cS s c') (nT s (cG s c')) → up (sArg s c i k v) (cS s c') (nT (sArg s c i k v) (cG s c')) := fun c' W' h => by
    have t' := W'.tg'
    have e : nT (sArg s c i k v) (cG s c') = nT s (cG s c') := by unfold nT; rw [rM_frame fm (by omega) (by decide)]
    rw [e]
    exact (up_frame hw ft W'.st').mpr h
  refine ⟨hk.1, (sArg_o (by omega) (by omega)).trans hk.2.1, fun c' hc' => ?_⟩
  have W' := hk.2.2 c' hc'
  have d' := W'.dy'
  by_cases e : c' = c
  · subst e
    have f : ∀ w, w < 29 → w ≠ 5 + i → w ≠ 10 + i → rC (sArg s c' i k v) c' w = rC s c' w := fun w h1 h2 h3 => sArg_C (by omega) h1 (Or.inr ⟨h2, h3⟩)
    have e0 : cS (sArg s c' i k v) c' = cS s c' := by unfold cS; rw [f 0 (by decide) (by omega) (by omega)]
    have e1 : cD (sArg s c' i k v) c' = cD s c' := by unfold cD; rw [f 1 (by decide) (by omega) (by omega)]
    have e2 : cG (sArg s c' i k v) c' = cG s c' := by unfold cG; rw [f 2 (by decide) (by omega) (by omega)]
    have e4 : cA (sArg s c' i k v) c' = cA s c' := by unfold cA; rw [f 4 (by decide) (by omega) (by omega)]
    have e20 : cN (sArg s c' i k v) c' = cN s c' := by unfold cN; rw [f 20 (by decide) (by omega) (by omega)]
    unfold WFC1
    rw [e0, e1, e2, e4, e20, f 0 (by decide) (by omega) (by omega), f 1 (by decide) (by omega) (by omega), f 2 (by decide) (by omega) (by omega), f 3 (by decide) (by omega) (by omega), f 4 (by decide) (by omega) (by omega), f 20 (by decide) (by omega) (by omega), ft (1 + 3 * cD s c') (by omega), hA _ W'.tg']
    refine ⟨W.st, W.st', W.dy, W.dy', W.dc, W.tg, W.tg', W.fr, W.ar, W.ar', W.tn, W.tn', fun j hj => ?_, fun j hj => ?_, fun a b hab hb => ?_, W.ut, hU _ W' W.ts⟩
    · by_cases z : j = i
      · subst z
        rw [sArg_k (by omega)]
        rcases hkv with h | h | h
        · exact Or.inl h
        · exact Or.inr (Or.inl h)
        · exact Or.inr (Or.inr (Or.inl h))
      · rw [f (5 + j) (by omega) (by omega) (by omega), f (10 + j) (by omega) (by omega) (by omega)]
        exact W.kd j hj
    · rw [f (21 + j) (by omega) (by omega) (by omega)]
      exact W.tk j hj
    · rw [f (15 + a) (by omega) (by omega) (by omega), f (15 + b) (by omega) (by omega) (by omega)]
      exact W.ky a b hab hb
  · exact WFC1_frame W' (fun w hw => sArg_C (by omega) hw (Or.inl e)) (Nat.le_refl _) (Nat.le_refl _) (ft _ (by omega)) (fun _ => hA _ W'.tg') (hU _ W')
theorem sArg_CK (hk : WFC s nt nm nc) (hc : CK s nc k_count k_fs k_st k_dy k_tg k_ac k_tc k_keys k_kinds k_vals k_tk) {c i : Nat} {k v : Int32} (hcn : c < nc) (hi : i < cA s c) : CK (sArg s c i k v) nc k_count k_fs k_st k_dy k_tg k_ac k_tc k_keys (upd k_kinds (c * 5 + i) k) (upd k_vals (c * 5 + i) v) k_tk := by
  have h8 := hk.1
  have W := hk.2.2 c hcn
  have w5 := W.ar'
  have w8 := W.tn'
  refine ⟨hc.n, fun j => ?_, fun c' hc' => ?_⟩
  · rw [hc.fs j]
    constructor
    · rintro ⟨h1, h2⟩
      exact ⟨h1, by rw [sArg_C (by omega) (by decide) (Or.inr ⟨by omega, by omega⟩)]; exact h2⟩
    · rintro ⟨h1, h2⟩
      exact ⟨h1, by rw [sArg_C (by omega) (by decide) (Or.inr ⟨by omega, by omega⟩)] at h2; exact h2⟩
  · have W' := hk.2.2 c' hc'
    have K' := hc.c c' hc'
    have a5 := W'.ar'
    have a8 := W'.tn'
    have f : ∀ w, w < 29 → (c' ≠ c ∨ (w ≠ 5 + i ∧ w ≠ 10 + i)) → rC (sArg s c i k v) c' w = rC s c' w := fun w h1 h2 => sArg_C (by omega) h1 h2
    have e4 : cA (sArg s c i k v) c' = cA s c' := by unfold cA; rw [f 4 (by decide) (by omega)]
    have e20 : cN (sArg s c i k v) c' = cN s c' := by unfold cN; rw [f 20 (by decide) (by omega)]
    unfold CK1
    rw [e4, e20, f 0 (by decide) (by omega), f 1 (by decide) (by omega), f 2 (by decide) (by omega), f 4 (by decide) (by omega), f 20 (by decide) (by omega)]
    refine ⟨K'.st, K'.dy, K'.tg, K'.ac, K'.tc, fun j hj => ?_, fun j hj => ?_, fun j hj => ?_, fun j hj => ?_⟩
    · rw [f (15 + j) (by omega) (by omega)]; exact K'.ky j hj
    · by_cases z : c' = c ∧ j = i
      · obtain ⟨rfl, rfl⟩ := z
        rw [upd_s, sArg_k (by omega)]
      · rw [upd_n (by omega), f (5 + j) (by omega) (by omega)]
        exact K'.kd j hj
    · by_cases z : c' = c ∧ j = i
      · obtain ⟨rfl, rfl⟩ := z
        rw [upd_s, sArg_v]
      · rw [upd_n (by omega), f (10 + j) (by omega) (by omega)]
        exact K'.vl j hj
    · rw [f (21 + j) (by omega) (by omega)]; exact K'.tk j hj
end G1
